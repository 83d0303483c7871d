/-! between two cuts a piece lies the same; at a cut it lies so too, or on a ring -/
section
variable {n : Nat} {X Y : Nat → Int} {px py dx dy oa ua ob ub o u o' u' : Int}
theorem so_m {x y : Int} : so px py (-dx) (-dy) x y = - so px py dx dy x y := by unfold so; grind
theorem gP_n {ax ay bx by_ : Int} : gP px py (-dx) (-dy) ax ay bx by_ (-o) u = gP px py dx dy ax ay bx by_ o u := by
  unfold gP
  rw [Int.neg_mul_neg, Int.neg_mul_neg]
theorem nocut_n {ax ay bx by_ : Int} (h : nocut px py dx dy ax ay bx by_ oa ua ob ub) : nocut px py (-dx) (-dy) ax ay bx by_ (-ob) ub (-oa) ua := by
  intro h1 h2 h3
  rw [so_m, so_m] at h1 h2
  rw [gP_n, gP_n] at h3 ⊢
  have := h (by unfold bet at *; omega) (by omega) (bet_c.mp h3)
  omega
theorem on_bwd {k : Nat} (hD : dx ≠ 0 ∨ dy ≠ 0) (hok : okR n X Y) (hc : ∀ k, k < n → nocut px py dx dy (X k) (Y k) (X (nx n k)) (Y (nx n k)) oa ua ob ub) (hu : 0 < u) (hu' : 0 < u') (hua : 0 < ua) (hub : 0 < ub) (hab : 0 < ua * ob - oa * ub) (hat : 0 < ua * o - oa * u) (htb : 0 < u * ob - o * ub) (hk : k < n) (hg : gon (X k) (Y k) (X (nx n k)) (Y (nx n k)) (px * u + dx * o) (py * u + dy * o) u = true) (ht : 0 ≤ u' * o - o' * u) (hta' : 0 ≤ ua * o' - oa * u') : ∃ j, j < n ∧ gon (X j) (Y j) (X (nx n j)) (Y (nx n j)) (px * u' + dx * o') (py * u' + dy * o') u' = true := by
  have q := on_fwd (n := n) (X := X) (Y := Y) (px := px) (py := py) (dx := -dx) (dy := -dy) (oa := -ob) (ua := ub) (ob := -oa) (ub := ua) (o := -o) (u := u) (o' := -o') (u' := u') (k := k) (by omega) hok (fun k hk => nocut_n (hc k hk)) hu hu' hub hua (by grind) (by grind) (by grind) hk (by rw [Int.neg_mul_neg, Int.neg_mul_neg]; exact hg) (by grind) (by grind)
  rw [Int.neg_mul_neg, Int.neg_mul_neg] at q
  exact q
/-- where a ring's sides meet the piece's line they go through the place -/
theorem hit_on {ax ay bx by_ : Int} (hu : 0 < u) (h1 : bet (so px py dx dy ax ay) (so px py dx dy bx by_)) (h2 : so px py dx dy ax ay ≠ so px py dx dy bx by_) (h : gP px py dx dy ax ay bx by_ o u = 0) : gon ax ay bx by_ (px * u + dx * o) (py * u + dy * o) u = true := by
  have ex := gP_x (px := px) (py := py) (dx := dx) (dy := dy) (ax := ax) (ay := ay) (bx := bx) (by_ := by_) (o := o) (u := u)
  have ey := gP_y (px := px) (py := py) (dx := dx) (dy := dy) (ax := ax) (ay := ay) (bx := bx) (by_ := by_) (o := o) (u := u)
  rw [h, Int.mul_zero] at ex ey
  have z : ∀ a b q1 q2 : Int, bet a b → a ≠ b → 0 = q1 * b - q2 * a → bet q1 q2 := by
    intro a b q1 q2 h1 h2 e
    unfold bet at h1 ⊢
    rcases Int.lt_trichotomy a 0 with s1 | s1 | s1
    · have m1 := mneg (y := q2) s1
      rw [Int.mul_comm] at m1
      rcases Int.lt_trichotomy b 0 with s2 | s2 | s2
      · omega
      · subst s2
        rw [Int.mul_zero] at e
        omega
      · have m2 := mpos (y := q1) s2
        rw [Int.mul_comm] at m2
        omega
    · subst s1
      rw [Int.mul_zero] at e
      rcases Int.lt_trichotomy b 0 with s2 | s2 | s2
      · have m2 := mneg (y := q1) s2
        rw [Int.mul_comm] at m2
        omega
      · omega
      · have m2 := mpos (y := q1) s2
        rw [Int.mul_comm] at m2
        omega
    · have m1 := mpos (y := q2) s1
      rw [Int.mul_comm] at m1
      rcases Int.lt_trichotomy b 0 with s2 | s2 | s2
      · have m2 := mneg (y := q1) s2
        rw [Int.mul_comm] at m2
        omega
      · subst s2
        rw [Int.mul_zero] at e
        omega
      · omega
  unfold gon
  rw [Bool.and_eq_true, decide_eq_true_eq, gS_bet hu]
  exact ⟨h, z _ _ _ _ h1 h2 ex, z _ _ _ _ h1 h2 ey⟩
/-- how the piece's place lies -/
def gl (n : Nat) (X Y : Nat → Int) (px py dx dy o u : Int) : Int := gloc n X Y (px * u + dx * o) (py * u + dy * o) u
theorem gl_val (hu : 0 < u) (hu' : 0 < u') (h : u * o' = o * u') : gl n X Y px py dx dy o u = gl n X Y px py dx dy o' u' := by
  unfold gl
  rw [← gloc_k hu' hu, ← gloc_k (x := px * u' + dx * o') hu hu']
  have e1 : u' * (px * u + dx * o) = u * (px * u' + dx * o') := by grind
  have e2 : u' * (py * u + dy * o) = u * (py * u' + dy * o') := by grind
  rw [e1, e2, Int.mul_comm u' u]
theorem gl_D (hu : 0 < u) (hu' : 0 < u') (h : ¬ (dx ≠ 0 ∨ dy ≠ 0)) : gl n X Y px py dx dy o u = gl n X Y px py dx dy o' u' := by
  have h1 : dx = 0 := by omega
  have h2 : dy = 0 := by omega
  subst h1
  subst h2
  have e : ∀ o u : Int, 0 < u → gl n X Y px py 0 0 o u = gloc n X Y px py 1 := by
    intro o u hu
    unfold gl
    rw [Int.zero_mul, Int.add_zero, Int.add_zero, Int.mul_comm px, Int.mul_comm py, ← gloc_k (x := px) (y := py) hu (by decide), Int.mul_one]
  rw [e _ _ hu, e _ _ hu']
theorem gl_on : gl n X Y px py dx dy o u = 0 ↔ ∃ j, j < n ∧ gon (X j) (Y j) (X (nx n j)) (Y (nx n j)) (px * u + dx * o) (py * u + dy * o) u = true := gloc_on
theorem gl_off (h : gl n X Y px py dx dy o u ≠ 0) : ∀ k, k < n → gon (X k) (Y k) (X (nx n k)) (Y (nx n k)) (px * u + dx * o) (py * u + dy * o) u = false := fun k hk => Bool.eq_false_iff.mpr (fun g => h (gl_on.mpr ⟨k, hk, g⟩))
/-- every side's kind -/
theorem kind {a b : Int} : (bet a b ∧ a ≠ b) ∨ one a b ∨ (a = 0 ∧ b = 0) := by unfold bet one; omega
theorem gl_in (hok : okR n X Y) (hc : ∀ k, k < n → nocut px py dx dy (X k) (Y k) (X (nx n k)) (Y (nx n k)) oa ua ob ub) (hua : 0 < ua) (hub : 0 < ub) (hab : 0 < ua * ob - oa * ub) (hu : 0 < u) (hat : 0 < ua * o - oa * u) (htb : 0 < u * ob - o * ub) (hu' : 0 < u') (hat' : 0 < ua * o' - oa * u') (htb' : 0 < u' * ob - o' * ub) : gl n X Y px py dx dy o u = gl n X Y px py dx dy o' u' := by
  by_cases hD : dx ≠ 0 ∨ dy ≠ 0
  · have all : ∀ o u o' u' : Int, 0 < u → 0 < ua * o - oa * u → 0 < u * ob - o * ub → 0 < u' → 0 < ua * o' - oa * u' → 0 < u' * ob - o' * ub → gl n X Y px py dx dy o u = 0 → gl n X Y px py dx dy o' u' = 0 := by
      intro o u o' u' hu hat htb hu' hat' htb' h
      obtain ⟨k, hk, hg⟩ := gl_on.mp h
      refine gl_on.mpr ?_
      by_cases c : 0 ≤ u * o' - o * u'
      · exact on_fwd hD hok hc hu hu' hua hub hab hat htb hk hg c (by omega)
      · exact on_bwd hD hok hc hu hu' hua hub hab hat htb hk hg (by rw [Int.mul_comm u', Int.mul_comm o']; omega) (by omega)
    by_cases z1 : gl n X Y px py dx dy o u = 0
    · rw [z1, all o u o' u' hu hat htb hu' hat' htb' z1]
    · have z2 : gl n X Y px py dx dy o' u' ≠ 0 := fun q => z1 (all o' u' o u hu' hat' htb' hu hat htb q)
      have H : ∀ k, k < n → one (gP px py dx dy (X k) (Y k) (X (nx n k)) (Y (nx n k)) o u) (gP px py dx dy (X k) (Y k) (X (nx n k)) (Y (nx n k)) o' u') ∨ one (so px py dx dy (X k) (Y k)) (so px py dx dy (X (nx n k)) (Y (nx n k))) ∨ (so px py dx dy (X k) (Y k) = 0 ∧ so px py dx dy (X (nx n k)) (Y (nx n k)) = 0) := by
        intro k hk
        rcases kind (a := so px py dx dy (X k) (Y k)) (b := so px py dx dy (X (nx n k)) (Y (nx n k))) with ⟨q1, q2⟩ | q | q
        · left
          have w1 := nocut_in (hc k hk) hab hat htb q1 q2
          have w2 := nocut_in (hc k hk) hab hat' htb' q1 q2
          have w3 := nocut_ne (px := px) (py := py) (dx := dx) (dy := dy) hab q2
          unfold one
          omega
        · exact Or.inr (Or.inl q)
        · exact Or.inr (Or.inr q)
      rcases Int.lt_trichotomy (u * o' - o * u') 0 with c | c | c
      · refine (seg_same hu' hu (by rw [Int.mul_comm u', Int.mul_comm o']; omega) hD (gl_off z2) (gl_off z1) (fun k hk => ?_)).symm
        have := H k hk
        unfold one at this ⊢
        omega
      · exact gl_val hu hu' (by omega)
      · exact seg_same hu hu' c hD (gl_off z1) (gl_off z2) H
  · exact gl_D hu hu' hD
theorem gl_a (hok : okR n X Y) (hc : ∀ k, k < n → nocut px py dx dy (X k) (Y k) (X (nx n k)) (Y (nx n k)) oa ua ob ub) (hua : 0 < ua) (hub : 0 < ub) (hab : 0 < ua * ob - oa * ub) (hu : 0 < u) (hat : 0 < ua * o - oa * u) (htb : 0 < u * ob - o * ub) (h0 : gl n X Y px py dx dy oa ua ≠ 0) : gl n X Y px py dx dy oa ua = gl n X Y px py dx dy o u := by
  by_cases hD : dx ≠ 0 ∨ dy ≠ 0
  · have z2 : gl n X Y px py dx dy o u ≠ 0 := by
      intro q
      obtain ⟨k, hk, hg⟩ := gl_on.mp q
      exact h0 (gl_on.mpr (on_bwd hD hok hc hu hua hua hub hab hat htb hk hg (by omega) (by rw [Int.mul_comm oa]; omega)))
    refine seg_same hua hu hat hD (gl_off h0) (gl_off z2) (fun k hk => ?_)
    rcases kind (a := so px py dx dy (X k) (Y k)) (b := so px py dx dy (X (nx n k)) (Y (nx n k))) with ⟨q1, q2⟩ | q | q
    · left
      have w1 := nocut_in (hc k hk) hab hat htb q1 q2
      have w2 : gP px py dx dy (X k) (Y k) (X (nx n k)) (Y (nx n k)) oa ua ≠ 0 := fun z => h0 (gl_on.mpr ⟨k, hk, hit_on hua q1 q2 z⟩)
      unfold one
      omega
    · exact Or.inr (Or.inl q)
    · exact Or.inr (Or.inr q)
  · exact gl_D hua hu hD
theorem gl_b (hok : okR n X Y) (hc : ∀ k, k < n → nocut px py dx dy (X k) (Y k) (X (nx n k)) (Y (nx n k)) oa ua ob ub) (hua : 0 < ua) (hub : 0 < ub) (hab : 0 < ua * ob - oa * ub) (hu : 0 < u) (hat : 0 < ua * o - oa * u) (htb : 0 < u * ob - o * ub) (h0 : gl n X Y px py dx dy ob ub ≠ 0) : gl n X Y px py dx dy o u = gl n X Y px py dx dy ob ub := by
  by_cases hD : dx ≠ 0 ∨ dy ≠ 0
  · have z2 : gl n X Y px py dx dy o u ≠ 0 := by
      intro q
      obtain ⟨k, hk, hg⟩ := gl_on.mp q
      exact h0 (gl_on.mpr (on_fwd hD hok hc hu hub hua hub hab hat htb hk hg (by omega) (by rw [Int.mul_comm ob]; omega)))
    refine seg_same hu hub htb hD (gl_off z2) (gl_off h0) (fun k hk => ?_)
    rcases kind (a := so px py dx dy (X k) (Y k)) (b := so px py dx dy (X (nx n k)) (Y (nx n k))) with ⟨q1, q2⟩ | q | q
    · left
      have w1 := nocut_in (hc k hk) hab hat htb q1 q2
      have w2 : gP px py dx dy (X k) (Y k) (X (nx n k)) (Y (nx n k)) ob ub ≠ 0 := fun z => h0 (gl_on.mpr ⟨k, hk, hit_on hub q1 q2 z⟩)
      unfold one
      omega
    · exact Or.inr (Or.inl q)
    · exact Or.inr (Or.inr q)
  · exact gl_D hu hub hD
end
/-! an area's rings together -/
section
variable {c : Nat} {sz : Nat → Nat} {X Y : Nat → Nat → Int} {px py dx dy oa ua ob ub o u o' u' : Int}
def gm (c : Nat) (sz : Nat → Nat) (X Y : Nat → Nat → Int) (px py dx dy o u : Int) : Bool := ghas c sz X Y (px * u + dx * o) (py * u + dy * o) u
theorem gm_t : gm c sz X Y px py dx dy o u = true ↔ 0 < c ∧ 0 ≤ gl (sz 0) (X 0) (Y 0) px py dx dy o u ∧ ∀ r, 1 ≤ r → r < c → gl (sz r) (X r) (Y r) px py dx dy o u ≤ 0 := by
  unfold gm ghas gl
  rw [Bool.and_eq_true, Bool.and_eq_true, decide_eq_true_eq, decide_eq_true_eq, af_true]
  constructor
  · rintro ⟨h1, h2, h3⟩
    exact ⟨h1, h2, fun r q1 q2 => by simpa using h3 r q1 (by omega)⟩
  · rintro ⟨h1, h2, h3⟩
    exact ⟨h1, h2, fun r q1 q2 => by simpa using h3 r q1 (by omega)⟩
/-- no side of any ring that isn't parallel meets the piece strictly between a and b -/
def nocutA (c : Nat) (sz : Nat → Nat) (X Y : Nat → Nat → Int) (px py dx dy oa ua ob ub : Int) : Prop := ∀ r, r < c → ∀ k, k < sz r → nocut px py dx dy (X r k) (Y r k) (X r (nx (sz r) k)) (Y r (nx (sz r) k)) oa ua ob ub
theorem gm_in (hok : ∀ r, r < c → okR (sz r) (X r) (Y r)) (hc : nocutA c sz X Y px py dx dy oa ua ob ub) (hua : 0 < ua) (hub : 0 < ub) (hab : 0 < ua * ob - oa * ub) (hu : 0 < u) (hat : 0 < ua * o - oa * u) (htb : 0 < u * ob - o * ub) (hu' : 0 < u') (hat' : 0 < ua * o' - oa * u') (htb' : 0 < u' * ob - o' * ub) : gm c sz X Y px py dx dy o u = gm c sz X Y px py dx dy o' u' := by
  have e : ∀ r, r < c → gl (sz r) (X r) (Y r) px py dx dy o u = gl (sz r) (X r) (Y r) px py dx dy o' u' := fun r hr => gl_in (hok r hr) (hc r hr) hua hub hab hu hat htb hu' hat' htb'
  apply Bool.eq_iff_iff.mpr
  rw [gm_t, gm_t]
  constructor
  · rintro ⟨h1, h2, h3⟩
    exact ⟨h1, by rw [← e 0 h1]; exact h2, fun r q1 q2 => by rw [← e r q2]; exact h3 r q1 q2⟩
  · rintro ⟨h1, h2, h3⟩
    exact ⟨h1, by rw [e 0 h1]; exact h2, fun r q1 q2 => by rw [e r q2]; exact h3 r q1 q2⟩
theorem gm_val (hu : 0 < u) (hu' : 0 < u') (h : u * o' = o * u') : gm c sz X Y px py dx dy o u = gm c sz X Y px py dx dy o' u' := by
  apply Bool.eq_iff_iff.mpr
  have e : ∀ r, gl (sz r) (X r) (Y r) px py dx dy o u = gl (sz r) (X r) (Y r) px py dx dy o' u' := fun r => gl_val hu hu' h
  rw [gm_t, gm_t]
  simp only [e]
theorem gm_a (hok : ∀ r, r < c → okR (sz r) (X r) (Y r)) (hc : nocutA c sz X Y px py dx dy oa ua ob ub) (hua : 0 < ua) (hub : 0 < ub) (hab : 0 < ua * ob - oa * ub) (hu : 0 < u) (hat : 0 < ua * o - oa * u) (htb : 0 < u * ob - o * ub) (h : gm c sz X Y px py dx dy o u = true) : gm c sz X Y px py dx dy oa ua = true := by
  rw [gm_t] at h ⊢
  obtain ⟨h1, h2, h3⟩ := h
  refine ⟨h1, ?_, fun r q1 q2 => ?_⟩
  · by_cases z : gl (sz 0) (X 0) (Y 0) px py dx dy oa ua = 0
    · rw [z]; exact Int.le_refl _
    · rw [gl_a (hok 0 h1) (hc 0 h1) hua hub hab hu hat htb z]; exact h2
  · by_cases z : gl (sz r) (X r) (Y r) px py dx dy oa ua = 0
    · rw [z]; exact Int.le_refl _
    · rw [gl_a (hok r q2) (hc r q2) hua hub hab hu hat htb z]; exact h3 r q1 q2
theorem gm_b (hok : ∀ r, r < c → okR (sz r) (X r) (Y r)) (hc : nocutA c sz X Y px py dx dy oa ua ob ub) (hua : 0 < ua) (hub : 0 < ub) (hab : 0 < ua * ob - oa * ub) (hu : 0 < u) (hat : 0 < ua * o - oa * u) (htb : 0 < u * ob - o * ub) (h : gm c sz X Y px py dx dy o u = true) : gm c sz X Y px py dx dy ob ub = true := by
  rw [gm_t] at h ⊢
  obtain ⟨h1, h2, h3⟩ := h
  refine ⟨h1, ?_, fun r q1 q2 => ?_⟩
  · by_cases z : gl (sz 0) (X 0) (Y 0) px py dx dy ob ub = 0
    · rw [z]; exact Int.le_refl _
    · rw [← gl_b (hok 0 h1) (hc 0 h1) hua hub hab hu hat htb z]; exact h2
  · by_cases z : gl (sz r) (X r) (Y r) px py dx dy ob ub = 0
    · rw [z]; exact Int.le_refl _
    · rw [← gl_b (hok r q2) (hc r q2) hua hub hab hu hat htb z]; exact h3 r q1 q2
end
