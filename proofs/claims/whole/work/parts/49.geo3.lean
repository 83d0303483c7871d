/-! sides along a piece: their chain covers all between two cuts -/
section
variable {px py dx dy ax ay bx by_ oa ua ob ub o u o' u' : Int}
theorem ta_x : (dx * dx + dy * dy) * (px * u + dx * o - ax * u) = dx * (o * (dx * dx + dy * dy) - u * ta px py dx dy ax ay) - u * (dy * so px py dx dy ax ay) := by
  unfold ta so
  grind
theorem ta_y : (dx * dx + dy * dy) * (py * u + dy * o - ay * u) = dy * (o * (dx * dx + dy * dy) - u * ta px py dx dy ax ay) + u * (dx * so px py dx dy ax ay) := by
  unfold ta so
  grind
theorem ta_p : (dx * dx + dy * dy) * gP px py dx dy ax ay bx by_ o u = (so px py dx dy ax ay - so px py dx dy bx by_) * (u * ta px py dx dy ax ay - o * (dx * dx + dy * dy)) + u * (so px py dx dy ax ay * (dx * (bx - ax) + dy * (by_ - ay))) := by
  unfold gP gT ta so
  grind
theorem NN (hD : dx ≠ 0 ∨ dy ≠ 0) : 0 < dx * dx + dy * dy := by
  have s : ∀ z : Int, 0 ≤ z * z ∧ (z ≠ 0 → 0 < z * z) := by
    intro z
    rcases Int.lt_trichotomy z 0 with h | h | h
    · have := Int.mul_pos_of_neg_of_neg h h
      omega
    · subst h; simp
    · have := Int.mul_pos h h
      omega
  have := s dx
  have := s dy
  omega
/-- along the piece, and the place between its ends: it goes through it -/
theorem on_i (hD : dx ≠ 0 ∨ dy ≠ 0) (hu : 0 < u) (ha : so px py dx dy ax ay = 0) (hb : so px py dx dy bx by_ = 0) (h : bet (o * (dx * dx + dy * dy) - u * ta px py dx dy ax ay) (o * (dx * dx + dy * dy) - u * ta px py dx dy bx by_)) : gon ax ay bx by_ (px * u + dx * o) (py * u + dy * o) u = true := by
  have hN := NN hD
  have x1 := ta_x (px := px) (py := py) (dx := dx) (dy := dy) (ax := ax) (ay := ay) (o := o) (u := u)
  have x2 := ta_x (px := px) (py := py) (dx := dx) (dy := dy) (ax := bx) (ay := by_) (o := o) (u := u)
  have y1 := ta_y (px := px) (py := py) (dx := dx) (dy := dy) (ax := ax) (ay := ay) (o := o) (u := u)
  have y2 := ta_y (px := px) (py := py) (dx := dx) (dy := dy) (ax := bx) (ay := by_) (o := o) (u := u)
  have p1 := ta_p (px := px) (py := py) (dx := dx) (dy := dy) (ax := ax) (ay := ay) (bx := bx) (by_ := by_) (o := o) (u := u)
  rw [ha, Int.mul_zero, Int.mul_zero] at x1 y1
  rw [hb, Int.mul_zero, Int.mul_zero] at x2 y2
  rw [ha, hb, Int.sub_self, Int.zero_mul, Int.zero_mul, Int.mul_zero] at p1
  have b : ∀ d q1 q2 : Int, (dx * dx + dy * dy) * q1 = d * (o * (dx * dx + dy * dy) - u * ta px py dx dy ax ay) → (dx * dx + dy * dy) * q2 = d * (o * (dx * dx + dy * dy) - u * ta px py dx dy bx by_) → bet q1 q2 := by
    intro d q1 q2 e1 e2
    revert e1 e2 h hN
    generalize dx * dx + dy * dy = N
    intro h hN e1 e2
    revert e1 e2 h
    generalize o * N - u * ta px py dx dy ax ay = t1
    generalize o * N - u * ta px py dx dy bx by_ = t2
    intro h e1 e2
    have m1 := mpos (y := q1) hN
    have m2 := mpos (y := q2) hN
    unfold bet at h ⊢
    rcases Int.lt_trichotomy d 0 with s | s | s
    · have n1 := mneg (y := t1) s
      have n2 := mneg (y := t2) s
      omega
    · subst s
      rw [Int.zero_mul] at e1 e2
      omega
    · have n1 := mpos (y := t1) s
      have n2 := mpos (y := t2) s
      omega
  unfold gon
  rw [Bool.and_eq_true, decide_eq_true_eq, gS_bet hu]
  refine ⟨(mpos hN).2.2.mp (by show (dx * dx + dy * dy) * gP px py dx dy ax ay bx by_ o u = 0; omega), b dx _ _ (by omega) (by omega), b dy _ _ (by omega) (by omega)⟩
theorem on_e (hD : dx ≠ 0 ∨ dy ≠ 0) (hu : 0 < u) (ha : so px py dx dy ax ay = 0) (hb : so px py dx dy bx by_ = 0) (h : gon ax ay bx by_ (px * u + dx * o) (py * u + dy * o) u = true) : bet (o * (dx * dx + dy * dy) - u * ta px py dx dy ax ay) (o * (dx * dx + dy * dy) - u * ta px py dx dy bx by_) := by
  have hN := NN hD
  have x1 := ta_x (px := px) (py := py) (dx := dx) (dy := dy) (ax := ax) (ay := ay) (o := o) (u := u)
  have x2 := ta_x (px := px) (py := py) (dx := dx) (dy := dy) (ax := bx) (ay := by_) (o := o) (u := u)
  have y1 := ta_y (px := px) (py := py) (dx := dx) (dy := dy) (ax := ax) (ay := ay) (o := o) (u := u)
  have y2 := ta_y (px := px) (py := py) (dx := dx) (dy := dy) (ax := bx) (ay := by_) (o := o) (u := u)
  rw [ha, Int.mul_zero, Int.mul_zero] at x1 y1
  rw [hb, Int.mul_zero, Int.mul_zero] at x2 y2
  unfold gon at h
  rw [Bool.and_eq_true, decide_eq_true_eq, gS_bet hu] at h
  obtain ⟨-, h1, h2⟩ := h
  have b : ∀ d q1 q2 : Int, d ≠ 0 → bet q1 q2 → (dx * dx + dy * dy) * q1 = d * (o * (dx * dx + dy * dy) - u * ta px py dx dy ax ay) → (dx * dx + dy * dy) * q2 = d * (o * (dx * dx + dy * dy) - u * ta px py dx dy bx by_) → bet (o * (dx * dx + dy * dy) - u * ta px py dx dy ax ay) (o * (dx * dx + dy * dy) - u * ta px py dx dy bx by_) := by
    intro d q1 q2 hd hb e1 e2
    revert e1 e2 hN
    generalize dx * dx + dy * dy = N
    intro hN e1 e2
    revert e1 e2
    generalize o * N - u * ta px py dx dy ax ay = t1
    generalize o * N - u * ta px py dx dy bx by_ = t2
    intro e1 e2
    have m1 := mpos (y := q1) hN
    have m2 := mpos (y := q2) hN
    unfold bet at hb ⊢
    rcases Int.lt_trichotomy d 0 with s | s | s
    · have n1 := mneg (y := t1) s
      have n2 := mneg (y := t2) s
      omega
    · omega
    · have n1 := mpos (y := t1) s
      have n2 := mpos (y := t2) s
      omega
  rcases hD with q | q
  · exact b dx _ _ q h1 (by omega) (by omega)
  · exact b dy _ _ q h2 (by omega) (by omega)
end
section
variable {n : Nat} {X Y : Nat → Int} {px py dx dy oa ua ob ub o u o' u' : Int} {nt : Nat → Nat}
/-- a corner of the chain strictly between a and b: the next side goes on along the piece, forward -/
theorem ch_step {k : Nat} (hD : dx ≠ 0 ∨ dy ≠ 0) (hc : nocut px py dx dy (X (nt k)) (Y (nt k)) (X (nt (nt k))) (Y (nt (nt k))) oa ua ob ub) (hf : gfold (X (nt k)) (Y (nt k)) (X k) (Y k) (X (nt (nt k))) (Y (nt (nt k))) = false) (hd : ¬ (X (nt k) = X (nt (nt k)) ∧ Y (nt k) = Y (nt (nt k)))) (h1 : so px py dx dy (X k) (Y k) = 0) (h2 : so px py dx dy (X (nt k)) (Y (nt k)) = 0) (h3 : ta px py dx dy (X k) (Y k) < ta px py dx dy (X (nt k)) (Y (nt k))) (ha : 0 < ua * ta px py dx dy (X (nt k)) (Y (nt k)) - oa * (dx * dx + dy * dy)) (hb : 0 < ob * (dx * dx + dy * dy) - ub * ta px py dx dy (X (nt k)) (Y (nt k))) : so px py dx dy (X (nt (nt k))) (Y (nt (nt k))) = 0 ∧ ta px py dx dy (X (nt k)) (Y (nt k)) < ta px py dx dy (X (nt (nt k))) (Y (nt (nt k))) := by
  have hN := NN hD
  revert hc hf hd h1 h2 h3 ha hb
  generalize X k = ax
  generalize Y k = ay
  generalize X (nt k) = bx
  generalize Y (nt k) = by_
  generalize X (nt (nt k)) = cx
  generalize Y (nt (nt k)) = cy
  intro hc hf hd h1 h2 h3 ha hb
  have c0 : so px py dx dy cx cy = 0 := by
    refine Classical.byContradiction fun q => ?_
    have pa := ta_p (px := px) (py := py) (dx := dx) (dy := dy) (ax := bx) (ay := by_) (bx := cx) (by_ := cy) (o := oa) (u := ua)
    have pb := ta_p (px := px) (py := py) (dx := dx) (dy := dy) (ax := bx) (ay := by_) (bx := cx) (by_ := cy) (o := ob) (u := ub)
    rw [h2, Int.zero_mul, Int.mul_zero] at pa pb
    have hb' : ub * ta px py dx dy bx by_ - ob * (dx * dx + dy * dy) < 0 := by omega
    unfold nocut at hc
    rw [h2] at hc
    have m1 := mpos (y := gP px py dx dy bx by_ cx cy oa ua) hN
    have m2 := mpos (y := gP px py dx dy bx by_ cx cy ob ub) hN
    have n1 := mpos (y := 0 - so px py dx dy cx cy) ha
    have n2 := mneg (y := 0 - so px py dx dy cx cy) hb'
    rw [Int.mul_comm] at n1 n2
    unfold bet at hc
    have hc' := hc (by omega) (by omega) (by omega)
    omega
  refine ⟨c0, ?_⟩
  have l0 : (ax - bx) * dy - (ay - by_) * dx = 0 := by unfold so at h1 h2; grind
  have l1 : (cx - bx) * dy - (cy - by_) * dx = 0 := by unfold so at c0 h2; grind
  have w : (ax - bx) * (cy - by_) - (ay - by_) * (cx - bx) = 0 := by
    have w1 : dx * ((ax - bx) * (cy - by_) - (ay - by_) * (cx - bx)) = 0 := by grind
    have w2 : dy * ((ax - bx) * (cy - by_) - (ay - by_) * (cx - bx)) = 0 := by grind
    rcases hD with q | q
    · exact (Int.mul_eq_zero.mp w1).resolve_left q
    · exact (Int.mul_eq_zero.mp w2).resolve_left q
  have dt : ¬ 0 < (ax - bx) * (cx - bx) + (ay - by_) * (cy - by_) := by
    intro q
    have : gfold bx by_ ax ay cx cy = true := by
      unfold gfold
      rw [Bool.and_eq_true, decide_eq_true_eq, decide_eq_true_eq]
      exact ⟨by omega, q⟩
    rw [this] at hf
    cases hf
  have lg : (dx * dx + dy * dy) * ((ax - bx) * (cx - bx) + (ay - by_) * (cy - by_)) = (ta px py dx dy ax ay - ta px py dx dy bx by_) * (ta px py dx dy cx cy - ta px py dx dy bx by_) := by
    unfold ta
    grind
  have m1 := mpos (y := (ax - bx) * (cx - bx) + (ay - by_) * (cy - by_)) hN
  have m2 := mneg (x := ta px py dx dy ax ay - ta px py dx dy bx by_) (y := ta px py dx dy cx cy - ta px py dx dy bx by_) (by omega)
  have ne : ta px py dx dy cx cy ≠ ta px py dx dy bx by_ := by
    intro q
    have x1 : (dx * dx + dy * dy) * (cx - bx) = 0 := by unfold ta at q; grind
    have y1 : (dx * dx + dy * dy) * (cy - by_) = 0 := by unfold ta at q; grind
    have := (mpos hN).2.2.mp x1
    have := (mpos hN).2.2.mp y1
    omega
  omega
theorem ch_all (hD : dx ≠ 0 ∨ dy ≠ 0) (hn : ∀ k, k < n → nt k < n) (hc : ∀ k, k < n → nocut px py dx dy (X k) (Y k) (X (nt k)) (Y (nt k)) oa ua ob ub) (hf : ∀ k, k < n → gfold (X (nt k)) (Y (nt k)) (X k) (Y k) (X (nt (nt k))) (Y (nt (nt k))) = false) (hd : ∀ k, k < n → ¬ (X k = X (nt k) ∧ Y k = Y (nt k))) (hu : 0 < u) (hu' : 0 < u') (hua : 0 < ua) (hub : 0 < ub) (hat : 0 < ua * o - oa * u) (htb : 0 ≤ u' * ob - o' * ub) : ∀ (m : Nat) (k : Nat), k < n → so px py dx dy (X k) (Y k) = 0 → so px py dx dy (X (nt k)) (Y (nt k)) = 0 → ta px py dx dy (X k) (Y k) < ta px py dx dy (X (nt k)) (Y (nt k)) → u' * ta px py dx dy (X k) (Y k) ≤ o' * (dx * dx + dy * dy) → o * (dx * dx + dy * dy) ≤ u * ta px py dx dy (X (nt k)) (Y (nt k)) → o' * (dx * dx + dy * dy) - u' * ta px py dx dy (X (nt k)) (Y (nt k)) ≤ m → ∃ j, j < n ∧ gon (X j) (Y j) (X (nt j)) (Y (nt j)) (px * u' + dx * o') (py * u' + dy * o') u' = true := by
  have hN := NN hD
  intro m
  induction m with
  | zero =>
    intro k hk h1 h2 h3 h4 h5 h6
    exact ⟨k, hk, on_i hD hu' h1 h2 (by unfold bet; omega)⟩
  | succ m ih =>
    intro k hk h1 h2 h3 h4 h5 h6
    by_cases c : o' * (dx * dx + dy * dy) ≤ u' * ta px py dx dy (X (nt k)) (Y (nt k))
    · exact ⟨k, hk, on_i hD hu' h1 h2 (by unfold bet; omega)⟩
    · have s := ch_step hD (hc _ (hn k hk)) (hf k hk) (hd _ (hn k hk)) h1 h2 h3 (by
        have q1 : 0 < u * (ua * ta px py dx dy (X (nt k)) (Y (nt k)) - oa * (dx * dx + dy * dy)) := by
          have e : u * (ua * ta px py dx dy (X (nt k)) (Y (nt k)) - oa * (dx * dx + dy * dy)) = ua * (u * ta px py dx dy (X (nt k)) (Y (nt k)) - o * (dx * dx + dy * dy)) + (ua * o - oa * u) * (dx * dx + dy * dy) := by grind
          have e1 := Int.mul_pos hat hN
          have e2 := Int.mul_nonneg (Int.le_of_lt hua) (show 0 ≤ u * ta px py dx dy (X (nt k)) (Y (nt k)) - o * (dx * dx + dy * dy) by omega)
          omega
        exact (mpos hu).1.mp q1) (by
        have q1 : 0 < u' * (ob * (dx * dx + dy * dy) - ub * ta px py dx dy (X (nt k)) (Y (nt k))) := by
          have e : u' * (ob * (dx * dx + dy * dy) - ub * ta px py dx dy (X (nt k)) (Y (nt k))) = ub * (o' * (dx * dx + dy * dy) - u' * ta px py dx dy (X (nt k)) (Y (nt k))) + (u' * ob - o' * ub) * (dx * dx + dy * dy) := by grind
          have e1 := Int.mul_nonneg htb (Int.le_of_lt hN)
          have e2 := Int.mul_pos hub (show 0 < o' * (dx * dx + dy * dy) - u' * ta px py dx dy (X (nt k)) (Y (nt k)) by omega)
          omega
        exact (mpos hu').1.mp q1)
      have g1 := Int.mul_lt_mul_of_pos_left s.2 hu
      have g2 := Int.mul_le_mul_of_nonneg_left (Int.add_one_le_of_lt s.2) (Int.le_of_lt hu')
      rw [Int.mul_add, Int.mul_one] at g2
      exact ih (nt k) (hn k hk) h2 s.1 s.2 (by omega) (by omega) (by omega)
end
/-- the corner before -/
def pv (n k : Nat) : Nat := if k = 0 then n - 1 else k - 1
theorem pv_lt {n k : Nat} (h : k < n) : pv n k < n := by unfold pv; split <;> omega
theorem nx_pv {n k : Nat} (h : k < n) : nx n (pv n k) = k := by
  unfold nx pv
  by_cases e : k = 0
  · rw [if_pos e, if_neg (by omega)]; exact e.symm
  · rw [if_neg e, if_pos (by omega)]; omega
theorem pv_nx {n k : Nat} (h : k < n) : pv n (nx n k) = k := by
  unfold nx pv
  by_cases e : k + 1 < n
  · rw [if_pos e, if_neg (by omega)]; omega
  · rw [if_neg e, if_pos rfl]; omega
theorem gon_c {ax ay bx by_ x y w : Int} (hw : 0 < w) : gon ax ay bx by_ x y w = gon bx by_ ax ay x y w := by
  apply Bool.eq_iff_iff.mpr
  unfold gon
  simp only [Bool.and_eq_true, decide_eq_true_eq]
  rw [gS_bet hw, gS_bet hw, bet_c (p := x - ax * w), bet_c (p := y - ay * w)]
  have e : gT ax ay bx by_ x y w = - gT bx by_ ax ay x y w := by unfold gT; grind
  rw [e]
  constructor
  · rintro ⟨h, q⟩; exact ⟨by omega, q⟩
  · rintro ⟨h, q⟩; exact ⟨by omega, q⟩
theorem gfold_c {kx ky bx by_ hx hy : Int} : gfold kx ky bx by_ hx hy = gfold kx ky hx hy bx by_ := by
  unfold gfold
  have e1 : ((bx - kx) * (hy - ky) = (by_ - ky) * (hx - kx)) = ((hx - kx) * (by_ - ky) = (hy - ky) * (bx - kx)) := by
    apply propext
    rw [Int.mul_comm (hx - kx), Int.mul_comm (hy - ky)]
    omega
  have e2 : (bx - kx) * (hx - kx) + (by_ - ky) * (hy - ky) = (hx - kx) * (bx - kx) + (hy - ky) * (by_ - ky) := by
    rw [Int.mul_comm (hx - kx), Int.mul_comm (hy - ky)]
  simp only [e1, e2]
theorem nocut_c {px py dx dy ax ay bx by_ oa ua ob ub : Int} (h : nocut px py dx dy ax ay bx by_ oa ua ob ub) : nocut px py dx dy bx by_ ax ay oa ua ob ub := by
  intro h1 h2 h3
  have e : ∀ o u, gP px py dx dy bx by_ ax ay o u = - gP px py dx dy ax ay bx by_ o u := by intro o u; unfold gP gT; grind
  rw [e, e] at h3 ⊢
  have := h (bet_c.mp h1) (fun q => h2 q.symm) (by unfold bet at *; omega)
  omega
section
variable {n : Nat} {X Y : Nat → Int} {px py dx dy oa ua ob ub o u o' u' : Int}
/-- from a place on the ring strictly between a and b on to b: all on the ring -/
theorem on_fwd {k : Nat} (hD : dx ≠ 0 ∨ dy ≠ 0) (hok : okR n X Y) (hc : ∀ k, k < n → nocut px py dx dy (X k) (Y k) (X (nx n k)) (Y (nx n k)) oa ua ob ub) (hu : 0 < u) (hu' : 0 < u') (hua : 0 < ua) (hub : 0 < ub) (hab : 0 < ua * ob - oa * ub) (hat : 0 < ua * o - oa * u) (htb : 0 < u * ob - o * ub) (hk : k < n) (hg : gon (X k) (Y k) (X (nx n k)) (Y (nx n k)) (px * u + dx * o) (py * u + dy * o) u = true) (ht : 0 ≤ u * o' - o * u') (htb' : 0 ≤ u' * ob - o' * ub) : ∃ j, j < n ∧ gon (X j) (Y j) (X (nx n j)) (Y (nx n j)) (px * u' + dx * o') (py * u' + dy * o') u' = true := by
  have hN := NN hD
  obtain ⟨l1, l2⟩ := on_line (hc k hk) hu hab hat htb (hok.2 k hk).1 hg
  have b := on_e hD hu l1 l2 hg
  have hn : ∀ k, k < n → nx n k < n := fun k hk => nx_lt hk
  have hn' : ∀ k, k < n → pv n k < n := fun k hk => pv_lt hk
  have tt : ∀ z, u * z ≤ o * (dx * dx + dy * dy) → u' * z ≤ o' * (dx * dx + dy * dy) := by
    intro z hz
    have e : u * (o' * (dx * dx + dy * dy) - u' * z) = u' * (o * (dx * dx + dy * dy) - u * z) + (u * o' - o * u') * (dx * dx + dy * dy) := by grind
    have e1 := Int.mul_nonneg (Int.le_of_lt hu') (show 0 ≤ o * (dx * dx + dy * dy) - u * z by omega)
    have e2 := Int.mul_nonneg ht (Int.le_of_lt hN)
    have e3 := mpos (y := o' * (dx * dx + dy * dy) - u' * z) hu
    omega
  have ne : ta px py dx dy (X k) (Y k) ≠ ta px py dx dy (X (nx n k)) (Y (nx n k)) := by
    intro q
    have x1 : (dx * dx + dy * dy) * (X (nx n k) - X k) = 0 := by unfold ta at q; unfold so at l1 l2; grind
    have y1 : (dx * dx + dy * dy) * (Y (nx n k) - Y k) = 0 := by unfold ta at q; unfold so at l1 l2; grind
    have x2 := (mpos hN).2.2.mp x1
    have y2 := (mpos hN).2.2.mp y1
    exact (hok.2 k hk).1 ⟨by omega, by omega⟩
  by_cases c : ta px py dx dy (X k) (Y k) < ta px py dx dy (X (nx n k)) (Y (nx n k))
  · have g1 := Int.mul_lt_mul_of_pos_left c hu
    exact ch_all (nt := nx n) hD hn hc (fun k hk => (hok.2 k hk).2) (fun k hk => (hok.2 k hk).1) hu hu' hua hub hat htb' (o' * (dx * dx + dy * dy) - u' * ta px py dx dy (X (nx n k)) (Y (nx n k))).toNat k hk l1 l2 c (tt _ (by unfold bet at b; omega)) (by unfold bet at b; omega) (by omega)
  · have c' : ta px py dx dy (X (nx n k)) (Y (nx n k)) < ta px py dx dy (X k) (Y k) := by omega
    have g1 := Int.mul_lt_mul_of_pos_left c' hu
    have r := ch_all (nt := pv n) hD hn' (fun k hk => by
        have q := nocut_c (hc _ (pv_lt hk))
        rw [nx_pv hk] at q
        exact q) (fun k hk => by
        have q := (hok.2 _ (pv_lt (pv_lt hk))).2
        rw [nx_pv (pv_lt hk), nx_pv hk, gfold_c] at q
        exact q) (fun k hk => by
        have q := (hok.2 _ (pv_lt hk)).1
        rw [nx_pv hk] at q
        exact fun z => q ⟨z.1.symm, z.2.symm⟩) hu hu' hua hub hat htb' (o' * (dx * dx + dy * dy) - u' * ta px py dx dy (X k) (Y k)).toNat (nx n k) (nx_lt hk) l2 (by rw [pv_nx hk]; exact l1) (by rw [pv_nx hk]; exact c') (tt _ (by unfold bet at b; omega)) (by rw [pv_nx hk]; unfold bet at b; omega) (by rw [pv_nx hk]; omega)
    obtain ⟨j, j1, j2⟩ := r
    refine ⟨pv n j, pv_lt j1, ?_⟩
    rw [nx_pv j1, gon_c hu']
    exact j2
end
