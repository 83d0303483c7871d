/-! the places of a piece: over o, under u -/
def so (px py dx dy x y : Int) : Int := (x - px) * dy - (y - py) * dx
def ta (px py dx dy x y : Int) : Int := (x - px) * dx + (y - py) * dy
section
variable {px py dx dy ax ay bx by_ o u o1 u1 o2 u2 : Int}
/-- the turn of a side at a place of the piece -/
def gP (px py dx dy ax ay bx by_ o u : Int) : Int := gT ax ay bx by_ (px * u + dx * o) (py * u + dy * o) u
theorem gP_e : gP px py dx dy ax ay bx by_ o u = u * ((ax - px) * (by_ - ay) - (ay - py) * (bx - ax)) - o * (dx * (by_ - ay) - dy * (bx - ax)) := by
  unfold gP gT
  grind
theorem un_e : so px py dx dy ax ay - so px py dx dy bx by_ = dx * (by_ - ay) - dy * (bx - ax) := by
  unfold so
  grind
theorem gP_y : dy * gP px py dx dy ax ay bx by_ o u = (py * u + dy * o - ay * u) * so px py dx dy bx by_ - (py * u + dy * o - by_ * u) * so px py dx dy ax ay := by
  unfold gP gT so
  grind
theorem gP_x : dx * gP px py dx dy ax ay bx by_ o u = (px * u + dx * o - ax * u) * so px py dx dy bx by_ - (px * u + dx * o - bx * u) * so px py dx dy ax ay := by
  unfold gP gT so
  grind
theorem gP_2 : (u1 * o2 - o1 * u2) * ((by_ - ay) * so px py dx dy ax ay) = gP px py dx dy ax ay bx by_ o1 u1 * (py * u2 + dy * o2 - ay * u2) - gP px py dx dy ax ay bx by_ o2 u2 * (py * u1 + dy * o1 - ay * u1) := by
  unfold gP gT so
  grind
theorem gP_3 : (u1 * o2 - o1 * u2) * ((by_ - ay) * so px py dx dy bx by_) = gP px py dx dy ax ay bx by_ o1 u1 * (py * u2 + dy * o2 - by_ * u2) - gP px py dx dy ax ay bx by_ o2 u2 * (py * u1 + dy * o1 - by_ * u1) := by
  unfold gP gT so
  grind
/-- on the piece's own line, and not through the place: no toggle there -/
theorem cross_on (hu : 0 < u) (hD : dx ≠ 0 ∨ dy ≠ 0) (ha : so px py dx dy ax ay = 0) (hb : so px py dx dy bx by_ = 0) (h : gon ax ay bx by_ (px * u + dx * o) (py * u + dy * o) u = false) : gcross ax ay bx by_ (px * u + dx * o) (py * u + dy * o) u = false := by
  have p0 : gT ax ay bx by_ (px * u + dx * o) (py * u + dy * o) u = 0 := by
    have e1 := gP_x (px := px) (py := py) (dx := dx) (dy := dy) (ax := ax) (ay := ay) (bx := bx) (by_ := by_) (o := o) (u := u)
    have e2 := gP_y (px := px) (py := py) (dx := dx) (dy := dy) (ax := ax) (ay := ay) (bx := bx) (by_ := by_) (o := o) (u := u)
    rw [ha, hb, Int.mul_zero, Int.mul_zero, Int.sub_self] at e1 e2
    rcases hD with q | q
    · exact (Int.mul_eq_zero.mp e1).resolve_left q
    · exact (Int.mul_eq_zero.mp e2).resolve_left q
  cases hc : gcross ax ay bx by_ (px * u + dx * o) (py * u + dy * o) u with
  | false => rfl
  | true =>
    exfalso
    rw [cc_g] at hc
    revert p0 h hc
    generalize px * u + dx * o = x
    generalize py * u + dy * o = y
    intro h p0 hc
    have hy : (0 ≤ y - ay * u ∧ y - by_ * u < 0) ∨ (y - ay * u < 0 ∧ 0 ≤ y - by_ * u) := by
      unfold cc at hc
      simp only [Bool.and_eq_true, bne_iff_ne, ne_eq, decide_eq_decide] at hc
      omega
    have e3 : (bx - ax) * (y - ay * u) = (by_ - ay) * (x - ax * u) := by unfold gT at p0; omega
    have e4 : (bx - ax) * (y - by_ * u) = (by_ - ay) * (x - bx * u) := by grind
    have e5 : (y - ay * u) - (y - by_ * u) = u * (by_ - ay) := by grind
    have : gon ax ay bx by_ x y u = true := by
      unfold gon
      rw [Bool.and_eq_true, decide_eq_true_eq, gS_bet hu]
      refine ⟨p0, ?_, by unfold bet; omega⟩
      generalize x - ax * u = q1 at *
      generalize x - bx * u = q2 at *
      generalize y - ay * u = h1 at *
      generalize y - by_ * u = h2 at *
      generalize by_ - ay = sy at *
      generalize bx - ax = sx at *
      unfold bet
      have f0 := mpos (y := sy) hu
      rcases Int.lt_trichotomy sx 0 with s1 | s1 | s1
      · have a1 := mneg (y := h1) s1
        have a2 := mneg (y := h2) s1
        rcases hy with ⟨y1, y2⟩ | ⟨y1, y2⟩
        · have s2 : 0 < sy := by omega
          have b1 := mpos (y := q1) s2
          have b2 := mpos (y := q2) s2
          omega
        · have s2 : sy < 0 := by omega
          have b1 := mneg (y := q1) s2
          have b2 := mneg (y := q2) s2
          omega
      · subst s1
        rw [Int.zero_mul] at e3 e4
        rcases hy with ⟨y1, y2⟩ | ⟨y1, y2⟩
        · have s2 : 0 < sy := by omega
          have b1 := mpos (y := q1) s2
          have b2 := mpos (y := q2) s2
          omega
        · have s2 : sy < 0 := by omega
          have b1 := mneg (y := q1) s2
          have b2 := mneg (y := q2) s2
          omega
      · have a1 := mpos (y := h1) s1
        have a2 := mpos (y := h2) s1
        rcases hy with ⟨y1, y2⟩ | ⟨y1, y2⟩
        · have s2 : 0 < sy := by omega
          have b1 := mpos (y := q1) s2
          have b2 := mpos (y := q2) s2
          omega
        · have s2 : sy < 0 := by omega
          have b1 := mneg (y := q1) s2
          have b2 := mneg (y := q2) s2
          omega
    rw [this] at h
    cases h
end
/-- no side between two places of a piece, none through either: both lie alike -/
theorem seg_same {n : Nat} {X Y : Nat → Int} {px py dx dy o1 u1 o2 u2 : Int} (hu1 : 0 < u1) (hu2 : 0 < u2) (hL : 0 < u1 * o2 - o1 * u2) (hD : dx ≠ 0 ∨ dy ≠ 0) (h1 : ∀ k, k < n → gon (X k) (Y k) (X (nx n k)) (Y (nx n k)) (px * u1 + dx * o1) (py * u1 + dy * o1) u1 = false) (h2 : ∀ k, k < n → gon (X k) (Y k) (X (nx n k)) (Y (nx n k)) (px * u2 + dx * o2) (py * u2 + dy * o2) u2 = false) (H : ∀ k, k < n → one (gP px py dx dy (X k) (Y k) (X (nx n k)) (Y (nx n k)) o1 u1) (gP px py dx dy (X k) (Y k) (X (nx n k)) (Y (nx n k)) o2 u2) ∨ one (so px py dx dy (X k) (Y k)) (so px py dx dy (X (nx n k)) (Y (nx n k))) ∨ (so px py dx dy (X k) (Y k) = 0 ∧ so px py dx dy (X (nx n k)) (Y (nx n k)) = 0)) : gloc n X Y (px * u1 + dx * o1) (py * u1 + dy * o1) u1 = gloc n X Y (px * u2 + dx * o2) (py * u2 + dy * o2) u2 := by
  refine gloc_same (fun k => (decide (0 ≤ py * u1 + dy * o1 - Y k * u1) ^^ decide (0 ≤ py * u2 + dy * o2 - Y k * u2)) && decide (0 < dy * so px py dx dy (X k) (Y k))) h1 h2 (fun k hk => ?_)
  rw [cc_g, cc_g]
  refine l1 (D := u1 * o2 - o1 * u2) (sy := Y (nx n k) - Y k) (p1 := gP px py dx dy (X k) (Y k) (X (nx n k)) (Y (nx n k)) o1 u1) (p2 := gP px py dx dy (X k) (Y k) (X (nx n k)) (Y (nx n k)) o2 u2) hL hu1 hu2 ?_ ?_ ?_ ?_ gP_y gP_y gP_2 gP_3 ?_
  · grind
  · grind
  · grind
  · grind
  · rcases H k hk with q | q | ⟨q1, q2⟩
    · exact Or.inl q
    · exact Or.inr (Or.inl q)
    · refine Or.inr (Or.inr ⟨q1, q2, ?_, ?_⟩)
      · have := cross_on hu1 hD q1 q2 (h1 k hk)
        rw [cc_g] at this
        exact this
      · have := cross_on hu2 hD q1 q2 (h2 k hk)
        rw [cc_g] at this
        exact this
section
variable {px py dx dy oa ua ob ub o u o' u' : Int}
/-- what is between two places of a piece: the turn is a mean -/
theorem gP_m {ax ay bx by_ : Int} : (ua * ob - oa * ub) * gP px py dx dy ax ay bx by_ o u = (u * ob - o * ub) * gP px py dx dy ax ay bx by_ oa ua + (ua * o - oa * u) * gP px py dx dy ax ay bx by_ ob ub := by
  unfold gP gT
  grind
theorem gP_u {ax ay bx by_ : Int} : (ua * ob - oa * ub) * (so px py dx dy ax ay - so px py dx dy bx by_) = ub * gP px py dx dy ax ay bx by_ oa ua - ua * gP px py dx dy ax ay bx by_ ob ub := by
  unfold gP gT so
  grind
/-- where a side that isn't parallel meets the piece's line, that isn't strictly between a and b -/
def nocut (px py dx dy ax ay bx by_ oa ua ob ub : Int) : Prop := bet (so px py dx dy ax ay) (so px py dx dy bx by_) → so px py dx dy ax ay ≠ so px py dx dy bx by_ → bet (gP px py dx dy ax ay bx by_ oa ua) (gP px py dx dy ax ay bx by_ ob ub) → gP px py dx dy ax ay bx by_ oa ua = 0 ∨ gP px py dx dy ax ay bx by_ ob ub = 0
theorem nocut_ne {ax ay bx by_ : Int} (hab : 0 < ua * ob - oa * ub) (h2 : so px py dx dy ax ay ≠ so px py dx dy bx by_) : ¬ (gP px py dx dy ax ay bx by_ oa ua = 0 ∧ gP px py dx dy ax ay bx by_ ob ub = 0) := by
  have e2 := gP_u (px := px) (py := py) (dx := dx) (dy := dy) (ax := ax) (ay := ay) (bx := bx) (by_ := by_) (oa := oa) (ua := ua) (ob := ob) (ub := ub)
  have h4 : ¬ (so px py dx dy ax ay - so px py dx dy bx by_ = 0) := by omega
  have e3 := (mpos (y := so px py dx dy ax ay - so px py dx dy bx by_) hab).2.2
  rintro ⟨q1, q2⟩
  rw [q1, q2, Int.mul_zero, Int.mul_zero, Int.sub_self] at e2
  exact h4 (e3.mp e2)
theorem nocut_in {ax ay bx by_ : Int} (h : nocut px py dx dy ax ay bx by_ oa ua ob ub) (hab : 0 < ua * ob - oa * ub) (ha : 0 < ua * o - oa * u) (hb : 0 < u * ob - o * ub) (h1 : bet (so px py dx dy ax ay) (so px py dx dy bx by_)) (h2 : so px py dx dy ax ay ≠ so px py dx dy bx by_) : (0 < gP px py dx dy ax ay bx by_ o u ∧ 0 ≤ gP px py dx dy ax ay bx by_ oa ua ∧ 0 ≤ gP px py dx dy ax ay bx by_ ob ub) ∨ (gP px py dx dy ax ay bx by_ o u < 0 ∧ gP px py dx dy ax ay bx by_ oa ua ≤ 0 ∧ gP px py dx dy ax ay bx by_ ob ub ≤ 0) := by
  have h3 := h h1 h2
  have e1 := gP_m (px := px) (py := py) (dx := dx) (dy := dy) (ax := ax) (ay := ay) (bx := bx) (by_ := by_) (oa := oa) (ua := ua) (ob := ob) (ub := ub) (o := o) (u := u)
  have m0 := mpos (y := gP px py dx dy ax ay bx by_ o u) hab
  have m1 := mpos (y := gP px py dx dy ax ay bx by_ oa ua) hb
  have m2 := mpos (y := gP px py dx dy ax ay bx by_ ob ub) ha
  have z1 := nocut_ne (px := px) (py := py) (dx := dx) (dy := dy) (ax := ax) (ay := ay) (bx := bx) (by_ := by_) (oa := oa) (ua := ua) (ob := ob) (ub := ub) hab h2
  revert h3 m0 m1 m2 z1 e1
  generalize gP px py dx dy ax ay bx by_ oa ua = p1
  generalize gP px py dx dy ax ay bx by_ ob ub = p2
  generalize gP px py dx dy ax ay bx by_ o u = p
  intro h3 m0 m1 m2 z1 e1
  unfold bet at h3
  rcases Int.lt_trichotomy p1 0 with s1 | s1 | s1
  · rcases Int.lt_trichotomy p2 0 with s2 | s2 | s2
    · right; omega
    · right; omega
    · exfalso; omega
  · rcases Int.lt_trichotomy p2 0 with s2 | s2 | s2
    · right; omega
    · exfalso; omega
    · left; omega
  · rcases Int.lt_trichotomy p2 0 with s2 | s2 | s2
    · exfalso; omega
    · left; omega
    · left; omega
/-- a side through a place strictly between a and b lies along the piece -/
theorem on_line {ax ay bx by_ : Int} (h : nocut px py dx dy ax ay bx by_ oa ua ob ub) (hu : 0 < u) (hab : 0 < ua * ob - oa * ub) (ha : 0 < ua * o - oa * u) (hb : 0 < u * ob - o * ub) (hS : ¬ (ax = bx ∧ ay = by_)) (hg : gon ax ay bx by_ (px * u + dx * o) (py * u + dy * o) u = true) : so px py dx dy ax ay = 0 ∧ so px py dx dy bx by_ = 0 := by
  unfold gon at hg
  rw [Bool.and_eq_true, decide_eq_true_eq, gS_bet hu] at hg
  obtain ⟨g1, g2, g3⟩ := hg
  have g1' : gP px py dx dy ax ay bx by_ o u = 0 := g1
  have ex := gP_x (px := px) (py := py) (dx := dx) (dy := dy) (ax := ax) (ay := ay) (bx := bx) (by_ := by_) (o := o) (u := u)
  have ey := gP_y (px := px) (py := py) (dx := dx) (dy := dy) (ax := ax) (ay := ay) (bx := bx) (by_ := by_) (o := o) (u := u)
  rw [g1', Int.mul_zero] at ex ey
  have sx : (px * u + dx * o - ax * u) - (px * u + dx * o - bx * u) = u * (bx - ax) := by grind
  have sy : (py * u + dy * o - ay * u) - (py * u + dy * o - by_ * u) = u * (by_ - ay) := by grind
  have hne : ¬ (bx - ax = 0 ∧ by_ - ay = 0) := by omega
  have m1 := (mpos (y := bx - ax) hu).2.2
  have m2 := (mpos (y := by_ - ay) hu).2.2
  have hun := un_e (px := px) (py := py) (dx := dx) (dy := dy) (ax := ax) (ay := ay) (bx := bx) (by_ := by_)
  by_cases e : so px py dx dy ax ay = so px py dx dy bx by_
  · rw [← e] at ex ey ⊢
    have c : so px py dx dy ax ay = 0 := by
      refine Classical.byContradiction fun q => ?_
      have f1 : (px * u + dx * o - ax * u - (px * u + dx * o - bx * u)) * so px py dx dy ax ay = 0 := by rw [Int.sub_mul]; omega
      have f2 : (py * u + dy * o - ay * u - (py * u + dy * o - by_ * u)) * so px py dx dy ax ay = 0 := by rw [Int.sub_mul]; omega
      have f3 := (Int.mul_eq_zero.mp f1).resolve_right q
      have f4 := (Int.mul_eq_zero.mp f2).resolve_right q
      rw [sx] at f3
      rw [sy] at f4
      exact hne ⟨m1.mp f3, m2.mp f4⟩
    exact ⟨c, c⟩
  · exfalso
    have hbet : bet (so px py dx dy ax ay) (so px py dx dy bx by_) := by
      rw [bet_one]
      intro q
      have z : ∀ h1 h2 : Int, bet h1 h2 → 0 = h1 * so px py dx dy bx by_ - h2 * so px py dx dy ax ay → h1 = 0 ∧ h2 = 0 := by
        intro h1 h2 b e0
        rcases q with ⟨q1, q2⟩ | ⟨q1, q2⟩
        · have a1 := mpos (y := h1) q2
          have a2 := mpos (y := h2) q1
          rw [Int.mul_comm] at a1 a2
          unfold bet at b
          omega
        · have a1 := mneg (y := h1) q2
          have a2 := mneg (y := h2) q1
          rw [Int.mul_comm] at a1 a2
          unfold bet at b
          omega
      have z1 := z _ _ g2 ex
      have z2 := z _ _ g3 ey
      rw [z1.1, z1.2] at sx
      rw [z2.1, z2.2] at sy
      exact hne ⟨m1.mp (by omega), m2.mp (by omega)⟩
    have := nocut_in h hab ha hb hbet e
    omega
end
