/-! rings: the class's (RgC) as corners over whole numbers -/

theorem bri {c A B : Prop} [Decidable c] : ((c → A) ∧ (¬ c → B)) = (if c then A else B) := by
  by_cases h : c <;> simp [h]
def nx (n k : Nat) : Nat := if k + 1 < n then k + 1 else 0
theorem nx_lt {n k : Nat} (h : k < n) : nx n k < n := by unfold nx; split <;> omega
def RgC (S : hs) (a n : Nat) (X Y : Nat → Int) : Prop := (is S 2 a ∧ hr S a 0 = some (a + 1) ∧ hr S a 1 = some (a + 2) ∧ is S 8 (a + 1) ∧ is S 8 (a + 2) ∧ hz S (a + 1) = 12 ∧ hz S (a + 2) = 12 ∧ hi S a 2 = nI n ∧ n ≤ 12) ∧ ∀ k, k < n → (hi S (a + 1) k = cI (X k) ∧ hi S (a + 2) k = cI (Y k)) ∧ (-200 ≤ X k ∧ X k ≤ 200) ∧ -200 ≤ Y k ∧ Y k ≤ 200
theorem RgC.ix1 {S : hs} {a n k : Nat} {X Y : Nat → Int} (R : RgC S a n X Y) (hk : k < n) : ix S 8 (a + 1) (nI k) := ix_n R.1.2.2.2.1 R.1.2.2.2.2.2.1 (Nat.lt_of_lt_of_le hk R.1.2.2.2.2.2.2.2.2) (by decide)
theorem RgC.ix2 {S : hs} {a n k : Nat} {X Y : Nat → Int} (R : RgC S a n X Y) (hk : k < n) : ix S 8 (a + 2) (nI k) := ix_n R.1.2.2.2.2.1 R.1.2.2.2.2.2.2.1 (Nat.lt_of_lt_of_le hk R.1.2.2.2.2.2.2.2.2) (by decide)
theorem RgC.x {S : hs} {a n k : Nat} {X Y : Nat → Int} (R : RgC S a n X Y) (hk : k < n) : hi S (a + 1) (nI k).toNatClampNeg = cI (X k) := by
  rw [nI_clamp (by have := R.1.2.2.2.2.2.2.2.2; omega)]; exact (R.2 k hk).1.1
theorem RgC.y {S : hs} {a n k : Nat} {X Y : Nat → Int} (R : RgC S a n X Y) (hk : k < n) : hi S (a + 2) (nI k).toNatClampNeg = cI (Y k) := by
  rw [nI_clamp (by have := R.1.2.2.2.2.2.2.2.2; omega)]; exact (R.2 k hk).1.2
theorem sp_next {S : hs} {a n k : Nat} {X Y : Nat → Int} {Post : Int32 → hs → Prop} (R : RgC S a n X Y) (hk : k < n) : PX2_next a (nI k) S Post = Post (nI (nx n k)) S := by
  have hn := R.1.2.2.2.2.2.2.2.2
  have h1 := R.1.2.2.2.2.2.2.2.1
  unfold PX2_next PX2_next_17
  rw [h1, nI_1, bri]
  rw [eq_true R.1.1, true_and]
  unfold nx
  by_cases h : k + 1 < n
  · rw [if_neg (by rw [nI_leI (by omega) (by omega)]; omega), if_pos h]
  · rw [if_pos (by rw [nI_leI (by omega) (by omega)]; omega), if_neg h]
    rfl
def gT (ax ay bx by_ x y w : Int) : Int := (bx - ax) * (y - ay * w) - (by_ - ay) * (x - ax * w)
theorem sp_turn {S : hs} {a n k : Nat} {X Y : Nat → Int} {x y w : Int} {Post : Int64 → hs → Prop} (R : RgC S a n X Y) (hk : k < n) : PX2_turn a (nI k) (cJ x) (cJ y) (cJ w) S Post = Post (cJ (gT (X k) (Y k) (X (nx n k)) (Y (nx n k)) x y w)) S := by
  have hk' := nx_lt hk
  have b1 := (R.2 k hk).2
  have b2 := (R.2 _ hk').2
  simp only [PX2_turn, sp_next R hk, eq_true R.1.1, R.1.2.1, R.1.2.2.1, Option.some.injEq, exists_eq_left', eq_true (R.ix1 hk), eq_true (R.ix1 hk'), eq_true (R.ix2 hk), eq_true (R.ix2 hk'), true_and, forall_eq, R.x hk, R.x hk', R.y hk, R.y hk', cI_sub]
  rw [cI_l ⟨by omega, by omega⟩, cI_l ⟨by omega, by omega⟩, cI_l ⟨by omega, by omega⟩, cI_l ⟨by omega, by omega⟩]
  simp only [cJ_mul, cJ_sub, gT]
def zb (b : Bool) : Int32 := if b = true then 1 else 0
theorem zb_01 (b : Bool) : zb b = 0 ∨ zb b = 1 := by cases b <;> decide
theorem zb_0 (b : Bool) : zb b = 0 ↔ b = false := by cases b <;> decide
theorem mb {c w : Int} {C D : Nat} (h1 : -(C : Int) ≤ c ∧ c ≤ C) (h2 : -(D : Int) ≤ w ∧ w ≤ D) : -((C * D : Nat) : Int) ≤ c * w ∧ c * w ≤ ((C * D : Nat) : Int) := by
  have e : (c * w).natAbs = c.natAbs * w.natAbs := Int.natAbs_mul c w
  have h3 : c.natAbs ≤ C := by omega
  have h4 : w.natAbs ≤ D := by omega
  have h5 := Nat.mul_le_mul h3 h4
  rw [← e] at h5
  generalize c * w = p at *
  generalize C * D = q at *
  omega
/-- a place's numbers, its divisor: within what the arithmetic bears -/
def bw (x y w : Int) : Prop := (-1000000000000000 ≤ x ∧ x ≤ 1000000000000000) ∧ (-1000000000000000 ≤ y ∧ y ≤ 1000000000000000) ∧ 0 ≤ w ∧ w ≤ 1000000000000
theorem bw_m {x y w c : Int} (h : bw x y w) (hc : -400 ≤ c ∧ c ≤ 400) : -400000000000000 ≤ c * w ∧ c * w ≤ 400000000000000 := by
  have := mb (C := 400) (D := 1000000000000) (c := c) (w := w) ⟨by omega, by omega⟩ ⟨by have := h.2.2; omega, by have := h.2.2; omega⟩
  omega
theorem cI_min {a b : Int} (ha : bI a) (hb : bI b) : (if cI b < cI a then cI b else cI a) = cI (min a b) := by
  by_cases h : b < a
  · rw [if_pos ((cI_lt hb ha).mpr h), Int.min_eq_right (by omega)]
  · rw [if_neg (fun q => h ((cI_lt hb ha).mp q)), Int.min_eq_left (by omega)]
theorem cI_max {a b : Int} (ha : bI a) (hb : bI b) : (if cI a < cI b then cI b else cI a) = cI (max a b) := by
  by_cases h : a < b
  · rw [if_pos ((cI_lt ha hb).mpr h), Int.max_eq_right (by omega)]
  · rw [if_neg (fun q => h ((cI_lt ha hb).mp q)), Int.max_eq_left (by omega)]
def gS (ax ay bx by_ x y w : Int) : Bool := decide (min ax bx * w ≤ x) && (decide (x ≤ max ax bx * w) && (decide (min ay by_ * w ≤ y) && decide (y ≤ max ay by_ * w)))
set_option maxHeartbeats 1000000 in
theorem sp_spans {S : hs} {a n k : Nat} {X Y : Nat → Int} {x y w : Int} {Post : Int32 → hs → Prop} (R : RgC S a n X Y) (hk : k < n) (hb : bw x y w) : PX2_spans a (nI k) (cJ x) (cJ y) (cJ w) S Post = Post (zb (gS (X k) (Y k) (X (nx n k)) (Y (nx n k)) x y w)) S := by
  have hk' := nx_lt hk
  have b1 := (R.2 k hk).2
  have b2 := (R.2 _ hk').2
  simp only [PX2_spans, PX2_spans_113, PX2_spans_114, sp_next R hk, eq_true R.1.1, R.1.2.1, R.1.2.2.1, Option.some.injEq, exists_eq_left', eq_true (R.ix1 hk), eq_true (R.ix1 hk'), eq_true (R.ix2 hk), eq_true (R.ix2 hk'), true_and, forall_eq, R.x hk, R.x hk', R.y hk, R.y hk']
  generalize X k = ax at *
  generalize Y k = ay at *
  generalize X (nx n k) = bx at *
  generalize Y (nx n k) = by_ at *
  have hax : bI ax := ⟨by omega, by omega⟩
  have hbx : bI bx := ⟨by omega, by omega⟩
  have hay : bI ay := ⟨by omega, by omega⟩
  have hby : bI by_ := ⟨by omega, by omega⟩
  rw [cI_min hax hbx, cI_max hax hbx, cI_min hay hby, cI_max hay hby]
  have m1 := bw_m hb (c := min ax bx) ⟨by omega, by omega⟩
  have m2 := bw_m hb (c := max ax bx) ⟨by omega, by omega⟩
  have m3 := bw_m hb (c := min ay by_) ⟨by omega, by omega⟩
  have m4 := bw_m hb (c := max ay by_) ⟨by omega, by omega⟩
  rw [cI_l (c := min ax bx) ⟨by omega, by omega⟩, cI_l (c := max ax bx) ⟨by omega, by omega⟩, cI_l (c := min ay by_) ⟨by omega, by omega⟩, cI_l (c := max ay by_) ⟨by omega, by omega⟩]
  obtain ⟨hx, hy, hw⟩ := hb
  have hbx : bJ x := ⟨by omega, by omega⟩
  have hby : bJ y := ⟨by omega, by omega⟩
  simp only [cJ_mul, cJ_lt hbx (b := min ax bx * w) ⟨by omega, by omega⟩, cJ_lt (a := max ax bx * w) ⟨by omega, by omega⟩ hbx, cJ_lt hby (b := min ay by_ * w) ⟨by omega, by omega⟩, cJ_lt (a := max ay by_ * w) ⟨by omega, by omega⟩ hby]
  unfold gS zb
  generalize min ax bx * w = q1
  generalize max ax bx * w = q2
  generalize min ay by_ * w = q3
  generalize max ay by_ * w = q4
  by_cases c1 : x < q1
  · simp [c1, show ¬ q1 ≤ x by omega]
  · by_cases c2 : q2 < x
    · simp [c1, c2, show ¬ x ≤ q2 by omega]
    · by_cases c3 : y < q3
      · simp [c1, c2, c3, show ¬ q3 ≤ y by omega]
      · by_cases c4 : q4 < y
        · simp [c1, c2, c3, c4, show ¬ y ≤ q4 by omega]
        · simp [c1, c2, c3, c4, show q1 ≤ x by omega, show x ≤ q2 by omega, show q3 ≤ y by omega, show y ≤ q4 by omega]
def opp (a b : Int) : Bool := (decide (a < 0) && decide (0 < b)) || (decide (0 < a) && decide (b < 0))
theorem sp_opp {S : hs} {x y : Int} {Post : Int32 → hs → Prop} (hx : bJ x) (hy : bJ y) : PX2_areOpposite (cJ x) (cJ y) S Post = Post (zb (opp x y)) S := by
  have h0 : bJ 0 := ⟨by omega, by omega⟩
  simp only [PX2_areOpposite, PX2_areOpposite_12, PX2_areOpposite_24, PX2_areOpposite_28, PX2_areOpposite_29, j0, cJ_le h0 hx, cJ_le hx h0, cJ_le h0 hy, cJ_lt h0 hy]
  unfold opp zb
  by_cases c1 : 0 ≤ x
  · by_cases c2 : x ≤ 0
    · simp [c1, c2, show ¬ x < 0 by omega, show ¬ 0 < x by omega]
    · by_cases c3 : 0 ≤ y
      · simp [c1, c2, c3, show ¬ x < 0 by omega, show 0 < x by omega, show ¬ y < 0 by omega]
      · simp [c1, c2, c3, show ¬ x < 0 by omega, show 0 < x by omega, show y < 0 by omega]
  · by_cases c2 : 0 < y
    · simp [c1, c2, show x < 0 by omega]
    · simp [c1, c2, show x ≤ 0 by omega, show x < 0 by omega, show ¬ 0 < x by omega]
