/-! sides that meet, corners that fold back -/
theorem RgC.lx {S : hs} {a n k : Nat} {X Y : Nat → Int} (R : RgC S a n X Y) (hk : k < n) : (cI (X k)).toInt64 = cJ (X k) := cI_l (by have := (R.2 k hk).2; exact ⟨by omega, by omega⟩)
theorem RgC.ly {S : hs} {a n k : Nat} {X Y : Nat → Int} (R : RgC S a n X Y) (hk : k < n) : (cI (Y k)).toInt64 = cJ (Y k) := cI_l (by have := (R.2 k hk).2; exact ⟨by omega, by omega⟩)
/-- a coordinate -/
def cr (c : Int) : Prop := -200 ≤ c ∧ c ≤ 200
theorem gT_b1 {ax ay bx by_ x y : Int} (h1 : cr ax) (h2 : cr ay) (h3 : cr bx) (h4 : cr by_) (h5 : cr x) (h6 : cr y) : -320000 ≤ gT ax ay bx by_ x y 1 ∧ gT ax ay bx by_ x y 1 ≤ 320000 := by
  unfold cr at *
  have e1 := mb (C := 400) (D := 400) (c := bx - ax) (w := y - ay * 1) ⟨by omega, by omega⟩ ⟨by omega, by omega⟩
  have e2 := mb (C := 400) (D := 400) (c := by_ - ay) (w := x - ax * 1) ⟨by omega, by omega⟩ ⟨by omega, by omega⟩
  unfold gT
  generalize (bx - ax) * (y - ay * 1) = p at *
  generalize (by_ - ay) * (x - ax * 1) = q at *
  omega
theorem bJ_of {c : Int} (h : -320000 ≤ c ∧ c ≤ 320000) : bJ c := ⟨by omega, by omega⟩
theorem bw_1 {x y : Int} (hx : cr x) (hy : cr y) : bw x y 1 := by unfold cr at *; exact ⟨⟨by omega, by omega⟩, ⟨by omega, by omega⟩, by omega, by omega⟩
/-- the sides A B and C D have a place in common -/
def gmeet (ax ay bx by_ cx cy dx dy : Int) : Bool :=
  (opp (gT ax ay bx by_ cx cy 1) (gT ax ay bx by_ dx dy 1) && opp (gT cx cy dx dy ax ay 1) (gT cx cy dx dy bx by_ 1)) ||
  ((decide (gT ax ay bx by_ cx cy 1 = 0) && gS ax ay bx by_ cx cy 1) || ((decide (gT ax ay bx by_ dx dy 1 = 0) && gS ax ay bx by_ dx dy 1) || ((decide (gT cx cy dx dy ax ay 1 = 0) && gS cx cy dx dy ax ay 1) || (decide (gT cx cy dx dy bx by_ 1 = 0) && gS cx cy dx dy bx by_ 1))))
set_option maxHeartbeats 2000000 in
theorem sp_meet {S : hs} {a n i a' n' j : Nat} {X Y X' Y' : Nat → Int} {Post : Int32 → hs → Prop} (R : RgC S a n X Y) (R' : RgC S a' n' X' Y') (hi0 : i < n) (hj0 : j < n') : PX2_sidesMeet a (nI i) a' (nI j) S Post = Post (zb (gmeet (X i) (Y i) (X (nx n i)) (Y (nx n i)) (X' j) (Y' j) (X' (nx n' j)) (Y' (nx n' j)))) S := by
  have hi' := nx_lt hi0
  have hj' := nx_lt hj0
  have x1 := (R.2 i hi0).2
  have x2 := (R.2 _ hi').2
  have x3 := (R'.2 j hj0).2
  have x4 := (R'.2 _ hj').2
  have t1 := gT_b1 x1.1 x1.2 x2.1 x2.2 x3.1 x3.2
  have t2 := gT_b1 x1.1 x1.2 x2.1 x2.2 x4.1 x4.2
  have t3 := gT_b1 x3.1 x3.2 x4.1 x4.2 x1.1 x1.2
  have t4 := gT_b1 x3.1 x3.2 x4.1 x4.2 x2.1 x2.2
  have h0 : bJ 0 := ⟨by omega, by omega⟩
  simp only [PX2_sidesMeet, PX2_sidesMeet_128, PX2_sidesMeet_158, PX2_sidesMeet_190, PX2_sidesMeet_220, PX2_sidesMeet_252, PX2_sidesMeet_256, PX2_sidesMeet_257, sp_next R hi0, sp_next R' hj0, eq_true R.1.1, R.1.2.1, R.1.2.2.1, eq_true R'.1.1, R'.1.2.1, R'.1.2.2.1, Option.some.injEq, exists_eq_left', eq_true (R.ix1 hi0), eq_true (R.ix1 hi'), eq_true (R.ix2 hi0), eq_true (R.ix2 hi'), eq_true (R'.ix1 hj0), eq_true (R'.ix1 hj'), eq_true (R'.ix2 hj0), eq_true (R'.ix2 hj'), true_and, forall_eq, R.x hi0, R.x hi', R.y hi0, R.y hi', R'.x hj0, R'.x hj', R'.y hj0, R'.y hj', R.lx hi0, R.lx hi', R.ly hi0, R.ly hi', R'.lx hj0, R'.lx hj', R'.ly hj0, R'.ly hj', j1, j0, sp_turn R hi0, sp_turn R' hj0, sp_opp (bJ_of t1) (bJ_of t2), sp_opp (bJ_of t3) (bJ_of t4), sp_spans R hi0 (bw_1 x3.1 x3.2), sp_spans R hi0 (bw_1 x4.1 x4.2), sp_spans R' hj0 (bw_1 x1.1 x1.2), sp_spans R' hj0 (bw_1 x2.1 x2.2), cJ_eq (bJ_of t1) h0, cJ_eq (bJ_of t2) h0, cJ_eq (bJ_of t3) h0, cJ_eq (bJ_of t4) h0, zb_0]
  unfold gmeet
  generalize gT (X i) (Y i) (X (nx n i)) (Y (nx n i)) (X' j) (Y' j) 1 = q1 at *
  generalize gT (X i) (Y i) (X (nx n i)) (Y (nx n i)) (X' (nx n' j)) (Y' (nx n' j)) 1 = q2 at *
  generalize gT (X' j) (Y' j) (X' (nx n' j)) (Y' (nx n' j)) (X i) (Y i) 1 = q3 at *
  generalize gT (X' j) (Y' j) (X' (nx n' j)) (Y' (nx n' j)) (X (nx n i)) (Y (nx n i)) 1 = q4 at *
  generalize gS (X i) (Y i) (X (nx n i)) (Y (nx n i)) (X' j) (Y' j) 1 = s1
  generalize gS (X i) (Y i) (X (nx n i)) (Y (nx n i)) (X' (nx n' j)) (Y' (nx n' j)) 1 = s2
  generalize gS (X' j) (Y' j) (X' (nx n' j)) (Y' (nx n' j)) (X i) (Y i) 1 = s3
  generalize gS (X' j) (Y' j) (X' (nx n' j)) (Y' (nx n' j)) (X (nx n i)) (Y (nx n i)) 1 = s4
  generalize opp q1 q2 = o1
  generalize opp q3 q4 = o2
  by_cases e1 : q1 = 0 <;> by_cases e2 : q2 = 0 <;> by_cases e3 : q3 = 0 <;> by_cases e4 : q4 = 0 <;> cases o1 <;> cases o2 <;> cases s1 <;> cases s2 <;> cases s3 <;> cases s4 <;> simp [e1, e2, e3, e4, zb]
