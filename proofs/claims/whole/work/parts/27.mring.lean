/-! the reference's rings come to the same as the class's -/
/-- corner number c (flat) of the reference is the place x, y -/
def Cm (S : hs) (Z : Nat) (c : Int32) (x y : Int) : Prop := (ix S 9 (Z + 1) c ∧ ix S 9 (Z + 2) c) ∧ (hj S (Z + 1) c.toNatClampNeg = cJ x ∧ hj S (Z + 2) c.toNatClampNeg = cJ y) ∧ cr x ∧ cr y
theorem RgM.c {S : hs} {Z q n k : Nat} {X Y : Nat → Int} (R : RgM S Z q n X Y) (hk : k < n) : Cm S Z (nI (12 * q + k)) (X k) (Y k) := ⟨⟨R.ix1 hk, R.ix2 hk⟩, ⟨R.x hk, R.y hk⟩, (R.2 k hk).2.1, (R.2 k hk).2.2⟩
theorem cr_J {c : Int} (h : cr c) : bJ c := by unfold cr at h; exact ⟨by omega, by omega⟩
theorem sm_way {S : hs} {ax ay bx by_ x y : Int} {Post : Int32 → hs → Prop} (h1 : cr ax) (h2 : cr ay) (h3 : cr bx) (h4 : cr by_) (h5 : cr x) (h6 : cr y) : PX7_wayOf (cJ ax) (cJ ay) (cJ bx) (cJ by_) (cJ x) (cJ y) S Post = Post (cI (sg (gT ax ay bx by_ x y 1))) S := by
  have t := gT_b1 h1 h2 h3 h4 h5 h6
  have e : gT ax ay bx by_ x y 1 = (bx - ax) * (y - ay) - (by_ - ay) * (x - ax) := by unfold gT; rw [Int.mul_one, Int.mul_one]
  rw [e] at t ⊢
  simp only [PX7_wayOf, cJ_sub, cJ_mul, sm_sign (bJ_of t)]
theorem sg_b (v : Int) : sg v = -1 ∨ sg v = 0 ∨ sg v = 1 := by unfold sg; by_cases c1 : 0 < v <;> by_cases c2 : v < 0 <;> simp [c1, c2]
theorem sg_opp (a b : Int) : (0 ≤ sg a * sg b) = (opp a b = false) := by
  unfold sg opp
  by_cases c1 : 0 < a <;> by_cases c2 : a < 0 <;> by_cases c3 : 0 < b <;> by_cases c4 : b < 0 <;> simp [c1, c2, c3, c4] <;> omega
theorem sg_i {v : Int} : bI (sg v) := by unfold bI; have := sg_b v; omega
theorem sg_ii {a b : Int} : bI (sg a * sg b) := by
  unfold bI
  rcases sg_b a with h | h | h <;> rcases sg_b b with h' | h' | h' <;> rw [h, h'] <;> omega
theorem sg_0 (v : Int) : (sg v = 0) = (v = 0) := by unfold sg; by_cases c1 : 0 < v <;> by_cases c2 : v < 0 <;> simp [c1, c2] <;> omega
theorem sgm (a b : Int) : ((0 : Int32) ≤ cI (sg a) * cI (sg b)) = (opp a b = false) := by
  rw [← sg_opp, cI_mul, i0, cI_le ⟨by omega, by omega⟩ sg_ii]
theorem sge (a : Int) : (cI (sg a) = (0 : Int32)) = (a = 0) := by
  rw [← sg_0, i0, cI_eq sg_i ⟨by omega, by omega⟩]
set_option maxRecDepth 10000 in
set_option maxHeartbeats 4000000 in
theorem sm_meet {S : hs} {Z : Nat} {a b c d : Int32} {ax ay bx by_ cx cy dx dy : Int} {Post : Int32 → hs → Prop} (M : Md S Z) (A : Cm S Z a ax ay) (B : Cm S Z b bx by_) (C : Cm S Z c cx cy) (D : Cm S Z d dx dy) : PX7_doMeet Z a b c d S Post = Post (zb (gmeet ax ay bx by_ cx cy dx dy)) S := by
  obtain ⟨⟨a1, a2⟩, ⟨a3, a4⟩, a5, a6⟩ := A
  obtain ⟨⟨b1, b2⟩, ⟨b3, b4⟩, b5, b6⟩ := B
  obtain ⟨⟨c1, c2⟩, ⟨c3, c4⟩, c5, c6⟩ := C
  obtain ⟨⟨d1, d2⟩, ⟨d3, d4⟩, d5, d6⟩ := D
  have h0 : bI 0 := ⟨by omega, by omega⟩
  simp only [PX7_doMeet, PX7_doMeet_188, PX7_doMeet_239, PX7_doMeet_240, PX7_doMeet_296, PX7_doMeet_300, PX7_doMeet_301, PX7_doMeet_357, PX7_doMeet_361, PX7_doMeet_362, PX7_doMeet_418, PX7_doMeet_422, PX7_doMeet_423, eq_true M.1, M.r2, M.r3, Option.some.injEq, exists_eq_left', true_and, eq_true a1, eq_true a2, eq_true b1, eq_true b2, eq_true c1, eq_true c2, eq_true d1, eq_true d2, a3, a4, b3, b4, c3, c4, d3, d4, sm_way a5 a6 b5 b6 c5 c6, sm_way a5 a6 b5 b6 d5 d6, sm_way c5 c6 d5 d6 a5 a6, sm_way c5 c6 d5 d6 b5 b6, sm_between (cr_J a5) (cr_J a6) (cr_J b5) (cr_J b6) (cr_J c5) (cr_J c6), sm_between (cr_J a5) (cr_J a6) (cr_J b5) (cr_J b6) (cr_J d5) (cr_J d6), sm_between (cr_J c5) (cr_J c6) (cr_J d5) (cr_J d6) (cr_J a5) (cr_J a6), sm_between (cr_J c5) (cr_J c6) (cr_J d5) (cr_J d6) (cr_J b5) (cr_J b6), gB_gS1, sgm, sge, zb_0]
  unfold gmeet
  generalize gT ax ay bx by_ cx cy 1 = q1 at *
  generalize gT ax ay bx by_ dx dy 1 = q2 at *
  generalize gT cx cy dx dy ax ay 1 = q3 at *
  generalize gT cx cy dx dy bx by_ 1 = q4 at *
  generalize gS ax ay bx by_ cx cy 1 = s1
  generalize gS ax ay bx by_ dx dy 1 = s2
  generalize gS cx cy dx dy ax ay 1 = s3
  generalize gS cx cy dx dy bx by_ 1 = s4
  generalize opp q1 q2 = o1
  generalize opp q3 q4 = o2
  have z0 : zb false = 0 := rfl
  have z1 : zb true = 1 := rfl
  cases o1 <;> cases o2 <;> by_cases e1 : q1 = 0 <;> cases s1 <;> simp [e1, z0, z1] <;> by_cases e2 : q2 = 0 <;> cases s2 <;> simp [e2, z0, z1] <;> by_cases e3 : q3 = 0 <;> cases s3 <;> simp [e3, z0, z1] <;> by_cases e4 : q4 = 0 <;> cases s4 <;> simp [e4, z0, z1]
theorem sm_fold {S : hs} {Z : Nat} {b k h : Int32} {bx by_ kx ky hx hy : Int} {Post : Int32 → hs → Prop} (M : Md S Z) (B : Cm S Z b bx by_) (K : Cm S Z k kx ky) (H : Cm S Z h hx hy) : PX7_doFold Z b k h S Post = Post (zb (gfold kx ky bx by_ hx hy)) S := by
  obtain ⟨⟨a1, a2⟩, ⟨a3, a4⟩, a5, a6⟩ := B
  obtain ⟨⟨b1, b2⟩, ⟨b3, b4⟩, b5, b6⟩ := K
  obtain ⟨⟨c1, c2⟩, ⟨c3, c4⟩, c5, c6⟩ := H
  simp only [PX7_doFold, PX7_doFold_94, PX7_doFold_95, eq_true M.1, M.r2, M.r3, Option.some.injEq, exists_eq_left', true_and, eq_true a1, eq_true a2, eq_true b1, eq_true b2, eq_true c1, eq_true c2, a3, a4, b3, b4, c3, c4, forall_eq, cJ_sub, cJ_mul, cJ_add, j0]
  unfold cr at *
  have e1 := mb (C := 400) (D := 400) (c := bx - kx) (w := hy - ky) ⟨by omega, by omega⟩ ⟨by omega, by omega⟩
  have e2 := mb (C := 400) (D := 400) (c := by_ - ky) (w := hx - kx) ⟨by omega, by omega⟩ ⟨by omega, by omega⟩
  have e3 := mb (C := 400) (D := 400) (c := bx - kx) (w := hx - kx) ⟨by omega, by omega⟩ ⟨by omega, by omega⟩
  have e4 := mb (C := 400) (D := 400) (c := by_ - ky) (w := hy - ky) ⟨by omega, by omega⟩ ⟨by omega, by omega⟩
  unfold gfold
  generalize (bx - kx) * (hy - ky) = p1 at *
  generalize (by_ - ky) * (hx - kx) = p2 at *
  generalize (bx - kx) * (hx - kx) = p3 at *
  generalize (by_ - ky) * (hy - ky) = p4 at *
  have h0 : bJ 0 := ⟨by omega, by omega⟩
  have b1 : bJ p1 := ⟨by omega, by omega⟩
  have b2 : bJ p2 := ⟨by omega, by omega⟩
  have b3 : bJ (p3 + p4) := ⟨by omega, by omega⟩
  simp only [cJ_eq b1 b2, cJ_le b3 h0]
  by_cases c1 : p1 = p2
  · by_cases c2 : p3 + p4 ≤ 0
    · simp [c1, c2, show ¬ 0 < p3 + p4 by omega, zb]
    · simp [c1, c2, show 0 < p3 + p4 by omega, zb]
  · simp [c1, zb]
/-- a loop that goes on while its flag holds -/
theorem loopF {P : Nat → Nat → Bool → Prop} {p : Nat → Bool} {Q : Bool → Prop} {N lo : Nat} (h0 : ∀ j g, P 0 j g = False) (hs : ∀ n j, lo ≤ j → j < N → P (n + 1) j true = P n (j + 1) (p j)) (hf : ∀ n j, j < N → P (n + 1) j false = Q false) (hN : ∀ n g, P (n + 1) N g = Q g) :
    ∀ d j g, lo ≤ j → j + d = N → (∃ n, P n j g) = Q (g && af p j d) := by
  intro d j g hlo hd
  have e := loopS (σ := Bool) (P := P) (f := fun j g => if g = true then .inl (p j) else .inr (Q false)) (rN := Q) (N := N) (fun j _ => lo ≤ j) h0 (fun n j g hj hl => by
    cases g with
    | true => exact hs n j hl hj
    | false => exact hf n j hj) (fun _ _ _ _ h _ => Nat.le_succ_of_le h) (fun n g _ => hN n g) d j g hd hlo
  rw [e]
  clear e hd hlo
  induction d generalizing j g with
  | zero => cases g <;> rfl
  | succ d ih =>
    cases g with
    | true =>
      show lrun _ Q (j + 1) d (p j) = _
      rw [ih]
      rfl
    | false => rfl
theorem gnb_eq {n i j : Nat} (h1 : i < j) (h2 : j < n) : gnb n i j = (decide (j = i + 1) || (decide (i = 0) && decide (j = n - 1))) := by
  unfold gnb nx
  rw [if_pos (by omega)]
  by_cases c : j + 1 < n
  · rw [if_pos c]
    simp [show ¬ j + 1 = i by omega, show ¬ j = n - 1 by omega]
    exact eq_comm
  · rw [if_neg c]
    by_cases e1 : i = 0
    · simp [e1, show j = n - 1 by omega]
    · simp [e1, show ¬ 0 = i by omega]
      exact eq_comm
theorem nI_pr {n : Nat} (h : 0 < n) : nI n - 1 = nI (n - 1) := by
  obtain ⟨m, rfl⟩ : ∃ m, n = m + 1 := ⟨n - 1, by omega⟩
  exact nI_pred m
