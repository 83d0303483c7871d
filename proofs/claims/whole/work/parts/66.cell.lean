/-! cell -/
theorem xr_congr {f g : Nat → Bool} : ∀ d k o, (∀ j, k ≤ j → j < k + d → f j = g j) → xr f k d o = xr g k d o
  | 0, k, o, _ => rfl
  | d + 1, k, o, h => by
    unfold xr
    rw [h k (by omega) (by omega)]
    exact xr_congr d (k + 1) _ (fun j h1 h2 => h j (by omega) (by omega))
theorem gT_far {ax ay bx by_ x y : Int} : gT ax ay bx by_ x y 1 = (bx - x) * (y - ay) + (ax - x) * (by_ - y) := by
  unfold gT
  grind
theorem cc_0 {hA hB p : Int} (h : 0 ≤ hA ↔ 0 ≤ hB) : cc hA hB p = false := by
  unfold cc
  have e : decide (0 ≤ hA) = decide (0 ≤ hB) := decide_eq_decide.mpr h
  rw [e]
  simp
theorem cc_1 {hA hB p : Int} (h1 : 0 ≤ hA) (h2 : ¬ 0 ≤ hB) : cc hA hB p = !decide (p ≤ 0) := by
  unfold cc
  rw [decide_eq_true h1, decide_eq_false h2]
  simp
theorem cc_2 {hA hB p : Int} (h1 : ¬ 0 ≤ hA) (h2 : 0 ≤ hB) : cc hA hB p = decide (p ≤ 0) := by
  unfold cc
  rw [decide_eq_false h1, decide_eq_true h2]
  simp
/-- far from all corners: out -/
theorem gloc_far {n : Nat} {X Y : Nat → Int} {x y : Int} (hb : ∀ k, k < n → cr (X k) ∧ cr (Y k)) (ho : x < -200 ∨ 200 < x ∨ y < -200 ∨ 200 < y) : gloc n X Y x y 1 = -1 := by
  unfold gloc
  rw [glo_xr n 0 false (fun j _ hj => ?_)]
  · have key : ∃ G : Nat → Bool, ∀ k, k < n → gcross (X k) (Y k) (X (nx n k)) (Y (nx n k)) x y 1 = (G k ^^ G (nx n k)) := by
      rcases ho with h | h | h | h
      · refine ⟨fun k => decide (0 ≤ y - Y k), fun k hk => ?_⟩
        obtain ⟨a1, a2⟩ := hb k hk
        obtain ⟨b1, b2⟩ := hb _ (nx_lt hk)
        rw [cc_g, gT_far, Int.mul_one, Int.mul_one]
        unfold cr at *
        show _ = (decide (0 ≤ y - Y k) ^^ decide (0 ≤ y - Y (nx n k)))
        generalize X k = ax at *
        generalize Y k = ay at *
        generalize X (nx n k) = bx at *
        generalize Y (nx n k) = by_ at *
        by_cases c1 : 0 ≤ y - ay <;> by_cases c2 : 0 ≤ y - by_
        · rw [cc_0 (by omega), decide_eq_true c1, decide_eq_true c2]; rfl
        · have e1 := Int.mul_nonneg (show 0 ≤ bx - x by omega) c1
          have e2 := Int.mul_pos (show 0 < ax - x by omega) (show 0 < by_ - y by omega)
          rw [cc_1 c1 c2, decide_eq_false (show ¬ (bx - x) * (y - ay) + (ax - x) * (by_ - y) ≤ 0 by omega), decide_eq_true c1, decide_eq_false c2]; rfl
        · have e1 := Int.mul_neg_of_pos_of_neg (show 0 < bx - x by omega) (show y - ay < 0 by omega)
          have e2 := Int.mul_nonpos_of_nonneg_of_nonpos (show 0 ≤ ax - x by omega) (show by_ - y ≤ 0 by omega)
          rw [cc_2 c1 c2, decide_eq_true (show (bx - x) * (y - ay) + (ax - x) * (by_ - y) ≤ 0 by omega), decide_eq_false c1, decide_eq_true c2]; rfl
        · rw [cc_0 (by omega), decide_eq_false c1, decide_eq_false c2]; rfl
      · refine ⟨fun k => false, fun k hk => ?_⟩
        obtain ⟨a1, a2⟩ := hb k hk
        obtain ⟨b1, b2⟩ := hb _ (nx_lt hk)
        rw [cc_g, gT_far, Int.mul_one, Int.mul_one]
        unfold cr at *
        show _ = false
        generalize X k = ax at *
        generalize Y k = ay at *
        generalize X (nx n k) = bx at *
        generalize Y (nx n k) = by_ at *
        by_cases c1 : 0 ≤ y - ay <;> by_cases c2 : 0 ≤ y - by_
        · rw [cc_0 (by omega)]
        · have e1 := Int.mul_nonpos_of_nonpos_of_nonneg (show bx - x ≤ 0 by omega) c1
          have e2 := Int.mul_neg_of_neg_of_pos (show ax - x < 0 by omega) (show 0 < by_ - y by omega)
          rw [cc_1 c1 c2, decide_eq_true (show (bx - x) * (y - ay) + (ax - x) * (by_ - y) ≤ 0 by omega)]; rfl
        · have e1 := Int.mul_pos_of_neg_of_neg (show bx - x < 0 by omega) (show y - ay < 0 by omega)
          have e2 := Int.mul_nonneg_of_nonpos_of_nonpos (show ax - x ≤ 0 by omega) (show by_ - y ≤ 0 by omega)
          rw [cc_2 c1 c2, decide_eq_false (show ¬ (bx - x) * (y - ay) + (ax - x) * (by_ - y) ≤ 0 by omega)]
        · rw [cc_0 (by omega)]
      · refine ⟨fun k => false, fun k hk => ?_⟩
        obtain ⟨a1, a2⟩ := hb k hk
        obtain ⟨b1, b2⟩ := hb _ (nx_lt hk)
        rw [cc_g, Int.mul_one, Int.mul_one]
        unfold cr at *
        rw [cc_0 (by omega)]
        rfl
      · refine ⟨fun k => false, fun k hk => ?_⟩
        obtain ⟨a1, a2⟩ := hb k hk
        obtain ⟨b1, b2⟩ := hb _ (nx_lt hk)
        rw [cc_g, Int.mul_one, Int.mul_one]
        unfold cr at *
        rw [cc_0 (by omega)]
        rfl
    obtain ⟨G, hG⟩ := key
    rw [xr_congr n 0 false (fun j _ hj => hG j (by omega))]
    cases n with
    | zero => rfl
    | succ m =>
      rw [xr_t G (m + 1) m 0 (by omega)]
      cases G 0 <;> rfl
  · obtain ⟨a1, a2⟩ := hb j (by omega)
    obtain ⟨b1, b2⟩ := hb _ (nx_lt (show j < n by omega))
    rw [Bool.eq_false_iff]
    intro q
    unfold gon at q
    rw [Bool.and_eq_true, gS_bet (by decide)] at q
    obtain ⟨-, q1, q2⟩ := q
    rw [Int.mul_one, Int.mul_one] at q1 q2
    unfold bet at q1 q2
    unfold cr at *
    omega
section
variable {S : hs} {n : Nat} {A : Ga} {R : Nat × Gr} {T : Gk} {E : Gx} {x y d : Int}
def gcl (A : Ga) (R : Nat × Gr) (x y d : Int) (k : Nat) : Bool := decide (0 < A.1 k) && (gbar R.1 R.2 k (-1) d && ghas (A.1 k) (A.2.2.2.1 k) (A.2.2.2.2.1 k) (A.2.2.2.2.2 k) x y 1)
theorem bw_I (hx : bI x) (hy : bI y) : bw x y 1 := by unfold bI at *; exact ⟨⟨by omega, by omega⟩, ⟨by omega, by omega⟩, by omega, by omega⟩
theorem c_cell {Post : Int32 → hs → Prop} (C : CS S n A R T E) (hx : bI x) (hy : bI y) (hd : bJ d) : (∃ f, PX6_cell_18 Post f 0 (cI x) (cI y) (cJ d) (nI 0) (nI 0) S) = Post (nI (itr (cnt (gcl A R x y d)) 0 n 0)) S := by
  obtain ⟨c1, c2, c3, -⟩ := C
  have h12 := c1.n12
  refine loopI (σ := Nat) (P := fun f k c => PX6_cell_18 Post f 0 (cI x) (cI y) (cJ d) (nI c) (nI k) S) (g := cnt (gcl A R x y d)) (rN := fun c => Post (nI c) S) (N := n) (fun _ _ => True) (fun j s => rfl) (fun f k c hk _ => ?_) (fun _ _ _ _ => trivial) (fun f c _ => ?_) n 0 0 (by omega) trivial
  · have c4 : ¬ nI n ≤ nI k := nI_ge hk (by omega)
    have a := c1.a hk
    have eb : ∀ P : Int32 → hs → Prop, PX3_barAny (2 + 14 * n) (nI k) (cJ d) S P = P (zb (gbar R.1 R.2 k (-1) d)) S := fun P => s_barAny c2.2 (⟨by omega, by omega⟩ : bI (k : Int)) hd
    show PX6_cell_18 Post (f + 1) 0 (cI x) (cI y) (cJ d) (nI c) (nI k) S = _
    simp only [PX6_cell_18, PX6_cell_71, eq_true c1.o, true_and, c1.r0, Option.some.injEq, exists_eq_left', eq_true c1.ao, c1.az, c4, false_implies, not_false_eq_true, true_implies, c_there c1 hk, zb_0, c2.1, eq_true c2.2.1.1, eb, eq_true (c1.ix hk), c1.ri hk, eq_true a.o, cI_l hx, cI_l hy, j1, s_contains a (bw_I hx hy), nI_1, forall_eq]
    cases h1 : decide (0 < A.1 k) <;> cases h2 : gbar R.1 R.2 k (-1) d <;> cases h3 : ghas (A.1 k) (A.2.2.2.1 k) (A.2.2.2.2.1 k) (A.2.2.2.2.2 k) x y 1 <;> simp [cnt, gcl, h1, h2, h3]
  · have c4 : nI n ≤ nI n := nI_le (Nat.le_refl _) (by omega)
    show PX6_cell_18 Post (f + 1) 0 (cI x) (cI y) (cJ d) (nI c) (nI n) S = _
    simp only [PX6_cell_18, eq_true c1.o, true_and, c1.r0, Option.some.injEq, exists_eq_left', eq_true c1.ao, c1.az, c4, not_true_eq_false, false_implies, true_implies, and_true]
theorem m_cell {Post : Int32 → hs → Prop} (M : MS S n A R T E) (hn : n ≤ 12) (hx : bI x) (hy : bI y) (hd : bJ d) : (∃ f, PX7_cell_11 Post f (49 + 14 * n) (cI x) (cI y) (cJ d) (nI 0) (nI 0) S) = Post (nI (itr (cnt (gcl A R x y d)) 0 n 0)) S := by
  obtain ⟨m1, m2, m3, -⟩ := M
  refine loopI (σ := Nat) (P := fun f k c => PX7_cell_11 Post f (49 + 14 * n) (cI x) (cI y) (cJ d) (nI c) (nI k) S) (g := cnt (gcl A R x y d)) (rN := fun c => Post (nI c) S) (N := n) (fun _ _ => True) (fun j s => rfl) (fun f k c hk _ => ?_) (fun _ _ _ _ => trivial) (fun f c _ => ?_) n 0 0 (by omega) trivial
  · have c4 : ¬ nI n ≤ nI k := nI_ge hk (by omega)
    have a := m1.a hk
    have h4 := a.c4
    have M := m1.1
    have eb : ∀ P : Int32 → hs → Prop, PX7_isBarred (49 + 14 * n) (nI k) (-1) (cJ d) S P = P (zb (gbar R.1 R.2 k (-1) d)) S := fun P => by
      have q := m_barred (S := S) (Z := 49 + 14 * n) (g := -1) (x := (k : Int)) (Post := P) m2 ⟨by omega, by omega⟩ ⟨by omega, by omega⟩ hd
      rw [show cI (-1) = (-1 : Int32) by decide] at q
      exact q
    have e0 : (nI (A.1 k) ≤ (0 : Int32)) = (A.1 k = 0) := nI_le0 (by omega)
    show PX7_cell_11 Post (f + 1) (49 + 14 * n) (cI x) (cI y) (cJ d) (nI c) (nI k) S = _
    by_cases hc : A.1 k = 0
    · simp only [PX7_cell_11, PX7_cell_62, PX7_cell_64, eq_true M.1, true_and, m1.2.1, c4, false_implies, not_false_eq_true, true_implies, M.r5, Option.some.injEq, exists_eq_left', eq_true a.x4, a.cl, e0, eq_true hc, not_true_eq_false, and_true, nI_1, forall_eq]
      simp [cnt, gcl, hc]
    · simp only [PX7_cell_11, PX7_cell_62, PX7_cell_64, eq_true M.1, true_and, m1.2.1, c4, false_implies, not_false_eq_true, true_implies, M.r5, Option.some.injEq, exists_eq_left', eq_true a.x4, a.cl, e0, hc, cI_l hx, cI_l hy, j1, m_has a (show 0 < A.1 k by omega) (bw_I hx hy), zb_0, eb, nI_1, forall_eq]
      have h1 : decide (0 < A.1 k) = true := by simp; omega
      cases h2 : gbar R.1 R.2 k (-1) d <;> cases h3 : ghas (A.1 k) (A.2.2.2.1 k) (A.2.2.2.2.1 k) (A.2.2.2.2.2 k) x y 1 <;> simp [cnt, gcl, h1, h2, h3]
  · have c4 : nI n ≤ nI n := nI_le (Nat.le_refl _) (by omega)
    show PX7_cell_11 Post (f + 1) (49 + 14 * n) (cI x) (cI y) (cJ d) (nI c) (nI n) S = _
    simp only [PX7_cell_11, eq_true m1.1.1, true_and, m1.2.1, c4, not_true_eq_false, false_implies, true_implies, and_true]
theorem op_cell (C : CS S n A R T E) (M : MS S n A R T E) (hA : WA n A) (hT : WT T) (hx : bI x) (hy : bI y) (hd : bJ d) : Jo n (PX6_cell 0 (cI x) (cI y) (cJ d)) (PX7_cell (49 + 14 * n) (cI x) (cI y) (cJ d)) S := by
  have h12 := C.1.n12
  have M2 := M.code (v := 0)
  have jx : bJ x := by unfold bI at hx; exact ⟨by omega, by omega⟩
  have jy : bJ y := by unfold bI at hy; exact ⟨by omega, by omega⟩
  refine Jo.ro C M hA hT (nI (itr (cnt (gcl A R x y d)) 0 n 0)) (fun P => ?_) (fun P => ?_)
  · simp only [PX6_cell, cI_l hx, cI_l hy, c_place jx jy, zb_0]
    have hl := c_cell (Post := P) C hx hy hd
    rw [nI_0] at hl
    cases hg : gin x (-200) 200 && gin y (-200) 200 with
    | true => simp only [reduceCtorEq, false_implies, not_false_eq_true, true_implies, true_and, hl]
    | false =>
      simp only [true_implies, not_true_eq_false, false_implies, and_true]
      have z : itr (cnt (gcl A R x y d)) 0 n 0 = 0 := by
        refine cnt_0 _ n 0 0 (fun k _ hk => ?_)
        have a := C.1.a (show k < n by omega)
        have far : ¬ (0 ≤ gloc (A.2.2.2.1 k 0) (A.2.2.2.2.1 k 0) (A.2.2.2.2.2 k 0) x y 1) := by
          rw [gloc_far (fun j hj => (a.r0.2 j hj).2) (by
            unfold gin at hg
            refine Classical.byContradiction fun q => ?_
            have : (decide (-200 ≤ x) && decide (x ≤ 200) && (decide (-200 ≤ y) && decide (y ≤ 200))) = true := by simp; omega
            rw [this] at hg
            cases hg)]
          omega
        unfold gcl ghas
        simp [far]
      rw [z]
      rfl
  · simp only [PX7_cell, eq_true M.1.1.1, true_and, forall_eq]
    have hl := m_cell (Post := P) M2 h12.2 hx hy hd
    rw [nI_0] at hl
    rw [hl]
end
