/-! corner -/
theorem s_add {S : hs} {a n : Nat} {X Y : Nat → Int} {x y : Int} {Post : Int32 → hs → Prop} (R : RgC S a n X Y) : PX2_add a (cI x) (cI y) S Post = (if n < 12 then Post 1 (sI (sI (sI S (a + 1) n (cI x)) (a + 2) n (cI y)) a 2 (nI (n + 1))) else Post 0 S) := by
  have h12 := R.1.2.2.2.2.2.2.2.2
  have hsz := R.1.2.2.2.2.2.2.2.1
  have e1 : (nI n < (12 : Int32)) = (n < 12) := nI_ltk (y := 12) (by omega) (by omega)
  have kc : (nI n).toNatClampNeg = n := nI_clamp (by omega)
  have r1 : ∀ v, hi (sI S (a + 1) n v) a 2 = nI n := fun v => (rdI (Or.inl (by omega))).trans hsz
  have r2 : ∀ v w, hi (sI (sI S (a + 1) n v) (a + 2) n w) a 2 = nI n := fun v w => (rdI (Or.inl (by omega))).trans (r1 v)
  have hR1 : ∀ v, hr (sI S (a + 1) n v) a 1 = some (a + 2) := fun v => R.1.2.2.1
  by_cases h : n < 12
  · have i1 : ix S 8 (a + 1) (nI n) := ix_n R.1.2.2.2.1 R.1.2.2.2.2.2.1 h (by decide)
    have i2 : ix S 8 (a + 2) (nI n) := ix_n R.1.2.2.2.2.1 R.1.2.2.2.2.2.2.1 h (by decide)
    simp only [PX2_add, eq_true R.1.1, true_and, hsz, e1, h, not_true_eq_false, false_implies, true_implies, and_true, R.1.2.1, R.1.2.2.1, Option.some.injEq, exists_eq_left', eq_true i1, eq_true i2, is_I, ix_I, kc, forall_eq, r1, hR1, r2, nI_1, if_true]
  · simp only [PX2_add, eq_true R.1.1, true_and, hsz, e1, h, not_false_eq_true, false_implies, true_implies, if_false]
theorem s_addCorner {S : hs} {a c : Nat} {m : Bool} {sp : Int} {sz : Nat → Nat} {X Y : Nat → Nat → Int} {x y : Int} {Post : Int32 → hs → Prop} (A : ArC S a c m sp sz X Y) : PX0_addCorner a (cI x) (cI y) S Post = (if (m = true ∧ c < 4) ∧ sz c < 12 then Post 1 (sI (sI (sI S (a + 2 + 3 * c + 1) (sz c) (cI x)) (a + 2 + 3 * c + 2) (sz c) (cI y)) (a + 2 + 3 * c) 2 (nI (sz c + 1))) else Post 0 S) := by
  simp only [PX0_addCorner, PX0_addCorner_22, PX0_addCorner_23, eq_true A.o, true_and, s_being A]
  by_cases h : m = true ∧ c < 4
  · have B := A.r h.2
    simp only [h, and_self, if_true, reduceCtorEq, false_implies, Option.some.injEq, forall_eq', exists_eq_left', eq_true B.1.1, true_and, s_add B, or_true, true_or]
    by_cases h2 : sz c < 12
    · simp [h2]
    · simp [h2]
  · simp only [h, if_false, true_implies, reduceCtorEq, false_implies, implies_true, and_true, false_and, true_or, true_and]
theorem RgC.add {S S' : hs} {a n : Nat} {X Y : Nat → Int} {x y : Int} (R : RgC S a n X Y) (h : n < 12) (hx : cr x) (hy : cr y) (g : agr (sI (sI (sI S (a + 1) n (cI x)) (a + 2) n (cI y)) a 2 (nI (n + 1))) S' (fun b _ => a ≤ b ∧ b ≤ a + 2)) (hr0 : ∀ b j, hr S' b j = hr S b j) : RgC S' a (n + 1) (upn X n x) (upn Y n y) := by
  have f1 := fun j => (g.2 a j ⟨by omega, by omega⟩).1
  have f2 := fun j => (g.2 (a + 1) j ⟨by omega, by omega⟩).1
  have f3 := fun j => (g.2 (a + 2) j ⟨by omega, by omega⟩).1
  refine R.set (p := fun _ _ => False) ⟨g.1, fun a j h => h.elim⟩ hr0 ((f1 2).trans (up2_same _ _ _ _)) (by omega) (fun k hk => ?_)
  rw [f2, f3]
  have e1 : hi (sI (sI (sI S (a + 1) n (cI x)) (a + 2) n (cI y)) a 2 (nI (n + 1))) (a + 1) k = hi (sI S (a + 1) n (cI x)) (a + 1) k := by rw [rdI (Or.inl (by omega)), rdI (Or.inl (by omega))]
  have e2 : hi (sI (sI (sI S (a + 1) n (cI x)) (a + 2) n (cI y)) a 2 (nI (n + 1))) (a + 2) k = hi (sI (sI S (a + 1) n (cI x)) (a + 2) n (cI y)) (a + 2) k := by rw [rdI (Or.inl (by omega))]
  rw [e1, e2]
  by_cases e : k = n
  · subst e
    rw [upn_s, upn_s]
    exact ⟨⟨up2_same _ _ _ _, up2_same _ _ _ _⟩, hx, hy⟩
  · rw [upn_n _ _ e, upn_n _ _ e]
    have e3 : hi (sI S (a + 1) n (cI x)) (a + 1) k = hi S (a + 1) k := rdI (Or.inr e)
    have e4 : hi (sI (sI S (a + 1) n (cI x)) (a + 2) n (cI y)) (a + 2) k = hi S (a + 2) k := by rw [rdI (Or.inr e), rdI (Or.inl (by omega))]
    rw [e3, e4]
    exact R.2 k (by omega)
/-- both sides answer alike to corner: k says whether it threw -/
def Jc (n : Nat) (v : Int32) (x y : Int) (S : hs) : Prop := ∃ (k : Int32) (b : Bool) (S1 S2 : hs), (∀ Post, Post k S1 → PL_corner 0 v (cJ x) (cJ y) (70 + 14 * n) S Post) ∧ (∀ Post, Post (zb b) S2 → PX7_corner (49 + 14 * n) v (cJ x) (cJ y) S1 Post) ∧ Inv n S2 ∧ (hi S2 (49 + 14 * n) 0 = k ∧ (k = 0 → hj S2 (70 + 14 * n) 0 = (if b = true then 1 else 0))) ∧ shp S S1 ∧ shp S S2
section
variable {S : hs} {n : Nat} {A : Ga} {R : Nat × Gr} {T : Gk} {E : Gx}
theorem CS.hi (C : CS S n A R T E) {j : Nat} {v : Int64} : CS (sJ S (70 + 14 * n) j v) n A R T E := C.fr (p := fun b _ => b < 49 + 14 * n) (agr.rf.wJ (fun h => by omega)) (fun b j h => h)
theorem MS.hi (M : MS S n A R T E) {j : Nat} {v : Int64} : MS (sJ S (70 + 14 * n) j v) n A R T E := M.fr (p := pM (49 + 14 * n)) (agr.rf.wJ (fun h => by unfold pM at h; omega)) (fun j => rfl) (fun _ _ h => h)
theorem op_corner {v : Int32} {x y : Int} (C : CS S n A R T E) (M : MS S n A R T E) (hA : WA n A) (hT : WT T) (ho : is S 9 (70 + 14 * n) ∧ hz S (70 + 14 * n) = 1) (hx : bJ x) (hy : bJ y) : Jc n v x y S := by
  have c1 := C.1
  have h12 := c1.n12
  have ix0 : ix S 9 (70 + 14 * n) 0 := ix_n (n := 1) (i := 0) ho.1 ho.2 (by omega) (by omega)
  have c0 : Int32.toNatClampNeg 0 = 0 := rfl
  have gi' := fun S' P (w : Int) (hw : bJ w) => m_isIn (S := S') (Post := P) (v := w) (l := -200) (m := 200) hw ⟨by omega, by omega⟩ ⟨by omega, by omega⟩
  rw [show cJ (-200) = (-200 : Int64) by decide, show cJ 200 = (200 : Int64) by decide] at gi'
  rcases of_cases n (by omega) v with ⟨i, hi0, rfl⟩ | h
  · have a := c1.a hi0
    have c4 := a.c4
    have nn : ¬ (nI i < 0 ∨ nI n ≤ nI i) := fun h => h.elim (nI_pos (by omega)) (nI_ge hi0 (by omega))
    have k6 : ∀ P, PL_corner 0 (nI i) (cJ x) (cJ y) (70 + 14 * n) S P = (if gin x (-200) 200 = true ∧ gin y (-200) 200 = true ∧ (A.2.1 i = true ∧ A.1 i < 4) ∧ A.2.2.2.1 i (A.1 i) < 12 then P 0 (sJ (sI (sI (sI S (2 + 14 * i + 2 + 3 * A.1 i + 1) (A.2.2.2.1 i (A.1 i)) (cI x)) (2 + 14 * i + 2 + 3 * A.1 i + 2) (A.2.2.2.1 i (A.1 i)) (cI y)) (2 + 14 * i + 2 + 3 * A.1 i) 2 (nI (A.2.2.2.1 i (A.1 i) + 1))) (70 + 14 * n) 0 1) else P 0 (sJ S (70 + 14 * n) 0 0)) := by
      intro P
      simp only [PL_corner, PX6_corner, PX6_corner_16, PX6_corner_46, PX6_corner_47, eq_true c1.o, true_and, c1.r0, Option.some.injEq, exists_eq_left', eq_true c1.ao, c1.az, nn, false_implies, not_false_eq_true, true_implies, c_place hx hy, zb_0, eq_true (c1.ix hi0), c1.ri hi0, eq_true a.o, cJ_i, s_addCorner a, or_true, true_or, c0, forall_eq, o10, not_true_eq_false, and_true]
      cases gin x (-200) 200 <;> cases gin y (-200) 200 <;> by_cases h1 : A.2.1 i = true ∧ A.1 i < 4 <;> by_cases h2 : A.2.2.2.1 i (A.1 i) < 12 <;> simp [h1, h2, ix0, ix_I]
    by_cases hg : gin x (-200) 200 = true ∧ gin y (-200) 200 = true ∧ (A.2.1 i = true ∧ A.1 i < 4) ∧ A.2.2.2.1 i (A.1 i) < 12
    · obtain ⟨g1, g2, ⟨hm, hc4⟩, hz12⟩ := hg
      have B := a.r hc4
      have crx := gin_cr g1
      have cry := gin_cr g2
      have o6 : ∀ P, PL_corner 0 (nI i) (cJ x) (cJ y) (70 + 14 * n) S P = P 0 (sJ (sI (sI (sI S (2 + 14 * i + 2 + 3 * A.1 i + 1) (A.2.2.2.1 i (A.1 i)) (cI x)) (2 + 14 * i + 2 + 3 * A.1 i + 2) (A.2.2.2.1 i (A.1 i)) (cI y)) (2 + 14 * i + 2 + 3 * A.1 i) 2 (nI (A.2.2.2.1 i (A.1 i) + 1))) (70 + 14 * n) 0 1) := fun P => by
        rw [k6, if_pos ⟨g1, g2, ⟨hm, hc4⟩, hz12⟩]
      have aS : ArC (sI (sI (sI S (2 + 14 * i + 2 + 3 * A.1 i + 1) (A.2.2.2.1 i (A.1 i)) (cI x)) (2 + 14 * i + 2 + 3 * A.1 i + 2) (A.2.2.2.1 i (A.1 i)) (cI y)) (2 + 14 * i + 2 + 3 * A.1 i) 2 (nI (A.2.2.2.1 i (A.1 i) + 1))) (2 + 14 * i) (A.1 i) (A.2.1 i) (A.2.2.1 i) (upn (A.2.2.2.1 i) (A.1 i) (A.2.2.2.1 i (A.1 i) + 1)) (upn (A.2.2.2.2.1 i) (A.1 i) (upn (A.2.2.2.2.1 i (A.1 i)) (A.2.2.2.1 i (A.1 i)) x)) (upn (A.2.2.2.2.2 i) (A.1 i) (upn (A.2.2.2.2.2 i (A.1 i)) (A.2.2.2.1 i (A.1 i)) y)) := by
        refine a.upd (p := fun _ _ => False) (((agr.rf.wI (fun h => h)).wI (fun h => h)).wI (fun h => h)) (fun b j => rfl) ?_ ?_ a.fs c4 (fun r hr1 => ?_)
        · rw [rdI (Or.inl (by omega)), rdI (Or.inl (by omega)), rdI (Or.inl (by omega))]; exact a.cl
        · rw [rdI (Or.inl (by omega)), rdI (Or.inl (by omega)), rdI (Or.inl (by omega))]; exact a.mk
        · by_cases e : r = A.1 i
          · subst e
            rw [upn_s, upn_s, upn_s]
            exact B.add hz12 crx cry agr.rf (fun b j => rfl)
          · rw [upn_n _ _ e, upn_n _ _ e, upn_n _ _ e]
            exact (a.r hr1).fr (p := fun b j => 2 + 14 * i + 2 + 3 * r ≤ b ∧ b ≤ 2 + 14 * i + 2 + 3 * r + 2) (((agr.rf.wI (fun h => by omega)).wI (fun h => by omega)).wI (fun h => by omega)) (fun b j h1 h2 => ⟨h1, h2⟩)
      have CS1 := (C.updA hi0 (((agr.rf.wI (fun h => by unfold paC at h; omega)).wI (fun h => by unfold paC at h; omega)).wI (fun h => by unfold paC at h; omega)) aS).hi (j := 0) (v := 1)
      have M1 : MS (sJ (sI (sI (sI S (2 + 14 * i + 2 + 3 * A.1 i + 1) (A.2.2.2.1 i (A.1 i)) (cI x)) (2 + 14 * i + 2 + 3 * A.1 i + 2) (A.2.2.2.1 i (A.1 i)) (cI y)) (2 + 14 * i + 2 + 3 * A.1 i) 2 (nI (A.2.2.2.1 i (A.1 i) + 1))) (70 + 14 * n) 0 1) n A R T E := (M.up (((agr.rf.wI (fun h => by unfold pU at h; omega)).wI (fun h => by unfold pU at h; omega)).wI (fun h => by unfold pU at h; omega))).hi
      have sh1 : shp S (sJ (sI (sI (sI S (2 + 14 * i + 2 + 3 * A.1 i + 1) (A.2.2.2.1 i (A.1 i)) (cI x)) (2 + 14 * i + 2 + 3 * A.1 i + 2) (A.2.2.2.1 i (A.1 i)) (cI y)) (2 + 14 * i + 2 + 3 * A.1 i) 2 (nI (A.2.2.2.1 i (A.1 i) + 1))) (70 + 14 * n) 0 1) := shp.rf
      have out1 : hj (sJ (sI (sI (sI S (2 + 14 * i + 2 + 3 * A.1 i + 1) (A.2.2.2.1 i (A.1 i)) (cI x)) (2 + 14 * i + 2 + 3 * A.1 i + 2) (A.2.2.2.1 i (A.1 i)) (cI y)) (2 + 14 * i + 2 + 3 * A.1 i) 2 (nI (A.2.2.2.1 i (A.1 i) + 1))) (70 + 14 * n) 0 1) (70 + 14 * n) 0 = 1 := up2_same _ _ _ _
      clear k6
      generalize sJ (sI (sI (sI S (2 + 14 * i + 2 + 3 * A.1 i + 1) (A.2.2.2.1 i (A.1 i)) (cI x)) (2 + 14 * i + 2 + 3 * A.1 i + 2) (A.2.2.2.1 i (A.1 i)) (cI y)) (2 + 14 * i + 2 + 3 * A.1 i) 2 (nI (A.2.2.2.1 i (A.1 i) + 1))) (70 + 14 * n) 0 1 = S1 at *
      have m1 := (M1.code (v := 0)).1
      have a' := m1.a hi0
      have B' := a'.r hc4
      have i12 := a'.1.2.1
      have e12 : (nI (A.2.2.2.1 i (A.1 i)) = nI 12) = (A.2.2.2.1 i (A.1 i) = 12) := propext (nI_eq (b := 12) (by omega) (by omega))
      have q5 : (4 * i + A.1 i) < 48 := by omega
      have x3 := m1.1.x3 q5
      have x1 := m1.1.x1 (i := 12 * (4 * i + A.1 i) + A.2.2.2.1 i (A.1 i)) (by omega)
      have x2 := m1.1.x2 (i := 12 * (4 * i + A.1 i) + A.2.2.2.1 i (A.1 i)) (by omega)
      have g0 : ¬ (0 : Int32) < 0 := by decide
      refine ⟨0, true, S1, sI (sJ (sJ (sI S1 (49 + 14 * n) 0 0) (49 + 14 * n + 1) (12 * (4 * i + A.1 i) + A.2.2.2.1 i (A.1 i)) (cJ x)) (49 + 14 * n + 2) (12 * (4 * i + A.1 i) + A.2.2.2.1 i (A.1 i)) (cJ y)) (49 + 14 * n + 3) (4 * i + A.1 i) (nI (A.2.2.2.1 i (A.1 i) + 1)), fun P h => by rw [o6]; exact h, fun P h => ?_, ⟨_, R, T, E, CS1.low (S' := _) (((((agr.rf.wI (fun h => by unfold pL at h; omega)).wJ (fun h => by unfold pL at h; omega)).wJ (fun h => by unfold pL at h; omega)).wI (fun h => by unfold pL at h; omega))), ?_, ?_, hT⟩, ⟨?_, fun _ => ?_⟩, sh1, sh1⟩
      · have cd : hi (sI S1 (49 + 14 * n) 0 0) (49 + 14 * n) 0 = 0 := up2_same _ _ _ _
        have hx3 : ∀ (S' : hs), ix S' 8 (49 + 14 * n + 3) (nI (4 * i + A.1 i)) = ix S' 8 (49 + 14 * n + 3) (nI (4 * i + A.1 i)) := fun _ => rfl
        have rs : hi (sI S1 (49 + 14 * n) 0 0) (49 + 14 * n + 3) (4 * i + A.1 i) = nI (A.2.2.2.1 i (A.1 i)) := B'.1.2.2.1
        simp only [PX7_corner, PX7_corner_14, PX7_corner_60, eq_true M1.1.1.1, true_and, m_area_in M1.1 h12.2 hi0, o10, false_implies, not_false_eq_true, true_implies, forall_eq, eq_true m1.1.1, cd, g0, m1.1.r6, m1.1.r5, m1.1.r4, m1.1.r2, m1.1.r3, Option.some.injEq, exists_eq_left', eq_true a'.x5, a'.mk, hm, zbt, gi' _ _ x hx, gi' _ _ y hy, g1, g2, eq_true a'.x4, a'.cl, nI_4, eq_true x3, nI_clamp (show 4 * i + A.1 i < 2 ^ 31 by omega), rs, e12, show ¬ A.2.2.2.1 i (A.1 i) = 12 by omega, n12, nI_mulk, nI_addk, eq_true x1, nI_clamp (show 12 * (4 * i + A.1 i) + A.2.2.2.1 i (A.1 i) < 2 ^ 31 by omega), is_J, ix_J, eq_true x2, nI_1]
        exact h
      · refine M1.updA hi0 (fun j => rfl) ((((agr.rf.wI (fun h => (h.1.2.2 rfl).1 rfl)).wJ (fun h => h.2 (by unfold mA; omega))).wJ (fun h => h.2 (by unfold mA; omega))).wI (fun h => h.2 (by unfold mA; omega))) (fun hM => ⟨⟨hM, i12, ?_, ?_, ?_, c4⟩, fun r hr1 => ?_⟩)
        · exact (rdI (S := sI S1 (49 + 14 * n) 0 0) (Or.inl (by omega))).trans a'.1.2.2.1
        · exact (rdI (S := sI S1 (49 + 14 * n) 0 0) (Or.inl (by omega))).trans a'.1.2.2.2.1
        · exact (rdJ (S := sJ (sI S1 (49 + 14 * n) 0 0) (49 + 14 * n + 1) (12 * (4 * i + A.1 i) + A.2.2.2.1 i (A.1 i)) (cJ x)) (Or.inl (by omega))).trans ((rdJ (S := sI S1 (49 + 14 * n) 0 0) (Or.inl (by omega))).trans a'.1.2.2.2.2.1)
        · by_cases e : r = A.1 i
          · subst e
            rw [upn_s, upn_s, upn_s]
            refine ⟨⟨hM, q5, up2_same _ _ _ _, by omega⟩, fun k hk => ?_⟩
            show (hj (sJ (sJ (sI S1 (49 + 14 * n) 0 0) (49 + 14 * n + 1) (12 * (4 * i + A.1 i) + A.2.2.2.1 i (A.1 i)) (cJ x)) (49 + 14 * n + 2) (12 * (4 * i + A.1 i) + A.2.2.2.1 i (A.1 i)) (cJ y)) (49 + 14 * n + 1) (12 * (4 * i + A.1 i) + k) = _ ∧ hj (sJ (sJ (sI S1 (49 + 14 * n) 0 0) (49 + 14 * n + 1) (12 * (4 * i + A.1 i) + A.2.2.2.1 i (A.1 i)) (cJ x)) (49 + 14 * n + 2) (12 * (4 * i + A.1 i) + A.2.2.2.1 i (A.1 i)) (cJ y)) (49 + 14 * n + 2) (12 * (4 * i + A.1 i) + k) = _) ∧ _
            rw [rdJ (b := 49 + 14 * n + 1) (Or.inl (by omega))]
            by_cases e : k = A.2.2.2.1 i (A.1 i)
            · subst e
              rw [upn_s, upn_s]
              exact ⟨⟨up2_same _ _ _ _, up2_same _ _ _ _⟩, crx, cry⟩
            · rw [upn_n _ _ e, upn_n _ _ e, rdJ (Or.inr (by omega)), rdJ (Or.inr (by omega)), rdJ (Or.inl (by omega))]
              exact B'.2 k (by omega)
          · rw [upn_n _ _ e, upn_n _ _ e, upn_n _ _ e]
            refine (a'.r hr1).fr2 (p := fun b j => (b = 49 + 14 * n + 1 ∨ b = 49 + 14 * n + 2) ∧ 12 * (4 * i + r) ≤ j ∧ j < 12 * (4 * i + r) + 12 ∨ b = 49 + 14 * n + 3 ∧ j = 4 * i + r) (((agr.rf.wJ (fun h => by omega)).wJ (fun h => by omega)).wI (fun h => by omega)) hM (fun k hk => ⟨by omega, by omega⟩) (by omega)
      · refine hA.set (hA i hi0).1 (hA i hi0).2.1 (fun r hr1 => ?_)
        rw [upn_n _ _ (by omega), upn_n _ _ (by omega), upn_n _ _ (by omega)]
        exact (hA i hi0).2.2 r hr1
      · exact (rdI (S := sI S1 (49 + 14 * n) 0 0) (Or.inl (by omega))).trans (up2_same _ _ _ _)
      · exact (rdJ (S := sJ (sI S1 (49 + 14 * n) 0 0) (49 + 14 * n + 1) (12 * (4 * i + A.1 i) + A.2.2.2.1 i (A.1 i)) (cJ x)) (Or.inl (by omega))).trans ((rdJ (S := sI S1 (49 + 14 * n) 0 0) (Or.inl (by omega))).trans out1)
    · have o6 : ∀ P, PL_corner 0 (nI i) (cJ x) (cJ y) (70 + 14 * n) S P = P 0 (sJ S (70 + 14 * n) 0 0) := fun P => by rw [k6, if_neg hg]
      have M1 := M.hi (j := 0) (v := 0)
      have C1 := C.hi (j := 0) (v := 0)
      have out1 : hj (sJ S (70 + 14 * n) 0 0) (70 + 14 * n) 0 = 0 := up2_same _ _ _ _
      have sh1 : shp S (sJ S (70 + 14 * n) 0 0) := shp.rf
      generalize sJ S (70 + 14 * n) 0 0 = S1 at *
      have m1 := (M1.code (v := 0)).1
      have a' := m1.a hi0
      have i12 := a'.1.2.1
      have h12' : ∀ r, r < 4 → A.2.2.2.1 i r ≤ 12 := fun r hr1 => (a'.r hr1).1.2.2.2
      refine ⟨0, false, S1, sI S1 (49 + 14 * n) 0 0, fun P h => by rw [o6]; exact h, fun P h => ?_, ⟨A, R, T, E, C1.low g_code, M1.code, hA, hT⟩, ⟨up2_same _ _ _ _, fun _ => out1⟩, sh1, sh1⟩
      have cd : hi (sI S1 (49 + 14 * n) 0 0) (49 + 14 * n) 0 = 0 := up2_same _ _ _ _
      have g0 : ¬ (0 : Int32) < 0 := by decide
      simp only [PX7_corner, PX7_corner_14, PX7_corner_60, eq_true M1.1.1.1, true_and, m_area_in M1.1 h12.2 hi0, o10, false_implies, not_false_eq_true, true_implies, forall_eq, eq_true m1.1.1, cd, g0, m1.1.r6, Option.some.injEq, exists_eq_left', eq_true a'.x5, a'.mk, gi' _ _ x hx, gi' _ _ y hy, zb_0]
      cases hm : A.2.1 i with
      | false => simp; exact h
      | true =>
        have hc4 := (hA i hi0).2.1 hm
        cases g1 : gin x (-200) 200 with
        | false => simp; exact h
        | true =>
          cases g2 : gin y (-200) 200 with
          | false => simp; exact h
          | true =>
            have z12 : A.2.2.2.1 i (A.1 i) = 12 := by
              have := h12' _ hc4
              refine Classical.byContradiction fun q => hg ⟨g1, g2, ⟨hm, hc4⟩, by omega⟩
            have rs : hi (sI S1 (49 + 14 * n) 0 0) (49 + 14 * n + 3) (4 * i + A.1 i) = nI (A.2.2.2.1 i (A.1 i)) := (a'.r hc4).1.2.2.1
            have x3 := m1.1.x3 (i := 4 * i + A.1 i) (by omega)
            have e12 : (nI 12 = (12 : Int32)) = True := eq_true rfl
            simp only [reduceCtorEq, not_false_eq_true, not_true_eq_false, Bool.true_eq_false, true_implies, false_implies, true_and, m1.1.r5, m1.1.r4, Option.some.injEq, exists_eq_left', eq_true a'.x4, a'.cl, nI_4, eq_true x3, nI_clamp (show 4 * i + A.1 i < 2 ^ 31 by omega), rs, z12, e12, and_true]
            exact h
  · have m1 : MA (sI S (49 + 14 * n) 0 1) (49 + 14 * n) n A := (M.code (v := 1)).1
    have cd : hi (sI S (49 + 14 * n) 0 1) (49 + 14 * n) 0 = 1 := up2_same _ _ _ _
    have g0 : (0 : Int32) < 1 := by decide
    refine ⟨1, false, S, sI S (49 + 14 * n) 0 1, fun P hp => ?_, fun P hp => ?_, ⟨A, R, T, E, C.low g_code, M.code, hA, hT⟩, ⟨cd, fun h => absurd h (by decide)⟩, shp.rf, shp.rf⟩
    · simp only [PL_corner, PX6_corner, eq_true c1.o, true_and, c1.r0, Option.some.injEq, exists_eq_left', eq_true c1.ao, c1.az, h, not_true_eq_false, false_implies, true_implies, and_true]
      exact hp
    · simp only [PX7_corner, PX7_corner_14, PX7_corner_60, eq_true M.1.1.1, true_and, m_area_out M.1 h, not_true_eq_false, false_implies, true_implies, and_true, forall_eq, eq_true m1.1.1, cd, g0]
      exact hp
end
