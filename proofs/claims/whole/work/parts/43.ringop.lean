/-! ring -/
def gfit (c : Nat) (sz : Nat → Nat) (X Y : Nat → Nat → Int) : Bool := af (fun r => !gmeets (sz c) (X c) (Y c) (sz r) (X r) (Y r)) 0 c && ghas c sz X Y (X c 0) (Y c 0) 1
def ggood (c : Nat) (sz : Nat → Nat) (X Y : Nat → Nat → Int) : Bool := gsimple (sz c) (X c) (Y c) && (decide (c = 0) || gfit c sz X Y)
theorem gsimple_3 {n : Nat} {X Y : Nat → Int} (h : gsimple n X Y = true) : 3 ≤ n := by
  unfold gsimple at h
  simp at h
  exact h.1
theorem gsimple_ok {n : Nat} {X Y : Nat → Int} (h : gsimple n X Y = true) : okR n X Y := by
  have h3 := gsimple_3 h
  unfold gsimple at h
  rw [Bool.and_eq_true] at h
  have h2 := (af_true n 0).mp h.2
  refine ⟨h3, fun k hk => ?_⟩
  have hg := h2 k (by omega) (by omega)
  unfold grow at hg
  rw [Bool.and_eq_true] at hg
  refine ⟨?_, by simpa using hg.1⟩
  rintro ⟨e1, e2⟩
  by_cases hl : k + 1 < n
  · have hp := (af_true _ _).mp hg.2 (k + 1) (by omega) (by omega)
    unfold nx at e1 e2
    rw [if_pos hl] at e1 e2
    unfold gpair at hp
    simp [e1, e2] at hp
  · have hg0 := h2 0 (by omega) (by omega)
    unfold grow at hg0
    rw [Bool.and_eq_true] at hg0
    have hp := (af_true _ _).mp hg0.2 k (by omega) (by omega)
    unfold nx at e1 e2
    rw [if_neg hl] at e1 e2
    unfold gpair at hp
    simp [e1, e2] at hp
theorem s_fits {S : hs} {a c : Nat} {m : Bool} {sp : Int} {sz : Nat → Nat} {X Y : Nat → Nat → Int} {Post : Int32 → hs → Prop} (A : ArC S a c m sp sz X Y) (hc : c < 4) (hz0 : 0 < sz c) : PX0_fitsAsHole a (a + 2 + 3 * c) S Post = Post (zb (gfit c sz X Y)) S := by
  have B := A.r hc
  have x1 := (B.2 0 hz0).2
  have hl : (∃ f, PX0_fitsAsHole_2 Post f a (a + 2 + 3 * c) (nI 0) S) = (if af (fun r => !gmeets (sz c) (X c) (Y c) (sz r) (X r) (Y r)) 0 c = true then Post (zb (ghas c sz X Y (X c 0) (Y c 0) 1)) S else Post 0 S) := by
    refine loopA (P := fun f r => PX0_fitsAsHole_2 Post f a (a + 2 + 3 * c) (nI r) S) (N := c) (fun j => rfl) (fun f r hr0 => ?_) (fun f => ?_) c 0 (by omega)
    · have q1 : ¬ nI c ≤ nI r := nI_ge hr0 (by omega)
      have G := A.r (r := r) (by omega)
      show PX0_fitsAsHole_2 Post (f + 1) a (a + 2 + 3 * c) (nI r) S = _
      simp only [PX0_fitsAsHole_2, eq_true A.o, true_and, A.cl, q1, false_implies, not_false_eq_true, true_implies, s_ringOf A hr0, Option.some.injEq, exists_eq_left', eq_true B.1.1, sp_meets B G, zb_0, nI_1, forall_eq]
      cases gmeets (sz c) (X c) (Y c) (sz r) (X r) (Y r) <;> simp
    · have q1 : nI c ≤ nI c := nI_le (Nat.le_refl _) (by omega)
      show PX0_fitsAsHole_2 Post (f + 1) a (a + 2 + 3 * c) (nI c) S = _
      simp only [PX0_fitsAsHole_2, eq_true A.o, true_and, A.cl, q1, not_true_eq_false, false_implies, true_implies, and_true, eq_true B.1.1, s_cx B hz0, s_cy B hz0, B.lx hz0, B.ly hz0, j1, s_contains A (bw_1 x1.1 x1.2), eq_true (zb_01 _)]
  rw [nI_0] at hl
  unfold PX0_fitsAsHole gfit
  rw [hl]
  cases af (fun r => !gmeets (sz c) (X c) (Y c) (sz r) (X r) (Y r)) 0 c <;> simp [zb]
theorem s_close {S : hs} {a c : Nat} {m : Bool} {sp : Int} {sz : Nat → Nat} {X Y : Nat → Nat → Int} {Post : Int32 → hs → Prop} (A : ArC S a c m sp sz X Y) : PX0_closeRing a S Post = (if m = true ∧ c < 4 then (if ggood c sz X Y = true then Post 1 (sI (sI S a 1 (nI (c + 1))) a 2 0) else Post 0 (sI (sI S (a + 2 + 3 * c) 2 0) a 2 (zb (decide (c = 0))))) else Post 0 S) := by
  have c4 := A.c4
  simp only [PX0_closeRing, eq_true A.o, true_and, s_being A]
  by_cases h : m = true ∧ c < 4
  · have B := A.r h.2
    have e1 : ∀ S', (PX0_closeRing_33 Post a S') = (is S' 0 a ∧ ∀ S_40, S_40 = sI S' a 1 ((hi S' a 1) + 1) → (is S_40 0 a ∧ ∀ S_45, S_45 = sI S_40 a 2 0 → Post 1 S_45)) := fun S' => by simp only [PX0_closeRing_33, and_self_left]
    have rd : hi (sI S (a + 2 + 3 * c) 2 0) a 1 = nI c := (rdI (Or.inl (by omega))).trans A.cl
    have cz : (nI c = 0) = (c = 0) := nI_eq0 (by omega)
    simp only [h, and_self, if_true, reduceCtorEq, false_implies, Option.some.injEq, forall_eq', exists_eq_left', eq_true B.1.1, true_and, sp_simple B, zb_0, A.cl, cz, eq_true A.o, e1, nI_1, forall_eq, is_I, PX0_closeRing_50, PX0_closeRing_67, PX2_clear, rd, or_true, true_or]
    unfold ggood
    cases hg : gsimple (sz c) (X c) (Y c) with
    | false =>
      by_cases h0 : c = 0
      · simp [h0, zb]
      · simp [h0, zb]
    | true =>
      have h3 := gsimple_3 hg
      rw [s_fits A h.2 (by omega)]
      by_cases h0 : c = 0
      · simp [h0]
      · simp only [zb_0, eq_true A.o, eq_true B.1.1, true_and, rd, cz, A.cl, nI_1]
        cases gfit c sz X Y <;> simp [h0, zb]
  · simp only [h, if_false, true_implies, reduceCtorEq, false_implies, implies_true, and_true]
theorem m_ringL {S : hs} {Z i c : Nat} {m : Bool} {sp : Int} {sz : Nat → Nat} {X Y : Nat → Nat → Int} {Post : Int32 → hs → Prop} (A : ArM S Z i c m sp sz X Y) (hc : c < 4) : (∃ f, PX7_ring_44 Post f Z (nI i) (nI (4 * i + c)) (zb (gsimple (sz c) (X c) (Y c))) (nI 0) S) = PX7_ring_130 Post Z (nI i) (nI (4 * i + c)) (zb (ggood c sz X Y)) S := by
  have M := A.M
  have B := A.r hc
  have z0 : zb false = 0 := rfl
  have z2 : (1 : Int32) = zb true := rfl
  have i12 := A.1.2.1
  have cz : (nI c = 0) = (c = 0) := nI_eq0 (by omega)
  have e := loopF (P := fun f r g => PX7_ring_44 Post f Z (nI i) (nI (4 * i + c)) (zb g) (nI r) S) (p := fun r => !gmeets (sz c) (X c) (Y c) (sz r) (X r) (Y r)) (Q := fun g => PX7_ring_85 Post Z (nI i) (nI (4 * i + c)) (zb g) S) (N := c) (lo := 0) (fun j g => rfl) (fun f r _ hr0 => ?_) (fun f r hr0 => ?_) (fun f g => ?_) c 0 (gsimple (sz c) (X c) (Y c)) (by omega) (by omega)
  · rw [e]
    unfold ggood gfit
    cases hg : gsimple (sz c) (X c) (Y c) with
    | false => simp [PX7_ring_85, PX7_ring_129, z0]
    | true =>
      have h3 := gsimple_3 hg
      have hz0 : 0 < sz c := by omega
      have x1 := (B.2 0 hz0).2
      rw [Bool.true_and, Bool.true_and]
      cases hm : af (fun r => !gmeets (sz c) (X c) (Y c) (sz r) (X r) (Y r)) 0 c with
      | false =>
        have c0 : ¬ c = 0 := by
          intro h0
          subst h0
          cases hm
        simp [PX7_ring_85, PX7_ring_129, z0, c0]
      | true =>
        simp only [PX7_ring_85, PX7_ring_125, PX7_ring_129, zbt, false_implies, not_false_eq_true, true_implies, true_and, eq_true M.1, M.r5, M.r2, M.r3, Option.some.injEq, exists_eq_left', eq_true A.x4, A.cl, cz, nI_12, eq_true (B.i10 hz0), eq_true (B.i20 hz0), B.x0 hz0, B.y0 hz0]
        by_cases c0 : c = 0
        · simp [c0, zb]
        · simp only [c0, false_implies, not_false_eq_true, true_implies, true_and, j1, m_has A (by omega) (bw_1 x1.1 x1.2), zb_0]
          cases ghas c sz X Y (X c 0) (Y c 0) 1 <;> simp [zb]
  · have q1 : ¬ nI c ≤ nI r := nI_ge hr0 (by omega)
    have G := A.r (r := r) (by omega)
    show PX7_ring_44 Post (f + 1) Z (nI i) (nI (4 * i + c)) (zb true) (nI r) S = PX7_ring_44 Post f Z (nI i) (nI (4 * i + c)) (zb (!gmeets (sz c) (X c) (Y c) (sz r) (X r) (Y r))) (nI (r + 1)) S
    simp only [PX7_ring_44, PX7_ring_78, eq_true M.1, true_and, M.r5, Option.some.injEq, exists_eq_left', eq_true A.x4, A.cl, q1, zbt, false_implies, not_false_eq_true, true_implies, nI_4, sm_meets B G, zb_0, nI_1, forall_eq]
    cases gmeets (sz c) (X c) (Y c) (sz r) (X r) (Y r) <;> simp [z0, z2]
  · have q1 : ¬ nI c ≤ nI r := nI_ge hr0 (by omega)
    show PX7_ring_44 Post (f + 1) Z (nI i) (nI (4 * i + c)) (zb false) (nI r) S = _
    simp only [PX7_ring_44, eq_true M.1, true_and, M.r5, Option.some.injEq, exists_eq_left', eq_true A.x4, A.cl, q1, z0, false_implies, not_false_eq_true, not_true_eq_false, true_implies, and_true]
  · have q1 : nI c ≤ nI c := nI_le (Nat.le_refl _) (by omega)
    show PX7_ring_44 Post (f + 1) Z (nI i) (nI (4 * i + c)) (zb g) (nI c) S = _
    simp only [PX7_ring_44, eq_true M.1, true_and, M.r5, Option.some.injEq, exists_eq_left', eq_true A.x4, A.cl, q1, not_true_eq_false, false_implies, true_implies, and_true]
section
variable {S : hs} {n : Nat} {A : Ga} {R : Nat × Gr} {T : Gk} {E : Gx}
theorem op_ring {v : Int32} (C : CS S n A R T E) (M : MS S n A R T E) (hA : WA n A) (hT : WT T) : Jo n (PX6_ring 0 v) (PX7_ring (49 + 14 * n) v) S := by
  have c1 := C.1
  have h12 := c1.n12
  have m1 := (M.code (v := 0)).1
  rcases of_cases n (by omega) v with ⟨i, hi0, rfl⟩ | h
  · have a := c1.a hi0
    have a' := m1.a hi0
    have c4 := a.c4
    have k6 : ∀ P, PX6_ring 0 (nI i) S P = PX0_closeRing (2 + 14 * i) S (fun x S1 => (x = 0 → P 0 S1) ∧ (¬ x = 0 → P 1 S1)) := by
      intro P
      simp only [PX6_ring, PX6_ring_24, PX6_ring_25, eq_true c1.o, true_and, c_area_in c1 hi0, o10, false_implies, not_false_eq_true, true_implies, c1.r0, Option.some.injEq, exists_eq_left', eq_true (c1.ix hi0), c1.ri hi0, eq_true a.o, or_true, true_or]
    cases hm : A.2.1 i with
    | false =>
      refine Jo.ro C M hA hT 0 (fun P => ?_) (fun P => ?_)
      · rw [k6, s_close a]
        simp [hm]
      · simp only [PX7_ring, PX7_ring_22, eq_true M.1.1.1, true_and, forall_eq, eq_true m1.1.1, m_area_in m1 h12.2 hi0, o10, false_implies, not_false_eq_true, true_implies, m1.1.r6, Option.some.injEq, exists_eq_left', eq_true a'.x5, a'.mk, hm, zbf, not_true_eq_false, and_true]
    | true =>
      have hc4 := (hA i hi0).2.1 hm
      have m7 : ∀ (S1 : hs) (M1 : MS S1 n A R T E) (P : Int32 → hs → Prop), PX7_ring (49 + 14 * n) (nI i) S1 P = PX7_ring_130 P (49 + 14 * n) (nI i) (nI (4 * i + A.1 i)) (zb (ggood (A.1 i) (A.2.2.2.1 i) (A.2.2.2.2.1 i) (A.2.2.2.2.2 i))) (sI S1 (49 + 14 * n) 0 0) := by
        intro S1 M1 P
        have m1 := (M1.code (v := 0)).1
        have a' := m1.a hi0
        have hl := m_ringL (Post := P) a' hc4
        rw [nI_0] at hl
        simp only [PX7_ring, PX7_ring_22, eq_true M1.1.1.1, true_and, forall_eq, eq_true m1.1.1, m_area_in m1 h12.2 hi0, o10, false_implies, not_false_eq_true, true_implies, m1.1.r6, m1.1.r5, Option.some.injEq, exists_eq_left', eq_true a'.x5, a'.mk, hm, zbt, eq_true a'.x4, a'.cl, nI_4, sm_simple (a'.r hc4), hl]
      cases hg : ggood (A.1 i) (A.2.2.2.1 i) (A.2.2.2.2.1 i) (A.2.2.2.2.2 i) with
      | true =>
        have o6 : ∀ P, PX6_ring 0 (nI i) S P = P 1 (sI (sI S (2 + 14 * i) 1 (nI (A.1 i + 1))) (2 + 14 * i) 2 0) := by
          intro P
          rw [k6, s_close a]
          simp [hm, hc4, hg]
        have g1 : agr S (sI (sI S (2 + 14 * i) 1 (nI (A.1 i + 1))) (2 + 14 * i) 2 0) (pU (49 + 14 * n)) := (agr.rf.wI (fun h => by unfold pU at h; omega)).wI (fun h => by unfold pU at h; omega)
        have gA : agr S (sI (sI S (2 + 14 * i) 1 (nI (A.1 i + 1))) (2 + 14 * i) 2 0) (paC i) := (agr.rf.wI (fun h => by unfold paC at h; omega)).wI (fun h => by unfold paC at h; omega)
        have aS : ArC (sI (sI S (2 + 14 * i) 1 (nI (A.1 i + 1))) (2 + 14 * i) 2 0) (2 + 14 * i) (A.1 i + 1) false (A.2.2.1 i) (A.2.2.2.1 i) (A.2.2.2.2.1 i) (A.2.2.2.2.2 i) := by
          refine a.upd (p := fun _ _ => False) ((agr.rf.wI (fun h => h)).wI (fun h => h)) (fun b j => rfl) ?_ (up2_same _ _ _ _) a.fs (by omega) (fun r hr1 => ?_)
          · rw [rdI (Or.inr (by omega))]; exact up2_same _ _ _ _
          · exact (a.r hr1).fr (p := fun b j => b ≠ 2 + 14 * i) ((agr.rf.wI (fun h => h rfl)).wI (fun h => h rfl)) (fun b j h1 h2 => by omega)
        have M1 := M.up g1
        have CS1 := C.updA hi0 gA aS
        have sh1 : shp S (sI (sI S (2 + 14 * i) 1 (nI (A.1 i + 1))) (2 + 14 * i) 2 0) := shp.rf
        generalize sI (sI S (2 + 14 * i) 1 (nI (A.1 i + 1))) (2 + 14 * i) 2 0 = S1 at *
        have m1 := (M1.code (v := 0)).1
        have a' := m1.a hi0
        have i12 := a'.1.2.1
        refine Jo.mk (A' := setA A i (A.1 i + 1) false (A.2.2.1 i) (A.2.2.2.1 i) (A.2.2.2.2.1 i) (A.2.2.2.2.2 i)) (R' := R) (T' := T) (E' := E) (S1 := S1) (S2 := sI (sI (sI S1 (49 + 14 * n) 0 0) (49 + 14 * n + 4) i (nI (A.1 i + 1))) (49 + 14 * n + 5) i 0) 1 o6 (fun P => ?_) CS1 ?_ ?_ sh1 ?_ hT
        · rw [m7 S1 M1 P, hg]
          simp only [PX7_ring_130, zbt, false_implies, not_false_eq_true, true_implies, true_and, eq_true m1.1.1, m1.1.r5, Option.some.injEq, exists_eq_left', eq_true a'.x4, a'.cl, nI_1, forall_eq, nI_clamp (show i < 2 ^ 31 by omega), is_I, a'.1.2.2.1]
          have m2 : Md (sI (sI S1 (49 + 14 * n) 0 0) (49 + 14 * n + 4) i (nI (A.1 i + 1))) (49 + 14 * n) := m1.1
          have x5' : ix (sI (sI S1 (49 + 14 * n) 0 0) (49 + 14 * n + 4) i (nI (A.1 i + 1))) 10 (49 + 14 * n + 5) (nI i) := a'.x5
          simp only [m2.r6, Option.some.injEq, exists_eq_left', eq_true x5', true_and]
        · refine M1.updA hi0 (fun j => rfl) (((agr.rf.wI (fun h => (h.1.2.2 rfl).1 rfl)).wI (fun h => h.2 (by unfold mA; omega))).wI (fun h => h.2 (by unfold mA; omega))) (fun hM => ?_)
          refine (M1.1.a hi0).upd hM (p := fun b j => b = 49 + 14 * n + 1 ∨ b = 49 + 14 * n + 2 ∨ b = 49 + 14 * n + 6) (((agr.rf.wI (fun h => by omega)).wI (fun h => by omega)).wI (fun h => by omega)) (fun b j h => h) ?_ (up2_same _ _ _ _) (by omega) (fun r hr1 => ?_)
          · rw [rdI (Or.inl (by omega))]; exact up2_same _ _ _ _
          · rw [rdI (Or.inl (by omega)), rdI (Or.inl (by omega)), rdI (Or.inl (by omega))]
            exact ⟨((M1.1.a hi0).r hr1).1.2.2.1, Nat.le_refl _⟩
        · exact ((agr.rf.wI (fun h => by unfold pL at h; omega)).wI (fun h => by unfold pL at h; omega)).wI (fun h => by unfold pL at h; omega)
        · refine hA.set (hA i hi0).1 (fun h => by cases h) (fun r hr1 => ?_)
          by_cases e : r = A.1 i
          · subst e
            unfold ggood at hg
            rw [Bool.and_eq_true] at hg
            exact gsimple_ok hg.1
          · exact (hA i hi0).2.2 r (by omega)
      | false =>
        have o6 : ∀ P, PX6_ring 0 (nI i) S P = P 0 (sI (sI S (2 + 14 * i + 2 + 3 * A.1 i) 2 0) (2 + 14 * i) 2 (zb (decide (A.1 i = 0)))) := by
          intro P
          rw [k6, s_close a]
          simp [hm, hc4, hg]
        have g1 : agr S (sI (sI S (2 + 14 * i + 2 + 3 * A.1 i) 2 0) (2 + 14 * i) 2 (zb (decide (A.1 i = 0)))) (pU (49 + 14 * n)) := (agr.rf.wI (fun h => by unfold pU at h; omega)).wI (fun h => by unfold pU at h; omega)
        have gA : agr S (sI (sI S (2 + 14 * i + 2 + 3 * A.1 i) 2 0) (2 + 14 * i) 2 (zb (decide (A.1 i = 0)))) (paC i) := (agr.rf.wI (fun h => by unfold paC at h; omega)).wI (fun h => by unfold paC at h; omega)
        have aS := ArC.clr (m' := decide (A.1 i = 0)) a hc4
        have M1 := M.up g1
        have CS1 := C.updA hi0 gA aS
        have sh1 : shp S (sI (sI S (2 + 14 * i + 2 + 3 * A.1 i) 2 0) (2 + 14 * i) 2 (zb (decide (A.1 i = 0)))) := shp.rf
        generalize sI (sI S (2 + 14 * i + 2 + 3 * A.1 i) 2 0) (2 + 14 * i) 2 (zb (decide (A.1 i = 0))) = S1 at *
        have m1 := (M1.code (v := 0)).1
        have a' := m1.a hi0
        have i12 := a'.1.2.1
        have cz : (nI (A.1 i) = 0) = (A.1 i = 0) := nI_eq0 (by omega)
        refine Jo.mk (A' := setA A i (A.1 i) (decide (A.1 i = 0)) (A.2.2.1 i) (upn (A.2.2.2.1 i) (A.1 i) 0) (A.2.2.2.2.1 i) (A.2.2.2.2.2 i)) (R' := R) (T' := T) (E' := E) (S1 := S1) (S2 := sI (sI (sI S1 (49 + 14 * n) 0 0) (49 + 14 * n + 3) (4 * i + A.1 i) 0) (49 + 14 * n + 5) i (zb (decide (A.1 i = 0)))) 0 o6 (fun P => ?_) CS1 ?_ ?_ sh1 ?_ hT
        · rw [m7 S1 M1 P, hg]
          have r4 : hi (sI (sI S1 (49 + 14 * n) 0 0) (49 + 14 * n + 3) (4 * i + A.1 i) 0) (49 + 14 * n + 4) i = nI (A.1 i) := (rdI (S := sI S1 (49 + 14 * n) 0 0) (Or.inl (by omega))).trans a'.1.2.2.1
          have x3 := m1.1.x3 (i := 4 * i + A.1 i) (by omega)
          have m2 : Md (sI (sI S1 (49 + 14 * n) 0 0) (49 + 14 * n + 3) (4 * i + A.1 i) 0) (49 + 14 * n) := m1.1
          have x5' : ix (sI (sI S1 (49 + 14 * n) 0 0) (49 + 14 * n + 3) (4 * i + A.1 i) 0) 10 (49 + 14 * n + 5) (nI i) := a'.x5
          have x4' : ix (sI (sI S1 (49 + 14 * n) 0 0) (49 + 14 * n + 3) (4 * i + A.1 i) 0) 8 (49 + 14 * n + 4) (nI i) := a'.x4
          simp only [PX7_ring_130, PX7_ring_161, zbf, not_true_eq_false, false_implies, true_implies, and_true, true_and, eq_true m1.1.1, m1.1.r4, Option.some.injEq, exists_eq_left', eq_true x3, forall_eq, nI_clamp (show i < 2 ^ 31 by omega), nI_clamp (show 4 * i + A.1 i < 2 ^ 31 by omega), eq_true m2.1, m2.r6, m2.r5, eq_true x5', eq_true x4', r4, cz, or_true, true_or]
          by_cases c0 : A.1 i = 0 <;> simp [c0, zb]
        · refine M1.updA hi0 (fun j => rfl) (((agr.rf.wI (fun h => (h.1.2.2 rfl).1 rfl)).wI (fun h => h.2 (by unfold mA; omega))).wI (fun h => h.2 (by unfold mA; omega))) (fun hM => ?_)
          refine (M1.1.a hi0).upd hM (p := fun b j => b = 49 + 14 * n + 1 ∨ b = 49 + 14 * n + 2 ∨ b = 49 + 14 * n + 6) (((agr.rf.wI (fun h => by omega)).wI (fun h => by omega)).wI (fun h => by omega)) (fun b j h => h) ?_ (up2_same _ _ _ _) c4 (fun r hr1 => ?_)
          · rw [rdI (Or.inl (by omega)), rdI (Or.inl (by omega)), rdI (Or.inl (by omega))]; exact (M1.1.a hi0).1.2.2.1
          · rw [rdI (Or.inl (by omega))]
            by_cases e : r = A.1 i
            · subst e
              rw [upn_s]
              exact ⟨up2_same _ _ _ _, by omega⟩
            · rw [upn_n _ _ e, rdI (Or.inr (by omega)), rdI (Or.inl (by omega))]
              exact ⟨((M1.1.a hi0).r hr1).1.2.2.1, Nat.le_refl _⟩
        · exact ((agr.rf.wI (fun h => by unfold pL at h; omega)).wI (fun h => by unfold pL at h; omega)).wI (fun h => by unfold pL at h; omega)
        · refine hA.set (hA i hi0).1 (fun _ => hc4) (fun r hr1 => ?_)
          rw [upn_n _ _ (by omega)]
          exact (hA i hi0).2.2 r hr1
  · refine Jo.ro C M hA hT 0 (fun P => ?_) (fun P => ?_)
    · simp only [PX6_ring, PX6_ring_24, PX6_ring_25, eq_true c1.o, true_and, c_area_out c1 h, not_true_eq_false, false_implies, true_implies, and_true, true_or]
    · simp only [PX7_ring, PX7_ring_22, eq_true M.1.1.1, true_and, forall_eq, eq_true m1.1.1, m_area_out m1 h, not_true_eq_false, false_implies, true_implies, and_true]
end
