/-! speed, hole -/
theorem is_I {S : hs} {a j k b : Nat} {v : Int32} : is (sI S a j v) k b = is S k b := rfl
theorem is_J {S : hs} {a j k b : Nat} {v : Int64} : is (sJ S a j v) k b = is S k b := rfl
theorem ix_I {S : hs} {a j k b : Nat} {v w : Int32} : ix (sI S a j v) k b w = ix S k b w := rfl
theorem ix_J {S : hs} {a j k b : Nat} {v : Int64} {w : Int32} : ix (sJ S a j v) k b w = ix S k b w := rfl
/-- only cells of the class's area i differ, and no reference -/
theorem shp.I {S S' : hs} {a j : Nat} {v : Int32} (h : shp S S') : shp S (sI S' a j v) := h
theorem shp.J {S S' : hs} {a j : Nat} {v : Int64} (h : shp S S') : shp S (sJ S' a j v) := h
theorem shp.rf {S : hs} : shp S S := ⟨rfl, rfl, rfl⟩
theorem rdI {S : hs} {a j b k : Nat} {v : Int32} (h : b ≠ a ∨ k ≠ j) : hi (sI S a j v) b k = hi S b k := up2_ne _ _ h
theorem rdJ {S : hs} {a j b k : Nat} {v : Int64} (h : b ≠ a ∨ k ≠ j) : hj (sJ S a j v) b k = hj S b k := up2_ne _ _ h
section
variable {S : hs} {n : Nat} {A : Ga} {R : Nat × Gr} {T : Gk} {E : Gx}
theorem Md.I {Z a j : Nat} {v : Int32} (M : Md S Z) : Md (sI S a j v) Z := M
theorem Md.J {Z a j : Nat} {v : Int64} (M : Md S Z) : Md (sJ S a j v) Z := M
theorem op_speed {v : Int32} {l : Int} (C : CS S n A R T E) (M : MS S n A R T E) (hA : WA n A) (hT : WT T) (hl : bJ l) : Jo n (PX6_speed 0 v (cJ l)) (PX7_speed (49 + 14 * n) v (cJ l)) S := by
  have c1 := C.1
  have h12 := c1.n12
  have m1 := (M.code (v := 0)).1
  have e0 : (cJ l < (0 : Int64)) = (l < 0) := by rw [j0, cJ_lt hl ⟨by omega, by omega⟩]
  have e4 : (cJ l ≤ (100000 : Int64)) = (l ≤ 100000) := by rw [show (100000 : Int64) = cJ 100000 from rfl, cJ_le hl ⟨by omega, by omega⟩]
  have gi' := fun S' P => m_isIn (S := S') (Post := P) (v := l) (l := 0) (m := 100000) hl ⟨by omega, by omega⟩ ⟨by omega, by omega⟩
  rw [← j0, show cJ 100000 = (100000 : Int64) from rfl] at gi'
  rcases of_cases n (by omega) v with ⟨i, hi0, rfl⟩ | h
  · by_cases hl2 : 0 ≤ l ∧ l ≤ 100000
    · have a := c1.a hi0
      have gt : gin l 0 100000 = true := by unfold gin; simp [hl2]
      have q0 : ¬ l < 0 := by omega
      refine Jo.mk (A' := setA A i (A.1 i) (A.2.1 i) l (A.2.2.2.1 i) (A.2.2.2.2.1 i) (A.2.2.2.2.2 i)) (R' := R) (T' := T) (E' := E) (S1 := sJ S (2 + 14 * i) 3 (cJ l)) (S2 := sJ (sI (sJ S (2 + 14 * i) 3 (cJ l)) (49 + 14 * n) 0 0) (49 + 14 * n + 6) i (cJ l)) 1 (fun P => ?_) (fun P => ?_) ?_ ?_ ?_ shp.rf ?_ hT
      · simp only [PX6_speed, PX6_speed_22, PX0_setFastFrom, eq_true c1.o, true_and, c_area_in c1 hi0, o10, e0, e4, q0, hl2.2, false_implies, not_false_eq_true, true_implies, not_true_eq_false, and_true, c1.r0, Option.some.injEq, exists_eq_left', eq_true (c1.ix hi0), c1.ri hi0, eq_true a.o, forall_eq]
      · have M1 : MS (sJ S (2 + 14 * i) 3 (cJ l)) n A R T E := M.fr (p := pM (49 + 14 * n)) (agr.rf.wJ (fun h => by unfold pM at h; omega)) (fun j => rfl) (fun _ _ h => h)
        have m1 := (M1.code (v := 0)).1
        have a2 := m1.a hi0
        simp only [PX7_speed, PX7_speed_24, eq_true M1.1.1.1, eq_true m1.1.1, true_and, forall_eq, m_area_in m1 h12.2 hi0, o10, gi', gt, zbt, false_implies, not_false_eq_true, true_implies, m1.1.r7, Option.some.injEq, exists_eq_left', eq_true a2.x6, nI_clamp (show i < 2 ^ 31 by omega)]
      · refine C.updA hi0 (agr.rf.wJ (fun h => by unfold paC at h; omega)) (a.upd (p := fun b j => False) (agr.rf.wJ (fun h => h)) (fun b j => rfl) a.cl a.mk (up2_same _ _ _ _) a.c4 (fun r h => (a.r h).fr (p := fun b j => b ≠ 2 + 14 * i) (agr.rf.wJ (fun h => h rfl)) (fun b j h1 h2 => by omega)))
      · have a2 := M.1.a hi0
        refine M.updA hi0 (fun j => rfl) ((agr.rf.wJ (fun h => by unfold pM at h; omega)).wI (fun h => (h.1.2.2 rfl).1 rfl) |>.wJ (fun h => h.2 (by unfold mA; omega))) (fun hM => ⟨⟨hM, a2.1.2.1, ?_, ?_, up2_same _ _ _ _, a2.c4⟩, fun r h => (a2.r h).fr2 (p := fun b j => 49 + 14 * n + 1 ≤ b ∧ b ≤ 49 + 14 * n + 3) ((agr.rf.wJ (fun h => by omega)).wI (fun h => by omega) |>.wJ (fun h => by omega)) hM (fun k hk => ⟨by omega, by omega⟩) (by omega)⟩)
        · exact (rdI (S := sJ S (2 + 14 * i) 3 (cJ l)) (Or.inl (by omega))).trans a2.1.2.2.1
        · exact (rdI (S := sJ S (2 + 14 * i) 3 (cJ l)) (Or.inl (by omega))).trans a2.1.2.2.2.1
      · exact (agr.rf.wI (fun h => by unfold pL at h; omega)).wJ (fun h => by unfold pL at h; omega)
      · exact hA.set hl2 (hA i hi0).2.1 (hA i hi0).2.2
    · have gf : gin l 0 100000 = false := by
        unfold gin
        by_cases h1 : 0 ≤ l
        · simp [h1, show ¬ l ≤ 100000 by omega]
        · simp [h1]
      refine Jo.ro C M hA hT 0 (fun P => ?_) (fun P => ?_)
      · simp only [PX6_speed, PX6_speed_22, eq_true c1.o, true_and, c_area_in c1 hi0, o10, e0, e4, false_implies, not_false_eq_true, true_implies]
        by_cases h1 : l < 0
        · simp [h1]
        · simp [h1, show ¬ l ≤ 100000 by omega]
      · simp only [PX7_speed, PX7_speed_24, eq_true M.1.1.1, eq_true m1.1.1, true_and, forall_eq, m_area_in m1 h12.2 hi0, o10, gi', gf, zbf, false_implies, not_false_eq_true, true_implies, not_true_eq_false, and_true]
  · refine Jo.ro C M hA hT 0 (fun P => ?_) (fun P => ?_)
    · simp only [PX6_speed, PX6_speed_22, eq_true c1.o, true_and, c_area_out c1 h, not_true_eq_false, false_implies, true_implies, and_true]
    · simp only [PX7_speed, PX7_speed_24, eq_true M.1.1.1, eq_true m1.1.1, true_and, forall_eq, m_area_out m1 h, not_true_eq_false, false_implies, true_implies, and_true]
end
theorem RgC.set {S S' : hs} {p : Nat → Nat → Prop} {a n n' : Nat} {X Y X' Y' : Nat → Int} (R : RgC S a n X Y) (g : agr S S' p) (hr0 : ∀ b j, hr S' b j = hr S b j) (h : hi S' a 2 = nI n') (hn : n' ≤ 12) (hk : ∀ k, k < n' → (hi S' (a + 1) k = cI (X' k) ∧ hi S' (a + 2) k = cI (Y' k)) ∧ (-200 ≤ X' k ∧ X' k ≤ 200) ∧ -200 ≤ Y' k ∧ Y' k ≤ 200) : RgC S' a n' X' Y' := by
  obtain ⟨⟨r1, r2, r3, r4, r5, r6, r7, -⟩, -⟩ := R
  unfold RgC
  simp only [g.o, g.z, hr0]
  exact ⟨⟨r1, r2, r3, r4, r5, r6, r7, h, hn⟩, hk⟩
theorem s_being {S : hs} {a c : Nat} {m : Bool} {sp : Int} {sz : Nat → Nat} {X Y : Nat → Nat → Int} {Post : Option Nat → hs → Prop} (A : ArC S a c m sp sz X Y) : PX0_beingMade a S Post = (if m = true ∧ c < 4 then Post (some (a + 2 + 3 * c)) S else Post none S) := by
  have c4 := A.c4
  have q0 : ¬ nI c < 0 := nI_pos (by omega)
  have e4 : ((4 : Int32) ≤ nI c) = (4 ≤ c) := nI_lek (x := 4) (by omega) (by omega)
  simp only [PX0_beingMade, PX0_beingMade_34, PX0_beingMade_35, eq_true A.o, true_and, A.mk, A.cl, q0, e4, zb_0, false_implies, not_false_eq_true, true_implies, A.rs, Option.some.injEq, exists_eq_left']
  cases m with
  | false => simp
  | true =>
    by_cases h : c < 4
    · simp only [eq_true (A.ix h), A.rg h, true_and, exists_eq_left']
      simp [h, show ¬ 4 ≤ c by omega]
    · simp [h, show 4 ≤ c by omega]
section
variable {S : hs} {n : Nat} {A : Ga} {R : Nat × Gr} {T : Gk} {E : Gx}
theorem sz0 {S : hs} {b j : Nat} : hi (sI S b j 0) b j = nI 0 := up2_same _ _ _ _
/-- a ring that begins anew, on both sides -/
theorem ArC.clr {a c : Nat} {m m' : Bool} {sp : Int} {sz : Nat → Nat} {X Y : Nat → Nat → Int} (A : ArC S a c m sp sz X Y) (hc : c < 4) : ArC (sI (sI S (a + 2 + 3 * c) 2 0) a 2 (zb m')) a c m' sp (upn sz c 0) X Y := by
  refine A.upd (p := fun _ _ => False) ((agr.rf.wI (fun h => h)).wI (fun h => h)) (fun b j => rfl) ?_ (up2_same _ _ _ _) A.fs A.c4 (fun r hr1 => ?_)
  · rw [rdI (Or.inr (by omega)), rdI (Or.inl (by omega))]; exact A.cl
  · by_cases e : r = c
    · subst e
      rw [upn_s]
      refine (A.r hr1).set (p := fun _ _ => False) ((agr.rf.wI (fun h => h)).wI (fun h => h)) (fun b j => rfl) ?_ (by omega) (fun k hk => absurd hk (by omega))
      rw [rdI (Or.inl (by omega))]; exact up2_same _ _ _ _
    · rw [upn_n _ _ e]
      exact (A.r hr1).fr (p := fun b j => a + 2 + 3 * r ≤ b ∧ b ≤ a + 2 + 3 * r + 2) ((agr.rf.wI (fun h => by omega)).wI (fun h => by omega)) (fun b j h1 h2 => ⟨h1, h2⟩)
/-- the reference's area, where only its closed, making, sizes are changed -/
theorem ArM.upd {S' : hs} {p : Nat → Nat → Prop} {Z i c c' : Nat} {m m' : Bool} {sp : Int} {sz sz' : Nat → Nat} {X Y : Nat → Nat → Int} (A : ArM S Z i c m sp sz X Y) (hM : Md S' Z) (g : agr S S' p) (hp : ∀ b j, b = Z + 1 ∨ b = Z + 2 ∨ b = Z + 6 → p b j) (h1 : hi S' (Z + 4) i = nI c') (h2 : hi S' (Z + 5) i = zb m') (h4 : c' ≤ 4) (h5 : ∀ r, r < 4 → hi S' (Z + 3) (4 * i + r) = nI (sz' r) ∧ sz' r ≤ sz r) : ArM S' Z i c' m' sp sz' X Y := by
  obtain ⟨⟨-, a1, a2, a3, a4, a5⟩, a6⟩ := A
  refine ⟨⟨hM, a1, h1, h2, by rw [(g.2 _ _ (hp _ _ (by omega))).2.1]; exact a4, h4⟩, fun r hr1 => ?_⟩
  obtain ⟨⟨-, r1, r2, r3⟩, r4⟩ := a6 r hr1
  obtain ⟨e1, e2⟩ := h5 r hr1
  refine ⟨⟨hM, r1, e1, by omega⟩, fun k hk => ⟨?_, (r4 k (by omega)).2⟩⟩
  rw [(g.2 _ _ (hp (Z + 1) _ (by omega))).2.1, (g.2 _ _ (hp (Z + 2) _ (by omega))).2.1]
  exact (r4 k (by omega)).1
theorem MS.up {S' : hs} (M : MS S n A R T E) (g : agr S S' (pU (49 + 14 * n))) : MS S' n A R T E := M.fr g (fun j => (g.2 _ _ (by unfold pU; omega)).2.2) (fun b j h => h.1)
theorem op_hole {v : Int32} (C : CS S n A R T E) (M : MS S n A R T E) (hA : WA n A) (hT : WT T) : Jo n (PX6_hole 0 v) (PX7_hole (49 + 14 * n) v) S := by
  have c1 := C.1
  have h12 := c1.n12
  have m1 := (M.code (v := 0)).1
  rcases of_cases n (by omega) v with ⟨i, hi0, rfl⟩ | h
  · have a := c1.a hi0
    have a' := m1.a hi0
    have c4 := a.c4
    have e1 : (nI (A.1 i) < (1 : Int32)) = (A.1 i < 1) := nI_ltk (y := 1) (by omega) (by omega)
    have e4 : (nI (A.1 i) < (4 : Int32)) = (A.1 i < 4) := nI_ltk (y := 4) (by omega) (by omega)
    have e5 : (nI (A.1 i) = (4 : Int32)) = (A.1 i = 4) := propext (nI_eq (b := 4) (by omega) (by omega))
    by_cases hc : A.2.1 i = false ∧ 0 < A.1 i ∧ A.1 i < 4
    · obtain ⟨hm, hc0, hc4⟩ := hc
      have b := a.r hc4
      have g1 : agr S (sI (sI S (2 + 14 * i + 2 + 3 * A.1 i) 2 0) (2 + 14 * i) 2 1) (pU (49 + 14 * n)) := (agr.rf.wI (fun h => by unfold pU at h; omega)).wI (fun h => by unfold pU at h; omega)
      have gA : agr S (sI (sI S (2 + 14 * i + 2 + 3 * A.1 i) 2 0) (2 + 14 * i) 2 1) (paC i) := (agr.rf.wI (fun h => by unfold paC at h; omega)).wI (fun h => by unfold paC at h; omega)
      have aS := ArC.clr (m' := true) a hc4
      have M1 := M.up g1
      have CS1 := C.updA hi0 gA aS
      have sh1 : shp S (sI (sI S (2 + 14 * i + 2 + 3 * A.1 i) 2 0) (2 + 14 * i) 2 1) := shp.rf
      have o6 : PX6_hole 0 (nI i) S = fun P => P 1 (sI (sI S (2 + 14 * i + 2 + 3 * A.1 i) 2 0) (2 + 14 * i) 2 1) := by
        funext P
        simp only [PX6_hole, PX6_hole_24, PX6_hole_25, PX0_beginHole, PX0_beginHole_23, PX2_clear, eq_true c1.o, true_and, c_area_in c1 hi0, o10, false_implies, not_false_eq_true, true_implies, c1.r0, Option.some.injEq, exists_eq_left', eq_true (c1.ix hi0), c1.ri hi0, eq_true a.o, a.mk, hm, zbf, not_true_eq_false, and_true, a.cl, e1, e4, show ¬ A.1 i < 1 by omega, hc4, a.rs, eq_true (a.ix hc4), a.rg hc4, eq_true b.1.1, is_I, forall_eq, or_true]
      generalize sI (sI S (2 + 14 * i + 2 + 3 * A.1 i) 2 0) (2 + 14 * i) 2 1 = S1 at *
      have m1 := (M1.code (v := 0)).1
      have a' := m1.a hi0
      have th : thr n A (nI i) = true := by rw [thr_in hi0 h12.2]; simp [hc0]
      have i12 := a'.1.2.1
      refine Jo.mk (A' := setA A i (A.1 i) true (A.2.2.1 i) (upn (A.2.2.2.1 i) (A.1 i) 0) (A.2.2.2.2.1 i) (A.2.2.2.2.2 i)) (R' := R) (T' := T) (E' := E) (S1 := S1) (S2 := sI (sI (sI S1 (49 + 14 * n) 0 0) (49 + 14 * n + 5) i 1) (49 + 14 * n + 3) (4 * i + A.1 i) 0) 1 (fun P => congrFun o6 P) (fun P => ?_) CS1 ?_ ?_ sh1 ?_ hT
      · have r3 : ∀ v, hi (sI (sI S1 (49 + 14 * n) 0 0) (49 + 14 * n + 5) i v) (49 + 14 * n + 4) i = nI (A.1 i) := fun v => (rdI (S := sI S1 (49 + 14 * n) 0 0) (Or.inl (by omega))).trans a'.1.2.2.1
        have x3 := m1.1.x3 (i := 4 * i + A.1 i) (by omega)
        simp only [PX7_hole, PX7_hole_32, eq_true M1.1.1.1, true_and, forall_eq, eq_true m1.1.1, m_thr m1 h12.2, th, zbt, false_implies, not_false_eq_true, true_implies, m1.1.r6, m1.1.r5, Option.some.injEq, exists_eq_left', eq_true a'.x5, a'.1.2.2.2.1, hm, zbf, not_true_eq_false, and_true, eq_true a'.x4, a'.1.2.2.1, e5, show ¬ A.1 i = 4 by omega, nI_clamp (show i < 2 ^ 31 by omega)]
        have m2 : Md (sI (sI S1 (49 + 14 * n) 0 0) (49 + 14 * n + 5) i 1) (49 + 14 * n) := m1.1
        have x4' : ix (sI (sI S1 (49 + 14 * n) 0 0) (49 + 14 * n + 5) i 1) 8 (49 + 14 * n + 4) (nI i) := a'.x4
        have x3' : ix (sI (sI S1 (49 + 14 * n) 0 0) (49 + 14 * n + 5) i 1) 8 (49 + 14 * n + 3) (nI (4 * i + A.1 i)) := x3
        simp only [eq_true m2.1, true_and, m2.r4, m2.r5, Option.some.injEq, exists_eq_left', eq_true x4', r3, nI_4, eq_true x3', nI_clamp (show 4 * i + A.1 i < 2 ^ 31 by omega)]
      · refine M1.updA hi0 (fun j => rfl) (((agr.rf.wI (fun h => (h.1.2.2 rfl).1 rfl)).wI (fun h => h.2 (by unfold mA; omega))).wI (fun h => h.2 (by unfold mA; omega))) (fun hM => ?_)
        refine (M1.1.a hi0).upd hM (p := fun b j => b = 49 + 14 * n + 1 ∨ b = 49 + 14 * n + 2 ∨ b = 49 + 14 * n + 6) (((agr.rf.wI (fun h => by omega)).wI (fun h => by omega)).wI (fun h => by omega)) (fun b j h => h) ?_ ?_ c4 (fun r hr1 => ?_)
        · rw [rdI (Or.inl (by omega)), rdI (Or.inl (by omega)), rdI (Or.inl (by omega))]; exact (M1.1.a hi0).1.2.2.1
        · rw [rdI (Or.inl (by omega))]; exact up2_same _ _ _ _
        · by_cases e : r = A.1 i
          · subst e
            rw [upn_s]
            exact ⟨up2_same _ _ _ _, by omega⟩
          · rw [upn_n _ _ e, rdI (Or.inr (by omega)), rdI (Or.inl (by omega)), rdI (Or.inl (by omega))]
            exact ⟨((M1.1.a hi0).r hr1).1.2.2.1, Nat.le_refl _⟩
      · exact ((agr.rf.wI (fun h => by unfold pL at h; omega)).wI (fun h => by unfold pL at h; omega)).wI (fun h => by unfold pL at h; omega)
      · refine hA.set (hA i hi0).1 (fun _ => hc4) (fun r hr1 => ?_)
        rw [upn_n _ _ (by omega)]
        exact (hA i hi0).2.2 r hr1
    · refine Jo.ro C M hA hT 0 (fun P => ?_) (fun P => ?_)
      · simp only [PX6_hole, PX6_hole_24, PX6_hole_25, PX0_beginHole, PX0_beginHole_23, eq_true c1.o, true_and, c_area_in c1 hi0, o10, false_implies, not_false_eq_true, true_implies, c1.r0, Option.some.injEq, exists_eq_left', eq_true (c1.ix hi0), c1.ri hi0, eq_true a.o, a.mk, zb_0, a.cl, e1, e4, not_true_eq_false, and_true, true_or]
        cases hm : A.2.1 i with
        | true => simp
        | false =>
          by_cases h0 : A.1 i < 1
          · simp [h0]
          · simp [h0, show ¬ A.1 i < 4 from fun h => hc ⟨hm, by omega, h⟩]
      · simp only [PX7_hole, PX7_hole_32, eq_true M.1.1.1, true_and, forall_eq, eq_true m1.1.1, m_thr m1 h12.2, thr_in hi0 h12.2, m1.1.r6, m1.1.r5, Option.some.injEq, exists_eq_left', eq_true a'.x5, a'.mk, zb_0, eq_true a'.x4, a'.cl, e5]
        cases hm : A.2.1 i with
        | true => by_cases h0 : 0 < A.1 i <;> simp [h0]
        | false =>
          by_cases h0 : 0 < A.1 i
          · have h4 : A.1 i = 4 := by
              refine Classical.byContradiction fun h => hc ⟨hm, h0, by omega⟩
            simp [h4]
          · simp [h0]
  · refine Jo.ro C M hA hT 0 (fun P => ?_) (fun P => ?_)
    · simp only [PX6_hole, PX6_hole_24, PX6_hole_25, eq_true c1.o, true_and, c_area_out c1 h, not_true_eq_false, false_implies, true_implies, and_true, true_or]
    · simp only [PX7_hole, PX7_hole_32, eq_true M.1.1.1, true_and, forall_eq, eq_true m1.1.1, m_there_out m1 h, not_true_eq_false, false_implies, true_implies, and_true]
end
