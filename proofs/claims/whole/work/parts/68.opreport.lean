/-! report, both sides -/
section
variable {S : hs} {n : Nat} {A : Ga} {R : Nat × Gr} {T : Gk} {E : Gx} {x y d s : Int}
def okq (x y d s : Int) : Prop := (-200 ≤ x ∧ x ≤ 200 ∧ -200 ≤ y ∧ y ≤ 200) ∧ (0 ≤ d ∧ d ≤ 398) ∧ (1 ≤ s ∧ s ≤ 20) ∧ (-200 ≤ x - s ∧ x + s ≤ 200 ∧ -200 ≤ y - s ∧ y + s ≤ 200)
theorem gin_t {v l m : Int} : gin v l m = true ↔ l ≤ v ∧ v ≤ m := by unfold gin; simp
theorem gin_f {v l m : Int} : gin v l m = false ↔ ¬ (l ≤ v ∧ v ≤ m) := by rw [← gin_t]; simp
theorem c_rep1 {P : Int32 → hs → Prop} (hx : bJ x) (hy : bJ y) (hd : bJ d) (hs0 : bI s) (h : ¬ okq x y d s) : PX6_report 0 (cJ x) (cJ y) (cJ d) (cI s) S P = P (-1) S := by
  have e0 : (cJ d < (0 : Int64)) = (d < 0) := by rw [j0, cJ_lt hd ⟨by omega, by omega⟩]
  have e4 : (cJ d ≤ (398 : Int64)) = (d ≤ 398) := by rw [show (398 : Int64) = cJ 398 from rfl, cJ_le hd ⟨by omega, by omega⟩]
  have s1 : (cI s < (1 : Int32)) = (s < 1) := by rw [i1, cI_lt hs0 ⟨by omega, by omega⟩]
  have s2 : (cI s ≤ (20 : Int32)) = (s ≤ 20) := by rw [show (20 : Int32) = cI 20 from rfl, cI_le hs0 ⟨by omega, by omega⟩]
  simp only [PX6_report, PX6_report_24, PX6_report_39, PX6_report_73, c_place hx hy, zb_0, e0, e4, s1, s2, cI_l hs0, cJ_sub, cJ_add]
  cases hg : gin x (-200) 200 && gin y (-200) 200 with
  | false => simp only [true_implies, not_true_eq_false, false_implies, and_true]
  | true =>
    rw [Bool.and_eq_true, gin_t, gin_t] at hg
    simp only [reduceCtorEq, false_implies, not_false_eq_true, true_implies, true_and]
    by_cases c1 : d < 0
    · simp only [c1, true_implies, not_true_eq_false, false_implies, and_true]
    · by_cases c2 : d ≤ 398
      · by_cases c3 : s < 1
        · simp only [c1, c2, c3, true_implies, not_true_eq_false, false_implies, and_true, not_false_eq_true, true_and]
        · by_cases c4 : s ≤ 20
          · have p1 := fun Q => c_place (S := S) (x := x - s) (y := y - s) (Post := Q) ⟨by omega, by omega⟩ ⟨by omega, by omega⟩
            have p2 := fun Q => c_place (S := S) (x := x + s) (y := y + s) (Post := Q) ⟨by omega, by omega⟩ ⟨by omega, by omega⟩
            simp only [c1, c2, c3, c4, true_implies, not_true_eq_false, false_implies, and_true, not_false_eq_true, true_and, p1, p2, zb_0]
            cases g1 : gin (x - s) (-200) 200 && gin (y - s) (-200) 200 with
            | false => simp only [true_implies, not_true_eq_false, false_implies, and_true]
            | true =>
              cases g2 : gin (x + s) (-200) 200 && gin (y + s) (-200) 200 with
              | false => simp only [reduceCtorEq, true_implies, not_true_eq_false, false_implies, and_true, not_false_eq_true, true_and]
              | true =>
                exfalso
                rw [Bool.and_eq_true, gin_t, gin_t] at g1 g2
                exact h ⟨⟨by omega, by omega, by omega, by omega⟩, ⟨by omega, by omega⟩, ⟨by omega, by omega⟩, by omega, by omega, by omega, by omega⟩
          · simp only [c1, c2, c3, c4, true_implies, not_true_eq_false, false_implies, and_true, not_false_eq_true, true_and]
      · simp only [c1, c2, true_implies, not_true_eq_false, false_implies, and_true, not_false_eq_true, true_and]
theorem m_rep1 {P : Int32 → hs → Prop} {Z : Nat} (hM : is S 7 Z) (hx : bJ x) (hy : bJ y) (hd : bJ d) (hs0 : bI s) (h : ¬ okq x y d s) : PX7_report Z (cJ x) (cJ y) (cJ d) (cI s) S P = P (-1) (sI S Z 0 0) := by
  have gi' := fun S' P (w : Int) (hw : bJ w) => m_isIn (S := S') (Post := P) (v := w) (l := -200) (m := 200) hw ⟨by omega, by omega⟩ ⟨by omega, by omega⟩
  rw [show cJ (-200) = (-200 : Int64) by decide, show cJ 200 = (200 : Int64) by decide] at gi'
  have gd := fun S' P => m_isIn (S := S') (Post := P) (v := d) (l := 0) (m := 398) hd ⟨by omega, by omega⟩ ⟨by omega, by omega⟩
  rw [← j0, show cJ 398 = (398 : Int64) from rfl] at gd
  have js : bJ s := by unfold bI at hs0; exact ⟨by omega, by omega⟩
  have gs := fun S' P => m_isIn (S := S') (Post := P) (v := s) (l := 1) (m := 20) js ⟨by omega, by omega⟩ ⟨by omega, by omega⟩
  rw [← j1, show cJ 20 = (20 : Int64) from rfl] at gs
  have q1 : cJ s - (200 : Int64) = cJ (s - 200) := by rw [show (200 : Int64) = cJ 200 from rfl, cJ_sub]
  have q2 : (200 : Int64) - cJ s = cJ (200 - s) := by rw [show (200 : Int64) = cJ 200 from rfl, cJ_sub]
  unfold bI at hs0
  have gx' := fun S' P (w : Int) (hw : bJ w) => m_isIn (S := S') (Post := P) (v := w) (l := s - 200) (m := 200 - s) hw ⟨by omega, by omega⟩ ⟨by omega, by omega⟩
  simp only [PX7_report, PX7_report_60, PX7_report_61, PX7_report_110, eq_true hM, true_and, forall_eq, cI_l hs0, gi' _ _ x hx, gi' _ _ y hy, gd, gs, q1, q2, gx' _ _ x hx, gx' _ _ y hy, zb_0, o10]
  cases g1 : gin x (-200) 200 with
  | false => simp only [true_implies, not_true_eq_false, false_implies, and_true]
  | true =>
    cases g2 : gin y (-200) 200 with
    | false => simp only [reduceCtorEq, true_implies, not_true_eq_false, false_implies, and_true, not_false_eq_true, true_and]
    | true =>
      cases g3 : gin d 0 398 with
      | false => simp only [reduceCtorEq, true_implies, not_true_eq_false, false_implies, and_true, not_false_eq_true, true_and]
      | true =>
        cases g4 : gin s 1 20 with
        | false => simp only [reduceCtorEq, true_implies, not_true_eq_false, false_implies, and_true, not_false_eq_true, true_and]
        | true =>
          cases g5 : gin x (s - 200) (200 - s) with
          | false => simp only [reduceCtorEq, true_implies, not_true_eq_false, false_implies, and_true, not_false_eq_true, true_and]
          | true =>
            cases g6 : gin y (s - 200) (200 - s) with
            | false => simp only [reduceCtorEq, true_implies, not_true_eq_false, false_implies, and_true, not_false_eq_true, true_and]
            | true =>
              exfalso
              rw [gin_t] at g1 g2 g3 g4 g5 g6
              exact h ⟨⟨by omega, by omega, by omega, by omega⟩, ⟨by omega, by omega⟩, ⟨by omega, by omega⟩, by omega, by omega, by omega, by omega⟩
theorem op_report (C : CS S n A R T E) (M : MS S n A R T E) (hA : WA n A) (hT : WT T) (hx : bJ x) (hy : bJ y) (hd : bJ d) (hs0 : bI s) : Jo n (PX6_report 0 (cJ x) (cJ y) (cJ d) (cI s)) (PX7_report (49 + 14 * n) (cJ x) (cJ y) (cJ d) (cI s)) S := by
  have c1 := C.1
  have c2 := C.2.1
  have h12 := c1.n12
  have h40 := c2.2.n40
  by_cases hk : okq x y d s
  · obtain ⟨⟨k1, k2, k3, k4⟩, ⟨k5, k6⟩, ⟨k7, k8⟩, k9, k10, k11, k12⟩ := hk
    have e0 : ¬ cJ d < (0 : Int64) := by rw [j0, cJ_lt hd ⟨by omega, by omega⟩]; omega
    have e4 : cJ d ≤ (398 : Int64) := by rw [show (398 : Int64) = cJ 398 from rfl, cJ_le hd ⟨by omega, by omega⟩]; omega
    have s1 : ¬ cI s < (1 : Int32) := by rw [i1, cI_lt hs0 ⟨by omega, by omega⟩]; omega
    have s2 : cI s ≤ (20 : Int32) := by rw [show (20 : Int32) = cI 20 from rfl, cI_le hs0 ⟨by omega, by omega⟩]; omega
    have g1 : gin x (-200) 200 = true := gin_t.mpr ⟨k1, k2⟩
    have g2 : gin y (-200) 200 = true := gin_t.mpr ⟨k3, k4⟩
    have g3 : gin d 0 398 = true := gin_t.mpr ⟨k5, k6⟩
    have g4 : gin s 1 20 = true := gin_t.mpr ⟨k7, k8⟩
    have g5 : gin x (s - 200) (200 - s) = true := gin_t.mpr ⟨by omega, by omega⟩
    have g6 : gin y (s - 200) (200 - s) = true := gin_t.mpr ⟨by omega, by omega⟩
    have a1 : gin (x - s) (-200) 200 = true := gin_t.mpr ⟨by omega, by omega⟩
    have a2 : gin (y - s) (-200) 200 = true := gin_t.mpr ⟨by omega, by omega⟩
    have a3 : gin (x + s) (-200) 200 = true := gin_t.mpr ⟨by omega, by omega⟩
    have a4 : gin (y + s) (-200) 200 = true := gin_t.mpr ⟨by omega, by omega⟩
    have p1 := fun Q => c_place (S := S) (x := x - s) (y := y - s) (Post := Q) ⟨by omega, by omega⟩ ⟨by omega, by omega⟩
    have p2 := fun Q => c_place (S := S) (x := x + s) (y := y + s) (Post := Q) ⟨by omega, by omega⟩ ⟨by omega, by omega⟩
    have gi' := fun S' P (w : Int) (hw : bJ w) => m_isIn (S := S') (Post := P) (v := w) (l := -200) (m := 200) hw ⟨by omega, by omega⟩ ⟨by omega, by omega⟩
    rw [show cJ (-200) = (-200 : Int64) by decide, show cJ 200 = (200 : Int64) by decide] at gi'
    have gd := fun S' P => m_isIn (S := S') (Post := P) (v := d) (l := 0) (m := 398) hd ⟨by omega, by omega⟩ ⟨by omega, by omega⟩
    rw [← j0, show cJ 398 = (398 : Int64) from rfl] at gd
    have js : bJ s := ⟨by omega, by omega⟩
    have gs := fun S' P => m_isIn (S := S') (Post := P) (v := s) (l := 1) (m := 20) js ⟨by omega, by omega⟩ ⟨by omega, by omega⟩
    rw [← j1, show cJ 20 = (20 : Int64) from rfl] at gs
    have q1 : cJ s - (200 : Int64) = cJ (s - 200) := by rw [show (200 : Int64) = cJ 200 from rfl, cJ_sub]
    have q2 : (200 : Int64) - cJ s = cJ (200 - s) := by rw [show (200 : Int64) = cJ 200 from rfl, cJ_sub]
    have gx' := fun S' P (w : Int) (hw : bJ w) => m_isIn (S := S') (Post := P) (v := w) (l := s - 200) (m := 200 - s) hw ⟨by omega, by omega⟩ ⟨by omega, by omega⟩
    have room : (40 : Int32) - nI R.1 = nI (40 - R.1) := by
      rw [show (40 : Int32) = cI 40 from rfl, nI_c, cI_sub, nI_c]
      congr 1
      omega
    have r8 : ((8 : Int32) ≤ nI (40 - R.1)) = (8 ≤ 40 - R.1) := nI_lek (x := 8) (by omega) (by omega)
    have m8 : (nI R.1 + 8 ≤ (40 : Int32)) = (R.1 + 8 ≤ 40) := by
      rw [show (8 : Int32) = nI 8 from rfl, nI_addk]; exact nI_lek (y := 40) (by omega) (by omega)
    obtain ⟨fl, fp⟩ := fuF_le (unt A) n 0
    -- the class's first steps
    have st6 : ∀ P : Int32 → hs → Prop, (∃ f, PX6_firstUntouchedArea_2 (fun x_76 S_76 => ((x_76 < 0 → (PX6_report_98 P S_76)) ∧ (¬ x_76 < 0 → (is S_76 6 0 ∧ ∃ r_87, hr S_76 0 1 = some r_87 ∧ (is S_76 3 r_87 ∧ (PX3_room r_87 S_76 (fun x_90 S_90 => (((8 : Int32) ≤ x_90 → (is S_90 6 0 ∧ ∃ r_102, hr S_90 0 0 = some r_102 ∧ (ix S_90 11 r_102 x_76 ∧ ∃ r_107, hr S_90 r_102 (Int32.toNatClampNeg x_76) = some r_107 ∧ (is S_90 0 r_107 ∧ (PX0_becomeSquare r_107 (cI x) (cI y) (cI s) S_90 (fun S_114 => (∃ n, PX6_report_120 P n 0 (cJ d) x_76 0 S_114))))))) ∧ (¬ (8 : Int32) ≤ x_90 → (PX6_report_98 P S_90)))))))))) f 0 (nI 0) S) → PX6_report 0 (cJ x) (cJ y) (cJ d) (cI s) S P := by
      intro P hh
      rw [nI_0] at hh
      have ab : (gin x (-200) 200 && gin y (-200) 200) = true := by rw [g1, g2]; rfl
      have ab1 : (gin (x - s) (-200) 200 && gin (y - s) (-200) 200) = true := by rw [a1, a2]; rfl
      have ab2 : (gin (x + s) (-200) 200 && gin (y + s) (-200) 200) = true := by rw [a3, a4]; rfl
      simp only [PX6_report, PX6_firstUntouchedArea, c_place hx hy, ab, ab1, ab2, zbt, e0, eq_true e4, s1, eq_true s2, cI_l hs0, cJ_sub, cJ_add, p1, p2, false_implies, not_false_eq_true, true_implies, true_and, not_true_eq_false, and_true, eq_true c1.o, cJ_i]
      exact hh
    have st7 : ∀ (S1 : hs) (P : Int32 → hs → Prop), MS S1 n A R T E → PX7_report_152 P (49 + 14 * n) (cJ x) (cJ y) (cJ d) (cI s) (nI (fuF (unt A) 0 n)) (sI S1 (49 + 14 * n) 0 0) → PX7_report (49 + 14 * n) (cJ x) (cJ y) (cJ d) (cI s) S1 P := by
      intro S1 P M1 hh
      have M2 := M1.code (v := 0)
      have := m_first M2.1 h12.2 n 0 (by omega) P hh
      rw [nI_0] at this
      simp only [PX7_report, PX7_report_60, PX7_report_61, PX7_report_110, eq_true M1.1.1.1, true_and, forall_eq, cI_l hs0, gi' _ _ x hx, gi' _ _ y hy, gd, gs, q1, q2, gx' _ _ x hx, gx' _ _ y hy, g1, g2, g3, g4, g5, g6, zbt, o10, false_implies, not_false_eq_true, true_implies]
      exact this
    have f0 : (fuF (unt A) 0 n) ≤ n := by omega
    generalize hi : fuF (unt A) 0 n = i at *
    have hn1 : (nI i = nI n) = (i = n) := propext (nI_eq (by omega) (by omega))
    by_cases hin : i < n
    · by_cases hR : R.1 + 8 ≤ 40
      · obtain ⟨S1, v1, v2, v3, v4⟩ := c_square (x := x) (y := y) (s := s) C hin ⟨by omega, by omega⟩ ⟨by omega, by omega⟩ ⟨by omega, by omega⟩ ⟨by omega, by omega⟩
        obtain ⟨S2, w1, w2, w3⟩ := c_rules8 (i := i) (by omega) ⟨k5, k6⟩ 8 0 S1 R (by omega) (by omega) v2
        have gU : agr S S2 (pU (49 + 14 * n)) := (v3.mono (fun b j h => by unfold pU at h; unfold paC; omega)).tr w3
        have M1 := M.up gU
        have M2 := M1.code (v := 0)
        obtain ⟨S3, z1, z2, z3, z4⟩ := m_corners (x := x) (y := y) (s := s) (Z := 49 + 14 * n) (i := i) (b := 0) (c := cJ d) (by omega) hs0 4 0 (sI S2 (49 + 14 * n) 0 0) (by omega) M2.1.1 (fun j hj => by omega)
        have am := M2.1.a hin
        have gA : agr (sI S2 (49 + 14 * n) 0 0) (sI (sI (sI S3 (49 + 14 * n + 3) (4 * i) 4) (49 + 14 * n + 4) i 1) (49 + 14 * n + 5) i 0) (fun b j => pM (49 + 14 * n) b j ∧ ¬ mA (49 + 14 * n) i b j) := (((z3.mono (fun b j h => by
            intro q
            refine h.2 ?_
            unfold mA
            omega)).wI (fun h => h.2 (by unfold mA; omega))).wI (fun h => h.2 (by unfold mA; omega))).wI (fun h => h.2 (by unfold mA; omega))
        have M3 : MS (sI (sI (sI S3 (49 + 14 * n + 3) (4 * i) 4) (49 + 14 * n + 4) i 1) (49 + 14 * n + 5) i 0) n (sqA A i x y s) R T E := by
          refine M2.updA hin (fun j => by show hr S3 _ j = _; rw [z4]) gA (fun hM => ⟨⟨hM, am.1.2.1, ?_, up2_same _ _ _ _, ?_, by omega⟩, fun r hr1 => ?_⟩)
          · rw [rdI (Or.inl (by omega))]; exact up2_same _ _ _ _
          · show hj S3 (49 + 14 * n + 6) i = _
            rw [(z3.2 (49 + 14 * n + 6) i (by omega)).2.1]
            exact am.1.2.2.2.2.1
          · by_cases e : r = 0
            · subst e
              rw [upn_s, upn_s, upn_s]
              refine ⟨⟨hM, by omega, ?_, by omega⟩, fun k hk => ⟨?_, ?_⟩⟩
              · rw [rdI (Or.inl (by omega)), rdI (Or.inl (by omega))]
                exact up2_same _ _ _ _
              · have := z2 k hk
                show hj S3 (49 + 14 * n + 1) (12 * (4 * i + 0) + k) = _ ∧ hj S3 (49 + 14 * n + 2) (12 * (4 * i + 0) + k) = _
                rw [show 12 * (4 * i + 0) + k = 48 * i + k by omega]
                exact this
              · unfold qx qy
                constructor
                · split <;> omega
                · split <;> omega
            · rw [upn_n _ _ e, upn_n _ _ e, upn_n _ _ e]
              refine (am.r hr1).fr2 (p := fun b j => (b = 49 + 14 * n + 1 ∨ b = 49 + 14 * n + 2) ∧ 12 * (4 * i + r) ≤ j ∧ j < 12 * (4 * i + r) + 12 ∨ b = 49 + 14 * n + 3 ∧ j = 4 * i + r) ((((z3.mono (fun b j h => by omega)).wI (fun h => by omega)).wI (fun h => by omega)).wI (fun h => by omega)) hM (fun k hk => ⟨by omega, by omega⟩) (by omega)
        obtain ⟨S4, y1, y2, y3⟩ := m_rules8 (i := i) (by omega) ⟨k5, k6⟩ 8 0 _ R (by omega) (by omega) M3
        have gL : agr S2 S4 (pL (49 + 14 * n)) := (g_code.tr ((((z3.mono (fun b j h => by unfold pL at h; omega)).wI (fun h => by unfold pL at h; omega)).wI (fun h => by unfold pL at h; omega)).wI (fun h => by unfold pL at h; omega))).tr y3
        refine ⟨nI i, S2, S4, fun P h => st6 P ?_, fun P h => st7 S2 P M1 ?_, ⟨sqA A i x y s, ru8 i d 0 8 R, T, E, w2.low gL, y2, ?_, hT⟩, ⟨gU.1.1, gU.1.2.1, gU.1.2.2⟩, ⟨gL.1.1.trans gU.1.1, gL.1.2.1.trans gU.1.2.1, gL.1.2.2.trans gU.1.2.2⟩⟩
        · refine c_first c1 n 0 (by omega) _ ?_
          rw [hi, if_pos hin]
          have n0 : ¬ nI i < 0 := nI_pos (by omega)
          simp only [PX3_room, n0, false_implies, not_false_eq_true, true_implies, true_and, eq_true c1.o, c2.1, Option.some.injEq, exists_eq_left', eq_true c2.2.1.1, c2.2.sz, room, r8, show 8 ≤ 40 - R.1 by omega, not_true_eq_false, and_true, c1.r0, eq_true (c1.ix hin), c1.ri hin, eq_true (c1.a hin).o]
          refine v1 _ ?_
          rw [← nI_0]
          exact w1 P h
        · have n48 : (48 : Int32) * nI i = nI (48 * i) := by rw [show (48 : Int32) = nI 48 from rfl, nI_mulk]
          simp only [PX7_report_152, eq_true M2.1.1.1, true_and, M2.1.2.1, hn1, show ¬ i = n by omega, false_implies, not_false_eq_true, true_implies, M2.2.1.1.2.1, m8, hR, not_true_eq_false, and_true, forall_eq, n48]
          have := z1 P (by rw [← nI_0]; exact y1 P h)
          rw [nI_0] at this
          exact this
        · refine hA.set (hA i hin).1 (fun q => by cases q) (fun r hr1 => ?_)
          have e : r = 0 := by omega
          subst e
          rw [upn_s, upn_s, upn_s]
          exact okR_q k7
      · refine ⟨-4, S, sI S (49 + 14 * n) 0 0, fun P h => st6 P ?_, fun P h => st7 S P M ?_, ⟨A, R, T, E, C.low g_code, M.code, hA, hT⟩, ⟨rfl, rfl, rfl⟩, ⟨rfl, rfl, rfl⟩⟩
        · refine c_first c1 n 0 (by omega) _ ?_
          rw [hi, if_pos hin]
          have n0 : ¬ nI i < 0 := nI_pos (by omega)
          simp only [PX3_room, PX6_report_98, n0, false_implies, not_false_eq_true, true_implies, true_and, eq_true c1.o, c2.1, Option.some.injEq, exists_eq_left', eq_true c2.2.1.1, c2.2.sz, room, r8, show ¬ 8 ≤ 40 - R.1 by omega]
          exact h
        · have M2 := M.code (v := 0)
          simp only [PX7_report_152, PX7_report_173, eq_true M2.1.1.1, true_and, M2.1.2.1, hn1, show ¬ i = n by omega, false_implies, not_false_eq_true, true_implies, M2.2.1.1.2.1, m8, hR]
          exact h
    · refine ⟨-4, S, sI S (49 + 14 * n) 0 0, fun P h => st6 P ?_, fun P h => st7 S P M ?_, ⟨A, R, T, E, C.low g_code, M.code, hA, hT⟩, ⟨rfl, rfl, rfl⟩, ⟨rfl, rfl, rfl⟩⟩
      · refine c_first c1 n 0 (by omega) _ ?_
        rw [hi, if_neg hin]
        have n0 : (-1 : Int32) < 0 := by decide
        simp only [PX6_report_98, eq_true n0, true_implies, not_true_eq_false, false_implies, and_true]
        exact h
      · have M2 := M.code (v := 0)
        simp only [PX7_report_152, PX7_report_173, eq_true M2.1.1.1, true_and, M2.1.2.1, hn1, show i = n by omega, true_implies, not_true_eq_false, false_implies, and_true]
        exact h
  · exact Jo.ro C M hA hT (-1) (fun P => c_rep1 hx hy hd hs0 hk) (fun P => m_rep1 M.1.1.1 hx hy hd hs0 hk)
end
