/-! report -/
def fuF (p : Nat → Bool) : Nat → Nat → Nat
  | j, 0 => j
  | j, d + 1 => if p j = true then j else fuF p (j + 1) d
theorem fuF_le (p : Nat → Bool) : ∀ d j, fuF p j d ≤ j + d ∧ (fuF p j d < j + d → p (fuF p j d) = true)
  | 0, j => ⟨Nat.le_refl _, fun h => absurd h (Nat.lt_irrefl _)⟩
  | d + 1, j => by
    unfold fuF
    by_cases h : p j = true
    · rw [if_pos h]; exact ⟨by omega, fun _ => h⟩
    · rw [if_neg h]
      have := fuF_le p d (j + 1)
      exact ⟨by omega, fun q => this.2 (by omega)⟩
/-- an area that nothing was done to -/
def unt (A : Ga) (i : Nat) : Bool := decide (A.1 i = 0) && decide (A.2.2.2.1 i 0 = 0)
/-- a square's corners -/
def qx (x s : Int) (k : Nat) : Int := if k = 0 ∨ k = 3 then x - s else x + s
def qy (y s : Int) (k : Nat) : Int := if 2 ≤ k then y + s else y - s
theorem okR_q {x y s : Int} (hs : 1 ≤ s) : okR 4 (qx x s) (qy y s) := by
  refine ⟨by omega, fun k hk => ?_⟩
  have n0 : nx 4 0 = 1 := rfl
  have n1 : nx 4 1 = 2 := rfl
  have n2 : nx 4 2 = 3 := rfl
  have n3 : nx 4 3 = 0 := rfl
  have x0 : qx x s 0 = x - s := rfl
  have x1 : qx x s 1 = x + s := rfl
  have x2 : qx x s 2 = x + s := rfl
  have x3 : qx x s 3 = x - s := rfl
  have y0 : qy y s 0 = y - s := rfl
  have y1 : qy y s 1 = y - s := rfl
  have y2 : qy y s 2 = y + s := rfl
  have y3 : qy y s 3 = y + s := rfl
  have f : ∀ a b c d e g : Int, (c - a) * (e - a) + (d - b) * (g - b) = 0 → gfold a b c d e g = false := by
    intro a b c d e g h
    unfold gfold
    rw [h]
    simp
  have h4 : k = 0 ∨ k = 1 ∨ k = 2 ∨ k = 3 := by omega
  rcases h4 with rfl | rfl | rfl | rfl
  · rw [n0, n1, x0, x1, x2, y0, y1, y2]
    exact ⟨by omega, f _ _ _ _ _ _ (by grind)⟩
  · rw [n1, n2, x1, x2, x3, y1, y2, y3]
    exact ⟨by omega, f _ _ _ _ _ _ (by grind)⟩
  · rw [n2, n3, x2, x3, x0, y2, y3, y0]
    exact ⟨by omega, f _ _ _ _ _ _ (by grind)⟩
  · rw [n3, n0, x3, x0, x1, y3, y0, y1]
    exact ⟨by omega, f _ _ _ _ _ _ (by grind)⟩
/-- eight rules for area i, from gear k on -/
def ru8 (i d : Int) : Nat → Nat → Nat × Gr → Nat × Gr
  | _, 0, R => R
  | k, m + 1, R => ru8 i d (k + 1) m (add1 R i k d (d + 2))
section
variable {S S' : hs} {n i : Nat} {A : Ga} {R : Nat × Gr} {T : Gk} {E : Gx} {x y d s : Int}
theorem c_first (c1 : CA S n A) : ∀ m j, j + m = n → ∀ Post : Int32 → hs → Prop, Post (if fuF (unt A) j m < n then nI (fuF (unt A) j m) else -1) S → ∃ f, PX6_firstUntouchedArea_2 Post f 0 (nI j) S := by
  have h12 := c1.n12
  intro m
  induction m with
  | zero =>
    intro j hj Post h
    have c0 : nI n ≤ nI j := nI_le (by omega) (by omega)
    refine ⟨1, ?_⟩
    have e : fuF (unt A) j 0 = j := rfl
    rw [e, if_neg (by omega)] at h
    simp only [PX6_firstUntouchedArea_2, eq_true c1.o, true_and, c1.r0, Option.some.injEq, exists_eq_left', eq_true c1.ao, c1.az, eq_true c0, true_implies, not_true_eq_false, false_implies, and_true]
    exact h
  | succ m ih =>
    intro j hj Post h
    have c0 : ¬ nI n ≤ nI j := nI_ge (by omega) (by omega)
    have a := c1.a (show j < n by omega)
    have e : fuF (unt A) j (m + 1) = if unt A j = true then j else fuF (unt A) (j + 1) m := rfl
    rw [e] at h
    have eu : (decide (A.1 j = 0) && decide (A.2.2.2.1 j 0 = 0)) = unt A j := rfl
    cases hu : unt A j with
    | true =>
      rw [hu, if_pos rfl, if_pos (by omega)] at h
      refine ⟨1, ?_⟩
      simp only [PX6_firstUntouchedArea_2, eq_true c1.o, true_and, c1.r0, Option.some.injEq, exists_eq_left', eq_true c1.ao, c1.az, c0, false_implies, not_false_eq_true, true_implies, eq_true (c1.ix (show j < n by omega)), c1.ri (show j < n by omega), eq_true a.o, s_untouched a, eu, hu, zbt]
      exact h
    | false =>
      rw [hu] at h
      simp only [Bool.false_eq_true, if_false] at h
      obtain ⟨f, hf⟩ := ih (j + 1) (by omega) Post h
      refine ⟨f + 1, ?_⟩
      simp only [PX6_firstUntouchedArea_2, eq_true c1.o, true_and, c1.r0, Option.some.injEq, exists_eq_left', eq_true c1.ao, c1.az, c0, false_implies, not_false_eq_true, true_implies, eq_true (c1.ix (show j < n by omega)), c1.ri (show j < n by omega), eq_true a.o, s_untouched a, eu, hu, zbf, not_true_eq_false, and_true, forall_eq, nI_1]
      exact hf
theorem m_first {Z : Nat} (m1 : MA S Z n A) (hn : n ≤ 12) {a b c : Int64} {e : Int32} : ∀ m j, j + m = n → ∀ Post : Int32 → hs → Prop, PX7_report_152 Post Z a b c e (nI (fuF (unt A) j m)) S → ∃ f, PX7_report_115 Post f Z a b c e (nI j) S := by
  have M := m1.1
  intro m
  induction m with
  | zero =>
    intro j hj Post h
    have c0 : nI n ≤ nI j := nI_le (by omega) (by omega)
    refine ⟨1, ?_⟩
    simp only [PX7_report_115, eq_true M.1, true_and, m1.2.1, eq_true c0, true_implies, not_true_eq_false, false_implies, and_true]
    exact h
  | succ m ih =>
    intro j hj Post h
    have c0 : ¬ nI n ≤ nI j := nI_ge (by omega) (by omega)
    have ar := m1.a (show j < n by omega)
    have h4 := ar.c4
    have R := ar.r0
    have h12 := R.1.2.2.2
    have e1 : ((0 : Int32) < nI (A.1 j)) = (0 < A.1 j) := by rw [← nI_0]; exact nI_ltk (by omega) (by omega)
    have e2 : (nI (A.2.2.2.1 j 0) ≤ (0 : Int32)) = (A.2.2.2.1 j 0 = 0) := nI_le0 (by omega)
    have ef : fuF (unt A) j (m + 1) = if unt A j = true then j else fuF (unt A) (j + 1) m := rfl
    rw [ef] at h
    by_cases hu : A.1 j = 0 ∧ A.2.2.2.1 j 0 = 0
    · have : unt A j = true := by unfold unt; simp [hu]
      rw [this, if_pos rfl] at h
      refine ⟨1, ?_⟩
      simp only [PX7_report_115, PX7_report_146, eq_true M.1, true_and, m1.2.1, c0, false_implies, not_false_eq_true, true_implies, M.r5, M.r4, Option.some.injEq, exists_eq_left', eq_true ar.x4, ar.cl, e1, show ¬ 0 < A.1 j by omega, nI_40, eq_true R.ix3, R.sz, e2, eq_true hu.2, not_true_eq_false, and_true]
      exact h
    · have : unt A j = false := by
        unfold unt
        rw [Bool.eq_false_iff]
        intro q
        simp at q
        exact hu q
      rw [this, if_neg (by decide)] at h
      obtain ⟨f, hf⟩ := ih (j + 1) (by omega) Post h
      refine ⟨f + 1, ?_⟩
      by_cases h1 : 0 < A.1 j
      · simp only [PX7_report_115, PX7_report_146, eq_true M.1, true_and, m1.2.1, c0, false_implies, not_false_eq_true, true_implies, M.r5, M.r4, Option.some.injEq, exists_eq_left', eq_true ar.x4, ar.cl, e1, h1, not_true_eq_false, and_true, forall_eq, nI_1]
        exact hf
      · have h2 : ¬ A.2.2.2.1 j 0 = 0 := fun q => hu ⟨by omega, q⟩
        simp only [PX7_report_115, PX7_report_146, eq_true M.1, true_and, m1.2.1, c0, false_implies, not_false_eq_true, true_implies, M.r5, M.r4, Option.some.injEq, exists_eq_left', eq_true ar.x4, ar.cl, e1, h1, nI_40, eq_true R.ix3, R.sz, e2, h2, forall_eq, nI_1]
        exact hf
theorem s_addq {r k : Nat} {X Y : Nat → Int} (R : RgC S r k X Y) (hk : k < 12) (hx : cr x) (hy : cr y) : ∃ S', (∀ Post : Int32 → hs → Prop, Post 1 S' → PX2_add r (cI x) (cI y) S Post) ∧ RgC S' r (k + 1) (upn X k x) (upn Y k y) ∧ agr S S' (fun b _ => b < r ∨ r + 2 < b) ∧ hr S' = hr S :=
  ⟨sI (sI (sI S (r + 1) k (cI x)) (r + 2) k (cI y)) r 2 (nI (k + 1)), fun Post h => by rw [s_add R, if_pos hk]; exact h, R.add hk hx hy agr.rf (fun b j => rfl), ((agr.rf.wI (fun h => by omega)).wI (fun h => by omega)).wI (fun h => by omega), rfl⟩
theorem RgC.cg {r k : Nat} {X Y X' Y' : Nat → Int} (R : RgC S r k X Y) (h : ∀ j, j < k → X j = X' j ∧ Y j = Y' j) : RgC S r k X' Y' := by
  refine ⟨R.1, fun j hj => ?_⟩
  rw [← (h j hj).1, ← (h j hj).2]
  exact R.2 j hj
/-- area i is a square now -/
def sqA (A : Ga) (i : Nat) (x y s : Int) : Ga := setA A i 1 false (A.2.2.1 i) (upn (A.2.2.2.1 i) 0 4) (upn (A.2.2.2.2.1 i) 0 (qx x s)) (upn (A.2.2.2.2.2 i) 0 (qy y s))
theorem c_square (C : CS S n A R T E) (hi0 : i < n) (h1 : cr (x - s)) (h2 : cr (x + s)) (h3 : cr (y - s)) (h4 : cr (y + s)) : ∃ S', (∀ Post : hs → Prop, Post S' → PX0_becomeSquare (2 + 14 * i) (cI x) (cI y) (cI s) S Post) ∧ CS S' n (sqA A i x y s) R T E ∧ agr S S' (paC i) ∧ hr S' = hr S := by
  have a := C.1.a hi0
  have R0 := a.r0
  have Rc : RgC (sI S (2 + 14 * i + 2) 2 0) (2 + 14 * i + 2) 0 (A.2.2.2.2.1 i 0) (A.2.2.2.2.2 i 0) := R0.set (p := fun _ _ => False) (agr.rf.wI (fun h => h)) (fun b j => rfl) (up2_same _ _ _ _) (by omega) (fun k hk => absurd hk (by omega))
  have g0 : agr S (sI S (2 + 14 * i + 2) 2 0) (fun b _ => b < 2 + 14 * i + 2 ∨ 2 + 14 * i + 2 + 2 < b) := agr.rf.wI (fun h => by omega)
  obtain ⟨S1, p1, p2, p3, p4⟩ := s_addq Rc (by omega) h1 h3
  obtain ⟨S2, q1, q2, q3, q4⟩ := s_addq p2 (by omega) h2 h3
  obtain ⟨S3, r1, r2, r3, r4⟩ := s_addq q2 (by omega) h2 h4
  obtain ⟨S4, t1, t2, t3, t4⟩ := s_addq r2 (by omega) h1 h4
  have gg := (((g0.tr p3).tr q3).tr r3).tr t3
  have eh : hr S4 = hr S := t4.trans (r4.trans (q4.trans p4))
  have gg2 : agr S (sI (sI S4 (2 + 14 * i) 1 1) (2 + 14 * i) 2 0) (paC i) := ((gg.mono (fun b j h => by unfold paC at h; omega)).wI (fun h => by unfold paC at h; omega)).wI (fun h => by unfold paC at h; omega)
  have R4 : RgC S4 (2 + 14 * i + 2) 4 (qx x s) (qy y s) := t2.cg (fun j hj => by
    have h4 : j = 0 ∨ j = 1 ∨ j = 2 ∨ j = 3 := by omega
    rcases h4 with rfl | rfl | rfl | rfl <;> exact ⟨rfl, rfl⟩)
  refine ⟨sI (sI S4 (2 + 14 * i) 1 1) (2 + 14 * i) 2 0, fun Post h => ?_, C.updA hi0 gg2 ?_, gg2, eh⟩
  · have i4 : is S4 0 (2 + 14 * i) := by rw [gg.o]; exact a.o
    simp only [PX0_becomeSquare, PX2_clear, eq_true a.o, true_and, s_outer a, Option.some.injEq, exists_eq_left', eq_true R0.1.1, forall_eq, is_I, cI_sub, cI_add]
    refine p1 _ ⟨p2.1.1, q1 _ ⟨q2.1.1, r1 _ ⟨r2.1.1, t1 _ ⟨i4, ?_⟩⟩⟩⟩
    exact ⟨i4, h⟩
  · have fs : hj S4 (2 + 14 * i) 3 = cJ (A.2.2.1 i) := by rw [(gg.2 _ 3 (Or.inl (by omega))).2.1]; exact a.fs
    refine a.upd (p := fun _ _ => False) ⟨gg2.1, fun b j h => h.elim⟩ (fun b j => by show hr S4 b j = _; rw [eh]) ?_ (up2_same _ _ _ _) fs (by omega) (fun r hr1 => ?_)
    · rw [rdI (Or.inr (by omega))]; exact up2_same _ _ _ _
    · by_cases e : r = 0
      · subst e
        rw [upn_s, upn_s, upn_s]
        exact R4.fr (p := fun b _ => b ≠ 2 + 14 * i) ((agr.rf.wI (fun h => h rfl)).wI (fun h => h rfl)) (fun b j h1 h2 => by omega)
      · rw [upn_n _ _ e, upn_n _ _ e, upn_n _ _ e]
        refine ((a.r hr1).fr gg (fun b j h1 h2 => by omega)).fr (p := fun b _ => b ≠ 2 + 14 * i) ((agr.rf.wI (fun h => h rfl)).wI (fun h => h rfl)) (fun b j h1 h2 => by omega)
theorem c_rules8 (hi0 : i < 1000) (hd : 0 ≤ d ∧ d ≤ 398) : ∀ (m k : Nat) (S : hs) (R : Nat × Gr), k + m = 8 → R.1 + m ≤ 40 → CS S n A R T E → ∃ S', (∀ Post : Int32 → hs → Prop, Post (nI i) S' → ∃ w, PX6_report_120 Post w 0 (cJ d) (nI i) (nI k) S) ∧ CS S' n A (ru8 i d k m R) T E ∧ agr S S' (pU (49 + 14 * n)) := by
  intro m
  induction m with
  | zero =>
    intro k S R hk hR C
    refine ⟨S, fun Post h => ⟨1, ?_⟩, C, agr.rf⟩
    have c0 : (8 : Int32) ≤ nI k := nI_le (a := 8) (by omega) (by omega)
    simp only [PX6_report_120, eq_true c0, true_implies, not_true_eq_false, false_implies, and_true]
    exact h
  | succ m ih =>
    intro k S R hk hR C
    have c1 := C.1
    have c2 := C.2.1
    have C1 := C.addR (a := i) (g := k) (f := d) (t := d + 2) (by omega) ⟨by omega, by omega⟩ ⟨by omega, by omega⟩ ⟨by omega, by omega⟩ ⟨by omega, by omega⟩
    obtain ⟨S', q1, q2, q3⟩ := ih (k + 1) _ (add1 R i k d (d + 2)) (by omega) (by show R.1 + 1 + m ≤ 40; omega) C1
    refine ⟨S', fun Post h => ?_, q2, wRu_U.tr q3⟩
    obtain ⟨w, hw⟩ := q1 Post h
    refine ⟨w + 1, ?_⟩
    have c0 : ¬ (8 : Int32) ≤ nI k := nI_ge (b := 8) (by omega) (by omega)
    have h40 : R.1 < 40 := by omega
    simp only [PX6_report_120, c0, false_implies, not_false_eq_true, true_implies, true_and, eq_true c1.o, c2.1, Option.some.injEq, exists_eq_left', eq_true c2.2.1.1, s_rule c2.2, h40, if_true, forall_eq, nI_1, cJ_i, show (2 : Int32) = cI 2 from rfl, cI_add]
    exact hw
theorem m_rules8 (hi0 : i < 1000) (hd : 0 ≤ d ∧ d ≤ 398) : ∀ (m k : Nat) (S : hs) (R : Nat × Gr), k + m = 8 → R.1 + m ≤ 40 → MS S n A R T E → ∃ S', (∀ Post : Int32 → hs → Prop, Post (nI i) S' → ∃ w, PX7_report_290 Post w (49 + 14 * n) (cJ d) (nI i) (nI k) S) ∧ MS S' n A (ru8 i d k m R) T E ∧ agr S S' (pL (49 + 14 * n)) := by
  intro m
  induction m with
  | zero =>
    intro k S R hk hR M
    refine ⟨S, fun Post h => ⟨1, ?_⟩, M, agr.rf⟩
    have c0 : (8 : Int32) ≤ nI k := nI_le (a := 8) (by omega) (by omega)
    simp only [PX7_report_290, eq_true c0, true_implies, not_true_eq_false, false_implies, and_true]
    exact h
  | succ m ih =>
    intro k S R hk hR M
    have h40 : R.1 < 40 := by omega
    have M1 := M.addR (a := i) (g := k) (f := d) (t := d + 2) h40 ⟨by omega, by omega⟩ ⟨by omega, by omega⟩ ⟨by omega, by omega⟩ ⟨by omega, by omega⟩
    obtain ⟨S', q1, q2, q3⟩ := ih (k + 1) _ (add1 R i k d (d + 2)) (by omega) (by show R.1 + 1 + m ≤ 40; omega) M1
    refine ⟨S', fun Post h => ?_, q2, wRm_L.tr q3⟩
    obtain ⟨w, hw⟩ := q1 Post h
    refine ⟨w + 1, ?_⟩
    have c0 : ¬ (8 : Int32) ≤ nI k := nI_ge (b := 8) (by omega) (by omega)
    simp only [PX7_report_290, c0, false_implies, not_false_eq_true, true_implies, true_and, eq_true M.1.1.1, m_rule M.2.1 h40, forall_eq, nI_1, cJ_i, show (2 : Int32) = cI 2 from rfl, cI_add]
    exact hw
/-- the reference's square, corner by corner -/
theorem m_corners {Z : Nat} (hi0 : i < 12) {b c : Int64} (hs0 : bI s) : ∀ (m k : Nat) (S : hs), k + m = 4 → Md S Z → (∀ j, j < k → hj S (Z + 1) (48 * i + j) = cJ (qx x s j) ∧ hj S (Z + 2) (48 * i + j) = cJ (qy y s j)) → ∃ S', (∀ Post : Int32 → hs → Prop, (∃ w, PX7_report_290 Post w Z c (nI i) 0 (sI (sI (sI S' (Z + 3) (4 * i) 4) (Z + 4) i 1) (Z + 5) i 0)) → ∃ w, PX7_report_186 Post w Z (cJ x) (cJ y) c (cI s) (nI i) (nI (48 * i)) (nI k) S) ∧ (∀ j, j < 4 → hj S' (Z + 1) (48 * i + j) = cJ (qx x s j) ∧ hj S' (Z + 2) (48 * i + j) = cJ (qy y s j)) ∧ agr S S' (fun a j => ¬ ((a = Z + 1 ∨ a = Z + 2) ∧ 48 * i ≤ j ∧ j < 48 * i + 4)) ∧ hr S' = hr S := by
  intro m
  induction m with
  | zero =>
    intro k S hk M hc
    refine ⟨S, fun Post h => ?_, fun j hj0 => hc j (by omega), agr.rf, rfl⟩
    obtain ⟨w, hw⟩ := h
    refine ⟨1, ?_⟩
    have c0 : (4 : Int32) ≤ nI k := nI_le (a := 4) (by omega) (by omega)
    have r5 : hr (sI S (Z + 3) (4 * i) 4) Z 5 = some (Z + 4) := M.r5
    have r6 : hr (sI (sI S (Z + 3) (4 * i) 4) (Z + 4) i 1) Z 6 = some (Z + 5) := M.r6
    simp only [PX7_report_186, eq_true c0, true_implies, not_true_eq_false, false_implies, and_true, eq_true M.1, true_and, M.r4, r5, r6, Option.some.injEq, exists_eq_left', nI_40, eq_true (M.x3 (show 4 * i < 48 by omega)), eq_true (M.x4 hi0), eq_true (M.x5 hi0), nI_clamp (show 4 * i < 2 ^ 31 by omega), nI_clamp (show i < 2 ^ 31 by omega), forall_eq, is_I, ix_I]
    exact ⟨w, hw⟩
  | succ m ih =>
    intro k S hk M hc
    have c0 : ¬ (4 : Int32) ≤ nI k := nI_ge (b := 4) (by omega) (by omega)
    obtain ⟨S', q1, q2, q3, q4⟩ := ih (k + 1) (sJ (sJ S (Z + 1) (48 * i + k) (cJ (qx x s k))) (Z + 2) (48 * i + k) (cJ (qy y s k))) (by omega) M (fun j hj0 => by
      by_cases e : j = k
      · subst e
        rw [rdJ (b := Z + 1) (Or.inl (by omega))]
        exact ⟨up2_same _ _ _ _, up2_same _ _ _ _⟩
      · rw [rdJ (b := Z + 1) (Or.inl (by omega)), rdJ (Or.inr (by omega)), rdJ (Or.inr (by omega)), rdJ (Or.inl (by omega))]
        exact hc j (by omega))
    refine ⟨S', fun Post h => ?_, q2, ((agr.rf.wJ (fun h => h ⟨by omega, by omega, by omega⟩)).wJ (fun h => h ⟨by omega, by omega, by omega⟩)).tr q3, q4⟩
    obtain ⟨w, hw⟩ := q1 Post h
    refine ⟨w + 1, ?_⟩
    have e0 : (nI k = 0) = (k = 0) := nI_eq0 (by omega)
    have e3 : (nI k = (3 : Int32)) = (k = 3) := propext (nI_eq (b := 3) (by omega) (by omega))
    have e2 : ((2 : Int32) ≤ nI k) = (2 ≤ k) := nI_lek (x := 2) (by omega) (by omega)
    have r3 : ∀ v, hr (sJ S (Z + 1) (48 * i + k) v) Z 3 = some (Z + 2) := fun v => M.r3
    have l1 : cJ x - cJ s = cJ (x - s) := cJ_sub _ _
    have k254 : ∀ v, PX7_report_254 Post (PX7_report_186 Post w) Z (cJ x) (cJ y) c (cI s) (nI i) (nI (48 * i)) (nI k) (Z + 2) (nI (48 * i + k)) (cJ (qy y s k)) (sJ S (Z + 1) (48 * i + k) v) = PX7_report_186 Post w Z (cJ x) (cJ y) c (cI s) (nI i) (nI (48 * i)) (nI (k + 1)) (sJ (sJ S (Z + 1) (48 * i + k) v) (Z + 2) (48 * i + k) (cJ (qy y s k))) := by
      intro v
      simp only [PX7_report_254, ix_J, eq_true (M.x2 (show 48 * i + k < 576 by omega)), true_and, nI_clamp (show 48 * i + k < 2 ^ 31 by omega), forall_eq, nI_1]
    have k225 : PX7_report_225 Post (PX7_report_186 Post w) Z (cJ x) (cJ y) c (cI s) (nI i) (nI (48 * i)) (nI k) (Z + 1) (nI (48 * i + k)) (cJ (qx x s k)) S := by
      simp only [PX7_report_225, eq_true (M.x1 (show 48 * i + k < 576 by omega)), true_and, nI_clamp (show 48 * i + k < 2 ^ 31 by omega), forall_eq, is_J, eq_true M.1, r3, Option.some.injEq, exists_eq_left', e2, cI_l hs0, cJ_add, cJ_sub, nI_addk]
      have := k254 (cJ (qx x s k))
      by_cases z : 2 ≤ k
      · simp only [z, true_implies, not_true_eq_false, false_implies, and_true]
        have ey : qy y s k = y + s := if_pos z
        rw [ey] at this
        rw [this]
        rw [ey] at hw
        exact hw
      · simp only [z, false_implies, not_false_eq_true, true_implies, true_and]
        have ey : qy y s k = y - s := if_neg z
        rw [ey] at this
        rw [this]
        rw [ey] at hw
        exact hw
    simp only [PX7_report_186, PX7_report_212, c0, false_implies, not_false_eq_true, true_implies, true_and, eq_true M.1, M.r2, Option.some.injEq, exists_eq_left', e0, e3, nI_addk, cI_l hs0, cJ_sub, cJ_add]
    by_cases z : k = 0 ∨ k = 3
    · have ex : qx x s k = x - s := if_pos z
      rw [ex] at k225
      exact ⟨fun _ => k225, fun _ => ⟨fun _ => k225, fun z3 => absurd (z.resolve_left (by assumption)) z3⟩⟩
    · have ex : qx x s k = x + s := if_neg z
      rw [ex] at k225
      exact ⟨fun z0 => absurd (Or.inl z0) z, fun _ => ⟨fun z3 => absurd (Or.inr z3) z, fun _ => k225⟩⟩
end
