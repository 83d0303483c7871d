/-! inside -/
def shJ (sec : Int) (s : Fr × Fr) : Int64 := cJ ((s.2.1 * s.1.2 - s.1.1 * s.2.2) * (sec * 1000)) / cJ (s.1.2 * s.2.2)
def sumJ (sec : Int) : Int64 → List (Fr × Fr) → Int64
  | acc, [] => acc
  | acc, s :: L => sumJ sec (acc + shJ sec s) L
noncomputable def th (A : Ga) (T : Gk) (i t p : Nat) : Int64 := if ggap (T.2.2 t) p = true then 0 else sumJ (gsec (T.2.2 t) p) 0 (sL A T i t p)
section
variable {S S' : hs} {n nC nM i p t Z : Nat} {f : Nat → Fr} {D : List (Nat × Nat)} {A : Ga} {R : Nat × Gr} {T : Gk} {E : Gx}
theorem s_sum {tr nT : Nat} {G : Gt} (ho : is S 6 0) (h4 : hr S 0 4 = some (32 + 14 * n)) (C : CU S (32 + 14 * n) nC f) (hC : CI nC f) (hZ : SZ S (32 + 14 * n) D) (hD50 : D.length ≤ 50) (hb : ∀ x, x ∈ D → x.1 < nC ∧ x.2 < nC) (K : TrC S tr nT G) (hp : p + 1 < nT) : ∀ (L D1 : List (Nat × Nat)) (acc : Int64), D = D1 ++ L → ∀ Post : Int64 → hs → Prop, Post (sumJ (gsec G p) acc (L.map (fun x => (f x.1, f x.2)))) S → ∃ w, PX6_thousandthsIn_26 Post w 0 tr (nI p) acc (nI D1.length) S := by
  have h50 := C.2.1.2
  intro L
  induction L with
  | nil =>
    intro D1 acc hD Post h
    have e : D1.length = D.length := by rw [hD]; simp
    have c1 : nI D.length ≤ nI D1.length := nI_le (by omega) (by omega)
    refine ⟨1, ?_⟩
    simp only [PX6_thousandthsIn_26, PX4_size, eq_true ho, true_and, h4, Option.some.injEq, exists_eq_left', eq_true C.1.1, hZ.1, eq_true c1, true_implies, not_true_eq_false, false_implies, and_true]
    exact h
  | cons x L ih =>
    intro D1 acc hD Post h
    have hx : x ∈ D := by rw [hD]; simp
    have hk : D[D1.length]? = some x := by rw [hD]; simp
    have hlt : D1.length < D.length := by rw [hD]; simp
    have hbx := hb x hx
    have hD' : D = (D1 ++ [x]) ++ L := by rw [hD]; simp
    have c1 : ¬ nI D.length ≤ nI D1.length := nI_ge hlt (by omega)
    obtain ⟨w, hw⟩ := ih (D1 ++ [x]) (acc + shJ (gsec G p) (f x.1, f x.2)) hD' Post h
    rw [List.length_append] at hw
    refine ⟨w + 1, ?_⟩
    have b1 := okF_b (hC.1 x.1 hbx.1)
    have b2 := okF_b (hC.1 x.2 hbx.2)
    have u0 : bJ ((f x.1).2 * (f x.2).2) := mb2 ⟨by omega, by omega⟩ ⟨by omega, by omega⟩
    have u1 : 0 < (f x.1).2 * (f x.2).2 := Int.mul_pos (by omega) (by omega)
    have q0 : ¬ cJ ((f x.1).2 * (f x.2).2) ≤ (0 : Int64) := by rw [j0, cJ_le u0 ⟨by omega, by omega⟩]; omega
    have q1 : ¬ cJ ((f x.1).2 * (f x.2).2) = (0 : Int64) := by rw [j0, cJ_eq u0 ⟨by omega, by omega⟩]; omega
    simp only [PX6_thousandthsIn_26, PX4_size, PX4_shareOf, PX4_shareOf_76, eq_true ho, true_and, h4, Option.some.injEq, exists_eq_left', eq_true C.1.1, hZ.1, c1, false_implies, not_false_eq_true, true_implies, eq_true K.1.1, s_sec K hp, s_bg C.1 hZ hD50 hk, s_en C.1 hZ hD50 hk, s_un C hbx.1, s_un C hbx.2, s_ov C hbx.1, s_ov C hbx.2, show (1000 : Int64) = cJ 1000 from rfl, cJ_mul, cJ_sub, forall_eq, q0, q1, nI_1]
    exact hw
theorem c_thou (c1 : CA S n A) (c3 : CT S n T) (h4 : hr S 0 4 = some (32 + 14 * n)) (c5 : CZ S (32 + 14 * n)) (hA : WA n A) (hi0 : i < n) (ht : t < 6) (hp : p + 1 < T.2.1 t) : ∃ S', (∀ Post, Post (th A T i t p) S' → PX6_thousandthsIn 0 (2 + 14 * i) (8 + 14 * n + 4 * t) (nI p) S Post) ∧ agr S S' (pz2 (32 + 14 * n)) ∧ hr S' = hr S := by
  have K := c3.t ht
  cases hg : ggap (T.2.2 t) p with
  | true =>
    refine ⟨S, fun Post h => ?_, agr.rf, rfl⟩
    simp only [PX6_thousandthsIn, eq_true K.1.1, true_and, s_gap K hp, hg, zbt, false_implies, not_false_eq_true, true_implies]
    unfold th at h
    rw [if_pos hg] at h
    exact h
  | false =>
    obtain ⟨S1, nC, f, D, q1, q2, q3, q4, q5, q6, q7, q8⟩ := s_findAll (a := 32 + 14 * n) (ar := 2 + 14 * i) (tr := 8 + 14 * n + 4 * t) (by omega) (by omega) c5 (c1.a hi0) K hp
    have h50 := q2.1.2.1.2
    refine ⟨S1, fun Post h => ?_, q7, q8⟩
    simp only [PX6_thousandthsIn, eq_true K.1.1, true_and, s_gap K hp, hg, zbf, not_true_eq_false, false_implies, true_implies, and_true, eq_true c1.o, h4, Option.some.injEq, exists_eq_left', eq_true c5.1]
    refine q1 _ ?_
    rw [← nI_0, j0]
    refine s_sum (n := n) (by rw [q7.o]; exact c1.o) (by rw [q8]; exact h4) q2.1 q2.2.1 q3 (by omega) q4 (K.fr q7 (fun b j h1 h2 => by unfold pz2; omega)) hp D [] (cJ 0) rfl Post ?_
    rw [q5, q2.st (hA i hi0).2.2]
    unfold th sL at h
    rw [hg] at h
    exact h
theorem m_sum (C : MU S Z nM f) (hC : CI nM f) (hZ : MZ S Z D) (hD : D.length ≤ 128) (hb : ∀ x, x ∈ D → x.1 < nM ∧ x.2 < nM) {nT : Nat} {G : Gt} (K : TrM S Z t nT G) (hp : p + 1 < nT) : ∀ (L D1 : List (Nat × Nat)) (acc : Int64), D = D1 ++ L → ∀ Post : Int64 → hs → Prop, Post (sumJ (gsec G p) acc (L.map (fun x => (f x.1, f x.2)))) S → ∃ w, PX7_within_21 Post w Z (nI (30 * t + p)) acc (nI D1.length) S := by
  have h128 := C.2.1.2
  intro L
  induction L with
  | nil =>
    intro D1 acc hD1 Post h
    have e : D1.length = D.length := by rw [hD1]; simp
    have c1 : nI D.length ≤ nI D1.length := nI_le (by omega) (by omega)
    refine ⟨1, ?_⟩
    simp only [PX7_within_21, eq_true C.1.1, true_and, hZ.1, eq_true c1, true_implies, not_true_eq_false, false_implies, and_true]
    exact h
  | cons x L ih =>
    intro D1 acc hD1 Post h
    have hx : x ∈ D := by rw [hD1]; simp
    have hk : D[D1.length]? = some x := by rw [hD1]; simp
    have hlt : D1.length < D.length := by rw [hD1]; simp
    have hbx := hb x hx
    have hD' : D = (D1 ++ [x]) ++ L := by rw [hD1]; simp
    have c1 : ¬ nI D.length ≤ nI D1.length := nI_ge hlt (by omega)
    obtain ⟨w, hw⟩ := ih (D1 ++ [x]) (acc + shJ (gsec G p) (f x.1, f x.2)) hD' Post h
    rw [List.length_append] at hw
    refine ⟨w + 1, ?_⟩
    have b1 := okF_b (hC.1 x.1 hbx.1)
    have b2 := okF_b (hC.1 x.2 hbx.2)
    have u0 : bJ ((f x.1).2 * (f x.2).2) := mb2 ⟨by omega, by omega⟩ ⟨by omega, by omega⟩
    have u1 : 0 < (f x.1).2 * (f x.2).2 := Int.mul_pos (by omega) (by omega)
    have q1 : ¬ cJ ((f x.1).2 * (f x.2).2) = (0 : Int64) := by rw [j0, cJ_eq u0 ⟨by omega, by omega⟩]; omega
    obtain ⟨v1, v2⟩ := hZ.2 _ _ hk
    obtain ⟨p1, p2⟩ := C.2.2 x.1 hbx.1
    obtain ⟨p3, p4⟩ := C.2.2 x.2 hbx.2
    have kd : (nI D1.length).toNatClampNeg = D1.length := nI_clamp (by omega)
    have k1 : (nI x.1).toNatClampNeg = x.1 := nI_clamp (by omega)
    have k2 : (nI x.2).toNatClampNeg = x.2 := nI_clamp (by omega)
    have e : (1000 : Int) * gsec G p = gsec G p * 1000 := Int.mul_comm _ _
    simp only [PX7_within_21, eq_true C.1.1, true_and, hZ.1, c1, false_implies, not_false_eq_true, true_implies, C.1.r23, C.1.r24, C.1.r26, C.1.r27, Option.some.injEq, exists_eq_left', eq_true (C.1.x19 (show D1.length < 128 by omega)), eq_true (C.1.x20 (show D1.length < 128 by omega)), kd, v1, v2, forall_eq, eq_true (C.1.x17 (show x.1 < 128 by omega)), eq_true (C.1.x17 (show x.2 < 128 by omega)), eq_true (C.1.x18 (show x.1 < 128 by omega)), eq_true (C.1.x18 (show x.2 < 128 by omega)), k1, k2, p1, p2, p3, p4, m_lasts K hp, show (1000 : Int64) = cJ 1000 from rfl, cJ_mul, cJ_sub, e, q1, nI_1]
    exact hw
theorem m_thou (M : MS S n A R T E) (hA : WA n A) (hi0 : i < n) (ht : t < 6) (hp : p + 1 < T.2.1 t) (hc : 0 < A.1 i) (hex : ∃ q, isC2 (A.1 i) (A.2.2.2.1 i) (A.2.2.2.2.1 i) (A.2.2.2.2.2 i) ((T.2.2 t).2.1 p) ((T.2.2 t).2.2 p) ((T.2.2 t).2.1 (p + 1) - (T.2.2 t).2.1 p) ((T.2.2 t).2.2 (p + 1) - (T.2.2 t).2.2 p) q) : ∃ S', (∀ Post, Post (th A T i t p) S' → PX7_within (49 + 14 * n) (nI i) (nI (30 * t + p)) S Post) ∧ agr S S' (pr (49 + 14 * n)) ∧ hr S' = hr S := by
  have m1 := M.1
  have K := M.2.2.1.2.2.2 t ht
  have hok := (hA i hi0).2.2
  cases hg : ggap (T.2.2 t) p with
  | true =>
    refine ⟨S, fun Post h => ?_, agr.rf, rfl⟩
    simp only [PX7_within, eq_true m1.1.1, true_and, m_gap K hp, hg, zbt, false_implies, not_false_eq_true, true_implies]
    unfold th at h
    rw [if_pos hg] at h
    exact h
  | false =>
    obtain ⟨S1, nM, f, D, q1, q2, q3, q4, q5, q6, q7, q8⟩ := m_stretch hc hok (m1.a hi0) K hp
    have h128 := q2.1.2.1.2
    refine ⟨S1, fun Post h => ?_, q7.mono (fun b j h => by unfold pr at h; unfold pj; omega), q8⟩
    simp only [PX7_within, eq_true m1.1.1, true_and, m_gap K hp, hg, zbf, not_true_eq_false, false_implies, true_implies, and_true]
    refine q1 _ ?_
    rw [← nI_0, j0]
    refine m_sum q2.1 q2.2.1 q3 (by omega) q4 (K.fj q7 q8) hp D [] (cJ 0) rfl Post ?_
    rw [q5, q2.st hok hex]
    unfold th sL at h
    rw [hg] at h
    exact h
/-- over the pieces from p on that are asked for -/
noncomputable def msum (A : Ga) (T : Gk) (i t : Nat) (sel : Nat → Bool) : Nat → Nat → Int64 → Int64
  | _, 0, acc => acc
  | p, d + 1, acc => msum A T i t sel (p + 1) d (if sel p = true then acc + th A T i t p else acc)
theorem msum_0 {sel : Nat → Bool} : ∀ d p acc, (∀ j, p ≤ j → j < p + d → sel j = false) → msum A T i t sel p d acc = acc
  | 0, p, acc, _ => rfl
  | d + 1, p, acc, h => by
    unfold msum
    rw [h p (by omega) (by omega)]
    exact msum_0 d (p + 1) acc (fun j h1 h2 => h j (by omega) (by omega))
theorem msum_1 {q : Nat} : ∀ d p acc, p ≤ q → q < p + d → msum A T i t (fun j => decide (j = q)) p d acc = acc + th A T i t q
  | 0, p, acc, h1, h2 => by omega
  | d + 1, p, acc, h1, h2 => by
    unfold msum
    by_cases e : p = q
    · subst e
      simp only [decide_true, if_true]
      exact msum_0 d (p + 1) _ (fun j h3 h4 => by simp; omega)
    · simp only [e, decide_false, Bool.false_eq_true, if_false]
      exact msum_1 d (p + 1) acc (by omega) (by omega)
theorem c_in70 (hA : WA n A) (hi0 : i < n) (ht : t < 6) : ∀ (d p : Nat) (S : hs) (acc : Int64), p + d = T.2.1 t - 1 → CA S n A → CT S n T → hr S 0 4 = some (32 + 14 * n) → CZ S (32 + 14 * n) → ∃ S', (∀ Post, Post (msum A T i t (fun _ => true) p d acc) S' → ∃ w, PX6_inside_70 Post w 0 (nI i) (8 + 14 * n + 4 * t) acc (nI p) S) ∧ agr S S' (pz2 (32 + 14 * n)) ∧ hr S' = hr S := by
  intro d
  induction d with
  | zero =>
    intro p S acc hd c1 c3 h4 c5
    have K := c3.t ht
    have h30 := K.n30
    have c0 : nI (T.2.1 t - 1) ≤ nI p := nI_le (by omega) (by omega)
    refine ⟨S, fun Post h => ⟨1, ?_⟩, agr.rf, rfl⟩
    simp only [PX6_inside_70, eq_true K.1.1, true_and, s_pieces K, eq_true c0, true_implies, not_true_eq_false, false_implies, and_true]
    exact h
  | succ d ih =>
    intro p S acc hd c1 c3 h4 c5
    have K := c3.t ht
    have h30 := K.n30
    have c0 : ¬ nI (T.2.1 t - 1) ≤ nI p := nI_ge (by omega) (by omega)
    obtain ⟨S1, p1, p2, p3⟩ := c_thou c1 c3 h4 c5 hA hi0 ht (show p + 1 < T.2.1 t by omega)
    obtain ⟨S', q1, q2, q3⟩ := ih (p + 1) S1 (acc + th A T i t p) (by omega) (c1.fr p2 (by unfold pz2; omega) (fun b j _ _ => by unfold pz2; omega)) (c3.fr p2 (by unfold pz2; omega) (by unfold pz2; omega) (fun b j _ _ => by unfold pz2; omega)) (by rw [p3]; exact h4) (c5.fr p2 (fun j => Or.inr (by rw [p3])))
    refine ⟨S', fun Post h => ?_, p2.tr q2, q3.trans p3⟩
    obtain ⟨w, hw⟩ := q1 Post h
    refine ⟨w + 1, ?_⟩
    simp only [PX6_inside_70, eq_true K.1.1, true_and, s_pieces K, c0, false_implies, not_false_eq_true, true_implies, eq_true c1.o, c1.r0, Option.some.injEq, exists_eq_left', eq_true (c1.ix hi0), c1.ri hi0, forall_eq, nI_1]
    exact p1 _ hw
theorem m_in52 {v : Int32} {sel : Nat → Bool} (hA : WA n A) (hi0 : i < n) (ht : t < 6) (hc : 0 < A.1 i) (hsel : ∀ p, p < 30 → (v < 0 ∨ v = nI p ↔ sel p = true)) (hex : ∀ p, p + 1 < T.2.1 t → ∃ q, isC2 (A.1 i) (A.2.2.2.1 i) (A.2.2.2.2.1 i) (A.2.2.2.2.2 i) ((T.2.2 t).2.1 p) ((T.2.2 t).2.2 p) ((T.2.2 t).2.1 (p + 1) - (T.2.2 t).2.1 p) ((T.2.2 t).2.2 (p + 1) - (T.2.2 t).2.2 p) q) : ∀ (d p : Nat) (S : hs) (acc : Int64), p + d = T.2.1 t - 1 → MS S n A R T E → ∃ S', (∀ Post, Post (msum A T i t sel p d acc) S' → ∃ w, PX7_inside_52 Post w (49 + 14 * n) (nI i) (nI t) v acc (nI p) S) ∧ MS S' n A R T E ∧ agr S S' (pr (49 + 14 * n)) ∧ hr S' = hr S := by
  intro d
  induction d with
  | zero =>
    intro p S acc hd M
    have m1 := M.1
    have K := M.2.2.1.2.2.2 t ht
    have h30 := K.1.2.2.2
    have r11 : hi S (49 + 14 * n + 11) t = nI (T.2.1 t) := K.1.2.2.1
    have kt : (nI t).toNatClampNeg = t := nI_clamp (by omega)
    have c0 : nI (T.2.1 t) ≤ nI (p + 1) := nI_le (by omega) (by omega)
    refine ⟨S, fun Post h => ⟨1, ?_⟩, M, agr.rf, rfl⟩
    simp only [PX7_inside_52, eq_true m1.1.1, true_and, m1.1.r14, Option.some.injEq, exists_eq_left', eq_true (m1.1.x11 ht), kt, r11, nI_1, eq_true c0, true_implies, not_true_eq_false, false_implies, and_true]
    exact h
  | succ d ih =>
    intro p S acc hd M
    have m1 := M.1
    have K := M.2.2.1.2.2.2 t ht
    have h30 := K.1.2.2.2
    have r11 : hi S (49 + 14 * n + 11) t = nI (T.2.1 t) := K.1.2.2.1
    have kt : (nI t).toNatClampNeg = t := nI_clamp (by omega)
    have c0 : ¬ nI (T.2.1 t) ≤ nI (p + 1) := nI_ge (by omega) (by omega)
    have hs0 := hsel p (by omega)
    cases hs1 : sel p with
    | true =>
      obtain ⟨S1, p1, p2, p3⟩ := m_thou M hA hi0 ht (show p + 1 < T.2.1 t by omega) hc (hex p (by omega))
      obtain ⟨S', q1, q2, q3, q4⟩ := ih (p + 1) S1 (acc + th A T i t p) (by omega) (M.fp p2 p3)
      refine ⟨S', fun Post h => ?_, q2, p2.tr q3, q4.trans p3⟩
      unfold msum at h
      rw [hs1, if_pos rfl] at h
      obtain ⟨w, hw⟩ := q1 Post h
      refine ⟨w + 1, ?_⟩
      have k77 : PX7_inside_77 Post (PX7_inside_52 Post w) (49 + 14 * n) (nI i) (nI t) v (nI p) acc S := by
        simp only [PX7_inside_77, PX7_inside_93, eq_true m1.1.1, true_and, nI_30, forall_eq, nI_1]
        exact p1 _ hw
      simp only [PX7_inside_52, eq_true m1.1.1, true_and, m1.1.r14, Option.some.injEq, exists_eq_left', eq_true (m1.1.x11 ht), kt, r11, nI_1, c0, false_implies, not_false_eq_true, true_implies]
      refine ⟨fun _ => k77, fun z => ⟨fun _ => k77, fun z2 => ?_⟩⟩
      exact absurd (hs0.mpr hs1) (fun q => q.elim z z2)
    | false =>
      obtain ⟨S', q1, q2, q3, q4⟩ := ih (p + 1) S acc (by omega) M
      refine ⟨S', fun Post h => ?_, q2, q3, q4⟩
      unfold msum at h
      rw [hs1, if_neg (by decide)] at h
      obtain ⟨w, hw⟩ := q1 Post h
      refine ⟨w + 1, ?_⟩
      have hn : ¬ (v < 0 ∨ v = nI p) := fun q => by rw [hs0.mp q] at hs1; cases hs1
      have z1 : ¬ v < 0 := fun q => hn (Or.inl q)
      have z2 : ¬ v = nI p := fun q => hn (Or.inr q)
      simp only [PX7_inside_52, PX7_inside_93, eq_true m1.1.1, true_and, m1.1.r14, Option.some.injEq, exists_eq_left', eq_true (m1.1.x11 ht), kt, r11, nI_1, c0, z1, z2, false_implies, not_false_eq_true, true_implies, forall_eq, Int64.add_zero]
      exact hw
theorem CS.fz (C : CS S n A R T E) (g : agr S S' (pz2 (32 + 14 * n))) (e : hr S' = hr S) : CS S' n A R T E := by
  obtain ⟨c1, c2, c3, ⟨c4, c5⟩, l, l', c6⟩ := C
  exact ⟨c1.fr g (by unfold pz2; omega) (fun b j _ _ => by unfold pz2; omega), c2.fr g (by unfold pz2; omega) (fun b j _ _ => by unfold pz2; omega), c3.fr g (by unfold pz2; omega) (by unfold pz2; omega) (fun b j _ _ => by unfold pz2; omega), ⟨by rw [e]; exact c4, c5.fr g (fun j => Or.inr (by rw [e]))⟩, l, l', c6.fr g (by unfold pz2; omega) (by unfold pz2; omega) (fun b j _ _ => by unfold pz2; omega)⟩
theorem op_inside {v w z : Int32} (C : CS S n A R T E) (M : MS S n A R T E) (hA : WA n A) (hT : WT T) : Jo n (PX6_inside 0 v w z) (PX7_inside (49 + 14 * n) v w z) S := by
  have c1 := C.1
  have c3 := C.2.2.1
  have h6 := c3.n6
  have h12 := c1.n12
  have M2 := M.code (v := 0)
  have m1 := M2.1
  have m3 := M2.2.2.1
  cases hv : thr n A v with
  | false =>
    refine Jo.ro C M hA hT (-1) (fun P => ?_) (fun P => ?_)
    · simp only [PX6_inside, PX6_inside_16, eq_true c1.o, c_thr c1, hv, zbf, true_and, not_true_eq_false, false_implies, true_implies, and_true]
    · simp only [PX7_inside, PX7_inside_42, eq_true M.1.1.1, eq_true m1.1.1, forall_eq, m_thr m1 h12.2, hv, zbf, true_and, not_true_eq_false, false_implies, true_implies, and_true]
  | true =>
    obtain ⟨i, hi0, rfl, hc⟩ := thr_ex h12.2 hv
    cases hw : trk T w with
    | false =>
      refine Jo.ro C M hA hT (-1) (fun P => ?_) (fun P => ?_)
      · simp only [PX6_inside, PX6_inside_16, eq_true c1.o, c_thr c1, hv, zbt, true_and, not_false_eq_true, false_implies, true_implies, c_trk c3 c1.o, hw, zbf, not_true_eq_false, and_true]
      · simp only [PX7_inside, PX7_inside_42, eq_true M.1.1.1, eq_true m1.1.1, forall_eq, m_thr m1 h12.2, hv, zbt, true_and, not_false_eq_true, false_implies, true_implies, m_trk m3, hw, zbf, not_true_eq_false, and_true]
    | true =>
      obtain ⟨t, ht, rfl⟩ := trk_ex h6 hw
      have ht6 : t < 6 := by omega
      have K := c3.t ht6
      have h30 := K.n30
      have hex : ∀ p, p + 1 < T.2.1 t → ∃ q, isC2 (A.1 i) (A.2.2.2.1 i) (A.2.2.2.2.1 i) (A.2.2.2.2.2 i) ((T.2.2 t).2.1 p) ((T.2.2 t).2.2 p) ((T.2.2 t).2.1 (p + 1) - (T.2.2 t).2.1 p) ((T.2.2 t).2.2 (p + 1) - (T.2.2 t).2.2 p) q := fun p h2 => c_ex C hi0 ht6 h2
      have kt : (nI t).toNatClampNeg = t := nI_clamp (by omega)
      -- both sides sum something, in states S1, S2
      have fin : ∀ (r : Int64) (S1 : hs), (∀ Post, Post r S1 → PX6_inside 0 (nI i) (nI t) z S Post) → agr S S1 (pz2 (32 + 14 * n)) → hr S1 = hr S → (∀ M1 : MS S1 n A R T E, ∃ S2, (∀ Post, Post r S2 → PX7_inside (49 + 14 * n) (nI i) (nI t) z S1 Post) ∧ MS S2 n A R T E ∧ agr S1 S2 (pL (49 + 14 * n))) → Jo n (PX6_inside 0 (nI i) (nI t) z) (PX7_inside (49 + 14 * n) (nI i) (nI t) z) S := by
        intro r S1 h1 g e h2
        have gU : agr S S1 (pU (49 + 14 * n)) := g.mono (fun b j h => by unfold pU at h; unfold pz2; omega)
        obtain ⟨S2, q1, q2, q3⟩ := h2 (M.up gU)
        exact ⟨r, S1, S2, h1, q1, ⟨A, R, T, E, (C.fz g e).low q3, q2, hA, hT⟩, ⟨g.1.1, g.1.2.1, g.1.2.2⟩, ⟨q3.1.1.trans g.1.1, q3.1.2.1.trans g.1.2.1, q3.1.2.2.trans g.1.2.2⟩⟩
      have mod : ∀ (sel : Nat → Bool) (S1 : hs), MS S1 n A R T E → (∀ p, p < 30 → (z < 0 ∨ z = nI p ↔ sel p = true)) → (z < (-1 : Int32) → False) → (¬ z < 0 → z < nI (T.2.1 t) - 1) → ∃ S2, (∀ Post, Post (msum A T i t sel 0 (T.2.1 t - 1) 0) S2 → PX7_inside (49 + 14 * n) (nI i) (nI t) z S1 Post) ∧ MS S2 n A R T E ∧ agr S1 S2 (pL (49 + 14 * n)) := by
        intro sel S1 M1 hs z1 z2
        have M3 := M1.code (v := 0)
        have K3 := M3.2.2.1.2.2.2 t ht6
        have r11 : hi (sI S1 (49 + 14 * n) 0 0) (49 + 14 * n + 11) t = nI (T.2.1 t) := K3.1.2.2.1
        obtain ⟨S2, q1, q2, q3, q4⟩ := m_in52 (v := z) (sel := sel) hA hi0 ht6 hc hs hex (T.2.1 t - 1) 0 (sI S1 (49 + 14 * n) 0 0) 0 (by omega) M3
        refine ⟨S2, fun Post h => ?_, q2, g_code.tr (q3.mono (fun b j h => by unfold pL at h; unfold pr; omega))⟩
        have k46 : PX7_inside_46 Post (49 + 14 * n) (nI i) (nI t) z (sI S1 (49 + 14 * n) 0 0) := by
          unfold PX7_inside_46
          rw [← nI_0]
          exact q1 Post h
        simp only [PX7_inside, eq_true M1.1.1.1, eq_true M3.1.1.1, forall_eq, m_thr M3.1 h12.2, hv, zbt, true_and, not_false_eq_true, false_implies, true_implies, m_trk M3.2.2.1, hw, eq_false z1, M3.1.1.r14, Option.some.injEq, exists_eq_left', eq_true (M3.1.1.x11 ht6), kt, r11]
        exact ⟨fun _ => k46, fun y => ⟨fun _ => k46, fun y2 => absurd (z2 y) y2⟩⟩
      rcases of_cases (T.2.1 t - 1) (by omega) z with ⟨q, hq, rfl⟩ | hz0
      · obtain ⟨S1, p1, p2, p3⟩ := c_thou c1 c3 C.2.2.2.1.1 C.2.2.2.1.2 hA hi0 ht6 (show q + 1 < T.2.1 t by omega)
        have z0 : ¬ nI q < 0 := nI_pos (by omega)
        refine fin (th A T i t q) S1 (fun Post h => ?_) p2 p3 (fun M1 => ?_)
        · have c0 : ¬ nI (T.2.1 t - 1) ≤ nI q := nI_ge hq (by omega)
          simp only [PX6_inside, eq_true c1.o, c_thr c1, hv, zbt, true_and, not_false_eq_true, false_implies, true_implies, c_trk c3 c1.o, hw, c3.r2, Option.some.injEq, exists_eq_left', eq_true (c3.ix ht6), c3.ri ht6, z0, eq_true K.1.1, s_pieces K, c0, c1.r0, eq_true (c1.ix hi0), c1.ri hi0]
          exact p1 _ h
        · obtain ⟨S2, w1, w2, w3⟩ := mod (fun j => decide (j = q)) S1 M1 (fun p hp => by
            rw [decide_eq_true_eq]
            constructor
            · rintro (y | y)
              · exact absurd y z0
              · exact ((nI_eq (by omega) (by omega)).mp y).symm
            · intro y; right; rw [y]) (fun y => by
            have : (-1 : Int32) < 0 := by decide
            exact z0 (Int32.lt_trans y this)) (fun _ => by rw [nI_pr (by omega)]; exact nI_lt hq (by omega))
          refine ⟨S2, fun Post h => w1 Post ?_, w2, w3⟩
          rw [msum_1 (T.2.1 t - 1) 0 0 (by omega) (by omega), Int64.zero_add]
          exact h
      · by_cases zm : z = -1
        · obtain ⟨S1, p1, p2, p3⟩ := c_in70 hA hi0 ht6 (T.2.1 t - 1) 0 S 0 (by omega) c1 c3 C.2.2.2.1.1 C.2.2.2.1.2
          have z0 : z < 0 := by rw [zm]; decide
          refine fin (msum A T i t (fun _ => true) 0 (T.2.1 t - 1) 0) S1 (fun Post h => ?_) p2 p3 (fun M1 => ?_)
          · obtain ⟨w, hw0⟩ := p1 Post h
            simp only [PX6_inside, PX6_inside_55, eq_true c1.o, c_thr c1, hv, zbt, true_and, not_false_eq_true, false_implies, true_implies, c_trk c3 c1.o, hw, c3.r2, Option.some.injEq, exists_eq_left', eq_true (c3.ix ht6), c3.ri ht6, eq_true z0, not_true_eq_false, and_true, eq_true zm]
            rw [← nI_0]
            exact ⟨w, hw0⟩
          · exact mod (fun _ => true) S1 M1 (fun p hp => ⟨fun _ => rfl, fun _ => Or.inl z0⟩) (fun y => by rw [zm] at y; exact absurd y (by decide)) (fun y => absurd z0 y)
        · refine Jo.ro C M hA hT (-1) (fun P => ?_) (fun P => ?_)
          · by_cases z0 : z < 0
            · simp only [PX6_inside, PX6_inside_55, eq_true c1.o, c_thr c1, hv, zbt, true_and, not_false_eq_true, false_implies, true_implies, c_trk c3 c1.o, hw, c3.r2, Option.some.injEq, exists_eq_left', eq_true (c3.ix ht6), c3.ri ht6, eq_true z0, not_true_eq_false, and_true, zm]
            · have c0 := hz0.resolve_left z0
              simp only [PX6_inside, PX6_inside_55, eq_true c1.o, c_thr c1, hv, zbt, true_and, not_false_eq_true, false_implies, true_implies, c_trk c3 c1.o, hw, c3.r2, Option.some.injEq, exists_eq_left', eq_true (c3.ix ht6), c3.ri ht6, z0, eq_true K.1.1, s_pieces K, eq_true c0, not_true_eq_false, and_true, zm]
          · have K3 := m3.2.2.2 t ht6
            have r11 : hi (sI S (49 + 14 * n) 0 0) (49 + 14 * n + 11) t = nI (T.2.1 t) := K3.1.2.2.1
            simp only [PX7_inside, PX7_inside_42, eq_true M.1.1.1, eq_true m1.1.1, forall_eq, m_thr m1 h12.2, hv, zbt, true_and, not_false_eq_true, false_implies, true_implies, m_trk m3, hw, m1.1.r14, Option.some.injEq, exists_eq_left', eq_true (m1.1.x11 ht6), kt, r11]
            obtain ⟨ez, bz⟩ := cI_of z
            generalize z.toInt = cz at ez bz
            subst ez
            have b1 : (cI cz < (-1 : Int32)) = (cz < -1) := by rw [show (-1 : Int32) = cI (-1) from rfl]; exact propext (cI_lt bz ⟨by omega, by omega⟩)
            have b0 : (cI cz < (0 : Int32)) = (cz < 0) := by rw [i0]; exact propext (cI_lt bz ⟨by omega, by omega⟩)
            have b2 : ¬ cz = -1 := fun q => zm (by rw [q]; rfl)
            rw [b0, nI_c, cI_le ⟨by omega, by omega⟩ bz] at hz0
            simp only [b1, b0]
            by_cases y1 : cz < -1
            · simp only [y1, true_implies, not_true_eq_false, false_implies, and_true]
            · have y0 : ¬ cz < 0 := by omega
              have y2 : ¬ cI cz < nI (T.2.1 t) - 1 := by
                by_cases tz : T.2.1 t = 0
                · rw [tz, show nI 0 - 1 = cI (-1) from by decide, cI_lt bz ⟨by omega, by omega⟩]
                  omega
                · rw [nI_pr (by omega), nI_c, cI_lt bz ⟨by omega, by omega⟩]
                  omega
              simp only [y1, y0, y2, false_implies, not_false_eq_true, true_implies, true_and]
end
