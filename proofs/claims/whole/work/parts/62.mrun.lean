/-! the reference's run -/
def okV (e : Ev) : Prop := (e.1 ≤ 1000 ∧ e.2.1 ≤ 1000) ∧ okF e.2.2.2
def DM (S : hs) (Z : Nat) (W : List Ev) : Prop := (Md S Z ∧ hi S Z 20 = nI W.length) ∧ (∀ k e, k < 300 → W[k]? = some e → hj S (Z + 16) (5 * k) = cJ e.1 ∧ hj S (Z + 16) (5 * k + 1) = cJ e.2.2.2.1 ∧ hj S (Z + 16) (5 * k + 2) = cJ e.2.2.2.2 ∧ hj S (Z + 16) (5 * k + 3) = cJ e.2.1 ∧ hj S (Z + 16) (5 * k + 4) = cJ (if e.2.2.1 = true then 1 else 0)) ∧ ∀ e, e ∈ W → okV e
def pq (Z b j : Nat) : Prop := b ≠ Z + 16 ∧ (b = Z → j ≠ 20)
theorem nI_5 (k : Nat) : (5 : Int32) * nI k = nI (5 * k) := by rw [show (5 : Int32) = nI 5 from rfl, nI_mulk]
section
variable {S S' : hs} {Z n nM i p t g : Nat} {f : Nat → Fr} {D : List (Nat × Nat)} {W : List Ev} {A : Ga} {R : Nat × Gr} {T : Gk} {X : Gx} {prev : Bool}
theorem m_put {b : Nat} {en : Bool} (C : MU S Z nM f) (hI : CI nM f) (hb : b < nM) (M : DM S Z W) (hW : W.length < 2000000) (hp : p ≤ 1000) (hi0 : i ≤ 1000) : ∃ S', (∀ Post, Post S' → PX7_add Z (nI p) (nI b) (nI i) (zb en) S Post) ∧ DM S' Z (W ++ [(p, i, en, f b)]) ∧ agr S S' (pq Z) ∧ hr S' = hr S := by
  obtain ⟨⟨m1, m2⟩, m3, m4⟩ := M
  have h128 := C.2.1.2
  have ok : ∀ e, e ∈ W ++ [(p, i, en, f b)] → okV e := by
    intro e he
    rcases List.mem_append.mp he with q | q
    · exact m4 e q
    · have : e = (p, i, en, f b) := by simpa using q
      subst this
      exact ⟨⟨hp, hi0⟩, hI.1 b hb⟩
  by_cases c : W.length < 300
  · have c0 : ¬ (300 : Int32) ≤ nI W.length := nI_ge (b := 300) c (by omega)
    have a1 : nI (5 * W.length) + 1 = nI (5 * W.length + 1) := nI_1 _
    have a2 : nI (5 * W.length) + 2 = nI (5 * W.length + 2) := nI_addk _ 2
    have a3 : nI (5 * W.length) + 3 = nI (5 * W.length + 3) := nI_addk _ 3
    have a4 : nI (5 * W.length) + 4 = nI (5 * W.length + 4) := nI_addk _ 4
    have k0 : (nI (5 * W.length)).toNatClampNeg = 5 * W.length := nI_clamp (by omega)
    have k1 : (nI (5 * W.length + 1)).toNatClampNeg = 5 * W.length + 1 := nI_clamp (by omega)
    have k2 : (nI (5 * W.length + 2)).toNatClampNeg = 5 * W.length + 2 := nI_clamp (by omega)
    have k3 : (nI (5 * W.length + 3)).toNatClampNeg = 5 * W.length + 3 := nI_clamp (by omega)
    have k4 : (nI (5 * W.length + 4)).toNatClampNeg = 5 * W.length + 4 := nI_clamp (by omega)
    have kb : (nI b).toNatClampNeg = b := nI_clamp (by omega)
    have lp : (nI p).toInt64 = cJ p := nI_lc (by omega)
    have li : (nI i).toInt64 = cJ i := nI_lc (by omega)
    have le : (zb en).toInt64 = cJ (if en = true then 1 else 0) := by cases en <;> decide
    obtain ⟨v1, v2⟩ := C.2.2 b hb
    have o1 : ∀ v, hj (sJ S (Z + 16) (5 * W.length) v) (Z + 17) b = cJ (f b).1 := fun v => (rdJ (Or.inl (by omega))).trans v1
    have o2 : ∀ v w, hj (sJ (sJ S (Z + 16) (5 * W.length) v) (Z + 16) (5 * W.length + 1) w) (Z + 18) b = cJ (f b).2 := fun v w => (rdJ (Or.inl (by omega))).trans ((rdJ (Or.inl (by omega))).trans v2)
    have h0 : ∀ v, hi (sJ S (Z + 16) (5 * W.length) v) Z 20 = nI W.length := fun v => m2
    have h1 : ∀ v w, hi (sJ (sJ S (Z + 16) (5 * W.length) v) (Z + 16) (5 * W.length + 1) w) Z 20 = nI W.length := fun v w => m2
    have h2 : ∀ v w x, hi (sJ (sJ (sJ S (Z + 16) (5 * W.length) v) (Z + 16) (5 * W.length + 1) w) (Z + 16) (5 * W.length + 2) x) Z 20 = nI W.length := fun v w x => m2
    have h3 : ∀ v w x y, hi (sJ (sJ (sJ (sJ S (Z + 16) (5 * W.length) v) (Z + 16) (5 * W.length + 1) w) (Z + 16) (5 * W.length + 2) x) (Z + 16) (5 * W.length + 3) y) Z 20 = nI W.length := fun v w x y => m2
    have h4 : ∀ v w x y z, hi (sJ (sJ (sJ (sJ (sJ S (Z + 16) (5 * W.length) v) (Z + 16) (5 * W.length + 1) w) (Z + 16) (5 * W.length + 2) x) (Z + 16) (5 * W.length + 3) y) (Z + 16) (5 * W.length + 4) z) Z 20 = nI W.length := fun v w x y z => m2
    refine ⟨sI (sJ (sJ (sJ (sJ (sJ S (Z + 16) (5 * W.length) (cJ p)) (Z + 16) (5 * W.length + 1) (cJ (f b).1)) (Z + 16) (5 * W.length + 2) (cJ (f b).2)) (Z + 16) (5 * W.length + 3) (cJ i)) (Z + 16) (5 * W.length + 4) (cJ (if en = true then 1 else 0))) Z 20 (nI (W.length + 1)), fun Post h => ?_, ⟨⟨m1, by rw [List.length_append]; exact up2_same _ _ _ _⟩, fun k e hk he => ?_, ok⟩, (((((agr.rf.wJ (fun h => by unfold pq at h; omega)).wJ (fun h => by unfold pq at h; omega)).wJ (fun h => by unfold pq at h; omega)).wJ (fun h => by unfold pq at h; omega)).wJ (fun h => by unfold pq at h; omega)).wI (fun h => by unfold pq at h; omega), rfl⟩
    · unfold PX7_add
      refine ⟨m1.1, fun z => absurd (by rw [m2] at z; exact z) c0, fun _ => ⟨m1.1, Z + 16, m1.r21, m1.1, ?_⟩⟩
      rw [m2, nI_5, k0, lp]
      refine ⟨m1.x16 (by omega), ?_⟩
      rintro _ rfl
      refine ⟨m1.1, Z + 16, m1.r21, m1.1, m1.1, Z + 17, m1.r23, m1.x17 (by omega), ?_⟩
      rw [kb, o1, h0, nI_5, a1, k1]
      refine ⟨m1.x16 (by omega), ?_⟩
      rintro _ rfl
      refine ⟨m1.1, Z + 16, m1.r21, m1.1, m1.1, Z + 18, m1.r24, m1.x18 (by omega), ?_⟩
      rw [o2, h1, nI_5, a2, k2]
      refine ⟨m1.x16 (by omega), ?_⟩
      rintro _ rfl
      refine ⟨m1.1, Z + 16, m1.r21, m1.1, ?_⟩
      rw [h2, nI_5, a3, k3, li]
      refine ⟨m1.x16 (by omega), ?_⟩
      rintro _ rfl
      refine ⟨m1.1, Z + 16, m1.r21, m1.1, ?_⟩
      rw [h3, nI_5, a4, k4, le]
      refine ⟨m1.x16 (by omega), ?_⟩
      rintro _ rfl
      refine ⟨m1.1, m1.1, ?_⟩
      rintro _ rfl
      rw [h4, nI_1]
      exact h
    · have w : ∀ j, hj (sI (sJ (sJ (sJ (sJ (sJ S (Z + 16) (5 * W.length) (cJ p)) (Z + 16) (5 * W.length + 1) (cJ (f b).1)) (Z + 16) (5 * W.length + 2) (cJ (f b).2)) (Z + 16) (5 * W.length + 3) (cJ i)) (Z + 16) (5 * W.length + 4) (cJ (if en = true then 1 else 0))) Z 20 (nI (W.length + 1))) (Z + 16) j = if j = 5 * W.length + 4 then cJ (if en = true then 1 else 0) else if j = 5 * W.length + 3 then cJ i else if j = 5 * W.length + 2 then cJ (f b).2 else if j = 5 * W.length + 1 then cJ (f b).1 else if j = 5 * W.length then cJ p else hj S (Z + 16) j := by
        intro j
        show up2 (up2 (up2 (up2 (up2 (hj S) (Z + 16) (5 * W.length) (cJ p)) (Z + 16) (5 * W.length + 1) (cJ (f b).1)) (Z + 16) (5 * W.length + 2) (cJ (f b).2)) (Z + 16) (5 * W.length + 3) (cJ i)) (Z + 16) (5 * W.length + 4) (cJ (if en = true then 1 else 0)) (Z + 16) j = _
        simp [up2]
      simp only [w]
      rcases gE_ap he with ⟨q1, q2⟩ | ⟨q1, q2⟩
      · have ne : ∀ a, a < 5 → (¬ 5 * k + a = 5 * W.length + 4) ∧ (¬ 5 * k + a = 5 * W.length + 3) ∧ (¬ 5 * k + a = 5 * W.length + 2) ∧ (¬ 5 * k + a = 5 * W.length + 1) ∧ ¬ 5 * k + a = 5 * W.length := fun a ha => by omega
        have a0 := ne 0 (by omega)
        simp only [Nat.add_zero] at a0
        have a1 := ne 1 (by omega)
        have a2 := ne 2 (by omega)
        have a3 := ne 3 (by omega)
        have a4 := ne 4 (by omega)
        rw [if_neg a0.1, if_neg a0.2.1, if_neg a0.2.2.1, if_neg a0.2.2.2.1, if_neg a0.2.2.2.2, if_neg a1.1, if_neg a1.2.1, if_neg a1.2.2.1, if_neg a1.2.2.2.1, if_neg a1.2.2.2.2, if_neg a2.1, if_neg a2.2.1, if_neg a2.2.2.1, if_neg a2.2.2.2.1, if_neg a2.2.2.2.2, if_neg a3.1, if_neg a3.2.1, if_neg a3.2.2.1, if_neg a3.2.2.2.1, if_neg a3.2.2.2.2, if_neg a4.1, if_neg a4.2.1, if_neg a4.2.2.1, if_neg a4.2.2.2.1, if_neg a4.2.2.2.2]
        exact m3 k e hk q2
      · subst q2
        subst q1
        refine ⟨?_, ?_, ?_, ?_, ?_⟩
        · rw [if_neg (by omega), if_neg (by omega), if_neg (by omega), if_neg (by omega), if_pos rfl]
        · rw [if_neg (by omega), if_neg (by omega), if_neg (by omega), if_pos rfl]
        · rw [if_neg (by omega), if_neg (by omega), if_pos rfl]
        · rw [if_neg (by omega), if_pos rfl]
        · rw [if_pos rfl]
  · have c0 : (300 : Int32) ≤ nI W.length := nI_le (a := 300) (by omega) (by omega)
    refine ⟨sI S Z 20 (nI (W.length + 1)), fun Post h => ?_, ⟨⟨m1, by rw [List.length_append]; exact up2_same _ _ _ _⟩, fun k e hk he => ?_, ok⟩, agr.rf.wI (fun h => by unfold pq at h; omega), rfl⟩
    · simp only [PX7_add, PX7_add_92, eq_true m1.1, true_and, m2, eq_true c0, true_implies, not_true_eq_false, false_implies, and_true, forall_eq, nI_1]
      exact h
    · rcases gE_ap he with ⟨q1, q2⟩ | ⟨q1, q2⟩
      · exact m3 k e hk q2
      · omega
def NM (S : hs) (Z nM : Nat) (f : Nat → Fr) (D : List (Nat × Nat)) (W : List Ev) : Prop := MU S Z nM f ∧ MZ S Z D ∧ DM S Z W
theorem NM.fq (N : NM S Z nM f D W) (g : agr S S' (pq Z)) (e : hr S' = hr S) {W' : List Ev} (D' : DM S' Z W') : NM S' Z nM f D W' := by
  obtain ⟨⟨c1, ⟨c2, c3⟩, c4⟩, n2, -⟩ := N
  refine ⟨⟨c1.fr g (fun j _ _ => Or.inr (by rw [e])), ⟨by rw [(g.2 Z 22 (by unfold pq; omega)).1]; exact c2, c3⟩, fun k hk => ?_⟩, ⟨by rw [(g.2 Z 25 (by unfold pq; omega)).1]; exact n2.1, fun k p hp => ?_⟩, D'⟩
  · rw [(g.2 (Z + 17) k (by unfold pq; omega)).2.1, (g.2 (Z + 18) k (by unfold pq; omega)).2.1]
    exact c4 k hk
  · rw [(g.2 (Z + 19) k (by unfold pq; omega)).1, (g.2 (Z + 20) k (by unfold pq; omega)).1]
    exact n2.2 k p hp
theorem m_notes (hC : CI nM f) (h0 : f 0 = (0, 1)) (h1 : f (nM - 1) = (1, 1)) (hD : D.length ≤ 128) (hb : ∀ x, x ∈ D → x.1 < nM ∧ x.2 < nM) (hp : p ≤ 1000) (hi0 : i ≤ 1000) : ∀ (L D1 : List (Nat × Nat)) (S : hs) (W : List Ev), D = D1 ++ L → NM S Z nM f D W → W.length + 2 * L.length ≤ 1000000 → ∃ S', (∀ Post, Post S' → ∃ w, PX7_runPiece_43 Post w Z (nI p) (nI i) (zb prev) (nI D1.length) S) ∧ NM S' Z nM f D (W ++ (L.map (fun x => (f x.1, f x.2))).flatMap (evs p i prev)) ∧ agr S S' (pq Z) ∧ hr S' = hr S := by
  intro L
  induction L with
  | nil =>
    intro D1 S W hD1 N hW
    have e : D1.length = D.length := by rw [hD1]; simp
    refine ⟨S, fun Post h => ⟨1, ?_⟩, by simpa using N, agr.rf, rfl⟩
    obtain ⟨n4, n5, n6⟩ := N
    have c1 : nI D.length ≤ nI D1.length := nI_le (by omega) (by omega)
    simp only [PX7_runPiece_43, eq_true n4.1.1, true_and, n5.1, eq_true c1, true_implies, not_true_eq_false, false_implies, and_true]
    exact h
  | cons x L ih =>
    intro D1 S W hD1 N hW
    have hx : x ∈ D := by rw [hD1]; simp
    have hk : D[D1.length]? = some x := by rw [hD1]; simp
    have hlt : D1.length < D.length := by rw [hD1]; simp
    have hbx := hb x hx
    have hne : 0 < nM := by omega
    have hD' : D = (D1 ++ [x]) ++ L := by rw [hD1]; simp
    have eqb : (x.1 = 0) = (f x.1 = (0, 1)) := propext ⟨fun q => by rw [q]; exact h0, fun q => hC.inj hbx.1 hne (by rw [q, h0])⟩
    have eqe : (x.2 = nM - 1) = (f x.2 = (1, 1)) := propext ⟨fun q => by rw [q]; exact h1, fun q => hC.inj hbx.2 (by omega) (by rw [q, h1])⟩
    have hW' : W.length + 2 * L.length + 2 ≤ 1000000 := by rw [List.length_cons] at hW; omega
    have kd : (nI D1.length).toNatClampNeg = D1.length := nI_clamp (by omega)
    have rest : ∀ (S1 : hs) (W1 : List Ev), NM S1 Z nM f D W1 → W1.length ≤ W.length + 1 → ∃ S', (∀ Post, Post S' → ∃ w, PX7_runPiece_81 Post (PX7_runPiece_43 Post w) Z (nI p) (nI i) (zb prev) (nI D1.length) S1) ∧ NM S' Z nM f D (W1 ++ ((if f x.2 = (1, 1) then [] else [(p, i, false, f x.2)]) ++ (L.map (fun x => (f x.1, f x.2))).flatMap (evs p i prev))) ∧ agr S1 S' (pq Z) ∧ hr S' = hr S1 := by
      intro S1 W1 N1 hW1
      have N1' := N1
      obtain ⟨n4, n5, n6⟩ := N1
      have h128 := n4.2.1.2
      obtain ⟨v1, v2⟩ := n5.2 _ _ hk
      have e1 : (nI nM - 1 ≤ nI x.2) = (x.2 = nM - 1) := by
        rw [nI_pr (by omega), nI_lek (by omega) (by omega)]; apply propext; omega
      by_cases c : f x.2 = (1, 1)
      · rw [if_pos c, List.nil_append]
        have c' : x.2 = nM - 1 := by rw [eqe]; exact c
        obtain ⟨S', q1, q2, q3, q4⟩ := ih (D1 ++ [x]) S1 W1 hD' N1' (by omega)
        refine ⟨S', fun Post h => ?_, q2, q3, q4⟩
        obtain ⟨w, hw⟩ := q1 Post h
        rw [List.length_append] at hw
        refine ⟨w, ?_⟩
        simp only [PX7_runPiece_81, PX7_runPiece_111, eq_true n4.1.1, true_and, n4.1.r27, Option.some.injEq, exists_eq_left', eq_true (n4.1.x20 (show D1.length < 128 by omega)), kd, v2, n4.2.1.1, e1, eq_true c', true_implies, not_true_eq_false, false_implies, and_true, forall_eq, nI_1]
        exact hw
      · rw [if_neg c]
        have c' : ¬ x.2 = nM - 1 := by rw [eqe]; exact c
        obtain ⟨S2, p1, p2, p3, p4⟩ := m_put (en := false) n4 hC hbx.2 n6 (by omega) hp hi0
        obtain ⟨S', q1, q2, q3, q4⟩ := ih (D1 ++ [x]) S2 (W1 ++ [(p, i, false, f x.2)]) hD' (N1'.fq p3 p4 p2) (by rw [List.length_append, List.length_singleton]; omega)
        refine ⟨S', fun Post h => ?_, by rw [List.append_assoc] at q2; exact q2, p3.tr q3, q4.trans p4⟩
        obtain ⟨w, hw⟩ := q1 Post h
        rw [List.length_append] at hw
        refine ⟨w, ?_⟩
        simp only [PX7_runPiece_81, PX7_runPiece_111, eq_true n4.1.1, true_and, n4.1.r27, Option.some.injEq, exists_eq_left', eq_true (n4.1.x20 (show D1.length < 128 by omega)), kd, v2, n4.2.1.1, e1, c', false_implies, not_false_eq_true, true_implies, forall_eq, nI_1]
        exact p1 _ hw
    have N' := N
    obtain ⟨n4, n5, n6⟩ := N
    have h128 := n4.2.1.2
    obtain ⟨v1, v2⟩ := n5.2 _ _ hk
    have c1 : ¬ nI D.length ≤ nI D1.length := nI_ge hlt (by omega)
    have e0 : ((0 : Int32) < nI x.1) = ¬ x.1 = 0 := by
      rw [← nI_0, nI_ltk (by omega) (by omega)]; apply propext; omega
    have evd : ((x :: L).map (fun x => (f x.1, f x.2))).flatMap (evs p i prev) = (if prev = true ∧ f x.1 = (0, 1) then [] else [(p, i, true, f x.1)]) ++ ((if f x.2 = (1, 1) then [] else [(p, i, false, f x.2)]) ++ (L.map (fun x => (f x.1, f x.2))).flatMap (evs p i prev)) := by
      rw [List.map_cons, List.flatMap_cons, ← List.append_assoc]
      rfl
    rw [evd]
    by_cases c : prev = true ∧ f x.1 = (0, 1)
    · rw [if_pos c, List.nil_append]
      obtain ⟨S', q1, q2, q3, q4⟩ := rest S W N' (by omega)
      refine ⟨S', fun Post h => ?_, q2, q3, q4⟩
      obtain ⟨w, hw⟩ := q1 Post h
      refine ⟨w + 1, ?_⟩
      have c' : x.1 = 0 := by rw [eqb]; exact c.2
      rw [c.1] at hw ⊢
      simp only [PX7_runPiece_43, eq_true n4.1.1, true_and, n5.1, c1, false_implies, not_false_eq_true, true_implies, n4.1.r26, Option.some.injEq, exists_eq_left', eq_true (n4.1.x19 (show D1.length < 128 by omega)), kd, v1, e0, eq_true c', not_true_eq_false, zbt]
      exact hw
    · rw [if_neg c]
      obtain ⟨S2, p1, p2, p3, p4⟩ := m_put (en := true) n4 hC hbx.1 n6 (by omega) hp hi0
      obtain ⟨S', q1, q2, q3, q4⟩ := rest S2 (W ++ [(p, i, true, f x.1)]) (N'.fq p3 p4 p2) (by rw [List.length_append, List.length_singleton]; omega)
      refine ⟨S', fun Post h => ?_, by rw [List.append_assoc] at q2; exact q2, p3.tr q3, q4.trans p4⟩
      obtain ⟨w, hw⟩ := q1 Post h
      refine ⟨w + 1, ?_⟩
      have k67 : PX7_runPiece_67 Post (PX7_runPiece_43 Post w) Z (nI p) (nI i) (zb prev) (nI D1.length) S := by
        simp only [PX7_runPiece_67, eq_true n4.1.1, true_and, n4.1.r26, Option.some.injEq, exists_eq_left', eq_true (n4.1.x19 (show D1.length < 128 by omega)), kd, v1]
        exact p1 _ hw
      simp only [PX7_runPiece_43, eq_true n4.1.1, true_and, n5.1, c1, false_implies, not_false_eq_true, true_implies, n4.1.r26, Option.some.injEq, exists_eq_left', eq_true (n4.1.x19 (show D1.length < 128 by omega)), kd, v1, e0]
      by_cases z : x.1 = 0
      · have hp0 : prev = false := by
          cases hq : prev with
          | false => rfl
          | true => exact absurd ⟨hq, by rw [← eqb]; exact z⟩ c
        simp only [z, not_true_eq_false, false_implies, not_false_eq_true, true_implies, true_and]
        refine ⟨fun _ => k67, fun q => ?_⟩
        rw [hp0] at q
        exact absurd rfl q
      · simp only [z, not_false_eq_true, true_implies, not_true_eq_false, false_implies, and_true]
        exact k67
end
