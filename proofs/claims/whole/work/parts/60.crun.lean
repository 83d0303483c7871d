/-! the class's run -/
section
variable {S S' : hs} {n l nC i p t g : Nat} {f : Nat → Fr} {D : List (Nat × Nat)} {W : List Ev} {A : Ga} {R : Nat × Gr} {T : Gk} {prev : Bool}
/-- while crossings are noted -/
def NS (S : hs) (n l nC : Nat) (f : Nat → Fr) (D : List (Nat × Nat)) (W : List Ev) : Prop := (is S 6 0 ∧ hr S 0 4 = some (32 + 14 * n) ∧ hr S 0 6 = some l) ∧ CU S (32 + 14 * n) nC f ∧ SZ S (32 + 14 * n) D ∧ DC S l W
theorem NS.fr (N : NS S n l nC f D W) (hl : 36 + 14 * n < l) (g : agr S S' (pl l)) (e : hr S' = hr S) {W' : List Ev} (D' : DC S' l W') : NS S' n l nC f D W' := by
  obtain ⟨⟨n1, n2, n3⟩, n4, n5, -⟩ := N
  refine ⟨⟨by rw [g.o]; exact n1, by rw [e]; exact n2, by rw [e]; exact n3⟩, ?_, ?_, D'⟩
  · obtain ⟨c1, ⟨c2, c3⟩, c4⟩ := n4
    refine ⟨c1.fr g (fun j => Or.inr (by rw [e])), ⟨by rw [(g.2 _ 2 (by unfold pl; omega)).1]; exact c2, c3⟩, fun k hk => ?_⟩
    rw [(g.2 _ k (by unfold pl; omega)).2.1, (g.2 _ k (by unfold pl; omega)).2.1]
    exact c4 k hk
  · refine ⟨by rw [(g.2 _ 5 (by unfold pl; omega)).1]; exact n5.1, fun k p hp => ?_⟩
    rw [(g.2 _ k (by unfold pl; omega)).1, (g.2 _ k (by unfold pl; omega)).1]
    exact n5.2 k p hp
theorem s_ov {a k : Nat} {Post : Int64 → hs → Prop} (C : CU S a nC f) (hk : k < nC) : PX4_overOf a (nI k) S Post = Post (cJ (f k).1) S := by
  have h50 := C.2.1.2
  have c1 : ¬ nI k < 0 := nI_pos (by omega)
  have c2 : ¬ nI nC ≤ nI k := nI_ge hk (by omega)
  simp only [PX4_overOf, PX4_overOf_21, PX4_overOf_22, eq_true C.1.1, true_and, C.2.1.1, c1, c2, false_implies, not_false_eq_true, true_implies, C.1.r0, Option.some.injEq, exists_eq_left', eq_true (C.1.ix1 (show k < 50 by omega)), nI_clamp (show k < 2 ^ 31 by omega), (C.2.2 k hk).1]
theorem s_un {a k : Nat} {Post : Int64 → hs → Prop} (C : CU S a nC f) (hk : k < nC) : PX4_underOf a (nI k) S Post = Post (cJ (f k).2) S := by
  have h50 := C.2.1.2
  have c1 : ¬ nI k < 0 := nI_pos (by omega)
  have c2 : ¬ nI nC ≤ nI k := nI_ge hk (by omega)
  simp only [PX4_underOf, PX4_underOf_21, PX4_underOf_22, eq_true C.1.1, true_and, C.2.1.1, c1, c2, false_implies, not_false_eq_true, true_implies, C.1.r1, Option.some.injEq, exists_eq_left', eq_true (C.1.ix2 (show k < 50 by omega)), nI_clamp (show k < 2 ^ 31 by omega), (C.2.2 k hk).2]
theorem s_bg {a k : Nat} {x : Nat × Nat} {Post : Int32 → hs → Prop} (C : CZ S a) (Z : SZ S a D) (hD : D.length ≤ 50) (hk : D[k]? = some x) : PX4_beginOf a (nI k) S Post = Post (nI x.1) S := by
  have hk' : k < D.length := by
    refine Classical.byContradiction fun q => ?_
    rw [List.getElem?_eq_none (by omega)] at hk
    cases hk
  have c1 : ¬ nI k < 0 := nI_pos (by omega)
  have c2 : ¬ nI D.length ≤ nI k := nI_ge hk' (by omega)
  simp only [PX4_beginOf, PX4_beginOf_21, PX4_beginOf_22, eq_true C.1, true_and, Z.1, c1, c2, false_implies, not_false_eq_true, true_implies, C.r3, Option.some.injEq, exists_eq_left', eq_true (C.ix3 (show k < 50 by omega)), nI_clamp (show k < 2 ^ 31 by omega), (Z.2 k x hk).1]
theorem s_en {a k : Nat} {x : Nat × Nat} {Post : Int32 → hs → Prop} (C : CZ S a) (Z : SZ S a D) (hD : D.length ≤ 50) (hk : D[k]? = some x) : PX4_endOf a (nI k) S Post = Post (nI x.2) S := by
  have hk' : k < D.length := by
    refine Classical.byContradiction fun q => ?_
    rw [List.getElem?_eq_none (by omega)] at hk
    cases hk
  have c1 : ¬ nI k < 0 := nI_pos (by omega)
  have c2 : ¬ nI D.length ≤ nI k := nI_ge hk' (by omega)
  simp only [PX4_endOf, PX4_endOf_21, PX4_endOf_22, eq_true C.1, true_and, Z.1, c1, c2, false_implies, not_false_eq_true, true_implies, C.r4, Option.some.injEq, exists_eq_left', eq_true (C.ix4 (show k < 50 by omega)), nI_clamp (show k < 2 ^ 31 by omega), (Z.2 k x hk).2]
/-- from W on, the events Es: b says whether there was room -/
def nted (S' : hs) (n l nC : Nat) (f : Nat → Fr) (D : List (Nat × Nat)) (W Es : List Ev) (b : Bool) : Prop := (b = true → NS S' n l nC f D (W ++ Es)) ∧ (b = false → 300 < W.length + Es.length ∧ CO S' l)
theorem s_notes (hl : 36 + 14 * n < l) (hC : CI nC f) (h0 : f 0 = (0, 1)) (h1 : f (nC - 1) = (1, 1)) (hD50 : D.length ≤ 50) (hb : ∀ x, x ∈ D → x.1 < nC ∧ x.2 < nC) : ∀ (L D1 : List (Nat × Nat)) (S : hs) (W : List Ev), D = D1 ++ L → NS S n l nC f D W → ∃ S' b, (∀ Post, Post (zb b) S' → ∃ w, PX6_noteCrossings_32 Post w 0 (nI i) (nI p) (zb prev) (nI D1.length) S) ∧ nted S' n l nC f D W ((L.map (fun x => (f x.1, f x.2))).flatMap (evs p i prev)) b ∧ agr S S' (pl l) ∧ hr S' = hr S := by
  intro L
  induction L with
  | nil =>
    intro D1 S W hD N
    have e : D1.length = D.length := by rw [hD]; simp
    refine ⟨S, true, fun Post h => ⟨1, ?_⟩, ⟨fun _ => by simpa using N, fun z => by cases z⟩, agr.rf, rfl⟩
    obtain ⟨⟨n1, n2, n3⟩, n4, n5, n6⟩ := N
    have c1 : nI D.length ≤ nI D1.length := nI_le (by omega) (by omega)
    simp only [PX6_noteCrossings_32, PX4_size, eq_true n1, true_and, n2, Option.some.injEq, exists_eq_left', eq_true n4.1.1, n5.1, eq_true c1, true_implies, not_true_eq_false, false_implies, and_true]
    exact h
  | cons x L ih =>
    intro D1 S W hD N
    have hx : x ∈ D := by rw [hD]; simp
    have hk : D[D1.length]? = some x := by rw [hD]; simp
    have hlt : D1.length < D.length := by rw [hD]; simp
    have hbx := hb x hx
    have hne : 0 < nC := by omega
    have hD' : D = (D1 ++ [x]) ++ L := by rw [hD]; simp
    have eqb : (x.1 = 0) = (f x.1 = (0, 1)) := propext ⟨fun q => by rw [q]; exact h0, fun q => hC.inj hbx.1 hne (by rw [q, h0])⟩
    have eqe : (x.2 = nC - 1) = (f x.2 = (1, 1)) := propext ⟨fun q => by rw [q]; exact h1, fun q => hC.inj hbx.2 (by omega) (by rw [q, h1])⟩
    -- behind the begin, in state S1 with W1
    have rest : ∀ (S1 : hs) (W1 : List Ev), NS S1 n l nC f D W1 → ∃ S' b, (∀ Post, Post (zb b) S' → ∃ w, PX6_noteCrossings_129 Post (PX6_noteCrossings_32 Post w) 0 (nI i) (nI p) (zb prev) (nI D1.length) (nI x.2) S1) ∧ nted S' n l nC f D W1 ((if f x.2 = (1, 1) then [] else [(p, i, false, f x.2)]) ++ (L.map (fun x => (f x.1, f x.2))).flatMap (evs p i prev)) b ∧ agr S1 S' (pl l) ∧ hr S' = hr S1 := by
      intro S1 W1 N1
      obtain ⟨⟨n1, n2, n3⟩, n4, n5, n6⟩ := N1
      have h50 := n4.2.1.2
      by_cases c : f x.2 = (1, 1)
      · rw [if_pos c, List.nil_append]
        obtain ⟨S', b, q1, q2, q3, q4⟩ := ih (D1 ++ [x]) S1 W1 hD' ⟨⟨n1, n2, n3⟩, n4, n5, n6⟩
        refine ⟨S', b, fun Post h => ?_, q2, q3, q4⟩
        obtain ⟨w, hw⟩ := q1 Post h
        refine ⟨w, ?_⟩
        rw [List.length_append] at hw
        have c' : x.2 = nC - 1 := by rw [eqe]; exact c
        have e1 : (nI x.2 = nI nC - 1) = (x.2 = nC - 1) := by
          rw [nI_pr (by omega)]; exact propext (nI_eq (by omega) (by omega))
        simp only [PX6_noteCrossings_129, PX6_noteCrossings_146, PX6_noteCrossings_187, eq_true n1, true_and, n2, Option.some.injEq, exists_eq_left', eq_true n4.1.1, PX4_isPieceEnd, PX4_isPieceEnd_15, n4.2.1.1, e1, eq_true c', true_implies, not_true_eq_false, false_implies, and_true, o10, not_false_eq_true, or_true, forall_eq, nI_1]
        exact hw
      · rw [if_neg c]
        have c' : ¬ x.2 = nC - 1 := by rw [eqe]; exact c
        have e1 : (nI x.2 = nI nC - 1) = (x.2 = nC - 1) := by
          rw [nI_pr (by omega)]; exact propext (nI_eq (by omega) (by omega))
        by_cases q : W1.length < 300
        · obtain ⟨S2, p1, p2, p3, p4⟩ := s_put (p := p) (i := i) (en := false) (x := f x.2) n6 q
          obtain ⟨S', b, q1, q2, q3, q4⟩ := ih (D1 ++ [x]) S2 (W1 ++ [(p, i, false, f x.2)]) hD' (NS.fr ⟨⟨n1, n2, n3⟩, n4, n5, n6⟩ hl p3 p4 p2)
          refine ⟨S', b, fun Post h => ?_, ⟨fun z => by have := q2.1 z; rw [List.append_assoc] at this; exact this, fun z => by have := q2.2 z; rw [List.length_append] at this ⊢; exact ⟨by have := this.1; simp only [List.length_singleton] at *; omega, this.2⟩⟩, p3.tr q3, q4.trans p4⟩
          obtain ⟨w, hw⟩ := q1 Post h
          refine ⟨w, ?_⟩
          rw [List.length_append] at hw
          simp only [PX6_noteCrossings_129, PX6_noteCrossings_146, PX6_noteCrossings_187, eq_true n1, true_and, n2, n3, Option.some.injEq, exists_eq_left', eq_true n4.1.1, PX4_isPieceEnd, PX4_isPieceEnd_15, n4.2.1.1, e1, c', true_implies, not_true_eq_false, false_implies, and_true, o10, not_false_eq_true, true_or, s_ov n4 hbx.2, s_un n4 hbx.2, eq_true n6.1.1, forall_eq, nI_1]
          exact p1 _ ⟨fun z => absurd z o10, fun _ => hw⟩
        · refine ⟨S1, false, fun Post h => ⟨0, ?_⟩, ⟨fun z => by (cases z), fun _ => ⟨by rw [List.length_append]; simp only [List.length_singleton]; omega, n6.1⟩⟩, agr.rf, rfl⟩
          simp only [PX6_noteCrossings_129, PX6_noteCrossings_146, PX6_noteCrossings_187, eq_true n1, true_and, n2, n3, Option.some.injEq, exists_eq_left', eq_true n4.1.1, PX4_isPieceEnd, PX4_isPieceEnd_15, n4.2.1.1, e1, c', true_implies, not_true_eq_false, false_implies, and_true, o10, not_false_eq_true, true_or, s_ov n4 hbx.2, s_un n4 hbx.2, eq_true n6.1.1, forall_eq, nI_1]
          exact s_full (en := false) n6 q ⟨fun _ => h, fun z => absurd rfl z⟩
    obtain ⟨⟨n1, n2, n3⟩, n4, n5, n6⟩ := N
    have h50 := n4.2.1.2
    have c1 : ¬ nI D.length ≤ nI D1.length := nI_ge hlt (by omega)
    have e0 : (nI x.1 = 0) = (x.1 = 0) := nI_eq0 (by omega)
    have evd : ((x :: L).map (fun x => (f x.1, f x.2))).flatMap (evs p i prev) = (if prev = true ∧ f x.1 = (0, 1) then [] else [(p, i, true, f x.1)]) ++ ((if f x.2 = (1, 1) then [] else [(p, i, false, f x.2)]) ++ (L.map (fun x => (f x.1, f x.2))).flatMap (evs p i prev)) := by
      rw [List.map_cons, List.flatMap_cons, ← List.append_assoc]
      rfl
    rw [evd]
    by_cases c : prev = true ∧ f x.1 = (0, 1)
    · rw [if_pos c, List.nil_append]
      obtain ⟨S', b, q1, q2, q3, q4⟩ := rest S W ⟨⟨n1, n2, n3⟩, n4, n5, n6⟩
      refine ⟨S', b, fun Post h => ?_, q2, q3, q4⟩
      obtain ⟨w, hw⟩ := q1 Post h
      refine ⟨w + 1, ?_⟩
      have c' : x.1 = 0 := by rw [eqb]; exact c.2
      rw [c.1] at hw ⊢
      have z1 : zb true = 1 := rfl
      rw [z1] at hw ⊢
      simp only [PX6_noteCrossings_32, PX6_noteCrossings_88, PX4_size, eq_true n1, true_and, n2, Option.some.injEq, exists_eq_left', eq_true n4.1.1, n5.1, c1, false_implies, not_false_eq_true, true_implies, s_bg n4.1 n5 hD50 hk, s_en n4.1 n5 hD50 hk, o10, PX4_isPieceBegin, PX4_isPieceBegin_9, e0, eq_true c', or_true, not_true_eq_false, and_true]
      exact hw
    · rw [if_neg c]
      have key : ∀ (Post : Int32 → hs → Prop) w, PX6_noteCrossings_83 Post (PX6_noteCrossings_32 Post w) 0 (nI i) (nI p) (zb prev) (nI D1.length) (nI x.1) (nI x.2) S → PX6_noteCrossings_32 Post (w + 1) 0 (nI i) (nI p) (zb prev) (nI D1.length) S := by
        intro Post w h
        cases hp : prev with
        | false =>
          rw [hp] at h
          have z0 : zb false = 0 := rfl
          rw [z0] at h ⊢
          simp only [PX6_noteCrossings_32, PX4_size, eq_true n1, true_and, n2, Option.some.injEq, exists_eq_left', eq_true n4.1.1, n5.1, c1, false_implies, not_false_eq_true, true_implies, s_bg n4.1 n5 hD50 hk, s_en n4.1 n5 hD50 hk, not_true_eq_false, and_true]
          exact h
        | true =>
          rw [hp] at h
          have z1 : zb true = 1 := rfl
          have c' : ¬ x.1 = 0 := by rw [eqb]; exact fun q => c ⟨hp, q⟩
          rw [z1] at h ⊢
          simp only [PX6_noteCrossings_32, PX4_size, eq_true n1, true_and, n2, Option.some.injEq, exists_eq_left', eq_true n4.1.1, n5.1, c1, false_implies, not_false_eq_true, true_implies, s_bg n4.1 n5 hD50 hk, s_en n4.1 n5 hD50 hk, o10, PX4_isPieceBegin, PX4_isPieceBegin_9, e0, c', true_or, not_true_eq_false, and_true]
          exact h
      by_cases q : W.length < 300
      · obtain ⟨S2, p1, p2, p3, p4⟩ := s_put (p := p) (i := i) (en := true) (x := f x.1) n6 q
        obtain ⟨S', b, q1, q2, q3, q4⟩ := rest S2 (W ++ [(p, i, true, f x.1)]) (NS.fr ⟨⟨n1, n2, n3⟩, n4, n5, n6⟩ hl p3 p4 p2)
        refine ⟨S', b, fun Post h => ?_, ⟨fun z => by have := q2.1 z; rw [List.append_assoc] at this; exact this, fun z => by have := q2.2 z; rw [List.length_append] at this ⊢; exact ⟨by have := this.1; simp only [List.length_singleton] at *; omega, this.2⟩⟩, p3.tr q3, q4.trans p4⟩
        obtain ⟨w, hw⟩ := q1 Post h
        refine ⟨w + 1, key Post w ?_⟩
        simp only [PX6_noteCrossings_83, PX6_noteCrossings_88, o10, false_implies, not_false_eq_true, true_implies, true_and, eq_true n1, n2, n3, Option.some.injEq, exists_eq_left', eq_true n4.1.1, s_ov n4 hbx.1, s_un n4 hbx.1, eq_true n6.1.1]
        exact p1 _ ⟨fun z => absurd z o10, fun _ => hw⟩
      · refine ⟨S, false, fun Post h => ⟨1, key Post 0 ?_⟩, ⟨fun z => by (cases z), fun _ => ⟨by rw [List.length_append]; simp only [List.length_singleton]; omega, n6.1⟩⟩, agr.rf, rfl⟩
        simp only [PX6_noteCrossings_83, PX6_noteCrossings_88, o10, false_implies, not_false_eq_true, true_implies, true_and, eq_true n1, n2, n3, Option.some.injEq, exists_eq_left', eq_true n4.1.1, s_ov n4 hbx.1, s_un n4 hbx.1, eq_true n6.1.1]
        exact s_full (en := true) n6 q ⟨fun _ => h, fun z => absurd rfl z⟩
end
