/-! run, both sides -/
section
variable {S S' : hs} {n : Nat} {A : Ga} {R : Nat × Gr} {T : Gk} {E : Gx}
theorem c_ex {i t p : Nat} (C : CS S n A R T E) (hi0 : i < n) (ht : t < 6) (hp : p + 1 < T.2.1 t) : ∃ q, isC2 (A.1 i) (A.2.2.2.1 i) (A.2.2.2.2.1 i) (A.2.2.2.2.2 i) ((T.2.2 t).2.1 p) ((T.2.2 t).2.2 p) ((T.2.2 t).2.1 (p + 1) - (T.2.2 t).2.1 p) ((T.2.2 t).2.2 (p + 1) - (T.2.2 t).2.2 p) q := by
  obtain ⟨c1, c2, c3, ⟨c4, c5⟩, -⟩ := C
  obtain ⟨S1, nC, f, D, q1, q2, q3⟩ := s_findAll (a := 32 + 14 * n) (ar := 2 + 14 * i) (tr := 8 + 14 * n + 4 * t) (by omega) (by omega) c5 (c1.a hi0) (c3.t ht) hp
  exact q2.ex
theorem op_run {v w : Int32} (C : CS S n A R T E) (M : MS S n A R T E) (hA : WA n A) (hT : WT T) : Jo n (PX6_run 0 v w) (PX7_run (49 + 14 * n) v w) S := by
  have c1 := C.1
  have c3 := C.2.2.1
  have h6 := c3.n6
  have h12 := c1.n12
  rcases of_cases T.1 (by omega) v with ⟨t, ht, rfl⟩ | h
  · rcases of_cases 8 (by omega) w with ⟨g, hg, rfl⟩ | hw
    · have ht6 : t < 6 := by omega
      have hex : ∀ i p, i < n → p + 1 < T.2.1 t → ∃ q, isC2 (A.1 i) (A.2.2.2.1 i) (A.2.2.2.2.1 i) (A.2.2.2.2.2 i) ((T.2.2 t).2.1 p) ((T.2.2 t).2.2 p) ((T.2.2 t).2.1 (p + 1) - (T.2.2 t).2.1 p) ((T.2.2 t).2.2 (p + 1) - (T.2.2 t).2.2 p) q := fun i p h1 h2 => c_ex C h1 ht6 h2
      obtain ⟨-, c2, -, ⟨c4, c5⟩, l0, l, ⟨cl, cd5, cd6⟩, cx, co⟩ := C
      have hl : l = 37 + 14 * n ∨ l = 43 + 14 * n := by omega
      have h30 := (c3.t ht6).n30
      have g0 : agr S (sI S l 5 0) (pw n l) := agr.rf.wI (fun h => by unfold pw at h; omega)
      have RS0 : RS (sI S l 5 0) n l A R T [] := by
        refine ⟨⟨c1.fr g0 (by unfold pw; omega) (fun b j _ _ => by unfold pw; omega), c2.fr g0 (by unfold pw; omega) (fun b j _ _ => by unfold pw; omega), c3.fr g0 (by unfold pw; omega) (by unfold pw; omega) (fun b j _ _ => by unfold pw; omega)⟩, ⟨c4, c5⟩, cd6, co, ⟨up2_same _ _ _ _, by simp⟩, fun k e he => by cases he⟩
      obtain ⟨S', b, q1, q2, q3, q4⟩ := c_run37 (g := g) hA hT hl hg ht6 (l0 := l0) (T.2.1 t - 1) 0 (sI S l 5 0) [] (by omega) RS0 cd5
      rw [List.nil_append] at q1
      have g1 : agr S S' (pw n l) := g0.tr q3
      have eh : hr S' = hr S := q4
      generalize hE : eA (fun p => eA (e1 A R T g t p) 0 n) 0 (T.2.1 t - 1) = Es at *
      have run6 : ∀ Post : Int32 → hs → Prop, (∃ w, PX6_run_37 Post w 0 (nI g) (8 + 14 * n + 4 * t) (nI 0) (sI S l 5 0)) → PX6_run 0 (nI t) (nI g) S Post := by
        intro Post hh
        have ri : hr (sI S l 5 0) (7 + 14 * n) (nI t).toNatClampNeg = some (8 + 14 * n + 4 * t) := c3.ri ht6
        have r2 : hr (sI S l 5 0) 0 2 = some (7 + 14 * n) := c3.r2
        simp only [PX6_run, PX1_clear, eq_true c1.o, true_and, c_track_in c3 c1.o ht, o10, false_implies, not_false_eq_true, true_implies, c_gear_in hg, cd6, Option.some.injEq, exists_eq_left', eq_true co.1, forall_eq, is_I, ix_I, r2, eq_true (c3.ix ht6), ri]
        rw [← nI_0]
        exact hh
      have g7 := fun S' P => m_gear_in (S := S') (Post := P) hg
      have run7 : ∀ S1, MS S1 n A R T E → ∃ S2, (∀ Post : Int32 → hs → Prop, Post (if Es.length ≤ 300 then nI Es.length else -4) S2 → PX7_run (49 + 14 * n) (nI t) (nI g) S1 Post) ∧ MS S2 n A R T (if Es.length ≤ 300 then gx Es else E) ∧ (∀ e, e ∈ Es → okV e) ∧ agr S1 S2 (pL (49 + 14 * n)) := by
        intro S1 M1
        have M2 := M1.code (v := 0)
        have gz : agr (sI S1 (49 + 14 * n) 0 0) (sI (sI S1 (49 + 14 * n) 0 0) (49 + 14 * n) 20 0) (pr (49 + 14 * n)) := agr.rf.wI (fun h => by unfold pr at h; omega)
        have M3 := M2.fp gz rfl
        obtain ⟨S2, p1, p2, p3, p4, p5⟩ := m_run37 (g := g) hA hT h12.2 hg ht6 hex (T.2.1 t - 1) 0 (sI (sI S1 (49 + 14 * n) 0 0) (49 + 14 * n) 20 0) [] (by omega) M3 ⟨⟨M3.1.1, up2_same _ _ _ _⟩, fun k e _ he => by (cases he), fun e he => by (cases he)⟩ (by simp; omega)
        rw [List.nil_append, hE] at p1 p2 p3
        refine ⟨S2, fun Post h => ?_, p2, p3, ((agr.rf.wI (fun h => by unfold pL at h; omega)).wI (fun h => by unfold pL at h; omega)).tr (p4.mono (fun b j h => by unfold pL at h; omega))⟩
        simp only [PX7_run, eq_true M1.1.1.1, true_and, forall_eq, eq_true M2.1.1.1, m_track_in M2.2.2.1 ht, o10, false_implies, not_false_eq_true, true_implies, g7]
        rw [← nI_0]
        exact p1 Post h
      cases b with
      | true =>
        obtain ⟨⟨r1, r2, r3⟩, ⟨r4, r5⟩, r6, r7⟩ := q2.1 rfl
        rw [List.nil_append] at r7
        have hlen : Es.length ≤ 300 := r7.2.1.2
        have gs : agr S' (sR (sR S' 0 6 (some l0)) 0 5 (some l)) (fun b j => b ≠ 0 ∨ j ≠ 5 ∧ j ≠ 6) := (agr.rf.wR (fun h => by omega)).wR (fun h => by omega)
        have gS : agr S (sR (sR S' 0 6 (some l0)) 0 5 (some l)) (pU (49 + 14 * n)) := (g1.mono (fun b j h => by unfold pU at h; unfold pw; omega)).tr (gs.mono (fun b j h => by unfold pU at h; omega))
        obtain ⟨S2, p1, p2, p3, p4⟩ := run7 _ (M.up gS)
        rw [if_pos hlen] at p2
        have CS1 : CS (sR (sR S' 0 6 (some l0)) 0 5 (some l)) n A R T (gx Es) := by
          have f5 : hr (sR (sR S' 0 6 (some l0)) 0 5 (some l)) 0 5 = some l := by
            show up2 (hr (sR S' 0 6 (some l0))) 0 5 (some l) 0 5 = some l
            rw [up2_same]
          have f6 : hr (sR (sR S' 0 6 (some l0)) 0 5 (some l)) 0 6 = some l0 := by
            show up2 (hr (sR S' 0 6 (some l0))) 0 5 (some l) 0 6 = some l0
            rw [up2_ne _ _ (Or.inr (by omega))]
            show up2 (hr S') 0 6 (some l0) 0 6 = some l0
            rw [up2_same]
          have hrl : ∀ b, b ≠ 0 → ∀ j, hr (sR (sR S' 0 6 (some l0)) 0 5 (some l)) b j = hr S' b j := fun b hb j => (gs.2 b j (Or.inl hb)).2.2
          refine ⟨r1.fr gs (Or.inr (by omega)) (fun b j _ _ => Or.inl (by omega)), r2.fr gs (Or.inr (by omega)) (fun b j _ _ => Or.inl (by omega)), r3.fr gs (Or.inr (by omega)) (Or.inr (by omega)) (fun b j _ _ => Or.inl (by omega)), ⟨by rw [(gs.2 0 4 (Or.inr (by omega))).2.2]; exact r4, r5.fr gs (fun j => Or.inl (Or.inl (by omega)))⟩, l, l0, ⟨by omega, f5, f6⟩, ⟨r7.1.fr gs (fun j => Or.inr (hrl l (by omega) j)), ⟨?_, hlen⟩, fun k hk => ?_⟩, ?_⟩
          · rw [(gs.2 l 5 (Or.inl (by omega))).1]; exact r7.2.1.1
          · obtain ⟨e, w1, w2, w3⟩ := gx_b p3 hk
            refine ⟨?_, w3⟩
            rw [(gs.2 (l + 1) k (Or.inl (by omega))).1, (gs.2 (l + 2) k (Or.inl (by omega))).1, (gs.2 (l + 3) k (Or.inl (by omega))).1, (gs.2 (l + 4) k (Or.inl (by omega))).2.1, (gs.2 (l + 5) k (Or.inl (by omega))).2.1]
            have := r7.2.2 k e w1
            unfold gx
            simp only [w1, Option.getD_some]
            exact this
          · exact (cx.1.fr g1 (fun j => Or.inr (by rw [eh]))).fr gs (fun j => Or.inr (hrl l0 (by omega) j))
        refine ⟨nI Es.length, sR (sR S' 0 6 (some l0)) 0 5 (some l), S2, fun Post h => run6 Post (q1 Post (fun _ => h) (fun z => by cases z)), fun Post h => p1 Post (by rw [if_pos hlen]; exact h), ⟨A, R, T, gx Es, CS1.low p4, p2, hA, hT⟩, ⟨gS.1.1, gS.1.2.1, gS.1.2.2⟩, ⟨p4.1.1.trans gS.1.1, p4.1.2.1.trans gS.1.2.1, p4.1.2.2.trans gS.1.2.2⟩⟩
      | false =>
        obtain ⟨z1, z2⟩ := q2.2 rfl
        have hlen : ¬ Es.length ≤ 300 := by
          simp at z1
          omega
        have gS : agr S S' (pU (49 + 14 * n)) := g1.mono (fun b j h => by unfold pU at h; unfold pw; omega)
        obtain ⟨S2, p1, p2, p3, p4⟩ := run7 _ (M.up gS)
        rw [if_neg hlen] at p2
        have CS1 : CS S' n A R T E := by
          refine ⟨c1.fr g1 (by unfold pw; omega) (fun b j _ _ => by unfold pw; omega), c2.fr g1 (by unfold pw; omega) (fun b j _ _ => by unfold pw; omega), c3.fr g1 (by unfold pw; omega) (by unfold pw; omega) (fun b j _ _ => by unfold pw; omega), ⟨by rw [eh]; exact c4, c5.fr g1 (fun j => Or.inr (by rw [eh]))⟩, l0, l, ⟨cl, by rw [eh]; exact cd5, by rw [eh]; exact cd6⟩, cx.fr g1 (fun b j h1 h2 => by unfold pw; omega), z2⟩
        refine ⟨-4, S', S2, fun Post h => run6 Post (q1 Post (fun z => by cases z) (fun _ => h)), fun Post h => p1 Post (by rw [if_neg hlen]; exact h), ⟨A, R, T, E, CS1.low p4, p2, hA, hT⟩, ⟨gS.1.1, gS.1.2.1, gS.1.2.2⟩, ⟨p4.1.1.trans gS.1.1, p4.1.2.1.trans gS.1.2.1, p4.1.2.2.trans gS.1.2.2⟩⟩
    · have m3 := (M.code (v := 0)).2.2.1
      refine Jo.ro C M hA hT (-2) (fun P => ?_) (fun P => ?_)
      · simp only [PX6_run, eq_true c1.o, true_and, c_track_in c3 c1.o ht, o10, false_implies, not_false_eq_true, true_implies, c_gear_out hw, not_true_eq_false, and_true]
      · simp only [PX7_run, eq_true M.1.1.1, true_and, forall_eq, eq_true m3.1.1, m_track_in m3 ht, o10, false_implies, not_false_eq_true, true_implies, m_gear_out hw, not_true_eq_false, and_true]
  · have m3 := (M.code (v := 0)).2.2.1
    refine Jo.ro C M hA hT (-1) (fun P => ?_) (fun P => ?_)
    · simp only [PX6_run, eq_true c1.o, true_and, c_track_out c3 c1.o h, not_true_eq_false, false_implies, true_implies, and_true]
    · simp only [PX7_run, eq_true M.1.1.1, true_and, forall_eq, eq_true m3.1.1, m_track_out m3 h, not_true_eq_false, false_implies, true_implies, and_true]
end
