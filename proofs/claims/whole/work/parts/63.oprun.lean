/-! run -/
def pr (Z b j : Nat) : Prop := (b < Z + 16 ∨ Z + 20 < b) ∧ (b = Z → j ≠ 20 ∧ j ≠ 22 ∧ j ≠ 25)
section
variable {S S' : hs} {n i p t g : Nat} {W : List Ev} {A : Ga} {R : Nat × Gr} {T : Gk} {X : Gx}
theorem MS.fp (M : MS S n A R T X) (gg : agr S S' (pr (49 + 14 * n))) (e : hr S' = hr S) : MS S' n A R T X := M.fr gg (fun j => by rw [e]) (fun b j h => by unfold pM at h; unfold pr; omega)
theorem DM.fj {Z : Nat} (D : DM S Z W) (gg : agr S S' (pj Z)) (e : hr S' = hr S) : DM S' Z W := by
  obtain ⟨⟨d1, d2⟩, d3, d4⟩ := D
  refine ⟨⟨d1.fj gg e, by rw [(gg.2 Z 20 (by unfold pj; omega)).1]; exact d2⟩, fun k x hk hx => ?_, d4⟩
  have q := fun j => (gg.2 (Z + 16) j (by unfold pj; omega)).2.1
  rw [q, q, q, q, q]
  exact d3 k x hk hx
theorem evs_len {p i : Nat} {prev : Bool} : ∀ L : List (Fr × Fr), (L.flatMap (evs p i prev)).length ≤ 2 * L.length
  | [] => by simp
  | s :: L => by
    have ih := evs_len (p := p) (i := i) (prev := prev) L
    rw [List.flatMap_cons, List.length_append, List.length_cons]
    have : (evs p i prev s).length ≤ 2 := by
      unfold evs
      rw [List.length_append]
      have h1 : (if prev = true ∧ s.1 = (0, 1) then ([] : List Ev) else [(p, i, true, s.1)]).length ≤ 1 := by split <;> simp
      have h2 : (if s.2 = (1, 1) then ([] : List Ev) else [(p, i, false, s.2)]).length ≤ 1 := by split <;> simp
      omega
    omega
theorem m_noteAll (hA : WA n A) (hT : WT T) (M : MS S n A R T X) (hn : n ≤ 12) (Dm : DM S (49 + 14 * n) W) (hi0 : i < n) (hg : g < 8) (ht : t < 6) (hp : p + 1 < T.2.1 t) (hc : gcnt A R T i g t p = true) (hW : W.length + 256 ≤ 900000) (hex : ∃ q, isC2 (A.1 i) (A.2.2.2.1 i) (A.2.2.2.2.1 i) (A.2.2.2.2.2 i) ((T.2.2 t).2.1 p) ((T.2.2 t).2.2 p) ((T.2.2 t).2.1 (p + 1) - (T.2.2 t).2.1 p) ((T.2.2 t).2.2 (p + 1) - (T.2.2 t).2.2 p) q) : ∃ S', (∀ Post, Post S' → PX7_runPiece (49 + 14 * n) (nI t) (nI p) (nI i) (nI g) S Post) ∧ MS S' n A R T X ∧ DM S' (49 + 14 * n) (W ++ e1 A R T g t p i) ∧ (e1 A R T g t p i).length ≤ 256 ∧ agr S S' (pr (49 + 14 * n)) ∧ hr S' = hr S := by
  have m1 := M.1
  have m2 := M.2.1
  have m3 := M.2.2.1
  have K := m3.2.2.2 t ht
  have h30 := K.1.2.2.2
  have a := m1.a hi0
  have hok := (hA i hi0).2.2
  have hc0 : 0 < A.1 i := by
    unfold gcnt at hc
    simp only [Bool.and_eq_true, decide_eq_true_eq] at hc
    exact hc.1
  obtain ⟨S1, nM, f, D, q1, q2, q3, q4, q5, q6, q7, q8⟩ := m_stretch hc0 hok a K hp
  obtain ⟨⟨h0, h1⟩, h2⟩ := q2.h0
  have h128 := q2.1.2.1.2
  obtain ⟨S2, r1, r2, r3, r4⟩ := m_notes (nM := nM) (f := f) (D := D) (i := i) (p := p) (prev := prv A R T i g t p) q2.2.1 h1 h2 (by omega) q4 (by omega) (by omega) D [] S1 W rfl ⟨q2.1, q3, Dm.fj q7 q8⟩ (by omega)
  have ee : e1 A R T g t p i = (D.map (fun x => (f x.1, f x.2))).flatMap (evs p i (prv A R T i g t p)) := by
    unfold e1 sL
    rw [if_pos hc, q5, q2.st hok hex]
  have g2 : agr S S2 (pr (49 + 14 * n)) := (q7.mono (fun b j h => by unfold pr at h; unfold pj; omega)).tr (r3.mono (fun b j h => by unfold pr at h; unfold pq; omega))
  refine ⟨S2, fun Post h => ?_, M.fp g2 (r4.trans q8), by rw [ee]; exact r2.2.2, by rw [ee]; have := evs_len (p := p) (i := i) (prev := prv A R T i g t p) (D.map (fun x => (f x.1, f x.2))); rw [List.length_map] at this; omega, g2, r4.trans q8⟩
  have k31 : PX7_runPiece_31 Post (49 + 14 * n) (nI p) (nI i) (nI (30 * t + p)) (zb (prv A R T i g t p)) S := by
    simp only [PX7_runPiece_31, eq_true m1.1.1, true_and]
    refine q1 _ ?_
    rw [← nI_0]
    exact r1 Post h
  have e0 : (nI p ≤ (0 : Int32)) = (p = 0) := nI_le0 (by omega)
  simp only [PX7_runPiece, PX7_runPiece_30, nI_30, forall_eq, e0, eq_true m1.1.1, true_and]
  by_cases z : p = 0
  · simp only [eq_true z, true_implies, not_true_eq_false, false_implies, and_true]
    have : prv A R T i g t p = false := by unfold prv; rw [if_pos z]
    rw [this] at k31
    exact k31
  · simp only [z, false_implies, not_false_eq_true, true_implies, true_and]
    have e2 : nI (30 * t + p) - 1 = nI (30 * t + (p - 1)) := by
      rw [nI_pr (by omega)]
      congr 1
      omega
    have pvd : prv A R T i g t p = gcnt A R T i g t (p - 1) := by unfold prv; rw [if_neg z]
    rw [e2, m_counts m1 m2 m3 hn hA hi0 hg ht (by omega) hT, ← pvd]
    cases hq : prv A R T i g t p with
    | false =>
      rw [hq] at k31
      exact ⟨fun _ => k31, fun z => absurd rfl z⟩
    | true =>
      rw [hq] at k31
      exact ⟨fun z => absurd z zbt, fun _ => k31⟩
theorem m_run52 (hA : WA n A) (hT : WT T) (hn : n ≤ 12) (hg : g < 8) (ht : t < 6) (hp : p + 1 < T.2.1 t) (hex : ∀ i, i < n → ∃ q, isC2 (A.1 i) (A.2.2.2.1 i) (A.2.2.2.2.1 i) (A.2.2.2.2.2 i) ((T.2.2 t).2.1 p) ((T.2.2 t).2.2 p) ((T.2.2 t).2.1 (p + 1) - (T.2.2 t).2.1 p) ((T.2.2 t).2.2 (p + 1) - (T.2.2 t).2.2 p) q) : ∀ (d i : Nat) (S : hs) (W : List Ev), i + d = n → MS S n A R T X → DM S (49 + 14 * n) W → W.length + 256 * d ≤ 900000 → ∃ S', (∀ Post K, K (49 + 14 * n) (nI t) (nI g) (nI (p + 1)) S' → ∃ w, PX7_run_52 Post K w (49 + 14 * n) (nI t) (nI g) (nI p) (nI i) S) ∧ MS S' n A R T X ∧ DM S' (49 + 14 * n) (W ++ eA (e1 A R T g t p) i d) ∧ (eA (e1 A R T g t p) i d).length ≤ 256 * d ∧ agr S S' (pr (49 + 14 * n)) ∧ hr S' = hr S := by
  intro d
  induction d with
  | zero =>
    intro i S W hd M Dm hW
    have m1 := M.1
    refine ⟨S, fun Post K h => ⟨1, ?_⟩, M, by rw [show eA (e1 A R T g t p) i 0 = [] from rfl, List.append_nil]; exact Dm, by simp [eA], agr.rf, rfl⟩
    have c0 : nI n ≤ nI i := nI_le (by omega) (by omega)
    simp only [PX7_run_52, eq_true m1.1.1, true_and, m1.2.1, eq_true c0, true_implies, not_true_eq_false, false_implies, and_true, forall_eq, nI_1]
    exact h
  | succ d ih =>
    intro i S W hd M Dm hW
    have m1 := M.1
    have c0 : ¬ nI n ≤ nI i := nI_ge (by omega) (by omega)
    have ev : eA (e1 A R T g t p) i (d + 1) = e1 A R T g t p i ++ eA (e1 A R T g t p) (i + 1) d := rfl
    rw [ev]
    have cnt := fun P : Int32 → hs → Prop => m_counts (Post := P) m1 M.2.1 M.2.2.1 hn hA (show i < n by omega) hg ht hp hT
    cases hc : gcnt A R T i g t p with
    | false =>
      have ee : e1 A R T g t p i = [] := by unfold e1; rw [hc]; rfl
      obtain ⟨S', q1, q2, q3, q4, q5, q6⟩ := ih (i + 1) S W (by omega) M Dm (by omega)
      rw [ee, List.nil_append]
      refine ⟨S', fun Post K h => ?_, q2, q3, by omega, q5, q6⟩
      obtain ⟨w, hw⟩ := q1 Post K h
      refine ⟨w + 1, ?_⟩
      simp only [PX7_run_52, PX7_run_86, eq_true m1.1.1, true_and, m1.2.1, c0, false_implies, not_false_eq_true, true_implies, nI_30, cnt, hc, zbf, not_true_eq_false, and_true, forall_eq, nI_1]
      exact hw
    | true =>
      have hi1 : i < n := by omega
      have hw1 : W.length + 256 ≤ 900000 := Nat.le_trans (Nat.add_le_add_left (Nat.le_add_left 256 (256 * d)) W.length) hW
      obtain ⟨S1, p1, p2, p3, p4, p5, p6⟩ := m_noteAll hA hT M hn Dm hi1 hg ht hp hc hw1 (hex i hi1)
      obtain ⟨S', q1, q2, q3, q4, q5, q6⟩ := ih (i + 1) S1 (W ++ e1 A R T g t p i) (by omega) p2 p3 (by rw [List.length_append]; omega)
      refine ⟨S', fun Post K h => ?_, q2, by rw [List.append_assoc] at q3; exact q3, by rw [List.length_append]; omega, p5.tr q5, q6.trans p6⟩
      obtain ⟨w, hw⟩ := q1 Post K h
      refine ⟨w + 1, ?_⟩
      simp only [PX7_run_52, PX7_run_86, eq_true m1.1.1, true_and, m1.2.1, c0, false_implies, not_false_eq_true, true_implies, nI_30, cnt, hc, zbt, forall_eq, nI_1]
      exact p1 _ hw
/-- crossings as the last run shows them -/
def gx (W : List Ev) : Gx := (W.length, fun k => ((W[k]?.getD (0, 0, false, (0, 1))).1 : Int), fun k => ((W[k]?.getD (0, 0, false, (0, 1))).2.1 : Int), fun k => (W[k]?.getD (0, 0, false, (0, 1))).2.2.1, fun k => (W[k]?.getD (0, 0, false, (0, 1))).2.2.2.1, fun k => (W[k]?.getD (0, 0, false, (0, 1))).2.2.2.2)
theorem gx_b {k : Nat} (h : ∀ e, e ∈ W → okV e) (hk : k < W.length) : ∃ e, W[k]? = some e ∧ okV e ∧ bx (gx W) k := by
  have q : W[k]? = some W[k] := List.getElem?_eq_getElem hk
  have o := h W[k] (List.getElem_mem hk)
  refine ⟨W[k], q, o, ?_⟩
  unfold bx gx
  simp only [q, Option.getD_some]
  obtain ⟨⟨o1, o2⟩, o3⟩ := o
  have b := okF_b o3
  exact ⟨⟨by omega, by omega⟩, ⟨by omega, by omega⟩, ⟨by omega, by omega⟩, by omega, by omega⟩
theorem m_copy {Z q : Nat} (hq : q ≤ 300) : ∀ (d v : Nat) (S : hs), v + d = 5 * q → Md S Z → hi S Z 18 = nI q → (∀ j, j < v → hj S (Z + 15) j = hj S (Z + 16) j) → ∃ S', (∀ Post, Post (nI q) S' → ∃ w, PX7_run_121 Post w Z (nI v) S) ∧ (∀ j, j < 5 * q → hj S' (Z + 15) j = hj S' (Z + 16) j) ∧ agr S S' (fun b _ => b ≠ Z + 15) ∧ hr S' = hr S := by
  intro d
  induction d with
  | zero =>
    intro v S hv M h18 hc
    refine ⟨S, fun Post h => ⟨1, ?_⟩, fun j hj0 => hc j (by omega), agr.rf, rfl⟩
    have c0 : nI (5 * q) ≤ nI v := nI_le (by omega) (by omega)
    simp only [PX7_run_121, eq_true M.1, true_and, h18, nI_5, eq_true c0, true_implies, not_true_eq_false, false_implies, and_true]
    exact h
  | succ d ih =>
    intro v S hv M h18 hc
    have c0 : ¬ nI (5 * q) ≤ nI v := nI_ge (by omega) (by omega)
    have kv : (nI v).toNatClampNeg = v := nI_clamp (by omega)
    obtain ⟨S', q1, q2, q3, q4⟩ := ih (v + 1) (sJ S (Z + 15) v (hj S (Z + 16) v)) (by omega) M h18 (fun j hj0 => by
      rw [rdJ (b := Z + 16) (Or.inl (by omega))]
      by_cases e : j = v
      · subst e; exact up2_same _ _ _ _
      · rw [rdJ (Or.inr e)]; exact hc j (by omega))
    refine ⟨S', fun Post h => ?_, q2, (agr.rf.wJ (fun h => h rfl)).tr q3, q4⟩
    obtain ⟨w, hw⟩ := q1 Post h
    refine ⟨w + 1, ?_⟩
    simp only [PX7_run_121, eq_true M.1, true_and, h18, nI_5, c0, false_implies, not_false_eq_true, true_implies, M.r19, M.r21, Option.some.injEq, exists_eq_left', eq_true (M.x15 (show v < 1500 by omega)), eq_true (M.x16 (show v < 1500 by omega)), kv, forall_eq, nI_1]
    exact hw
theorem m_run37 (hA : WA n A) (hT : WT T) (hn : n ≤ 12) (hg : g < 8) (ht : t < 6) (hex : ∀ i p, i < n → p + 1 < T.2.1 t → ∃ q, isC2 (A.1 i) (A.2.2.2.1 i) (A.2.2.2.2.1 i) (A.2.2.2.2.2 i) ((T.2.2 t).2.1 p) ((T.2.2 t).2.2 p) ((T.2.2 t).2.1 (p + 1) - (T.2.2 t).2.1 p) ((T.2.2 t).2.2 (p + 1) - (T.2.2 t).2.2 p) q) : ∀ (d p : Nat) (S : hs) (W : List Ev), p + d = T.2.1 t - 1 → MS S n A R T X → DM S (49 + 14 * n) W → W.length + 3072 * d ≤ 900000 → ∃ S', (∀ Post, Post (if (W ++ eA (fun p => eA (e1 A R T g t p) 0 n) p d).length ≤ 300 then nI (W ++ eA (fun p => eA (e1 A R T g t p) 0 n) p d).length else -4) S' → ∃ w, PX7_run_37 Post w (49 + 14 * n) (nI t) (nI g) (nI p) S) ∧ MS S' n A R T (if (W ++ eA (fun p => eA (e1 A R T g t p) 0 n) p d).length ≤ 300 then gx (W ++ eA (fun p => eA (e1 A R T g t p) 0 n) p d) else X) ∧ (∀ e, e ∈ W ++ eA (fun p => eA (e1 A R T g t p) 0 n) p d → okV e) ∧ agr S S' (fun b _ => b < 49 + 14 * n ∨ 49 + 14 * n + 20 < b) ∧ hr S' = hr S := by
  intro d
  induction d with
  | zero =>
    intro p S W hd M Dm hW
    rw [show eA (fun p => eA (e1 A R T g t p) 0 n) p 0 = [] from rfl, List.append_nil]
    have m1 := M.1
    have K := M.2.2.1.2.2.2 t ht
    have h30 := K.1.2.2.2
    have r11 : hi S (49 + 14 * n + 11) t = nI (T.2.1 t) := K.1.2.2.1
    have kt : (nI t).toNatClampNeg = t := nI_clamp (by omega)
    have c0 : nI (T.2.1 t) ≤ nI (p + 1) := nI_le (by omega) (by omega)
    have e3 : (nI W.length ≤ (300 : Int32)) = (W.length ≤ 300) := nI_lek (y := 300) (by omega) (by omega)
    by_cases c : W.length ≤ 300
    · rw [if_pos c, if_pos c]
      obtain ⟨S', q1, q2, q3, q4⟩ := m_copy (Z := 49 + 14 * n) c (5 * W.length) 0 (sI S (49 + 14 * n) 18 (nI W.length)) (by omega) m1.1 (up2_same _ _ _ _) (fun j hj0 => by omega)
      have g1 : agr S (sI S (49 + 14 * n) 18 (nI W.length)) (fun b j => b ≠ 49 + 14 * n + 15 ∧ (b = 49 + 14 * n → j ≠ 18)) := agr.rf.wI (fun h => h.2 rfl rfl)
      have g2 : agr S S' (fun b j => b ≠ 49 + 14 * n + 15 ∧ (b = 49 + 14 * n → j ≠ 18)) := g1.tr (q3.mono (fun b j h => h.1))
      have e2 : hr S' = hr S := q4
      refine ⟨S', fun Post h => ⟨1, ?_⟩, ?_, Dm.2.2, g2.mono (fun b j h => ⟨by omega, by omega⟩), e2⟩
      · simp only [PX7_run_37, eq_true m1.1.1, true_and, m1.1.r14, Option.some.injEq, exists_eq_left', eq_true (m1.1.x11 ht), kt, r11, nI_1, eq_true c0, true_implies, not_true_eq_false, false_implies, and_true, Dm.1.2, e3, eq_true c, forall_eq]
        rw [← nI_0]
        exact q1 Post h
      · obtain ⟨d1, d2, d3, d4⟩ := M
        have hM : Md S' (49 + 14 * n) := d1.1.fr g2 (fun j _ _ => Or.inr (by rw [e2]))
        refine ⟨d1.fr g2 hM ⟨by omega, by omega⟩ (fun b j _ _ => ⟨by omega, by omega⟩), d2.fr g2 hM ⟨by omega, by omega⟩ (fun b j _ _ => ⟨by omega, by omega⟩), d3.fr g2 hM ⟨by omega, by omega⟩ (fun b j _ _ => ⟨by omega, by omega⟩), hM, ?_, c, fun k hk => ?_⟩
        · rw [(q3.2 (49 + 14 * n) 18 (by omega)).1]
          exact up2_same _ _ _ _
        · have hk' : k < W.length := hk
          obtain ⟨e, w1, w2, w3⟩ := gx_b Dm.2.2 hk'
          refine ⟨?_, w3⟩
          obtain ⟨v0, v1, v2, v3, v4⟩ := Dm.2.1 k e (by omega) w1
          have cp : ∀ j, j < 5 * W.length → hj S' (49 + 14 * n + 15) j = hj S (49 + 14 * n + 16) j := fun j hj0 => by rw [q2 j hj0, (g2.2 (49 + 14 * n + 16) j ⟨by omega, by omega⟩).2.1]
          rw [cp _ (by omega), cp _ (by omega), cp _ (by omega), cp _ (by omega), cp _ (by omega), v0, v1, v2, v3, v4]
          unfold gx
          simp only [w1, Option.getD_some]
          exact ⟨trivial, trivial, trivial, trivial, trivial⟩
    · rw [if_neg c, if_neg c]
      refine ⟨S, fun Post h => ⟨1, ?_⟩, M, Dm.2.2, agr.rf, rfl⟩
      simp only [PX7_run_37, eq_true m1.1.1, true_and, m1.1.r14, Option.some.injEq, exists_eq_left', eq_true (m1.1.x11 ht), kt, r11, nI_1, eq_true c0, true_implies, not_true_eq_false, false_implies, and_true, Dm.1.2, e3, c, not_false_eq_true]
      exact h
  | succ d ih =>
    intro p S W hd M Dm hW
    have m1 := M.1
    have K := M.2.2.1.2.2.2 t ht
    have h30 := K.1.2.2.2
    have r11 : hi S (49 + 14 * n + 11) t = nI (T.2.1 t) := K.1.2.2.1
    have kt : (nI t).toNatClampNeg = t := nI_clamp (by omega)
    have c0 : ¬ nI (T.2.1 t) ≤ nI (p + 1) := nI_ge (by omega) (by omega)
    have ev : eA (fun p => eA (e1 A R T g t p) 0 n) p (d + 1) = eA (e1 A R T g t p) 0 n ++ eA (fun p => eA (e1 A R T g t p) 0 n) (p + 1) d := rfl
    rw [ev, ← List.append_assoc]
    obtain ⟨S1, p1, p2, p3, p4, p5, p6⟩ := m_run52 hA hT hn hg ht (show p + 1 < T.2.1 t by omega) (fun i hi1 => hex i p hi1 (by omega)) n 0 S W (by omega) M Dm (by omega)
    obtain ⟨S', q1, q2, q3, q4, q5⟩ := ih (p + 1) S1 (W ++ eA (e1 A R T g t p) 0 n) (by omega) p2 p3 (by rw [List.length_append]; omega)
    refine ⟨S', fun Post h => ?_, q2, q3, (p5.mono (fun b j h => by unfold pr; omega)).tr q4, q5.trans p6⟩
    obtain ⟨w, hw⟩ := q1 Post h
    obtain ⟨w1, hw1⟩ := p1 Post (PX7_run_37 Post w) hw
    refine ⟨w + 1, ?_⟩
    simp only [PX7_run_37, eq_true m1.1.1, true_and, m1.1.r14, Option.some.injEq, exists_eq_left', eq_true (m1.1.x11 ht), kt, r11, nI_1, c0, false_implies, not_false_eq_true, true_implies]
    exact ⟨w1, hw1⟩
end
