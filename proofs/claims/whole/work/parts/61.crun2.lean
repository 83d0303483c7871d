/-! the class's run: all areas, all pieces -/
noncomputable def sL (A : Ga) (T : Gk) (i t p : Nat) : List (Fr × Fr) := strs (A.1 i) (A.2.2.2.1 i) (A.2.2.2.2.1 i) (A.2.2.2.2.2 i) ((T.2.2 t).2.1 p) ((T.2.2 t).2.2 p) ((T.2.2 t).2.1 (p + 1) - (T.2.2 t).2.1 p) ((T.2.2 t).2.2 (p + 1) - (T.2.2 t).2.2 p)
def prv (A : Ga) (R : Nat × Gr) (T : Gk) (i g t p : Nat) : Bool := if p = 0 then false else gcnt A R T i g t (p - 1)
noncomputable def e1 (A : Ga) (R : Nat × Gr) (T : Gk) (g t p i : Nat) : List Ev := if gcnt A R T i g t p = true then (sL A T i t p).flatMap (evs p i (prv A R T i g t p)) else []
def eA (F : Nat → List Ev) : Nat → Nat → List Ev
  | _, 0 => []
  | i, d + 1 => F i ++ eA F (i + 1) d
def pw (n l b j : Nat) : Prop := (b < 32 + 14 * n ∨ 36 + 14 * n < b) ∧ (b < l ∨ l + 5 < b)
def RS (S : hs) (n l : Nat) (A : Ga) (R : Nat × Gr) (T : Gk) (W : List Ev) : Prop := (CA S n A ∧ CR S n R ∧ CT S n T) ∧ (hr S 0 4 = some (32 + 14 * n) ∧ CZ S (32 + 14 * n)) ∧ hr S 0 6 = some l ∧ DC S l W
/-- whether there was room for the events Es -/
def outc (S' : hs) (n l : Nat) (A : Ga) (R : Nat × Gr) (T : Gk) (W Es : List Ev) (b : Bool) : Prop := (b = true → RS S' n l A R T (W ++ Es)) ∧ (b = false → 300 < W.length + Es.length ∧ CO S' l)
section
variable {S S' : hs} {n l i p t g : Nat} {W : List Ev} {A : Ga} {R : Nat × Gr} {T : Gk}
theorem RS.fr (N : RS S n l A R T W) (hl : l = 37 + 14 * n ∨ l = 43 + 14 * n) (gg : agr S S' (pw n l)) (e : hr S' = hr S) {W' : List Ev} (D' : DC S' l W') : RS S' n l A R T W' := by
  obtain ⟨⟨c1, c2, c3⟩, ⟨c4, c5⟩, c6, -⟩ := N
  refine ⟨⟨c1.fr gg (by unfold pw; omega) (fun b j _ _ => by unfold pw; omega), c2.fr gg (by unfold pw; omega) (fun b j _ _ => by unfold pw; omega), c3.fr gg (by unfold pw; omega) (by unfold pw; omega) (fun b j _ _ => by unfold pw; omega)⟩, ⟨by rw [e]; exact c4, c5.fr gg (fun j => Or.inr (by rw [e]))⟩, by rw [e]; exact c6, D'⟩
theorem s_noteAll (hA : WA n A) (hT : WT T) (hl : l = 37 + 14 * n ∨ l = 43 + 14 * n) (N : RS S n l A R T W) (hi0 : i < n) (hg : g < 8) (ht : t < 6) (hp : p + 1 < T.2.1 t) (hc : gcnt A R T i g t p = true) : ∃ S' b, (∀ Post, Post (zb b) S' → PX6_noteCrossings 0 (nI i) (nI g) (8 + 14 * n + 4 * t) (nI p) S Post) ∧ outc S' n l A R T W (e1 A R T g t p i) b ∧ agr S S' (pw n l) ∧ hr S' = hr S := by
  have N0 := N
  obtain ⟨⟨c1, c2, c3⟩, ⟨c4, c5⟩, c6, c7⟩ := N
  have h12 := c1.n12
  have K := c3.t ht
  have a := c1.a hi0
  have hok := (hA i hi0).2.2
  obtain ⟨S1, nC, f, D, q1, q2, q3, q4, q5, q6, q7, q8⟩ := s_findAll (a := 32 + 14 * n) (ar := 2 + 14 * i) (tr := 8 + 14 * n + 4 * t) (by omega) (by omega) c5 a K hp
  obtain ⟨⟨h0, h1⟩, h2⟩ := q2.h0
  have g1 : agr S S1 (pw n l) := q7.mono (fun b j h => by unfold pw at h; unfold pz2; omega)
  have D1 : DC S1 l W := by
    obtain ⟨d1, ⟨d2, d3⟩, d4⟩ := c7
    refine ⟨d1.fr q7 (fun j => Or.inr (by rw [q8])), ⟨by rw [(q7.2 l 5 (by unfold pz2; omega)).1]; exact d2, d3⟩, fun k e he => ?_⟩
    rw [(q7.2 (l + 1) k (by unfold pz2; omega)).1, (q7.2 (l + 2) k (by unfold pz2; omega)).1, (q7.2 (l + 3) k (by unfold pz2; omega)).1, (q7.2 (l + 4) k (by unfold pz2; omega)).2.1, (q7.2 (l + 5) k (by unfold pz2; omega)).2.1]
    exact d4 k e he
  have NS1 : NS S1 n l nC f D W := ⟨⟨by rw [q7.o]; exact c1.o, by rw [q8]; exact c4, by rw [q8]; exact c6⟩, q2.1, q3, D1⟩
  have h50 := q2.1.2.1.2
  obtain ⟨S2, b, r1, r2, r3, r4⟩ := s_notes (n := n) (l := l) (nC := nC) (f := f) (D := D) (i := i) (p := p) (prev := prv A R T i g t p) (by omega) q2.2.1 h1 h2 (by omega) q4 D [] S1 W rfl NS1
  rw [q5, q2.st hok] at r2
  have ee : e1 A R T g t p i = (strs (A.1 i) (A.2.2.2.1 i) (A.2.2.2.2.1 i) (A.2.2.2.2.2 i) ((T.2.2 t).2.1 p) ((T.2.2 t).2.2 p) ((T.2.2 t).2.1 (p + 1) - (T.2.2 t).2.1 p) ((T.2.2 t).2.2 (p + 1) - (T.2.2 t).2.2 p)).flatMap (evs p i (prv A R T i g t p)) := by
    unfold e1
    rw [if_pos hc]
    rfl
  have g2 : agr S S2 (pw n l) := g1.tr (r3.mono (fun b j h => by unfold pw at h; unfold pl; omega))
  refine ⟨S2, b, fun Post h => ?_, ⟨fun z => ?_, fun z => ?_⟩, g2, r4.trans q8⟩
  · have hcnt : ∀ P : Int32 → hs → Prop, PX6_counts 0 (nI i) (nI g) (8 + 14 * n + 4 * t) (nI p - 1) S P = P (zb (prv A R T i g t p)) S := by
      intro P
      unfold prv
      by_cases z : p = 0
      · subst z
        rw [if_pos rfl, c_counts_m c1 c3 hi0 ht]
        rfl
      · rw [if_neg z, nI_pr (by omega), c_counts c1 c2 c3 hA hT hi0 hg ht (by omega)]
    simp only [PX6_noteCrossings, eq_true c1.o, true_and, hcnt, c4, c1.r0, Option.some.injEq, exists_eq_left', eq_true (c1.ix hi0), c1.ri hi0, eq_true c5.1]
    refine q1 _ ?_
    have := r1 Post h
    rw [← nI_0]
    exact this
  · rw [ee]
    have := r2.1 z
    exact N0.fr hl g2 (r4.trans q8) this.2.2.2
  · rw [ee]
    exact r2.2 z
theorem c_run49 (hA : WA n A) (hT : WT T) (hl : l = 37 + 14 * n ∨ l = 43 + 14 * n) (hg : g < 8) (ht : t < 6) (hp : p + 1 < T.2.1 t) : ∀ (d i : Nat) (S : hs) (W : List Ev), i + d = n → RS S n l A R T W → ∃ S' b, (∀ Post K, (b = true → K 0 (nI g) (8 + 14 * n + 4 * t) (nI (p + 1)) S') → (b = false → Post (-4) S') → ∃ w, PX6_run_49 Post K w 0 (nI g) (8 + 14 * n + 4 * t) (nI p) (nI i) S) ∧ outc S' n l A R T W (eA (e1 A R T g t p) i d) b ∧ agr S S' (pw n l) ∧ hr S' = hr S := by
  intro d
  induction d with
  | zero =>
    intro i S W hd N
    have c1 := N.1.1
    have h12 := c1.n12
    refine ⟨S, true, fun Post K h1 h0 => ⟨1, ?_⟩, ⟨fun _ => by rw [show eA (e1 A R T g t p) i 0 = [] from rfl, List.append_nil]; exact N, fun z => by cases z⟩, agr.rf, rfl⟩
    have c0 : nI n ≤ nI i := nI_le (by omega) (by omega)
    simp only [PX6_run_49, eq_true c1.o, true_and, c1.r0, Option.some.injEq, exists_eq_left', eq_true c1.ao, c1.az, eq_true c0, true_implies, not_true_eq_false, false_implies, and_true, forall_eq, nI_1]
    exact h1 rfl
  | succ d ih =>
    intro i S W hd N
    have c1 := N.1.1
    have c2 := N.1.2.1
    have c3 := N.1.2.2
    have h12 := c1.n12
    have c0 : ¬ nI n ≤ nI i := nI_ge (by omega) (by omega)
    have ev : eA (e1 A R T g t p) i (d + 1) = e1 A R T g t p i ++ eA (e1 A R T g t p) (i + 1) d := rfl
    rw [ev]
    cases hc : gcnt A R T i g t p with
    | false =>
      have ee : e1 A R T g t p i = [] := by unfold e1; rw [hc]; rfl
      obtain ⟨S', b, q1, q2, q3, q4⟩ := ih (i + 1) S W (by omega) N
      rw [ee, List.nil_append]
      refine ⟨S', b, fun Post K h1 h0 => ?_, q2, q3, q4⟩
      obtain ⟨w, hw⟩ := q1 Post K h1 h0
      refine ⟨w + 1, ?_⟩
      simp only [PX6_run_49, PX6_run_88, eq_true c1.o, true_and, c1.r0, Option.some.injEq, exists_eq_left', eq_true c1.ao, c1.az, c0, false_implies, not_false_eq_true, true_implies, c_counts c1 c2 c3 hA hT (show i < n by omega) hg ht hp, hc, zbf, not_true_eq_false, and_true, forall_eq, nI_1]
      exact hw
    | true =>
      obtain ⟨S1, b1, p1, p2, p3, p4⟩ := s_noteAll hA hT hl N (show i < n by omega) hg ht hp hc
      cases b1 with
      | false =>
        have z := p2.2 rfl
        refine ⟨S1, false, fun Post K h1 h0 => ⟨1, ?_⟩, ⟨fun z => by (cases z), fun _ => ⟨by rw [List.length_append]; have := z.1; omega, z.2⟩⟩, p3, p4⟩
        simp only [PX6_run_49, PX6_run_88, eq_true c1.o, true_and, c1.r0, Option.some.injEq, exists_eq_left', eq_true c1.ao, c1.az, c0, false_implies, not_false_eq_true, true_implies, c_counts c1 c2 c3 hA hT (show i < n by omega) hg ht hp, hc, zbt]
        refine p1 _ ⟨fun _ => h0 rfl, fun z => absurd rfl z⟩
      | true =>
        obtain ⟨S', b, q1, q2, q3, q4⟩ := ih (i + 1) S1 (W ++ e1 A R T g t p i) (by omega) (p2.1 rfl)
        refine ⟨S', b, fun Post K h1 h0 => ?_, ⟨fun z => by have := q2.1 z; rw [List.append_assoc] at this; exact this, fun z => by have := q2.2 z; rw [List.length_append] at this ⊢; exact ⟨by have := this.1; omega, this.2⟩⟩, p3.tr q3, q4.trans p4⟩
        obtain ⟨w, hw⟩ := q1 Post K h1 h0
        refine ⟨w + 1, ?_⟩
        simp only [PX6_run_49, PX6_run_88, eq_true c1.o, true_and, c1.r0, Option.some.injEq, exists_eq_left', eq_true c1.ao, c1.az, c0, false_implies, not_false_eq_true, true_implies, c_counts c1 c2 c3 hA hT (show i < n by omega) hg ht hp, hc, zbt, forall_eq, nI_1]
        exact p1 _ ⟨fun z => absurd z o10, fun _ => hw⟩
theorem c_run37 (hA : WA n A) (hT : WT T) (hl : l = 37 + 14 * n ∨ l = 43 + 14 * n) (hg : g < 8) (ht : t < 6) {l0 : Nat} : ∀ (d p : Nat) (S : hs) (W : List Ev), p + d = T.2.1 t - 1 → RS S n l A R T W → hr S 0 5 = some l0 → ∃ S' b, (∀ Post, (b = true → Post (nI (W ++ eA (fun p => eA (e1 A R T g t p) 0 n) p d).length) (sR (sR S' 0 6 (some l0)) 0 5 (some l))) → (b = false → Post (-4) S') → ∃ w, PX6_run_37 Post w 0 (nI g) (8 + 14 * n + 4 * t) (nI p) S) ∧ outc S' n l A R T W (eA (fun p => eA (e1 A R T g t p) 0 n) p d) b ∧ agr S S' (pw n l) ∧ hr S' = hr S := by
  intro d
  induction d with
  | zero =>
    intro p S W hd N h5
    have c1 := N.1.1
    have K := N.1.2.2.t ht
    have h30 := K.n30
    refine ⟨S, true, fun Post h1 h0 => ⟨1, ?_⟩, ⟨fun _ => by rw [show eA (fun p => eA (e1 A R T g t p) 0 n) p 0 = [] from rfl, List.append_nil]; exact N, fun z => by cases z⟩, agr.rf, rfl⟩
    have c0 : nI (T.2.1 t - 1) ≤ nI p := nI_le (by omega) (by omega)
    have hh := h1 rfl
    rw [show eA (fun p => eA (e1 A R T g t p) 0 n) p 0 = [] from rfl, List.append_nil] at hh
    have f5 : hr (sR (sR S 0 6 (some l0)) 0 5 (some l)) 0 5 = some l := by
      show up2 (hr (sR S 0 6 (some l0))) 0 5 (some l) 0 5 = some l
      rw [up2_same]
    have fi : hi (sR (sR S 0 6 (some l0)) 0 5 (some l)) l 5 = nI W.length := N.2.2.2.2.1.1
    have i1 : is (sR (sR S 0 6 (some l0)) 0 5 (some l)) 6 0 = is S 6 0 := rfl
    have i2 : is (sR S 0 6 (some l0)) 6 0 = is S 6 0 := rfl
    have i3 : is (sR (sR S 0 6 (some l0)) 0 5 (some l)) 1 l = is S 1 l := rfl
    simp only [PX6_run_37, PX1_size, eq_true K.1.1, true_and, s_pieces K, eq_true c0, true_implies, not_true_eq_false, false_implies, and_true, eq_true c1.o, N.2.2.1, h5, Option.some.injEq, exists_eq_left', forall_eq, i1, i2, i3, f5, fi, eq_true N.2.2.2.1.1]
    exact hh
  | succ d ih =>
    intro p S W hd N h5
    have c1 := N.1.1
    have K := N.1.2.2.t ht
    have h30 := K.n30
    have c0 : ¬ nI (T.2.1 t - 1) ≤ nI p := nI_ge (by omega) (by omega)
    have ev : eA (fun p => eA (e1 A R T g t p) 0 n) p (d + 1) = eA (e1 A R T g t p) 0 n ++ eA (fun p => eA (e1 A R T g t p) 0 n) (p + 1) d := rfl
    rw [ev]
    obtain ⟨S1, b1, p1, p2, p3, p4⟩ := c_run49 hA hT hl hg ht (show p + 1 < T.2.1 t by omega) n 0 S W (by omega) N
    cases b1 with
    | false =>
      have z := p2.2 rfl
      refine ⟨S1, false, fun Post h1 h0 => ?_, ⟨fun z => by (cases z), fun _ => ⟨by rw [List.length_append]; have := z.1; omega, z.2⟩⟩, p3, p4⟩
      obtain ⟨w, hw⟩ := p1 Post (PX6_run_37 Post 0) (fun z => by cases z) (fun _ => h0 rfl)
      refine ⟨1, ?_⟩
      simp only [PX6_run_37, eq_true K.1.1, true_and, s_pieces K, c0, false_implies, not_false_eq_true, true_implies]
      exact ⟨w, hw⟩
    | true =>
      obtain ⟨S', b, q1, q2, q3, q4⟩ := ih (p + 1) S1 (W ++ eA (e1 A R T g t p) 0 n) (by omega) (p2.1 rfl) (by rw [p4]; exact h5)
      refine ⟨S', b, fun Post h1 h0 => ?_, ⟨fun z => by have := q2.1 z; rw [List.append_assoc] at this; exact this, fun z => by have := q2.2 z; rw [List.length_append] at this ⊢; exact ⟨by have := this.1; omega, this.2⟩⟩, p3.tr q3, q4.trans p4⟩
      obtain ⟨w, hw⟩ := q1 Post (fun z => by rw [List.append_assoc]; exact h1 z) h0
      obtain ⟨w1, hw1⟩ := p1 Post (PX6_run_37 Post w) (fun _ => hw) (fun z => by cases z)
      refine ⟨w + 1, ?_⟩
      simp only [PX6_run_37, eq_true K.1.1, true_and, s_pieces K, c0, false_implies, not_false_eq_true, true_implies]
      exact ⟨w1, hw1⟩
end
