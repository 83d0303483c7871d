/-! whether a piece counts for an area, both sides -/
def gcnt (A : Ga) (R : Nat × Gr) (T : Gk) (i g t p : Nat) : Bool := decide (0 < A.1 i) && (!ggap (T.2.2 t) p && (gbar R.1 R.2 i g ((T.2.2 t).1 p / 86400) && !gfast (A.2.2.1 i) (T.2.2 t) p))
section
variable {S : hs} {n i g t p : Nat} {A : Ga} {R : Nat × Gr} {T : Gk}
theorem c_counts {Post : Int32 → hs → Prop} (c1 : CA S n A) (c2 : CR S n R) (c3 : CT S n T) (hA : WA n A) (hT : WT T) (hi0 : i < n) (hg : g < 8) (ht : t < 6) (hp : p + 1 < T.2.1 t) : PX6_counts 0 (nI i) (nI g) (8 + 14 * n + 4 * t) (nI p) S Post = Post (zb (gcnt A R T i g t p)) S := by
  have h12 := c1.n12
  have K := c3.t ht
  have a := c1.a hi0
  have h30 := K.n30
  have sec := hT.sec ht hp
  have b := (K.2 p (by omega)).2.1
  have dy : bJ ((T.2.2 t).1 p / 86400) := ⟨by omega, by omega⟩
  have eb : ∀ P : Int32 → hs → Prop, PX3_bar (2 + 14 * n) (nI i) (nI g) (cJ ((T.2.2 t).1 p / 86400)) S P = P (zb (gbar R.1 R.2 i g ((T.2.2 t).1 p / 86400))) S := fun P => s_bar (g := (g : Int)) c2.2 (⟨by omega, by omega⟩ : bI (i : Int)) ⟨by omega, by omega⟩ dy
  simp only [PX6_counts, PX6_counts_26, PX6_counts_68, PX6_counts_69, eq_true c1.o, true_and, c_there c1 hi0, zb_0, eq_true K.1.1, s_hasPiece K hp, o10, false_implies, not_false_eq_true, true_implies, s_gap K hp, c2.1, Option.some.injEq, exists_eq_left', s_day K hp, eq_true c2.2.1.1, eb, c1.r0, eq_true (c1.ix hi0), c1.ri hi0, eq_true a.o, s_fast a]
  unfold gcnt
  cases h1 : decide (0 < A.1 i) with
  | false => simp [zb]
  | true =>
    cases h2 : ggap (T.2.2 t) p with
    | true => simp [zb]
    | false =>
      cases h3 : gbar R.1 R.2 i g ((T.2.2 t).1 p / 86400) with
      | false => simp [zb]
      | true =>
        simp only [s_isFast K hp (hA i hi0).1 h2 sec, zb_0]
        cases gfast (A.2.2.1 i) (T.2.2 t) p <;> simp [zb]
theorem c_counts_m {Post : Int32 → hs → Prop} (c1 : CA S n A) (c3 : CT S n T) (hi0 : i < n) (ht : t < 6) : PX6_counts 0 (nI i) (nI g) (8 + 14 * n + 4 * t) (nI 0 - 1) S Post = Post 0 S := by
  have K := c3.t ht
  have e : nI 0 - 1 = (-1 : Int32) := by decide
  rw [e]
  simp only [PX6_counts, PX6_counts_26, eq_true c1.o, true_and, c_there c1 hi0, zb_0, eq_true K.1.1, s_hasPiece_m, not_true_eq_false, false_implies, true_implies, and_true]
  cases decide (0 < A.1 i) <;> simp
theorem m_counts {Z : Nat} {Post : Int32 → hs → Prop} (m1 : MA S Z n A) (m2 : RuM S Z R.1 R.2) (m3 : MT S Z T) (hn : n ≤ 12) (hA : WA n A) (hi0 : i < n) (hg : g < 8) (ht : t < 6) (hp : p + 1 < T.2.1 t) (hT : WT T) : PX7_counts Z (nI (30 * t + p)) (nI i) (nI g) S Post = Post (zb (gcnt A R T i g t p)) S := by
  have K := m3.2.2.2 t ht
  have a := m1.a hi0
  have M := m1.1
  have h30 := K.1.2.2.2
  have sec := hT.sec ht hp
  have b1 := (K.2 p (by omega)).2
  have b2 := (K.2 (p + 1) hp).2
  have sp := (hA i hi0).1
  have dy : bJ ((T.2.2 t).1 p / 86400) := by have := b1.1; exact ⟨by omega, by omega⟩
  have e86 : cJ ((T.2.2 t).1 p) / (86400 : Int64) = cJ ((T.2.2 t).1 p / 86400) := by
    have := b1.1
    rw [show (86400 : Int64) = cJ 86400 from rfl, cJ_div ⟨by omega, by omega⟩ ⟨by omega, by omega⟩ (by omega) (by omega)]
  have eb : ∀ P : Int32 → hs → Prop, PX7_isBarred Z (nI i) (nI g) (cJ ((T.2.2 t).1 p / 86400)) S P = P (zb (gbar R.1 R.2 i g ((T.2.2 t).1 p / 86400))) S := fun P => m_barred (g := (g : Int)) m2 (⟨by omega, by omega⟩ : bI (i : Int)) ⟨by omega, by omega⟩ dy
  have e1 : nI (30 * t + p) + 1 = nI (30 * t + (p + 1)) := nI_1 _
  have s0 : (cJ (A.2.2.1 i) = (0 : Int64)) = (A.2.2.1 i = 0) := by
    rw [j0]; exact propext (cJ_eq ⟨by omega, by omega⟩ ⟨by omega, by omega⟩)
  simp only [PX7_counts, PX7_counts_35, PX7_counts_128, PX7_counts_133, eq_true M.1, true_and, m_there_in m1 hn hi0, zb_0, m_gap K hp, M.r15, M.r16, M.r17, M.r7, Option.some.injEq, exists_eq_left', eq_true (K.i12 (show p < 30 by omega)), K.s (show p < T.2.1 t by omega), e86, eb, e1, eq_true (K.i13 (show p < 30 by omega)), eq_true (K.i13 (show p + 1 < 30 by omega)), eq_true (K.i14 (show p < 30 by omega)), eq_true (K.i14 (show p + 1 < 30 by omega)), K.x (show p < T.2.1 t by omega), K.x hp, K.y (show p < T.2.1 t by omega), K.y hp, cJ_sub, cJ_mul, cJ_add, show (3600 : Int64) = cJ 3600 from rfl, eq_true a.x6, a.fs, m_lasts K hp, forall_eq, s0]
  unfold gcnt
  cases h1 : decide (0 < A.1 i) with
  | false => simp [zb]
  | true =>
    cases h2 : ggap (T.2.2 t) p with
    | true => simp [zb]
    | false =>
      cases h3 : gbar R.1 R.2 i g ((T.2.2 t).1 p / 86400) with
      | false => simp [zb]
      | true =>
        have hg' : gsec (T.2.2 t) p ≤ 3600 := by
          unfold ggap at h2
          simp at h2
          omega
        obtain ⟨f1, f2⟩ := fast_b sp b1 b2 (by omega)
        simp only [cJ_le f2 f1]
        unfold gfast
        revert s0
        generalize (((T.2.2 t).2.1 (p + 1) - (T.2.2 t).2.1 p) * ((T.2.2 t).2.1 (p + 1) - (T.2.2 t).2.1 p) + ((T.2.2 t).2.2 (p + 1) - (T.2.2 t).2.2 p) * ((T.2.2 t).2.2 (p + 1) - (T.2.2 t).2.2 p)) * 3600 * 3600 = q1
        generalize A.2.2.1 i * gsec (T.2.2 t) p * (A.2.2.1 i * gsec (T.2.2 t) p) = q2
        generalize A.2.2.1 i = s at sp
        intro _
        by_cases c1 : s = 0
        · simp [c1, zb]
        · by_cases c2 : q2 ≤ q1
          · simp [c1, c2, show 0 < s by omega, show ¬ q1 < q2 by omega, zb]
          · simp [c1, c2, show 0 < s by omega, show q1 < q2 by omega, zb]
end
/-! what a run notes -/
abbrev Ev : Type := Nat × Nat × Bool × Fr
def evs (p i : Nat) (prev : Bool) (s : Fr × Fr) : List Ev := (if prev = true ∧ s.1 = (0, 1) then [] else [(p, i, true, s.1)]) ++ (if s.2 = (1, 1) then [] else [(p, i, false, s.2)])
/-- crossings kept by the class: those of W -/
def DC (S : hs) (l : Nat) (W : List Ev) : Prop := CO S l ∧ (hi S l 5 = nI W.length ∧ W.length ≤ 300) ∧ ∀ k e, W[k]? = some e → hi S (l + 1) k = nI e.1 ∧ hi S (l + 2) k = nI e.2.1 ∧ hi S (l + 3) k = zb e.2.2.1 ∧ hj S (l + 4) k = cJ e.2.2.2.1 ∧ hj S (l + 5) k = cJ e.2.2.2.2
def pl (l b j : Nat) : Prop := b < l ∨ l + 5 < b
theorem gE_ap {α : Type} {D : List α} {x p : α} {k : Nat} (h : (D ++ [x])[k]? = some p) : (k < D.length ∧ D[k]? = some p) ∨ (k = D.length ∧ p = x) := by
  rw [List.getElem?_append] at h
  by_cases e : k < D.length
  · rw [if_pos e] at h
    exact Or.inl ⟨e, h⟩
  · rw [if_neg e] at h
    have e2 : k = D.length := by
      refine Classical.byContradiction fun q => ?_
      rw [List.getElem?_eq_none (by simp; omega)] at h
      cases h
    subst e2
    rw [Nat.sub_self] at h
    have e3 : x = p := by simpa using h
    exact Or.inr ⟨rfl, e3.symm⟩
section
variable {S : hs} {l : Nat} {W : List Ev}
theorem s_put {p i : Nat} {en : Bool} {x : Fr} (D : DC S l W) (h : W.length < 300) : ∃ S', (∀ Post, Post 1 S' → PX1_add l (nI p) (nI i) (zb en) (cJ x.1) (cJ x.2) S Post) ∧ DC S' l (W ++ [(p, i, en, x)]) ∧ agr S S' (pl l) ∧ hr S' = hr S := by
  obtain ⟨⟨o1, ⟨r0, r1, r2, r3, r4⟩, ⟨t1, t2, t3, t4, t5⟩, z1, z2, z3, z4, z5⟩, ⟨d1, d2⟩, d3⟩ := D
  have kc : (nI W.length).toNatClampNeg = W.length := nI_clamp (by omega)
  have c0 : nI W.length < (300 : Int32) := nI_lt (b := 300) h (by omega)
  have i1 : ix S 8 (l + 1) (nI W.length) := ix_n t1 z1 h (by decide)
  have i2 : ix S 8 (l + 2) (nI W.length) := ix_n t2 z2 h (by decide)
  have i3 : ix S 10 (l + 3) (nI W.length) := ix_n t3 z3 h (by decide)
  have i4 : ix S 9 (l + 4) (nI W.length) := ix_n t4 z4 h (by decide)
  have i5 : ix S 9 (l + 5) (nI W.length) := ix_n t5 z5 h (by decide)
  have s1 : ∀ a, hi (sI S (l + 1) W.length a) l 5 = nI W.length := fun a => (rdI (Or.inl (by omega))).trans d1
  have s2 : ∀ a b, hi (sI (sI S (l + 1) W.length a) (l + 2) W.length b) l 5 = nI W.length := fun a b => (rdI (Or.inl (by omega))).trans (s1 a)
  have s3 : ∀ a b c, hi (sI (sI (sI S (l + 1) W.length a) (l + 2) W.length b) (l + 3) W.length c) l 5 = nI W.length := fun a b c => (rdI (Or.inl (by omega))).trans (s2 a b)
  have q1 : ∀ a, hr (sI S (l + 1) W.length a) l 1 = some (l + 2) := fun a => r1
  have q2 : ∀ a b, hr (sI (sI S (l + 1) W.length a) (l + 2) W.length b) l 2 = some (l + 3) := fun a b => r2
  have q3 : ∀ a b c, hr (sI (sI (sI S (l + 1) W.length a) (l + 2) W.length b) (l + 3) W.length c) l 3 = some (l + 4) := fun a b c => r3
  have q4 : ∀ a b c d, hr (sJ (sI (sI (sI S (l + 1) W.length a) (l + 2) W.length b) (l + 3) W.length c) (l + 4) W.length d) l 4 = some (l + 5) := fun a b c d => r4
  have s4 : ∀ a b c d, hi (sJ (sI (sI (sI S (l + 1) W.length a) (l + 2) W.length b) (l + 3) W.length c) (l + 4) W.length d) l 5 = nI W.length := fun a b c d => s3 a b c
  have s5 : ∀ a b c d e, hi (sJ (sJ (sI (sI (sI S (l + 1) W.length a) (l + 2) W.length b) (l + 3) W.length c) (l + 4) W.length d) (l + 5) W.length e) l 5 = nI W.length := fun a b c d e => s3 a b c
  have z01 := zb_01 en
  refine ⟨sI (sJ (sJ (sI (sI (sI S (l + 1) W.length (nI p)) (l + 2) W.length (nI i)) (l + 3) W.length (zb en)) (l + 4) W.length (cJ x.1)) (l + 5) W.length (cJ x.2)) l 5 (nI (W.length + 1)), fun Post h => ?_, ⟨⟨o1, ⟨r0, r1, r2, r3, r4⟩, ⟨t1, t2, t3, t4, t5⟩, z1, z2, z3, z4, z5⟩, ⟨by rw [List.length_append]; exact up2_same _ _ _ _, by rw [List.length_append]; show W.length + 1 ≤ 300; omega⟩, fun k e he => ?_⟩, (((((agr.rf.wI (fun h => by unfold pl at h; omega)).wI (fun h => by unfold pl at h; omega)).wI (fun h => by unfold pl at h; omega)).wJ (fun h => by unfold pl at h; omega)).wJ (fun h => by unfold pl at h; omega)).wI (fun h => by unfold pl at h; omega), rfl⟩
  · simp only [PX1_add, eq_true o1, true_and, d1, eq_true c0, not_true_eq_false, false_implies, and_true, true_implies, r0, q1, q2, q3, q4, Option.some.injEq, exists_eq_left', eq_true i1, eq_true i2, eq_true i3, eq_true i4, eq_true i5, kc, forall_eq, is_I, is_J, ix_I, ix_J, s1, s2, s3, s4, s5, nI_1, eq_true z01]
    exact h
  · have w1 : hi (sI (sJ (sJ (sI (sI (sI S (l + 1) W.length (nI p)) (l + 2) W.length (nI i)) (l + 3) W.length (zb en)) (l + 4) W.length (cJ x.1)) (l + 5) W.length (cJ x.2)) l 5 (nI (W.length + 1))) (l + 1) k = if k = W.length then nI p else hi S (l + 1) k := by
      show up2 (up2 (up2 (up2 (hi S) (l + 1) W.length (nI p)) (l + 2) W.length (nI i)) (l + 3) W.length (zb en)) l 5 (nI (W.length + 1)) (l + 1) k = _
      simp [up2]
    have w2 : hi (sI (sJ (sJ (sI (sI (sI S (l + 1) W.length (nI p)) (l + 2) W.length (nI i)) (l + 3) W.length (zb en)) (l + 4) W.length (cJ x.1)) (l + 5) W.length (cJ x.2)) l 5 (nI (W.length + 1))) (l + 2) k = if k = W.length then nI i else hi S (l + 2) k := by
      show up2 (up2 (up2 (up2 (hi S) (l + 1) W.length (nI p)) (l + 2) W.length (nI i)) (l + 3) W.length (zb en)) l 5 (nI (W.length + 1)) (l + 2) k = _
      simp [up2]
    have w3 : hi (sI (sJ (sJ (sI (sI (sI S (l + 1) W.length (nI p)) (l + 2) W.length (nI i)) (l + 3) W.length (zb en)) (l + 4) W.length (cJ x.1)) (l + 5) W.length (cJ x.2)) l 5 (nI (W.length + 1))) (l + 3) k = if k = W.length then zb en else hi S (l + 3) k := by
      show up2 (up2 (up2 (up2 (hi S) (l + 1) W.length (nI p)) (l + 2) W.length (nI i)) (l + 3) W.length (zb en)) l 5 (nI (W.length + 1)) (l + 3) k = _
      simp [up2]
    have w4 : hj (sI (sJ (sJ (sI (sI (sI S (l + 1) W.length (nI p)) (l + 2) W.length (nI i)) (l + 3) W.length (zb en)) (l + 4) W.length (cJ x.1)) (l + 5) W.length (cJ x.2)) l 5 (nI (W.length + 1))) (l + 4) k = if k = W.length then cJ x.1 else hj S (l + 4) k := by
      show up2 (up2 (hj S) (l + 4) W.length (cJ x.1)) (l + 5) W.length (cJ x.2) (l + 4) k = _
      simp [up2]
    have w5 : hj (sI (sJ (sJ (sI (sI (sI S (l + 1) W.length (nI p)) (l + 2) W.length (nI i)) (l + 3) W.length (zb en)) (l + 4) W.length (cJ x.1)) (l + 5) W.length (cJ x.2)) l 5 (nI (W.length + 1))) (l + 5) k = if k = W.length then cJ x.2 else hj S (l + 5) k := by
      show up2 (up2 (hj S) (l + 4) W.length (cJ x.1)) (l + 5) W.length (cJ x.2) (l + 5) k = _
      simp [up2]
    rw [w1, w2, w3, w4, w5]
    rcases gE_ap he with ⟨h1, h2⟩ | ⟨h1, h2⟩
    · have ne : ¬ k = W.length := by omega
      simp only [ne, if_false]
      exact d3 k e h2
    · subst h2
      simp only [h1, if_true, and_self]
theorem s_full {p i : Nat} {en : Bool} {x : Fr} {Post : Int32 → hs → Prop} (D : DC S l W) (h : ¬ W.length < 300) (hP : Post 0 S) : PX1_add l (nI p) (nI i) (zb en) (cJ x.1) (cJ x.2) S Post := by
  have d2 := D.2.1.2
  have c0 : (nI W.length < (300 : Int32)) = (W.length < 300) := nI_ltk (y := 300) (by omega) (by omega)
  simp only [PX1_add, eq_true D.1.1, true_and, D.2.1.1, c0, h, false_implies, not_false_eq_true, true_implies]
  exact hP
end
