/-! the reference's stretches -/
section
variable {S S' : hs} {Z n t nT p i0 c : Nat} {f : Nat → Fr} {T : Gt} {m : Bool} {sp : Int} {sz : Nat → Nat} {X Y : Nat → Nat → Int} {o u : Int}
theorem m_hasAt {Post : Int32 → hs → Prop} (A : ArM S Z i0 c m sp sz X Y) (hc : 0 < c) (K : TrM S Z t nT T) (hp : p + 1 < nT) (ho : 0 ≤ o ∧ o ≤ u) (hu : u ≤ 300000000000) : PX7_hasAt Z (nI i0) (nI (30 * t + p)) (cJ o) (cJ u) S Post = Post (zb (gm c sz X Y (T.2.1 p) (T.2.2 p) (T.2.1 (p + 1) - T.2.1 p) (T.2.2 (p + 1) - T.2.2 p) o u)) S := by
  have h30 := K.1.2.2.2
  have t1 := (K.2 p (by omega)).2.2
  have t2 := (K.2 (p + 1) hp).2.2
  have d1 : cd (T.2.1 (p + 1) - T.2.1 p) := by unfold cr at *; unfold cd; omega
  have d2 : cd (T.2.2 (p + 1) - T.2.2 p) := by unfold cr at *; unfold cd; omega
  have M := A.M
  have e1 : nI (30 * t + p) + 1 = nI (30 * t + (p + 1)) := nI_1 _
  simp only [PX7_hasAt, eq_true M.1, true_and, M.r16, M.r17, Option.some.injEq, exists_eq_left', e1, eq_true (K.i13 (k := p) (by omega)), eq_true (K.i13 (k := p + 1) (by omega)), eq_true (K.i14 (k := p) (by omega)), eq_true (K.i14 (k := p + 1) (by omega)), K.x (k := p) (by omega), K.x (k := p + 1) hp, K.y (k := p) (by omega), K.y (k := p + 1) hp, cJ_sub, cJ_mul, cJ_add, m_has A hc (bw_p t1 d1 d2 ho hu)]
  have := zb_01 (ghas c sz X Y (T.2.1 p * u + (T.2.1 (p + 1) - T.2.1 p) * o) (T.2.2 p * u + (T.2.2 (p + 1) - T.2.2 p) * o) u)
  simp only [eq_true this, true_and]
  rfl
def MZ (S : hs) (Z : Nat) (D : List (Nat × Nat)) : Prop := hi S Z 25 = nI D.length ∧ ∀ k p, D[k]? = some p → hi S (Z + 19) k = nI p.1 ∧ hi S (Z + 20) k = nI p.2
/-- cells that the loop over cuts leaves alone -/
def ph (Z b j : Nat) : Prop := (b ≠ Z + 19 ∧ b ≠ Z + 20) ∧ (b = Z → j ≠ 25)
theorem ph_pj {b j : Nat} (h : pj Z b j) : ph Z b j := by unfold pj at h; unfold ph; omega
theorem MU.fh (C : MU S Z n f) (g : agr S S' (ph Z)) (h : hr S' = hr S) : MU S' Z n f := by
  obtain ⟨c1, ⟨c2, c3⟩, c4⟩ := C
  refine ⟨c1.fr g (fun j _ _ => Or.inr (by rw [h])), ⟨by rw [(g.2 Z 22 (by unfold ph; omega)).1]; exact c2, c3⟩, fun k hk => ?_⟩
  rw [(g.2 (Z + 17) k (by unfold ph; omega)).2.1, (g.2 (Z + 18) k (by unfold ph; omega)).2.1]
  exact c4 k hk
theorem gE_app {D : List (Nat × Nat)} {x p : Nat × Nat} {k : Nat} (h : (D ++ [x])[k]? = some p) : (k < D.length ∧ D[k]? = some p) ∨ (k = D.length ∧ p = x) := by
  rw [List.getElem?_append] at h
  by_cases e : k < D.length
  · rw [if_pos e] at h
    exact Or.inl ⟨e, h⟩
  · rw [if_neg e] at h
    have e2 : k = D.length := by
      refine Classical.byContradiction fun q => ?_
      rw [List.getElem?_eq_none (by simp; omega)] at h
      cases h
    subst e2
    rw [Nat.sub_self] at h
    have e3 : x = p := by simpa using h
    exact Or.inr ⟨rfl, e3.symm⟩
theorem MZ.new {D : List (Nat × Nat)} {i : Nat} (H : MZ S Z D) : MZ (sI (sI (sI S (Z + 19) D.length (nI i)) Z 25 (nI (D.length + 1))) (Z + 20) D.length (nI i)) Z (D ++ [(i, i)]) := by
  refine ⟨?_, fun k p hp => ?_⟩
  · rw [rdI (Or.inl (by omega)), List.length_append]
    exact up2_same _ _ _ _
  · have w1 : hi (sI (sI (sI S (Z + 19) D.length (nI i)) Z 25 (nI (D.length + 1))) (Z + 20) D.length (nI i)) (Z + 19) k = if k = D.length then nI i else hi S (Z + 19) k := by
      show up2 (up2 (up2 (hi S) (Z + 19) D.length (nI i)) Z 25 (nI (D.length + 1))) (Z + 20) D.length (nI i) (Z + 19) k = _
      simp [up2]
    have w2 : hi (sI (sI (sI S (Z + 19) D.length (nI i)) Z 25 (nI (D.length + 1))) (Z + 20) D.length (nI i)) (Z + 20) k = if k = D.length then nI i else hi S (Z + 20) k := by
      show up2 (up2 (up2 (hi S) (Z + 19) D.length (nI i)) Z 25 (nI (D.length + 1))) (Z + 20) D.length (nI i) (Z + 20) k = _
      simp [up2]
    rw [w1, w2]
    rcases gE_app hp with ⟨h1, h2⟩ | ⟨h1, h2⟩
    · rw [if_neg (by omega), if_neg (by omega)]
      exact H.2 k p h2
    · rw [if_pos h1, if_pos h1, h2]
      exact ⟨rfl, rfl⟩
theorem MZ.ext {D : List (Nat × Nat)} {b i j : Nat} (H : MZ S Z (D ++ [(b, j)])) : MZ (sI S (Z + 20) D.length (nI i)) Z (D ++ [(b, i)]) := by
  have l : (D ++ [(b, i)]).length = (D ++ [(b, j)]).length := by simp
  refine ⟨?_, fun k p hp => ?_⟩
  · rw [rdI (Or.inl (by omega)), l]
    exact H.1
  · have w1 : hi (sI S (Z + 20) D.length (nI i)) (Z + 19) k = hi S (Z + 19) k := rdI (Or.inl (by omega))
    have w2 : hi (sI S (Z + 20) D.length (nI i)) (Z + 20) k = if k = D.length then nI i else hi S (Z + 20) k := by
      show up2 (hi S) (Z + 20) D.length (nI i) (Z + 20) k = _
      simp [up2]
    rw [w1, w2]
    rcases gE_app hp with ⟨h1, h2⟩ | ⟨h1, h2⟩
    · rw [if_neg (by omega)]
      exact H.2 k p (by rw [List.getElem?_append, if_pos h1]; exact h2)
    · rw [if_pos h1, h2]
      have := (H.2 D.length (b, j) (by simp)).1
      rw [h1]
      exact ⟨this, rfl⟩
theorem m_175 {i d : Nat} {Post : hs → Prop} {K : Nat → Int32 → Int32 → Int32 → Int32 → hs → Prop} (C : MU S Z n f) (hI : CI n f) (A : ArM S Z i0 c m sp sz X Y) (hc : 0 < c) (Tk : TrM S Z t nT T) (hp : p + 1 < nT) (hi0 : i + (d + 1) = n) (h : K Z (nI i0) (nI (30 * t + p)) (zb (goes (fun x => gm c sz X Y (T.2.1 p) (T.2.2 p) (T.2.1 (p + 1) - T.2.1 p) (T.2.2 (p + 1) - T.2.2 p) x.1 x.2) (f i) (tl f (i + 1) d))) (nI (i + 1)) S) : PX7_stretch_175 Post K Z (nI i0) (nI (30 * t + p)) (nI i) 1 S := by
  have h128 := C.2.1.2
  by_cases e : d = 0
  · subst e
    have c1 : nI n ≤ nI (i + 1) := nI_le (by omega) (by omega)
    simp only [PX7_stretch_175, PX7_stretch_260, PX7_stretch_261, o10, false_implies, not_false_eq_true, true_implies, true_and, eq_true C.1.1, C.2.1.1, nI_1, eq_true c1, not_true_eq_false, and_true, forall_eq]
    exact h
  · have c1 : ¬ nI n ≤ nI (i + 1) := nI_ge (by omega) (by omega)
    have mb0 := mid_b (hI.1 i (by omega)) (hI.1 (i + 1) (by omega))
    have g : goes (fun x => gm c sz X Y (T.2.1 p) (T.2.2 p) (T.2.1 (p + 1) - T.2.1 p) (T.2.2 (p + 1) - T.2.2 p) x.1 x.2) (f i) (tl f (i + 1) d) = gm c sz X Y (T.2.1 p) (T.2.2 p) (T.2.1 (p + 1) - T.2.1 p) (T.2.2 (p + 1) - T.2.2 p) (mid (f i) (f (i + 1))).1 (mid (f i) (f (i + 1))).2 := by
      cases d with
      | zero => exact absurd rfl e
      | succ d => rfl
    rw [g] at h
    obtain ⟨v1, v2⟩ := C.2.2 i (by omega)
    obtain ⟨w1, w2⟩ := C.2.2 (i + 1) (by omega)
    have em : ∀ P : Int32 → hs → Prop, PX7_hasAt Z (nI i0) (nI (30 * t + p)) (cJ ((f i).1 * (f (i + 1)).2 + (f (i + 1)).1 * (f i).2)) (cJ (2 * (f i).2 * (f (i + 1)).2)) S P = P (zb (gm c sz X Y (T.2.1 p) (T.2.2 p) (T.2.1 (p + 1) - T.2.1 p) (T.2.2 (p + 1) - T.2.2 p) (mid (f i) (f (i + 1))).1 (mid (f i) (f (i + 1))).2)) S := fun P => m_hasAt (o := (mid (f i) (f (i + 1))).1) (u := (mid (f i) (f (i + 1))).2) A hc Tk hp mb0.1 mb0.2
    simp only [PX7_stretch_175, PX7_stretch_260, PX7_stretch_261, o10, false_implies, not_false_eq_true, true_implies, true_and, eq_true C.1.1, C.2.1.1, nI_1, c1, C.1.r23, C.1.r24, Option.some.injEq, exists_eq_left', eq_true (C.1.x17 (show i < 128 by omega)), eq_true (C.1.x17 (show i + 1 < 128 by omega)), eq_true (C.1.x18 (show i < 128 by omega)), eq_true (C.1.x18 (show i + 1 < 128 by omega)), nI_clamp (show i < 2 ^ 31 by omega), nI_clamp (show i + 1 < 2 ^ 31 by omega), v1, v2, w1, w2, show (2 : Int64) = cJ 2 from rfl, cJ_mul, cJ_add, em, zb_0, forall_eq]
    cases hg : gm c sz X Y (T.2.1 p) (T.2.2 p) (T.2.1 (p + 1) - T.2.1 p) (T.2.2 (p + 1) - T.2.2 p) (mid (f i) (f (i + 1))).1 (mid (f i) (f (i + 1))).2 with
    | false =>
      simp only [true_implies, not_true_eq_false, false_implies, and_true]
      rw [hg] at h
      exact h
    | true =>
      simp only [reduceCtorEq, false_implies, not_false_eq_true, true_implies, true_and]
      rw [hg] at h
      exact h
/-- what is found so far, at cut i, where a stretch that begins at b may be open -/
def dd (D : List (Nat × Nat)) (i : Nat) : Option Nat → List (Nat × Nat)
  | none => D
  | some b => D ++ [(b, i - 1)]
theorem m_find (hc : 0 < c) (hp : p + 1 < nT) (hI : CI n f) (hcl : ∀ j, j + 1 < n → gm c sz X Y (T.2.1 p) (T.2.2 p) (T.2.1 (p + 1) - T.2.1 p) (T.2.2 (p + 1) - T.2.2 p) (mid (f j) (f (j + 1))).1 (mid (f j) (f (j + 1))).2 = true → gm c sz X Y (T.2.1 p) (T.2.2 p) (T.2.1 (p + 1) - T.2.1 p) (T.2.2 (p + 1) - T.2.2 p) (f (j + 1)).1 (f (j + 1)).2 = true) : ∀ (d i : Nat) (S : hs) (D : List (Nat × Nat)) (ob : Option Nat), i + d = n → MU S Z n f → ArM S Z i0 c m sp sz X Y → TrM S Z t nT T → MZ S Z (dd D i ob) → D.length ≤ i → (∀ p, p ∈ D → p.1 < n ∧ p.2 < n) → (∀ b, ob = some b → b < n ∧ D.length < i ∧ 0 < d ∧ gm c sz X Y (T.2.1 p) (T.2.2 p) (T.2.1 (p + 1) - T.2.1 p) (T.2.2 (p + 1) - T.2.2 p) (f i).1 (f i).2 = true) → ∃ S' D', (∀ Post, Post S' → ∃ w, PX7_stretch_96 Post w Z (nI i0) (nI (30 * t + p)) (zb ob.isSome) (nI i) S) ∧ MZ S' Z D' ∧ (∀ p, p ∈ D' → p.1 < n ∧ p.2 < n) ∧ D'.map (fun p => (f p.1, f p.2)) = D.map (fun p => (f p.1, f p.2)) ++ st (fun x => gm c sz X Y (T.2.1 p) (T.2.2 p) (T.2.1 (p + 1) - T.2.1 p) (T.2.2 (p + 1) - T.2.2 p) x.1 x.2) (ob.map f) (tl f i d) ∧ D'.length ≤ n ∧ agr S S' (ph Z) ∧ hr S' = hr S := by
  intro d
  induction d with
  | zero =>
    intro i S D ob hi0 C A K H hD hpp hob
    have h128 := C.2.1.2
    cases ob with
    | some b => have := (hob b rfl).2.2.1; omega
    | none =>
      refine ⟨S, D, fun Post h => ⟨1, ?_⟩, H, hpp, by simp [tl, st], by omega, agr.rf, rfl⟩
      have c1 : nI n ≤ nI i := nI_le (by omega) (by omega)
      simp only [PX7_stretch_96, eq_true C.1.1, true_and, C.2.1.1, eq_true c1, true_implies, not_true_eq_false, false_implies, and_true]
      exact h
  | succ d ih =>
    intro i S D ob hi0 C A K H hD hpp hob
    have h128 := C.2.1.2
    have c1 : ¬ nI n ≤ nI i := nI_ge (by omega) (by omega)
    have kc : (nI i).toNatClampNeg = i := nI_clamp (by omega)
    obtain ⟨v1, v2⟩ := C.2.2 i (by omega)
    have bi := okF_b (hI.1 i (by omega))
    have bo : 0 ≤ (f i).1 ∧ (f i).1 ≤ (f i).2 := (hI.1 i (by omega)).1
    have hat := fun P : Int32 → hs → Prop => m_hasAt (Post := P) A hc K hp bo (show (f i).2 ≤ 300000000000 by omega)
    -- a stretch that began at b has cut i too, in state S1
    have op : ∀ (S1 : hs) (b : Nat), MU S1 Z n f → ArM S1 Z i0 c m sp sz X Y → TrM S1 Z t nT T → MZ S1 Z (D ++ [(b, i)]) → b < n → agr S S1 (ph Z) → hr S1 = hr S → opn (fun x => gm c sz X Y (T.2.1 p) (T.2.2 p) (T.2.1 (p + 1) - T.2.1 p) (T.2.2 (p + 1) - T.2.2 p) x.1 x.2) (ob.map f) (f i) = some (f b) → ∃ S' D', (∀ Post, Post S' → ∃ w, PX7_stretch_175 Post (PX7_stretch_96 Post w) Z (nI i0) (nI (30 * t + p)) (nI i) 1 S1) ∧ MZ S' Z D' ∧ (∀ p, p ∈ D' → p.1 < n ∧ p.2 < n) ∧ D'.map (fun p => (f p.1, f p.2)) = D.map (fun p => (f p.1, f p.2)) ++ st (fun x => gm c sz X Y (T.2.1 p) (T.2.2 p) (T.2.1 (p + 1) - T.2.1 p) (T.2.2 (p + 1) - T.2.2 p) x.1 x.2) (ob.map f) (tl f i (d + 1)) ∧ D'.length ≤ n ∧ agr S S' (ph Z) ∧ hr S' = hr S := by
      intro S1 b C1 A1 K1 H1 hbn g1 e1 ho
      cases hg : goes (fun x => gm c sz X Y (T.2.1 p) (T.2.2 p) (T.2.1 (p + 1) - T.2.1 p) (T.2.2 (p + 1) - T.2.2 p) x.1 x.2) (f i) (tl f (i + 1) d) with
      | true =>
        have hd : 0 < d := by
          cases d with
          | zero => cases hg
          | succ d => omega
        obtain ⟨S', D', q1, q2, q3, q4, q5, q6, q7⟩ := ih (i + 1) S1 D (some b) (by omega) C1 A1 K1 H1 (by omega) hpp (fun b' hb' => by
          cases hb'
          refine ⟨hbn, by omega, hd, hcl i (by omega) ?_⟩
          cases d with
          | zero => cases hg
          | succ d => exact hg)
        refine ⟨S', D', fun Post h => ?_, q2, q3, ?_, q5, g1.tr q6, q7.trans e1⟩
        · obtain ⟨w, hw⟩ := q1 Post h
          exact ⟨w, m_175 C1 hI A1 hc K1 hp hi0 (by rw [hg]; exact hw)⟩
        · rw [q4]
          congr 1
          show _ = (match opn (fun x => gm c sz X Y (T.2.1 p) (T.2.2 p) (T.2.1 (p + 1) - T.2.1 p) (T.2.2 (p + 1) - T.2.2 p) x.1 x.2) (ob.map f) (f i) with
            | none => st (fun x => gm c sz X Y (T.2.1 p) (T.2.2 p) (T.2.1 (p + 1) - T.2.1 p) (T.2.2 (p + 1) - T.2.2 p) x.1 x.2) none (tl f (i + 1) d)
            | some b' => if goes (fun x => gm c sz X Y (T.2.1 p) (T.2.2 p) (T.2.1 (p + 1) - T.2.1 p) (T.2.2 (p + 1) - T.2.2 p) x.1 x.2) (f i) (tl f (i + 1) d) = true then st (fun x => gm c sz X Y (T.2.1 p) (T.2.2 p) (T.2.1 (p + 1) - T.2.1 p) (T.2.2 (p + 1) - T.2.2 p) x.1 x.2) (some b') (tl f (i + 1) d) else (b', f i) :: st (fun x => gm c sz X Y (T.2.1 p) (T.2.2 p) (T.2.1 (p + 1) - T.2.1 p) (T.2.2 (p + 1) - T.2.2 p) x.1 x.2) none (tl f (i + 1) d))
          rw [ho, hg]
          simp
      | false =>
        obtain ⟨S', D', q1, q2, q3, q4, q5, q6, q7⟩ := ih (i + 1) S1 (D ++ [(b, i)]) none (by omega) C1 A1 K1 H1 (by simp; omega) (fun p hp' => by
          rcases List.mem_append.mp hp' with z | z
          · exact hpp p z
          · have : p = (b, i) := by simpa using z
            subst this
            exact ⟨hbn, by show i < n; omega⟩) (fun b' hb' => by cases hb')
        refine ⟨S', D', fun Post h => ?_, q2, q3, ?_, q5, g1.tr q6, q7.trans e1⟩
        · obtain ⟨w, hw⟩ := q1 Post h
          exact ⟨w, m_175 C1 hI A1 hc K1 hp hi0 (by rw [hg]; exact hw)⟩
        · rw [q4, List.map_append, List.append_assoc]
          congr 1
          show _ = (match opn (fun x => gm c sz X Y (T.2.1 p) (T.2.2 p) (T.2.1 (p + 1) - T.2.1 p) (T.2.2 (p + 1) - T.2.2 p) x.1 x.2) (ob.map f) (f i) with
            | none => st (fun x => gm c sz X Y (T.2.1 p) (T.2.2 p) (T.2.1 (p + 1) - T.2.1 p) (T.2.2 (p + 1) - T.2.2 p) x.1 x.2) none (tl f (i + 1) d)
            | some b' => if goes (fun x => gm c sz X Y (T.2.1 p) (T.2.2 p) (T.2.1 (p + 1) - T.2.1 p) (T.2.2 (p + 1) - T.2.2 p) x.1 x.2) (f i) (tl f (i + 1) d) = true then st (fun x => gm c sz X Y (T.2.1 p) (T.2.2 p) (T.2.1 (p + 1) - T.2.1 p) (T.2.2 (p + 1) - T.2.2 p) x.1 x.2) (some b') (tl f (i + 1) d) else (b', f i) :: st (fun x => gm c sz X Y (T.2.1 p) (T.2.2 p) (T.2.1 (p + 1) - T.2.1 p) (T.2.2 (p + 1) - T.2.2 p) x.1 x.2) none (tl f (i + 1) d))
          rw [ho, hg]
          simp
    cases ob with
    | some b =>
      obtain ⟨hb1, hb2, hb3, hb4⟩ := hob b rfl
      have g2 : agr S (sI S (Z + 20) D.length (nI i)) (ph Z) := agr.rf.wI (fun h => by unfold ph at h; omega)
      have g2' : agr S (sI S (Z + 20) D.length (nI i)) (pj Z) := agr.rf.wI (fun h => by unfold pj at h; omega)
      obtain ⟨S', D', q1, q2⟩ := op (sI S (Z + 20) D.length (nI i)) b (C.fh g2 rfl) (A.fj g2' rfl) (K.fj g2' rfl) H.ext hb1 g2 rfl rfl
      refine ⟨S', D', fun Post h => ?_, q2⟩
      obtain ⟨w, hw⟩ := q1 Post h
      refine ⟨w + 1, ?_⟩
      have z1 : zb (some b).isSome = 1 := rfl
      have z2 : zb true = 1 := rfl
      have hl : hi S Z 25 = nI (D.length + 1) := by
        have := H.1
        unfold dd at this
        rw [List.length_append] at this
        exact this
      have hl2 : nI (D.length + 1) - 1 = nI D.length := by rw [nI_pr (by omega)]; rfl
      simp only [PX7_stretch_96, PX7_stretch_157, eq_true C.1.1, true_and, C.2.1.1, c1, false_implies, not_false_eq_true, true_implies, z1, z2, o10, C.1.r23, C.1.r24, C.1.r27, Option.some.injEq, exists_eq_left', eq_true (C.1.x17 (show i < 128 by omega)), eq_true (C.1.x18 (show i < 128 by omega)), kc, v1, v2, hat, hb4, hl, hl2, eq_true (C.1.x20 (show D.length < 128 by omega)), nI_clamp (show D.length < 2 ^ 31 by omega), forall_eq]
      exact hw
    | none =>
      have z1 : zb (none : Option Nat).isSome = 0 := rfl
      cases hm : gm c sz X Y (T.2.1 p) (T.2.2 p) (T.2.1 (p + 1) - T.2.1 p) (T.2.2 (p + 1) - T.2.2 p) (f i).1 (f i).2 with
      | false =>
        obtain ⟨S', D', q1, q2, q3, q4, q5, q6, q7⟩ := ih (i + 1) S D none (by omega) C A K H (by omega) hpp (fun b' hb' => by cases hb')
        refine ⟨S', D', fun Post h => ?_, q2, q3, ?_, q5, q6, q7⟩
        · obtain ⟨w, hw⟩ := q1 Post h
          refine ⟨w + 1, ?_⟩
          simp only [PX7_stretch_96, PX7_stretch_157, PX7_stretch_175, PX7_stretch_260, PX7_stretch_261, eq_true C.1.1, true_and, C.2.1.1, c1, false_implies, not_false_eq_true, true_implies, z1, C.1.r23, C.1.r24, Option.some.injEq, exists_eq_left', eq_true (C.1.x17 (show i < 128 by omega)), eq_true (C.1.x18 (show i < 128 by omega)), kc, v1, v2, hat, hm, zbf, not_true_eq_false, and_true, forall_eq, nI_1]
          exact hw
        · rw [q4]
          congr 1
          show _ = (match opn (fun x => gm c sz X Y (T.2.1 p) (T.2.2 p) (T.2.1 (p + 1) - T.2.1 p) (T.2.2 (p + 1) - T.2.2 p) x.1 x.2) none (f i) with
            | none => st (fun x => gm c sz X Y (T.2.1 p) (T.2.2 p) (T.2.1 (p + 1) - T.2.1 p) (T.2.2 (p + 1) - T.2.2 p) x.1 x.2) none (tl f (i + 1) d)
            | some b' => if goes (fun x => gm c sz X Y (T.2.1 p) (T.2.2 p) (T.2.1 (p + 1) - T.2.1 p) (T.2.2 (p + 1) - T.2.2 p) x.1 x.2) (f i) (tl f (i + 1) d) = true then st (fun x => gm c sz X Y (T.2.1 p) (T.2.2 p) (T.2.1 (p + 1) - T.2.1 p) (T.2.2 (p + 1) - T.2.2 p) x.1 x.2) (some b') (tl f (i + 1) d) else (b', f i) :: st (fun x => gm c sz X Y (T.2.1 p) (T.2.2 p) (T.2.1 (p + 1) - T.2.1 p) (T.2.2 (p + 1) - T.2.2 p) x.1 x.2) none (tl f (i + 1) d))
          have ho : opn (fun x => gm c sz X Y (T.2.1 p) (T.2.2 p) (T.2.1 (p + 1) - T.2.1 p) (T.2.2 (p + 1) - T.2.2 p) x.1 x.2) none (f i) = none := by simp [opn, hm]
          rw [ho]
          rfl
      | true =>
        have g2 : agr S (sI (sI (sI S (Z + 19) D.length (nI i)) Z 25 (nI (D.length + 1))) (Z + 20) D.length (nI i)) (ph Z) := ((agr.rf.wI (fun h => by unfold ph at h; omega)).wI (fun h => by unfold ph at h; omega)).wI (fun h => by unfold ph at h; omega)
        have g2' : agr S (sI (sI (sI S (Z + 19) D.length (nI i)) Z 25 (nI (D.length + 1))) (Z + 20) D.length (nI i)) (pj Z) := g2.mono (fun b j h => ph_pj h)
        obtain ⟨S', D', q1, q2⟩ := op (sI (sI (sI S (Z + 19) D.length (nI i)) Z 25 (nI (D.length + 1))) (Z + 20) D.length (nI i)) i (C.fh g2 rfl) (A.fj g2' rfl) (K.fj g2' rfl) (MZ.new H) (by omega) g2 rfl (by simp [opn, hm])
        refine ⟨S', D', fun Post h => ?_, q2⟩
        obtain ⟨w, hw⟩ := q1 Post h
        refine ⟨w + 1, ?_⟩
        have z2 : zb true = 1 := rfl
        have hl : hi S Z 25 = nI D.length := H.1
        have hl1 : hi (sI S (Z + 19) D.length (nI i)) Z 25 = nI D.length := (rdI (Or.inl (by omega))).trans H.1
        have hl2 : nI (D.length + 1) - 1 = nI D.length := by rw [nI_pr (by omega)]; rfl
        have hl3 : hi (sI (sI S (Z + 19) D.length (nI i)) Z 25 (nI (D.length + 1))) Z 25 = nI (D.length + 1) := up2_same _ _ _ _
        have r27 : hr (sI (sI S (Z + 19) D.length (nI i)) Z 25 (nI (D.length + 1))) Z 27 = some (Z + 20) := C.1.r27
        simp only [PX7_stretch_96, PX7_stretch_157, eq_true C.1.1, true_and, C.2.1.1, c1, false_implies, not_false_eq_true, true_implies, z1, z2, o10, C.1.r23, C.1.r24, C.1.r26, r27, Option.some.injEq, exists_eq_left', eq_true (C.1.x17 (show i < 128 by omega)), eq_true (C.1.x18 (show i < 128 by omega)), kc, v1, v2, hat, hm, hl, hl1, hl2, hl3, eq_true (C.1.x19 (show D.length < 128 by omega)), eq_true (C.1.x20 (show D.length < 128 by omega)), nI_clamp (show D.length < 2 ^ 31 by omega), forall_eq, is_I, ix_I, nI_1, not_true_eq_false, and_true]
        exact hw
end
