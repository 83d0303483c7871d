/-! the class's stretches -/
section
variable {S : hs} {a n ar c : Nat} {f : Nat → Fr} {m : Bool} {sp : Int} {sz : Nat → Nat} {X Y : Nat → Nat → Int} {px py dx dy o u : Int}
theorem bw_p (h1 : cr px ∧ cr py) (h2 : cd dx) (h3 : cd dy) (ho : 0 ≤ o ∧ o ≤ u) (hu : u ≤ 300000000000) : bw (px * u + dx * o) (py * u + dy * o) u := by
  obtain ⟨h4, h5⟩ := h1
  unfold cr cd at *
  have e1 := mb (C := 200) (D := 300000000000) (c := px) (w := u) ⟨by omega, by omega⟩ ⟨by omega, by omega⟩
  have e2 := mb (C := 200) (D := 300000000000) (c := py) (w := u) ⟨by omega, by omega⟩ ⟨by omega, by omega⟩
  have e3 := mb (C := 400) (D := 300000000000) (c := dx) (w := o) ⟨by omega, by omega⟩ ⟨by omega, by omega⟩
  have e4 := mb (C := 400) (D := 300000000000) (c := dy) (w := o) ⟨by omega, by omega⟩ ⟨by omega, by omega⟩
  exact ⟨⟨by omega, by omega⟩, ⟨by omega, by omega⟩, by omega, by omega⟩
theorem s_isIn {Post : Int32 → hs → Prop} (Z : CZ S a) (K : CP S a px py dx dy) (A : ArC S ar c m sp sz X Y) (ho : 0 ≤ o ∧ o ≤ u) (hu : u ≤ 300000000000) : PX4_isIn a ar (cJ o) (cJ u) S Post = Post (zb (gm c sz X Y px py dx dy o u)) S := by
  obtain ⟨⟨k6, k7, k8, k9⟩, k1, k3, k4⟩ := K
  simp only [PX4_isIn, eq_true Z.1, true_and, eq_true A.o, k6, k7, k8, k9, cJ_mul, cJ_add, s_contains A (bw_p k1 k3 k4 ho hu)]
  have := zb_01 (ghas c sz X Y (px * u + dx * o) (py * u + dy * o) u)
  simp only [eq_true this, true_and]
  rfl
theorem mid_b {x y : Fr} (hx : okF x) (hy : okF y) : (0 ≤ (mid x y).1 ∧ (mid x y).1 ≤ (mid x y).2) ∧ (mid x y).2 ≤ 300000000000 := by
  obtain ⟨⟨x1, x2⟩, ⟨x3, x4⟩, -⟩ := hx
  obtain ⟨⟨y1, y2⟩, ⟨y3, y4⟩, -⟩ := hy
  unfold mid
  show (0 ≤ x.1 * y.2 + y.1 * x.2 ∧ x.1 * y.2 + y.1 * x.2 ≤ 2 * x.2 * y.2) ∧ 2 * x.2 * y.2 ≤ 300000000000
  have e1 := Int.mul_nonneg x1 (show 0 ≤ y.2 by omega)
  have e2 := Int.mul_nonneg y1 (show 0 ≤ x.2 by omega)
  have e3 := Int.mul_le_mul_of_nonneg_right x2 (show 0 ≤ y.2 by omega)
  have e4 := Int.mul_le_mul_of_nonneg_right y2 (show 0 ≤ x.2 by omega)
  have e5 : 2 * x.2 * y.2 = x.2 * y.2 + y.2 * x.2 := by grind
  have e6 := mb (C := 320000) (D := 320000) (c := x.2) (w := y.2) ⟨by omega, by omega⟩ ⟨by omega, by omega⟩
  have e7 : y.2 * x.2 = x.2 * y.2 := Int.mul_comm _ _
  omega
theorem s_midO {i : Nat} {Post : Int64 → hs → Prop} (C : CU S a n f) (h : i + 1 < n) : PX4_middleOver a (nI i) S Post = Post (cJ (mid (f i) (f (i + 1))).1) S := by
  have h50 := C.2.1.2
  obtain ⟨v1, v2⟩ := C.2.2 i (by omega)
  obtain ⟨w1, w2⟩ := C.2.2 (i + 1) h
  simp only [PX4_middleOver, eq_true C.1.1, true_and, C.1.r0, C.1.r1, Option.some.injEq, exists_eq_left', nI_1, eq_true (C.1.ix1 (show i < 50 by omega)), eq_true (C.1.ix1 (show i + 1 < 50 by omega)), eq_true (C.1.ix2 (show i < 50 by omega)), eq_true (C.1.ix2 (show i + 1 < 50 by omega)), nI_clamp (show i < 2 ^ 31 by omega), nI_clamp (show i + 1 < 2 ^ 31 by omega), v1, v2, w1, w2, cJ_mul, cJ_add]
  rfl
theorem s_midU {i : Nat} {Post : Int64 → hs → Prop} (C : CU S a n f) (h : i + 1 < n) : PX4_middleUnder a (nI i) S Post = Post (cJ (mid (f i) (f (i + 1))).2) S := by
  have h50 := C.2.1.2
  obtain ⟨v1, v2⟩ := C.2.2 i (by omega)
  obtain ⟨w1, w2⟩ := C.2.2 (i + 1) h
  simp only [PX4_middleUnder, eq_true C.1.1, true_and, C.1.r1, Option.some.injEq, exists_eq_left', nI_1, eq_true (C.1.ix2 (show i < 50 by omega)), eq_true (C.1.ix2 (show i + 1 < 50 by omega)), nI_clamp (show i < 2 ^ 31 by omega), nI_clamp (show i + 1 < 2 ^ 31 by omega), v2, w2, show (2 : Int64) = cJ 2 from rfl, cJ_mul]
  rfl
/-- the stretches found so far, by their cuts' numbers -/
def SZ (S : hs) (a : Nat) (D : List (Nat × Nat)) : Prop := hi S a 5 = nI D.length ∧ ∀ k p, D[k]? = some p → hi S (a + 3) k = nI p.1 ∧ hi S (a + 4) k = nI p.2
/-- cells that finding stretches leaves alone -/
def pf (a b j : Nat) : Prop := b < a ∨ a + 4 < b ∨ b = a + 1 ∨ b = a + 2 ∨ b = a ∧ j ≠ 5
theorem CU.fr {S' : hs} (C : CU S a n f) (g : agr S S' (pf a)) (h : hr S' = hr S) : CU S' a n f := by
  obtain ⟨c1, ⟨c2, c3⟩, c4⟩ := C
  refine ⟨c1.fr g (fun j => Or.inr (by rw [h])), ⟨by rw [(g.2 a 2 (by unfold pf; omega)).1]; exact c2, c3⟩, fun k hk => ?_⟩
  rw [(g.2 (a + 1) k (by unfold pf; omega)).2.1, (g.2 (a + 2) k (by unfold pf; omega)).2.1]
  exact c4 k hk
theorem CP.fr2 {S' : hs} (C : CP S a px py dx dy) (g : agr S S' (pf a)) : CP S' a px py dx dy := by
  obtain ⟨⟨c1, c2, c3, c4⟩, c5⟩ := C
  refine ⟨⟨?_, ?_, ?_, ?_⟩, c5⟩
  · rw [(g.2 a 6 (by unfold pf; omega)).2.1]; exact c1
  · rw [(g.2 a 7 (by unfold pf; omega)).2.1]; exact c2
  · rw [(g.2 a 8 (by unfold pf; omega)).2.1]; exact c3
  · rw [(g.2 a 9 (by unfold pf; omega)).2.1]; exact c4
/-- a stretch that ends at i -/
theorem SZ.close {D : List (Nat × Nat)} {b i : Nat} (Z : SZ S a D) (hb : hi S (a + 3) D.length = nI b) : SZ (sI (sI S (a + 4) D.length (nI i)) a 5 (nI (D.length + 1))) a (D ++ [(b, i)]) := by
  refine ⟨by rw [List.length_append]; exact up2_same _ _ _ _, fun k p hp => ?_⟩
  rw [List.getElem?_append] at hp
  have w1 : hi (sI (sI S (a + 4) D.length (nI i)) a 5 (nI (D.length + 1))) (a + 3) k = hi S (a + 3) k := by
    rw [rdI (Or.inl (by omega)), rdI (Or.inl (by omega))]
  have w2 : hi (sI (sI S (a + 4) D.length (nI i)) a 5 (nI (D.length + 1))) (a + 4) k = if k = D.length then nI i else hi S (a + 4) k := by
    show up2 (up2 (hi S) (a + 4) D.length (nI i)) a 5 (nI (D.length + 1)) (a + 4) k = _
    simp [up2]
  rw [w1, w2]
  by_cases e : k < D.length
  · rw [if_pos e] at hp
    rw [if_neg (by omega)]
    exact Z.2 k p hp
  · rw [if_neg e] at hp
    have e2 : k = D.length := by
      refine Classical.byContradiction fun q => ?_
      rw [List.getElem?_eq_none (by simp; omega)] at hp
      cases hp
    subst e2
    rw [Nat.sub_self] at hp
    have e3 : (b, i) = p := by simpa using hp
    subst e3
    rw [if_pos rfl]
    exact ⟨hb, rfl⟩
theorem SZ.begin {D : List (Nat × Nat)} {i : Nat} (Z : SZ S a D) : SZ (sI S (a + 3) D.length (nI i)) a D := by
  refine ⟨by rw [rdI (Or.inl (by omega))]; exact Z.1, fun k p hp => ?_⟩
  have hk : k < D.length := by
    refine Classical.byContradiction fun q => ?_
    rw [List.getElem?_eq_none (by omega)] at hp
    cases hp
  rw [rdI (Or.inr (by omega)), rdI (Or.inl (by omega))]
  exact Z.2 k p hp
/-- behind cut i a stretch is open: it goes on, or it ends here -/
theorem s_68 {D : List (Nat × Nat)} {i d : Nat} {Post : hs → Prop} {K : Nat → Nat → Int32 → Int32 → hs → Prop} (C : CU S a n f) (hI : CI n f) (P : CP S a px py dx dy) (A : ArC S ar c m sp sz X Y) (Z : SZ S a D) (hi0 : i + (d + 1) = n) (hD : D.length ≤ i) (h1 : goes (fun x => gm c sz X Y px py dx dy x.1 x.2) (f i) (tl f (i + 1) d) = true → K a ar 1 (nI (i + 1)) S) (h0 : goes (fun x => gm c sz X Y px py dx dy x.1 x.2) (f i) (tl f (i + 1) d) = false → K a ar 0 (nI (i + 1)) (sI (sI S (a + 4) D.length (nI i)) a 5 (nI (D.length + 1)))) : PX4_find_68 Post K a ar 1 (nI i) S := by
  have h50 := C.2.1.2
  have r5 : ∀ v, hi (sI S (a + 4) D.length v) a 5 = nI D.length := fun v => (rdI (Or.inl (by omega))).trans Z.1
  have cl : K a ar 0 (nI (i + 1)) (sI (sI S (a + 4) D.length (nI i)) a 5 (nI (D.length + 1))) → PX4_find_109 Post K a ar 1 (nI i) 0 S := by
    intro h
    simp only [PX4_find_109, PX4_find_145, o10, false_implies, not_false_eq_true, true_implies, true_and, eq_true C.1.1, C.1.r4, Option.some.injEq, exists_eq_left', Z.1, eq_true (C.1.ix4 (show D.length < 50 by omega)), nI_clamp (show D.length < 2 ^ 31 by omega), forall_eq, is_I, r5, nI_1, not_true_eq_false, and_true]
    exact h
  by_cases e : d = 0
  · subst e
    have c1 : nI n ≤ nI (i + 1) := nI_le (by omega) (by omega)
    simp only [PX4_find_68, PX4_find_108, o10, false_implies, not_false_eq_true, true_implies, true_and, eq_true C.1.1, C.2.1.1, nI_1, eq_true c1, not_true_eq_false, and_true]
    exact cl (h0 rfl)
  · have c1 : ¬ nI n ≤ nI (i + 1) := nI_ge (by omega) (by omega)
    have mb0 := mid_b (hI.1 i (by omega)) (hI.1 (i + 1) (by omega))
    have g : goes (fun x => gm c sz X Y px py dx dy x.1 x.2) (f i) (tl f (i + 1) d) = gm c sz X Y px py dx dy (mid (f i) (f (i + 1))).1 (mid (f i) (f (i + 1))).2 := by
      cases d with
      | zero => exact absurd rfl e
      | succ d => rfl
    rw [g] at h1 h0
    simp only [PX4_find_68, PX4_find_108, o10, false_implies, not_false_eq_true, true_implies, true_and, eq_true C.1.1, C.2.1.1, nI_1, c1, s_midO C (show i + 1 < n by omega), s_midU C (show i + 1 < n by omega), s_isIn C.1 P A mb0.1 mb0.2, zb_0]
    cases hg : gm c sz X Y px py dx dy (mid (f i) (f (i + 1))).1 (mid (f i) (f (i + 1))).2 with
    | false =>
      simp only [true_implies, not_true_eq_false, false_implies, and_true]
      exact cl (h0 hg)
    | true =>
      simp only [reduceCtorEq, false_implies, not_false_eq_true, true_implies, true_and, PX4_find_109, PX4_find_145, o10, forall_eq, nI_1]
      exact h1 hg
theorem s_find (har : ar + 13 < a) (hI : CI n f) : ∀ (d i : Nat) (S : hs) (D : List (Nat × Nat)) (ob : Option Nat), i + d = n → CU S a n f → CP S a px py dx dy → ArC S ar c m sp sz X Y → SZ S a D → D.length ≤ i → (∀ p, p ∈ D → p.1 < n ∧ p.2 < n) → (∀ b, ob = some b → hi S (a + 3) D.length = nI b ∧ b < n ∧ D.length < i) → ∃ S' D', (∀ Post, Post S' → ∃ w, PX4_find_18 Post w a ar (zb ob.isSome) (nI i) S) ∧ SZ S' a D' ∧ (∀ p, p ∈ D' → p.1 < n ∧ p.2 < n) ∧ D'.map (fun p => (f p.1, f p.2)) = D.map (fun p => (f p.1, f p.2)) ++ st (fun x => gm c sz X Y px py dx dy x.1 x.2) (ob.map f) (tl f i d) ∧ D'.length ≤ n ∧ agr S S' (pf a) ∧ hr S' = hr S := by
  intro d
  induction d with
  | zero =>
    intro i S D ob hi0 C P A Z hD hp hob
    have h50 := C.2.1.2
    refine ⟨S, D, fun Post h => ⟨1, ?_⟩, Z, hp, by simp [tl, st], by omega, agr.rf, rfl⟩
    have c1 : nI n ≤ nI i := nI_le (by omega) (by omega)
    simp only [PX4_find_18, eq_true C.1.1, true_and, C.2.1.1, eq_true c1, true_implies, not_true_eq_false, false_implies, and_true]
    exact h
  | succ d ih =>
    intro i S D ob hi0 C P A Z hD hp hob
    have h50 := C.2.1.2
    have c1 : ¬ nI n ≤ nI i := nI_ge (by omega) (by omega)
    have kc : (nI i).toNatClampNeg = i := nI_clamp (by omega)
    obtain ⟨v1, v2⟩ := C.2.2 i (by omega)
    have bi := okF_b (hI.1 i (by omega))
    have bo : 0 ≤ (f i).1 ∧ (f i).1 ≤ (f i).2 := (hI.1 i (by omega)).1
    -- an open stretch that begins at b, in state S1
    have op : ∀ (S1 : hs) (b : Nat), CU S1 a n f → CP S1 a px py dx dy → ArC S1 ar c m sp sz X Y → SZ S1 a D → hi S1 (a + 3) D.length = nI b → b < n → agr S S1 (pf a) → hr S1 = hr S → opn (fun x => gm c sz X Y px py dx dy x.1 x.2) (ob.map f) (f i) = some (f b) → ∃ S' D', (∀ Post, Post S' → ∃ w, PX4_find_68 Post (PX4_find_18 Post w) a ar 1 (nI i) S1) ∧ SZ S' a D' ∧ (∀ p, p ∈ D' → p.1 < n ∧ p.2 < n) ∧ D'.map (fun p => (f p.1, f p.2)) = D.map (fun p => (f p.1, f p.2)) ++ st (fun x => gm c sz X Y px py dx dy x.1 x.2) (ob.map f) (tl f i (d + 1)) ∧ D'.length ≤ n ∧ agr S S' (pf a) ∧ hr S' = hr S := by
      intro S1 b C1 P1 A1 Z1 hb hbn g1 e1 ho
      cases hg : goes (fun x => gm c sz X Y px py dx dy x.1 x.2) (f i) (tl f (i + 1) d) with
      | true =>
        obtain ⟨S', D', q1, q2, q3, q4, q5, q6, q7⟩ := ih (i + 1) S1 D (some b) (by omega) C1 P1 A1 Z1 (by omega) hp (fun b' hb' => by cases hb'; exact ⟨hb, hbn, by omega⟩)
        refine ⟨S', D', fun Post h => ?_, q2, q3, ?_, q5, g1.tr q6, q7.trans e1⟩
        · obtain ⟨w, hw⟩ := q1 Post h
          exact ⟨w, s_68 C1 hI P1 A1 Z1 hi0 hD (fun _ => hw) (fun z => by rw [hg] at z; cases z)⟩
        · rw [q4]
          congr 1
          show _ = (match opn (fun x => gm c sz X Y px py dx dy x.1 x.2) (ob.map f) (f i) with
            | none => st (fun x => gm c sz X Y px py dx dy x.1 x.2) none (tl f (i + 1) d)
            | some b' => if goes (fun x => gm c sz X Y px py dx dy x.1 x.2) (f i) (tl f (i + 1) d) = true then st (fun x => gm c sz X Y px py dx dy x.1 x.2) (some b') (tl f (i + 1) d) else (b', f i) :: st (fun x => gm c sz X Y px py dx dy x.1 x.2) none (tl f (i + 1) d))
          rw [ho, hg]
          simp
      | false =>
        have g2 : agr S1 (sI (sI S1 (a + 4) D.length (nI i)) a 5 (nI (D.length + 1))) (pf a) := (agr.rf.wI (fun h => by unfold pf at h; omega)).wI (fun h => by unfold pf at h; omega)
        obtain ⟨S', D', q1, q2, q3, q4, q5, q6, q7⟩ := ih (i + 1) (sI (sI S1 (a + 4) D.length (nI i)) a 5 (nI (D.length + 1))) (D ++ [(b, i)]) none (by omega) (C1.fr g2 rfl) (P1.fr2 g2) (A1.fr g2 (fun b j h1 h2 => by unfold pf; omega)) (Z1.close hb) (by simp; omega) (fun p hp' => by
          rcases List.mem_append.mp hp' with z | z
          · exact hp p z
          · have : p = (b, i) := by simpa using z
            subst this
            exact ⟨hbn, by show i < n; omega⟩) (fun b' hb' => by cases hb')
        refine ⟨S', D', fun Post h => ?_, q2, q3, ?_, q5, (g1.tr g2).tr q6, q7.trans e1⟩
        · obtain ⟨w, hw⟩ := q1 Post h
          exact ⟨w, s_68 C1 hI P1 A1 Z1 hi0 hD (fun z => by rw [hg] at z; cases z) (fun _ => hw)⟩
        · rw [q4, List.map_append, List.append_assoc]
          congr 1
          show _ = (match opn (fun x => gm c sz X Y px py dx dy x.1 x.2) (ob.map f) (f i) with
            | none => st (fun x => gm c sz X Y px py dx dy x.1 x.2) none (tl f (i + 1) d)
            | some b' => if goes (fun x => gm c sz X Y px py dx dy x.1 x.2) (f i) (tl f (i + 1) d) = true then st (fun x => gm c sz X Y px py dx dy x.1 x.2) (some b') (tl f (i + 1) d) else (b', f i) :: st (fun x => gm c sz X Y px py dx dy x.1 x.2) none (tl f (i + 1) d))
          rw [ho, hg]
          simp
    cases ob with
    | some b =>
      obtain ⟨hb1, hb2, hb3⟩ := hob b rfl
      obtain ⟨S', D', q1, q2⟩ := op S b C P A Z hb1 hb2 agr.rf rfl rfl
      refine ⟨S', D', fun Post h => ?_, q2⟩
      obtain ⟨w, hw⟩ := q1 Post h
      refine ⟨w + 1, ?_⟩
      have z1 : zb (some b).isSome = 1 := rfl
      simp only [PX4_find_18, eq_true C.1.1, true_and, C.2.1.1, c1, false_implies, not_false_eq_true, true_implies, z1, o10]
      exact hw
    | none =>
      have z1 : zb (none : Option Nat).isSome = 0 := rfl
      cases hm : gm c sz X Y px py dx dy (f i).1 (f i).2 with
      | false =>
        obtain ⟨S', D', q1, q2, q3, q4, q5, q6, q7⟩ := ih (i + 1) S D none (by omega) C P A Z (by omega) hp (fun b' hb' => by cases hb')
        refine ⟨S', D', fun Post h => ?_, q2, q3, ?_, q5, q6, q7⟩
        · obtain ⟨w, hw⟩ := q1 Post h
          refine ⟨w + 1, ?_⟩
          simp only [PX4_find_18, PX4_find_68, PX4_find_108, PX4_find_109, PX4_find_145, eq_true C.1.1, true_and, C.2.1.1, c1, false_implies, not_false_eq_true, true_implies, z1, C.1.r0, C.1.r1, Option.some.injEq, exists_eq_left', eq_true (C.1.ix1 (show i < 50 by omega)), eq_true (C.1.ix2 (show i < 50 by omega)), kc, v1, v2, s_isIn C.1 P A bo (show (f i).2 ≤ 300000000000 by omega), hm, zbf, not_true_eq_false, and_true, forall_eq, nI_1]
          exact hw
        · rw [q4]
          congr 1
          show _ = (match opn (fun x => gm c sz X Y px py dx dy x.1 x.2) none (f i) with
            | none => st (fun x => gm c sz X Y px py dx dy x.1 x.2) none (tl f (i + 1) d)
            | some b' => if goes (fun x => gm c sz X Y px py dx dy x.1 x.2) (f i) (tl f (i + 1) d) = true then st (fun x => gm c sz X Y px py dx dy x.1 x.2) (some b') (tl f (i + 1) d) else (b', f i) :: st (fun x => gm c sz X Y px py dx dy x.1 x.2) none (tl f (i + 1) d))
          have ho : opn (fun x => gm c sz X Y px py dx dy x.1 x.2) none (f i) = none := by simp [opn, hm]
          rw [ho]
          rfl
      | true =>
        have g2 : agr S (sI S (a + 3) D.length (nI i)) (pf a) := agr.rf.wI (fun h => by unfold pf at h; omega)
        obtain ⟨S', D', q1, q2⟩ := op (sI S (a + 3) D.length (nI i)) i (C.fr g2 rfl) (P.fr2 g2) (A.fr g2 (fun b j h1 h2 => by unfold pf; omega)) Z.begin (up2_same _ _ _ _) (by omega) g2 rfl (by simp [opn, hm])
        refine ⟨S', D', fun Post h => ?_, q2⟩
        obtain ⟨w, hw⟩ := q1 Post h
        refine ⟨w + 1, ?_⟩
        simp only [PX4_find_18, eq_true C.1.1, true_and, C.2.1.1, c1, false_implies, not_false_eq_true, true_implies, z1, C.1.r0, C.1.r1, C.1.r3, Option.some.injEq, exists_eq_left', eq_true (C.1.ix1 (show i < 50 by omega)), eq_true (C.1.ix2 (show i < 50 by omega)), kc, v1, v2, s_isIn C.1 P A bo (show (f i).2 ≤ 300000000000 by omega), hm, zbt, not_true_eq_false, and_true, Z.1, eq_true (C.1.ix3 (show D.length < 50 by omega)), nI_clamp (show D.length < 2 ^ 31 by omega), forall_eq]
        exact hw
/-- all stretches of a piece in an area -/
theorem s_findAll {tr nT p : Nat} {T : Gt} (har : ar + 13 < a) (htr : tr + 3 < a) (Z : CZ S a) (A : ArC S ar c m sp sz X Y) (K : TrC S tr nT T) (hp : p + 1 < nT) : ∃ S' n f D, (∀ Post, Post S' → PX4_find a ar tr (nI p) S Post) ∧ LC S' a n f sz X Y (T.2.1 p) (T.2.2 p) (T.2.1 (p + 1) - T.2.1 p) (T.2.2 (p + 1) - T.2.2 p) c 0 ∧ SZ S' a D ∧ (∀ p, p ∈ D → p.1 < n ∧ p.2 < n) ∧ D.map (fun p => (f p.1, f p.2)) = st (fun x => gm c sz X Y (T.2.1 p) (T.2.2 p) (T.2.1 (p + 1) - T.2.1 p) (T.2.2 (p + 1) - T.2.2 p) x.1 x.2) none (tl f 0 n) ∧ D.length ≤ n ∧ agr S S' (pz2 a) ∧ hr S' = hr S := by
  obtain ⟨S1, n, f, p1, p2, p3, p4, p5⟩ := s_piece har htr Z A K hp
  have g2 : agr S1 (sI S1 a 5 0) (pf a) := agr.rf.wI (fun h => by unfold pf at h; omega)
  have C1 := p2.1.fr g2 rfl
  obtain ⟨S2, D, q1, q2, q3, q4, q5, q6, q7⟩ := s_find (n := n) (f := f) har p2.2.1 n 0 (sI S1 a 5 0) [] none (by omega) C1 (p3.fr2 g2) ((A.fr p4 (fun b j h1 h2 => by unfold pz2; omega)).fr g2 (fun b j h1 h2 => by unfold pf; omega)) ⟨up2_same _ _ _ _, fun k p h => by cases h⟩ (by simp) (fun p hp => by cases hp) (fun b hb => by cases hb)
  refine ⟨S2, n, f, D, fun Post h => ?_, ⟨C1.fr q6 q7, p2.2⟩, q2, q3, by simpa using q4, q5, p4.tr ((g2.tr q6).mono (fun b j h => by unfold pz2 at h; unfold pf; omega)), q7.trans p5⟩
  simp only [PX4_find, eq_true Z.1, true_and]
  refine p1 _ ⟨p2.1.1.1, fun S_9 e => ?_⟩
  subst e
  exact q1 Post h
end
