/-! the reference cuts a piece at all sides of an area -/
section
variable {S S' : hs} {Z n t nT p i c : Nat} {f : Nat → Fr} {T : Gt} {m : Bool} {sp : Int} {sz : Nat → Nat} {X Y : Nat → Nat → Int}
theorem m_side {q nR k : Nat} {X Y : Nat → Int} (C : MU S Z n f) (hI : CI n f) (hn : n + 1 < 128) (K : TrM S Z t nT T) (hp : p + 1 < nT) (R : RgM S Z q nR X Y) (hk : k < nR) : ∃ S' n' f', (∀ Post, Post S' → PX7_cutAt Z (nI (30 * t + p)) (nI (12 * q + k)) (nI (12 * q + nx nR k)) S Post) ∧ MU S' Z n' f' ∧ addM 2 n n' f f' (cv (T.2.1 p) (T.2.2 p) (T.2.1 (p + 1) - T.2.1 p) (T.2.2 (p + 1) - T.2.2 p) (X k) (Y k) (X (nx nR k)) (Y (nx nR k))) ∧ agr S S' (pk Z) ∧ hr S' = hr S := by
  have hk' := nx_lt hk
  have h30 := K.1.2.2.2
  have M := C.1
  have b1 := (R.2 k hk).2
  have b2 := (R.2 _ hk').2
  have t1 := (K.2 p (by omega)).2.2
  have t2 := (K.2 (p + 1) hp).2.2
  have d1 : cd (T.2.1 (p + 1) - T.2.1 p) := by unfold cr at *; unfold cd; omega
  have d2 : cd (T.2.2 (p + 1) - T.2.2 p) := by unfold cr at *; unfold cd; omega
  have bu := unr_b d1 d2 b1.1 b1.2 b2.1 b2.2
  have bo := ovr_b t1.1 t1.2 b1.1 b1.2 b2.1 b2.2
  have bs := so_b t1.1 t1.2 b1.1 b1.2 d1 d2
  have e1 : nI (30 * t + p) + 1 = nI (30 * t + (p + 1)) := nI_1 _
  have x0 := K.x (k := p) (by omega)
  have x1 := K.x (k := p + 1) hp
  have y0 := K.y (k := p) (by omega)
  have y1 := K.y (k := p + 1) hp
  have i1 := K.i13 (k := p) (by omega)
  have i2 := K.i13 (k := p + 1) (by omega)
  have i3 := K.i14 (k := p) (by omega)
  have i4 := K.i14 (k := p + 1) (by omega)
  have e := fun Post : hs → Prop => show PX7_cutAt Z (nI (30 * t + p)) (nI (12 * q + k)) (nI (12 * q + nx nR k)) S Post = _ by
    simp only [PX7_cutAt, PX7_cutAt_153, PX7_cutAt_176, PX7_cutAt_201, PX7_cutAt_287, eq_true M.1, true_and, M.r16, M.r17, M.r2, M.r3, Option.some.injEq, exists_eq_left', e1, eq_true i1, eq_true i2, eq_true i3, eq_true i4, eq_true (R.ix1 hk), eq_true (R.ix1 hk'), eq_true (R.ix2 hk), eq_true (R.ix2 hk'), x0, x1, y0, y1, R.x hk, R.x hk', R.y hk, R.y hk', cJ_sub, cJ_mul, cJ_add, forall_eq]
    rfl
  clear x0 x1 y0 y1 i1 i2 i3 i4 e1
  revert e bu bo bs d1 d2 t1 t2 b1 b2
  generalize T.2.1 p = px
  generalize T.2.2 p = py
  generalize T.2.1 (p + 1) = qx
  generalize T.2.2 (p + 1) = qy
  generalize X k = ax
  generalize Y k = ay
  generalize X (nx nR k) = bx
  generalize Y (nx nR k) = by_
  intro b1 b2 t1 t2 d1 d2 bu bo bs e
  generalize hdx : qx - px = dx at *
  generalize hdy : qy - py = dy at *
  have u0 : (cJ (dx * (by_ - ay) - dy * (bx - ax)) = (0 : Int64)) = (unr dx dy ax ay bx by_ = 0) := by
    rw [j0]; exact propext (cJ_eq (a := unr dx dy ax ay bx by_) ⟨by omega, by omega⟩ ⟨by omega, by omega⟩)
  have l0 : (cJ (dx * (by_ - ay) - dy * (bx - ax)) ≤ (0 : Int64)) = (unr dx dy ax ay bx by_ ≤ 0) := by
    rw [j0]; exact propext (cJ_le (a := unr dx dy ax ay bx by_) ⟨by omega, by omega⟩ ⟨by omega, by omega⟩)
  have q1 := m16 (a := ax - px) (b := dy) (by unfold cr at *; unfold cd; omega) d2
  have q2 := m16 (a := ay - py) (b := dx) (by unfold cr at *; unfold cd; omega) d1
  have q3 := m16 (a := ax - px) (b := dx) (by unfold cr at *; unfold cd; omega) d1
  have q4 := m16 (a := ay - py) (b := dy) (by unfold cr at *; unfold cd; omega) d2
  have q5 := m16 d1 d1
  have q6 := m16 d2 d2
  have q7 := mb (C := 800) (D := 400) (c := (ax - px) + (bx - ax)) (w := dx) (by unfold cr at *; constructor <;> omega) (by unfold cd at *; constructor <;> omega)
  have q8 := mb (C := 800) (D := 400) (c := (ay - py) + (by_ - ay)) (w := dy) (by unfold cr at *; constructor <;> omega) (by unfold cd at *; constructor <;> omega)
  have s0 : (cJ ((ax - px) * dy) = cJ ((ay - py) * dx)) = (so px py dx dy ax ay = 0) := by
    rw [cJ_eq ⟨by omega, by omega⟩ ⟨by omega, by omega⟩]
    apply propext
    unfold so
    omega
  have n0 : (cJ (dx * dx + dy * dy) ≤ (0 : Int64)) = (dx * dx + dy * dy ≤ 0) := by
    rw [j0, cJ_le ⟨by omega, by omega⟩ ⟨by omega, by omega⟩]
  have a1 : ((0 : Int64) < cJ ((ax - px) * dy - (ay - py) * dx)) = (0 < so px py dx dy ax ay) := by
    rw [j0]; exact propext (cJ_lt (b := so px py dx dy ax ay) ⟨by omega, by omega⟩ ⟨by omega, by omega⟩)
  have a3 : (cJ ((ax - px) * dy - (ay - py) * dx) < (0 : Int64)) = (so px py dx dy ax ay < 0) := by
    rw [j0]; exact propext (cJ_lt (a := so px py dx dy ax ay) ⟨by omega, by omega⟩ ⟨by omega, by omega⟩)
  have a2 : (cJ ((ax - px) * dy - (ay - py) * dx) < cJ (dx * (by_ - ay) - dy * (bx - ax))) = (so px py dx dy ax ay < unr dx dy ax ay bx by_) := propext (cJ_lt (a := so px py dx dy ax ay) (b := unr dx dy ax ay bx by_) ⟨by omega, by omega⟩ ⟨by omega, by omega⟩)
  have a4 : (cJ (dx * (by_ - ay) - dy * (bx - ax)) < cJ ((ax - px) * dy - (ay - py) * dx)) = (unr dx dy ax ay bx by_ < so px py dx dy ax ay) := propext (cJ_lt (a := unr dx dy ax ay bx by_) (b := so px py dx dy ax ay) ⟨by omega, by omega⟩ ⟨by omega, by omega⟩)
  simp only [u0, l0, s0, n0, a1, a2, a3, a4] at e
  have sgs : (sg1 (unr dx dy ax ay bx by_) = 1 ∧ 0 ≤ unr dx dy ax ay bx by_) ∨ (sg1 (unr dx dy ax ay bx by_) = -1 ∧ unr dx dy ax ay bx by_ < 0) := by
    unfold sg1
    by_cases c : 0 ≤ unr dx dy ax ay bx by_
    · left; exact ⟨if_pos c, c⟩
    · right; exact ⟨if_neg c, by omega⟩
  by_cases c0 : unr dx dy ax ay bx by_ = 0
  · have nocv : ∀ x, ¬ cv px py dx dy ax ay bx by_ x := by
      rintro x ⟨⟨h1, -⟩, -⟩
      rw [c0, Int.zero_mul] at h1
      omega
    by_cases c1 : so px py dx dy ax ay = 0 ∧ ¬ dx * dx + dy * dy ≤ 0
    · obtain ⟨S1, n1, f1, w1, w2, w3, w4, w5⟩ := m_cut (o := (ax - px) * dx + (ay - py) * dy) (u := dx * dx + dy * dy) C hI (by omega) ⟨by omega, by omega⟩ ⟨by omega, by omega, by omega⟩
      obtain ⟨S2, n2, f2, v1, v2, v3, v4, v5⟩ := m_cut (o := (ax - px + (bx - ax)) * dx + (ay - py + (by_ - ay)) * dy) (u := dx * dx + dy * dy) w2 w3.1 (by have := w3.2.1; omega) ⟨by omega, by omega⟩ ⟨by omega, by omega, by omega⟩
      refine ⟨S2, n2, f2, fun Post h => ?_, v2, ⟨v3.1, by have := w3.2.1; have := v3.2.1; omega, fun x hx => v3.2.2.1 x (w3.2.2.1 x hx), fun x hx => absurd hx (nocv x)⟩, w4.tr v4, v5.trans w5⟩
      rw [e]
      simp only [c0, c1.1, c1.2, true_implies, false_implies, not_false_eq_true, true_and, not_true_eq_false, and_true, forall_eq]
      exact w1 _ ⟨w2.1.1, v1 _ h⟩
    · refine ⟨S, n, f, fun Post h => ?_, C, ⟨hI, by omega, fun x hx => hx, fun x hx => absurd hx (nocv x)⟩, agr.rf, rfl⟩
      rw [e]
      by_cases c2 : so px py dx dy ax ay = 0
      · have c3 : dx * dx + dy * dy ≤ 0 := by
          refine Classical.byContradiction fun q => c1 ⟨c2, q⟩
        simp only [c0, c2, c3, true_implies, false_implies, not_false_eq_true, true_and, not_true_eq_false, and_true]
        exact h
      · simp only [c0, c2, true_implies, false_implies, not_false_eq_true, true_and, not_true_eq_false, and_true]
        exact h
  · by_cases c1 : 0 ≤ so px py dx dy ax ay * sg1 (unr dx dy ax ay bx by_) ∧ so px py dx dy ax ay * sg1 (unr dx dy ax ay bx by_) ≤ unr dx dy ax ay bx by_ * sg1 (unr dx dy ax ay bx by_)
    · obtain ⟨S1, n1, f1, w1, w2, w3, w4, w5⟩ := m_cut (o := ovr px py ax ay bx by_) (u := unr dx dy ax ay bx by_) C hI (by omega) ⟨by omega, by omega⟩ ⟨c0, by omega, by omega⟩
      refine ⟨S1, n1, f1, fun Post h => ?_, w2, ⟨w3.1, by have := w3.2.1; omega, w3.2.2.1, fun x hx => w3.2.2.2 x hx.2⟩, w4, w5⟩
      rw [e]
      have key : PX7_cut Z (cJ ((ax - px) * (by_ - ay) - (ay - py) * (bx - ax))) (cJ (dx * (by_ - ay) - dy * (bx - ax))) S (fun S_198 => Post S_198) := w1 Post h
      rcases sgs with ⟨g1, g2⟩ | ⟨g1, g2⟩
      · rw [g1] at c1
        simp only [c0, show ¬ unr dx dy ax ay bx by_ ≤ 0 by omega, show ¬ so px py dx dy ax ay < 0 by omega, show ¬ unr dx dy ax ay bx by_ < so px py dx dy ax ay by omega, false_implies, not_false_eq_true, true_implies, true_and, PX7_cutAt_177, PX7_cutAt_201, PX7_cutAt_287, o10, eq_true M.1, cJ_mul, cJ_sub]
        exact key
      · rw [g1] at c1
        simp only [c0, show unr dx dy ax ay bx by_ ≤ 0 by omega, show ¬ 0 < so px py dx dy ax ay by omega, show ¬ so px py dx dy ax ay < unr dx dy ax ay bx by_ by omega, false_implies, not_false_eq_true, true_implies, true_and, not_true_eq_false, and_true, PX7_cutAt_177, PX7_cutAt_201, PX7_cutAt_287, o10, eq_true M.1, cJ_mul, cJ_sub]
        exact key
    · refine ⟨S, n, f, fun Post h => ?_, C, ⟨hI, by omega, fun x hx => hx, fun x hx => absurd ⟨hx.1.2.1, hx.1.2.2⟩ c1⟩, agr.rf, rfl⟩
      rw [e]
      rcases sgs with ⟨g1, g2⟩ | ⟨g1, g2⟩
      · rw [g1] at c1
        simp only [c0, show ¬ unr dx dy ax ay bx by_ ≤ 0 by omega, false_implies, not_false_eq_true, true_implies, true_and, PX7_cutAt_177, PX7_cutAt_201, PX7_cutAt_287, not_true_eq_false, and_true]
        by_cases c2 : so px py dx dy ax ay < 0
        · simp only [c2, true_implies, not_true_eq_false, false_implies, and_true]; exact h
        · simp only [c2, show unr dx dy ax ay bx by_ < so px py dx dy ax ay by omega, true_implies, not_true_eq_false, false_implies, and_true, not_false_eq_true, true_and]; exact h
      · rw [g1] at c1
        simp only [c0, show unr dx dy ax ay bx by_ ≤ 0 by omega, false_implies, not_false_eq_true, true_implies, true_and, PX7_cutAt_177, PX7_cutAt_201, PX7_cutAt_287, not_true_eq_false, and_true]
        by_cases c2 : 0 < so px py dx dy ax ay
        · simp only [c2, true_implies, not_true_eq_false, false_implies, and_true]; exact h
        · simp only [c2, show so px py dx dy ax ay < unr dx dy ax ay bx by_ by omega, true_implies, not_true_eq_false, false_implies, and_true, not_false_eq_true, true_and]; exact h
/-- cells of the reference that finding stretches leaves alone -/
def pj (Z b j : Nat) : Prop := (b ≠ Z + 17 ∧ b ≠ Z + 18 ∧ b ≠ Z + 19 ∧ b ≠ Z + 20) ∧ (b = Z → j ≠ 22 ∧ j ≠ 25)
theorem pk_pj {b j : Nat} (h : pj Z b j) : pk Z b j := by unfold pj at h; unfold pk; omega
theorem Md.fj (M : Md S Z) (g : agr S S' (pj Z)) (h : hr S' = hr S) : Md S' Z := M.fr g (fun j _ _ => Or.inr (by rw [h]))
theorem ArM.fj (A : ArM S Z i c m sp sz X Y) (g : agr S S' (pj Z)) (h : hr S' = hr S) : ArM S' Z i c m sp sz X Y := by
  have hM : Md S' Z := A.M.fr g (fun j _ _ => Or.inr (by rw [h]))
  obtain ⟨⟨-, a1⟩, a2⟩ := A
  have hp : ∀ b j, Z + 1 ≤ b → b ≤ Z + 6 → pj Z b j := fun b j h1 h2 => by unfold pj; omega
  unfold ArM
  rw [(g.2 (Z + 4) i (hp _ _ (by omega) (by omega))).1, (g.2 (Z + 5) i (hp _ _ (by omega) (by omega))).1, (g.2 (Z + 6) i (hp _ _ (by omega) (by omega))).2.1]
  exact ⟨⟨hM, a1⟩, fun r hr1 => (a2 r hr1).fr g hM hp⟩
theorem TrM.fj (K : TrM S Z t nT T) (g : agr S S' (pj Z)) (h : hr S' = hr S) : TrM S' Z t nT T := K.fr2 g (K.M.fr g (fun j _ _ => Or.inr (by rw [h]))) (by unfold pj; omega) (fun b k h1 h2 _ => by unfold pj; omega)
def LM (S : hs) (Z n : Nat) (f : Nat → Fr) (sz : Nat → Nat) (X Y : Nat → Nat → Int) (px py dx dy : Int) (r k : Nat) : Prop := MU S Z n f ∧ CI n f ∧ n ≤ 2 + 2 * (12 * r + k) ∧ ∀ x, (x = (0, 1) ∨ x = (1, 1) ∨ dn sz X Y px py dx dy r k x) → ∃ j, j < n ∧ f j = x
theorem m_ring (hp : p + 1 < nT) : ∀ (d k r : Nat) (S : hs) (n : Nat) (f : Nat → Fr), r < c → k + d = sz r → ArM S Z i c m sp sz X Y → TrM S Z t nT T → LM S Z n f sz X Y (T.2.1 p) (T.2.2 p) (T.2.1 (p + 1) - T.2.1 p) (T.2.2 (p + 1) - T.2.2 p) r k → ∃ S' n' f', (∀ Post K, K Z (nI i) (nI (30 * t + p)) (nI (r + 1)) S' → ∃ q, PX7_stretch_39 Post K q Z (nI i) (nI (30 * t + p)) (nI r) (nI (4 * i + r)) (nI k) S) ∧ LM S' Z n' f' sz X Y (T.2.1 p) (T.2.2 p) (T.2.1 (p + 1) - T.2.1 p) (T.2.2 (p + 1) - T.2.2 p) r (sz r) ∧ agr S S' (pk Z) ∧ hr S' = hr S := by
  intro d
  induction d with
  | zero =>
    intro k r S n f hr1 hk A K L
    have c4 := A.c4
    have R := A.r (r := r) (by omega)
    have h12 := R.1.2.2.2
    have e : k = sz r := by omega
    subst e
    refine ⟨S, n, f, fun Post K h => ⟨1, ?_⟩, L, agr.rf, rfl⟩
    have c1 : nI (sz r) ≤ nI (sz r) := nI_le (Nat.le_refl _) (by omega)
    simp only [PX7_stretch_39, eq_true A.M.1, true_and, A.M.r4, Option.some.injEq, exists_eq_left', eq_true R.ix3, R.sz, eq_true c1, true_implies, not_true_eq_false, false_implies, and_true, forall_eq, nI_1]
    exact h
  | succ d ih =>
    intro k r S n f hr1 hk A K L
    have c4 := A.c4
    have R := A.r (r := r) (by omega)
    have h12 := R.1.2.2.2
    obtain ⟨L1, L2, L3, L4⟩ := L
    obtain ⟨S1, n1, f1, p1, p2, p3, p4, p5⟩ := m_side L1 L2 (by omega) K hp R (show k < sz r by omega)
    have g1 : agr S S1 (pj Z) := p4.mono (fun b j h => pk_pj h)
    have L' : LM S1 Z n1 f1 sz X Y (T.2.1 p) (T.2.2 p) (T.2.1 (p + 1) - T.2.1 p) (T.2.2 (p + 1) - T.2.2 p) r (k + 1) := by
      refine ⟨p2, p3.1, by have := p3.2.1; omega, fun x hx => ?_⟩
      rcases hx with q | q | q
      · exact p3.2.2.1 x (L4 x (Or.inl q))
      · exact p3.2.2.1 x (L4 x (Or.inr (Or.inl q)))
      · rcases (dn_s (show k < sz r by omega)).mp q with q | q
        · exact p3.2.2.1 x (L4 x (Or.inr (Or.inr q)))
        · exact p3.2.2.2 x q
    obtain ⟨S2, n2, f2, q1, q2, q3, q4⟩ := ih (k + 1) r S1 n1 f1 hr1 (by omega) (A.fj g1 p5) (K.fj g1 p5) L'
    refine ⟨S2, n2, f2, fun Post K h => ?_, q2, p4.tr q3, q4.trans p5⟩
    obtain ⟨w, hw⟩ := q1 Post K h
    refine ⟨w + 1, ?_⟩
    have c1 : ¬ nI (sz r) ≤ nI k := nI_ge (by omega) (by omega)
    simp only [PX7_stretch_39, eq_true A.M.1, true_and, A.M.r4, Option.some.injEq, exists_eq_left', eq_true R.ix3, R.sz, c1, false_implies, not_false_eq_true, true_implies, nI_1, sm_at0 R (show k < sz r by omega), sm_at1 R (show k < sz r by omega), forall_eq]
    exact p1 _ hw
theorem m_rings2 (hp : p + 1 < nT) : ∀ (d r : Nat) (S : hs) (n : Nat) (f : Nat → Fr), r + d = c → ArM S Z i c m sp sz X Y → TrM S Z t nT T → LM S Z n f sz X Y (T.2.1 p) (T.2.2 p) (T.2.1 (p + 1) - T.2.1 p) (T.2.2 (p + 1) - T.2.2 p) r 0 → ∃ S' n' f', (∀ Post : hs → Prop, (∃ q, PX7_stretch_96 Post q Z (nI i) (nI (30 * t + p)) 0 0 (sI S' Z 25 0)) → ∃ q, PX7_stretch_19 Post q Z (nI i) (nI (30 * t + p)) (nI r) S) ∧ LM S' Z n' f' sz X Y (T.2.1 p) (T.2.2 p) (T.2.1 (p + 1) - T.2.1 p) (T.2.2 (p + 1) - T.2.2 p) c 0 ∧ agr S S' (pk Z) ∧ hr S' = hr S := by
  intro d
  induction d with
  | zero =>
    intro r S n f hr1 A K L
    have c4 := A.c4
    have e : r = c := by omega
    subst e
    refine ⟨S, n, f, fun Post h => ⟨1, ?_⟩, L, agr.rf, rfl⟩
    have c1 : nI r ≤ nI r := nI_le (Nat.le_refl _) (by omega)
    simp only [PX7_stretch_19, eq_true A.M.1, true_and, A.M.r5, Option.some.injEq, exists_eq_left', eq_true A.x4, A.cl, eq_true c1, true_implies, not_true_eq_false, false_implies, and_true, forall_eq]
    exact h
  | succ d ih =>
    intro r S n f hr1 A K L
    have c4 := A.c4
    have R := A.r (r := r) (by omega)
    have h12 := R.1.2.2.2
    obtain ⟨S1, n1, f1, p1, p2, p3, p4⟩ := m_ring hp (sz r) 0 r S n f (by omega) (by omega) A K L
    have g1 : agr S S1 (pj Z) := p3.mono (fun b j h => pk_pj h)
    obtain ⟨S2, n2, f2, q1, q2, q3, q4⟩ := ih (r + 1) S1 n1 f1 (by omega) (A.fj g1 p4) (K.fj g1 p4) ⟨p2.1, p2.2.1, by have := p2.2.2.1; omega, fun x hx => p2.2.2.2 x (by rw [dn_r]; exact hx)⟩
    refine ⟨S2, n2, f2, fun Post h => ?_, q2, p3.tr q3, q4.trans p4⟩
    obtain ⟨w, hw⟩ := q1 Post h
    refine ⟨w + 1, ?_⟩
    have c1 : ¬ nI c ≤ nI r := nI_ge (by omega) (by omega)
    simp only [PX7_stretch_19, eq_true A.M.1, true_and, A.M.r5, Option.some.injEq, exists_eq_left', eq_true A.x4, A.cl, c1, false_implies, not_false_eq_true, true_implies, forall_eq, nI_4]
    rw [← nI_0]
    exact p1 Post _ hw
end
