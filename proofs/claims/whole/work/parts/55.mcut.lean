/-! the reference's cuts -/
def MU (S : hs) (Z n : Nat) (f : Nat → Fr) : Prop := Md S Z ∧ (hi S Z 22 = nI n ∧ n ≤ 128) ∧ ∀ k, k < n → hj S (Z + 17) k = cJ (f k).1 ∧ hj S (Z + 18) k = cJ (f k).2
/-- all cells but those of the cuts -/
def pk (Z b j : Nat) : Prop := (b ≠ Z + 17 ∧ b ≠ Z + 18) ∧ (b = Z → j ≠ 22)
section
variable {S : hs} {Z n p : Nat} {f : Nat → Fr} {o u : Int} {v : Fr}
def SM (S : hs) (Z n j : Nat) (f : Nat → Fr) : Prop := Md S Z ∧ hi S Z 22 = nI n ∧ (∀ k, k < j → hj S (Z + 17) k = cJ (f k).1 ∧ hj S (Z + 18) k = cJ (f k).2) ∧ ∀ k, j < k → k ≤ n → hj S (Z + 17) k = cJ (f (k - 1)).1 ∧ hj S (Z + 18) k = cJ (f (k - 1)).2
theorem m_push (hn : n < 128) : ∀ d S, SM S Z n (p + d) f → p + d ≤ n → ∃ S', (∀ Post, Post S' → ∃ m, PX7_cut_154 Post m Z (cJ v.1) (cJ v.2) (nI p) (nI (p + d)) S) ∧ MU S' Z (n + 1) (insF f p v) ∧ agr S S' (pk Z) ∧ hr S' = hr S := by
  intro d
  induction d with
  | zero =>
    intro S H hp
    obtain ⟨C, h1, h2, h3⟩ := H
    have c0 : nI (p + 0) ≤ nI p := nI_le (Nat.le_refl _) (by omega)
    have kp : (nI p).toNatClampNeg = p := nI_clamp (by omega)
    have r1 : hr (sJ S (Z + 17) p (cJ v.1)) Z 24 = some (Z + 18) := C.r24
    refine ⟨sI (sJ (sJ S (Z + 17) p (cJ v.1)) (Z + 18) p (cJ v.2)) Z 22 (nI (n + 1)), fun Post h => ⟨1, ?_⟩, ⟨C, ⟨up2_same _ _ _ _, by omega⟩, fun k hk => ?_⟩, ((agr.rf.wJ (fun h => by unfold pk at h; omega)).wJ (fun h => by unfold pk at h; omega)).wI (fun h => by unfold pk at h; omega), rfl⟩
    · unfold PX7_cut_154
      have hh : hi (sJ (sJ S (Z + 17) p (cJ v.1)) (Z + 18) p (cJ v.2)) Z 22 = nI n := h1
      simp only [eq_true c0, true_implies, not_true_eq_false, false_implies, and_true, eq_true C.1, true_and, C.r23, r1, Option.some.injEq, exists_eq_left', eq_true (C.x17 (show p < 128 by omega)), eq_true (C.x18 (show p < 128 by omega)), forall_eq, is_J, ix_J, kp, hh, nI_1]
      exact h
    · have w1 : hj (sI (sJ (sJ S (Z + 17) p (cJ v.1)) (Z + 18) p (cJ v.2)) Z 22 (nI (n + 1))) (Z + 17) k = if k = p then cJ v.1 else hj S (Z + 17) k := by
        show up2 (up2 (hj S) (Z + 17) p (cJ v.1)) (Z + 18) p (cJ v.2) (Z + 17) k = _
        simp [up2]
      have w2 : hj (sI (sJ (sJ S (Z + 17) p (cJ v.1)) (Z + 18) p (cJ v.2)) Z 22 (nI (n + 1))) (Z + 18) k = if k = p then cJ v.2 else hj S (Z + 18) k := by
        show up2 (up2 (hj S) (Z + 17) p (cJ v.1)) (Z + 18) p (cJ v.2) (Z + 18) k = _
        simp [up2]
      rw [w1, w2]
      unfold insF
      by_cases e : k = p
      · simp only [e, Nat.lt_irrefl, if_true, if_false, and_self]
      · by_cases e2 : k < p
        · simp only [e, e2, if_true, if_false]; exact h2 k (by omega)
        · simp only [e, e2, if_false]; exact h3 k (by omega) (by omega)
  | succ d ih =>
    intro S H hp
    obtain ⟨C, h1, h2, h3⟩ := H
    have c0 : ¬ nI (p + (d + 1)) ≤ nI p := nI_ge (by omega) (by omega)
    have k1 : nI (p + (d + 1)) - 1 = nI (p + d) := by rw [nI_pr (by omega)]; rfl
    have k3 : nI (p + (d + 1)) + (-1) = nI (p + d) := nI_dn (k := p + d)
    have kc : (nI (p + d)).toNatClampNeg = p + d := nI_clamp (by omega)
    have kc1 : (nI (p + (d + 1))).toNatClampNeg = p + (d + 1) := nI_clamp (by omega)
    have r1 : ∀ v, hr (sJ S (Z + 17) (p + (d + 1)) v) Z 24 = some (Z + 18) := fun v => C.r24
    have v1 : hj S (Z + 17) (p + d) = cJ (f (p + d)).1 := (h2 _ (by omega)).1
    have v2 : ∀ v, hj (sJ S (Z + 17) (p + (d + 1)) v) (Z + 18) (p + d) = cJ (f (p + d)).2 := fun v => (rdJ (Or.inl (by omega))).trans (h2 _ (by omega)).2
    have H' : SM (sJ (sJ S (Z + 17) (p + (d + 1)) (cJ (f (p + d)).1)) (Z + 18) (p + (d + 1)) (cJ (f (p + d)).2)) Z n (p + d) f := by
      refine ⟨C, h1, fun k hk => ?_, fun k hk1 hk2 => ?_⟩
      · rw [rdJ (Or.inl (by omega)), rdJ (Or.inr (by omega)), rdJ (Or.inr (by omega)), rdJ (Or.inl (by omega))]
        exact h2 k (by omega)
      · by_cases e : k = p + (d + 1)
        · subst e
          rw [rdJ (Or.inl (by omega))]
          exact ⟨up2_same _ _ _ _, up2_same _ _ _ _⟩
        · rw [rdJ (Or.inl (by omega)), rdJ (Or.inr (by omega)), rdJ (Or.inr (by omega)), rdJ (Or.inl (by omega))]
          exact h3 k (by omega) hk2
    obtain ⟨S', q1, q2, q3, q4⟩ := ih _ H' (by omega)
    refine ⟨S', fun Post h => ?_, q2, ((agr.rf.wJ (fun h => by unfold pk at h; omega)).wJ (fun h => by unfold pk at h; omega)).tr q3, q4⟩
    obtain ⟨m, hm⟩ := q1 Post h
    refine ⟨m + 1, ?_⟩
    simp only [PX7_cut_154, c0, false_implies, not_false_eq_true, true_implies, true_and, eq_true C.1, C.r23, r1, Option.some.injEq, exists_eq_left', k1, eq_true (C.x17 (show p + d < 128 by omega)), eq_true (C.x17 (show p + (d + 1) < 128 by omega)), eq_true (C.x18 (show p + d < 128 by omega)), eq_true (C.x18 (show p + (d + 1) < 128 by omega)), kc, kc1, v1, v2, forall_eq, is_J, ix_J, k3]
    exact hm
theorem m_seek (C : MU S Z n f) (hI : CI n f) (hv : okF v) : ∀ d, d ≤ n → (∀ k, d ≤ k → k < n → lo v (f k)) → ∃ p, isp n f v p ∧ ∀ Post, PX7_cut_112 Post Z (cJ v.1) (cJ v.2) (nI p) S → ∃ m, PX7_cut_73 Post m Z (cJ v.1) (cJ v.2) (nI d) S := by
  have h50 := C.2.1.2
  intro d
  induction d with
  | zero =>
    intro hd hk
    refine ⟨0, ⟨by omega, fun k h => by omega, hk⟩, fun Post h => ⟨1, ?_⟩⟩
    have c0 : nI 0 ≤ 0 := by decide
    simp only [PX7_cut_73, eq_true c0, true_implies, not_true_eq_false, false_implies, and_true]
    exact h
  | succ d ih =>
    intro hd hk
    have k1 : nI (d + 1) - 1 = nI d := by rw [nI_pr (by omega)]; rfl
    have c0 : ¬ nI (d + 1) ≤ 0 := by rw [nI_le0 (by omega)]; omega
    have kc : (nI d).toNatClampNeg = d := nI_clamp (by omega)
    obtain ⟨v1, v2⟩ := C.2.2 d (by omega)
    have b := okF_b (hI.1 d (by omega))
    have b' := okF_b hv
    have lt : (cJ (f d).1 * cJ v.2 ≤ cJ v.1 * cJ (f d).2) = ¬ lo v (f d) := by
      rw [cJ_mul, cJ_mul, cJ_le (mb2 b.1 ⟨by omega, by omega⟩) (mb2 b'.1 ⟨by omega, by omega⟩)]
      apply propext
      unfold lo
      omega
    by_cases e : lo v (f d)
    · obtain ⟨p, q1, q2⟩ := ih (by omega) (fun k h1 h2 => by
        by_cases z : k = d
        · subst z; exact e
        · exact hk k (by omega) h2)
      refine ⟨p, q1, fun Post h => ?_⟩
      obtain ⟨m, hm⟩ := q2 Post h
      refine ⟨m + 1, ?_⟩
      simp only [PX7_cut_73, k1, c0, false_implies, not_false_eq_true, true_implies, true_and, eq_true C.1.1, C.1.r23, C.1.r24, Option.some.injEq, exists_eq_left', eq_true (C.1.x17 (show d < 128 by omega)), eq_true (C.1.x18 (show d < 128 by omega)), kc, v1, v2, lt, e, not_true_eq_false, forall_eq, nI_dn]
      exact hm
    · refine ⟨d + 1, ⟨hd, fun k h q => ?_, hk⟩, fun Post h => ⟨1, ?_⟩⟩
      · by_cases z : k = d
        · subst z; exact e q
        · exact e (lo_tr hv.2.1.1 (hI.1 k (by omega)).2.1.1 (hI.1 d (by omega)).2.1.1 q (hI.2 k d (by omega) (by omega)))
      · simp only [PX7_cut_73, k1, c0, false_implies, not_false_eq_true, true_implies, true_and, eq_true C.1.1, C.1.r23, C.1.r24, Option.some.injEq, exists_eq_left', eq_true (C.1.x17 (show d < 128 by omega)), eq_true (C.1.x18 (show d < 128 by omega)), kc, v1, v2, lt, e, not_true_eq_false, and_true]
        exact h
/-- nothing is lost, Q is there, at most k more -/
def addM (k n n' : Nat) (f f' : Nat → Fr) (Q : Fr → Prop) : Prop := CI n' f' ∧ (n ≤ n' ∧ n' ≤ n + k) ∧ (∀ x, (∃ j, j < n ∧ f j = x) → ∃ j, j < n' ∧ f' j = x) ∧ ∀ x, Q x → ∃ j, j < n' ∧ f' j = x
theorem m_cut0 (C : MU S Z n f) (hI : CI n f) (hn : n < 128) (ho : bJ o) (hu : 0 < u ∧ u ≤ 320000) : ∃ S' n' f', (∀ Post, Post S' → PX7_cut_26 Post Z (cJ o) (cJ u) S) ∧ MU S' Z n' f' ∧ addM 1 n n' f f' (fun x => (0 ≤ o ∧ o ≤ u) ∧ x = fr o u) ∧ agr S S' (pk Z) ∧ hr S' = hr S := by
  have e0 : (cJ o < (0 : Int64)) = (o < 0) := by rw [j0, cJ_lt ho ⟨by omega, by omega⟩]
  have e1 : (cJ o ≤ cJ u) = (o ≤ u) := by rw [cJ_le ho ⟨by omega, by omega⟩]
  by_cases hsh : 0 ≤ o ∧ o ≤ u
  · have hv := fr_ok hsh hu
    obtain ⟨g0, g1, g2⟩ := fr_g (o := o) hu.1
    have gle : (Int.gcd o u : Int) ≤ 320000 := by
      have : (Int.gcd o u : Int) ≤ u := Int.le_of_dvd hu.1 (Int.gcd_dvd_right _ _)
      omega
    have q1 : ¬ cJ (Int.gcd o u) = (0 : Int64) := by rw [j0, cJ_eq ⟨by omega, by omega⟩ ⟨by omega, by omega⟩]; omega
    have d1 : cJ o / cJ (Int.gcd o u) = cJ (fr o u).1 := cJ_div ho ⟨by omega, by omega⟩ hsh.1 g0
    have d2 : cJ u / cJ (Int.gcd o u) = cJ (fr o u).2 := cJ_div ⟨by omega, by omega⟩ ⟨by omega, by omega⟩ (by omega) g0
    obtain ⟨p, hisp, hseek⟩ := m_seek C hI hv n (Nat.le_refl _) (fun k h1 h2 => by omega)
    have go : ∀ Post : hs → Prop, PX7_cut_112 Post Z (cJ (fr o u).1) (cJ (fr o u).2) (nI p) S → PX7_cut_26 Post Z (cJ o) (cJ u) S := by
      intro Post h
      simp only [PX7_cut_26, PX7_cut_43, e0, e1, show ¬ o < 0 by omega, hsh.2, false_implies, not_false_eq_true, true_implies, true_and, not_true_eq_false, and_true]
      refine m_gcd hsh hu.2 ?_
      simp only [q1, not_false_eq_true, true_and, forall_eq, d1, d2, eq_true C.1.1, C.2.1.1]
      exact hseek Post h
    have bv := okF_b hv
    have kpm : 0 < p → nI p - 1 = nI (p - 1) := fun h => nI_pr h
    have p128 : p ≤ n := hisp.1
    by_cases e : 0 < p ∧ f (p - 1) = fr o u
    · refine ⟨S, n, f, fun Post h => go Post ?_, C, ⟨hI, by omega, fun x h => h, fun x h => ⟨p - 1, by omega, by rw [e.2, h.2]⟩⟩, agr.rf, rfl⟩
      have c0 : ¬ nI p ≤ 0 := by rw [nI_le0 (by omega)]; omega
      obtain ⟨v1, v2⟩ := C.2.2 (p - 1) (by omega)
      rw [e.2] at v1 v2
      simp only [PX7_cut_112, c0, kpm e.1, false_implies, not_false_eq_true, true_implies, true_and, eq_true C.1.1, C.1.r23, C.1.r24, Option.some.injEq, exists_eq_left', eq_true (C.1.x17 (show p - 1 < 128 by omega)), eq_true (C.1.x18 (show p - 1 < 128 by omega)), nI_clamp (show p - 1 < 2 ^ 31 by omega), v1, v2, not_true_eq_false, and_true]
      exact h
    · obtain ⟨i1, i2⟩ := isp_ins hI hv hisp e
      obtain ⟨S', w1, w2, w3, w4⟩ := m_push (Z := Z) (n := n) (p := p) (f := f) (v := fr o u) hn (n - p) S ⟨C.1, C.2.1.1, fun k hk => C.2.2 k (by omega), fun k h1 h2 => by omega⟩ (by omega)
      refine ⟨S', n + 1, insF f p (fr o u), fun Post h => go Post ?_, w2, ⟨i1, by omega, fun x h => (i2 x).mpr (Or.inl h), fun x h => (i2 x).mpr (Or.inr h.2)⟩, w3, w4⟩
      have e148 : PX7_cut_148 Post Z (cJ (fr o u).1) (cJ (fr o u).2) (nI p) S := by
        have := w1 Post h
        rw [show p + (n - p) = n by omega] at this
        simp only [PX7_cut_148, eq_true C.1.1, true_and, C.2.1.1, forall_eq]
        exact this
      by_cases z : p = 0
      · subst z
        have c0 : nI 0 ≤ 0 := by decide
        simp only [PX7_cut_112, eq_true c0, true_implies, not_true_eq_false, false_implies, and_true]
        exact e148
      · have c0 : ¬ nI p ≤ 0 := by rw [nI_le0 (by omega)]; omega
        obtain ⟨v1, v2⟩ := C.2.2 (p - 1) (by omega)
        have b := okF_b (hI.1 (p - 1) (by omega))
        have eq1 : (cJ (f (p - 1)).1 = cJ (fr o u).1) = ((f (p - 1)).1 = (fr o u).1) := propext (cJ_eq ⟨by omega, by omega⟩ ⟨by omega, by omega⟩)
        have eq2 : (cJ (f (p - 1)).2 = cJ (fr o u).2) = ((f (p - 1)).2 = (fr o u).2) := propext (cJ_eq ⟨by omega, by omega⟩ ⟨by omega, by omega⟩)
        simp only [PX7_cut_112, c0, kpm (show 0 < p by omega), false_implies, not_false_eq_true, true_implies, true_and, eq_true C.1.1, C.1.r23, C.1.r24, Option.some.injEq, exists_eq_left', eq_true (C.1.x17 (show p - 1 < 128 by omega)), eq_true (C.1.x18 (show p - 1 < 128 by omega)), nI_clamp (show p - 1 < 2 ^ 31 by omega), v1, v2, eq1, eq2]
        by_cases y1 : (f (p - 1)).1 = (fr o u).1
        · by_cases y2 : (f (p - 1)).2 = (fr o u).2
          · exact absurd ⟨by omega, Prod.ext y1 y2⟩ e
          · simp only [y1, y2, false_implies, not_false_eq_true, true_implies, true_and, not_true_eq_false, and_true]
            exact e148
        · simp only [y1, false_implies, not_false_eq_true, true_implies, true_and]
          exact e148
  · refine ⟨S, n, f, fun Post h => ?_, C, ⟨hI, by omega, fun x h => h, fun x h => absurd h.1 hsh⟩, agr.rf, rfl⟩
    simp only [PX7_cut_26, PX7_cut_43, e0, e1]
    by_cases c : o < 0
    · simp only [c, true_implies, not_true_eq_false, false_implies, and_true]; exact h
    · simp only [c, show ¬ o ≤ u by omega, false_implies, not_false_eq_true, true_implies, true_and]; exact h
theorem m_cut (C : MU S Z n f) (hI : CI n f) (hn : n < 128) (ho : -320000000 ≤ o ∧ o ≤ 320000000) (hu : u ≠ 0 ∧ -320000 ≤ u ∧ u ≤ 320000) : ∃ S' n' f', (∀ Post, Post S' → PX7_cut Z (cJ o) (cJ u) S Post) ∧ MU S' Z n' f' ∧ addM 1 n n' f f' (fun x => (0 ≤ o * sg1 u ∧ o * sg1 u ≤ u * sg1 u) ∧ x = fr (o * sg1 u) (u * sg1 u)) ∧ agr S S' (pk Z) ∧ hr S' = hr S := by
  have e0 : ((0 : Int64) ≤ cJ u) = (0 ≤ u) := by rw [j0, cJ_le ⟨by omega, by omega⟩ ⟨by omega, by omega⟩]
  have e : ∀ Post, PX7_cut Z (cJ o) (cJ u) S Post = PX7_cut_26 Post Z (cJ (o * sg1 u)) (cJ (u * sg1 u)) S := by
    intro Post
    unfold sg1
    by_cases c : 0 ≤ u
    · simp only [PX7_cut, PX7_cut_12, e0, c, true_implies, not_true_eq_false, false_implies, and_true, if_true, Int.mul_one]
    · simp only [PX7_cut, PX7_cut_12, e0, c, false_implies, not_false_eq_true, true_implies, true_and, if_false, cJ_neg, Int.mul_neg, Int.mul_one]
  have hs : (sg1 u = 1 ∧ 0 ≤ u) ∨ (sg1 u = -1 ∧ u < 0) := by
    unfold sg1
    by_cases c : 0 ≤ u
    · left; exact ⟨if_pos c, c⟩
    · right; exact ⟨if_neg c, by omega⟩
  have b1 : bJ (o * sg1 u) := by rcases hs with ⟨q, -⟩ | ⟨q, -⟩ <;> rw [q] <;> exact ⟨by omega, by omega⟩
  have b2 : 0 < u * sg1 u ∧ u * sg1 u ≤ 320000 := by rcases hs with ⟨q, q'⟩ | ⟨q, q'⟩ <;> rw [q] <;> omega
  obtain ⟨S', n', f', w1, w2⟩ := m_cut0 C hI hn b1 b2
  exact ⟨S', n', f', fun Post h => by rw [e]; exact w1 Post h, w2⟩
end
