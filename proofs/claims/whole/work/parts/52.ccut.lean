/-! the greatest divisor, both sides; the class's cut -/
section
variable {S : hs} {Post : Int64 → hs → Prop}
theorem cJ_rem {l s : Nat} (hl : l ≤ 320000) (hs : 0 < s) (hs2 : s ≤ 320000) : cJ l - cJ l / cJ s * cJ s = cJ ((l % s : Nat) : Int) := by
  rw [cJ_div ⟨by omega, by omega⟩ ⟨by omega, by omega⟩ (by omega) (by omega), cJ_mul, cJ_sub]
  congr 1
  rw [Int.natCast_emod, Int.emod_def, Int.mul_comm]
theorem gd_step {l s j : Nat} (hl : l ≤ 320000) (hs : 0 < s) (hs2 : s ≤ 320000) (hj : j < 100) (h : ∃ n, PX4_greatestDivisor_9 Post n (cJ s) (cJ ((l % s : Nat) : Int)) (nI (j + 1)) S) : ∃ n, PX4_greatestDivisor_9 Post n (cJ l) (cJ s) (nI j) S := by
  obtain ⟨n, h⟩ := h
  refine ⟨n + 1, ?_⟩
  have c1 : ¬ (100 : Int32) ≤ nI j := nI_ge (b := 100) hj (by omega)
  have e0 : ¬ cJ (s : Int) = (0 : Int64) := by rw [j0, cJ_eq ⟨by omega, by omega⟩ ⟨by omega, by omega⟩]; omega
  simp only [PX4_greatestDivisor_9, c1, false_implies, not_false_eq_true, true_implies, true_and, e0, forall_eq, cJ_rem hl hs hs2, nI_1]
  exact h
theorem gd_end {l s j : Nat} (hs2 : s ≤ 320000) (hj : j ≤ 100) (hz0 : s = 0 ∨ j = 100) (h : Post (cJ l) S) : ∃ n, PX4_greatestDivisor_9 Post n (cJ l) (cJ s) (nI j) S := by
  refine ⟨1, ?_⟩
  have e0 : (cJ (s : Int) = (0 : Int64)) = (s = 0) := by rw [j0, cJ_eq ⟨by omega, by omega⟩ ⟨by omega, by omega⟩]; apply propext; omega
  have c1 : ((100 : Int32) ≤ nI j) = (100 ≤ j) := nI_lek (x := 100) (by omega) (by omega)
  simp only [PX4_greatestDivisor_9, PX4_greatestDivisor_44, c1, e0]
  rcases hz0 with q | q
  · simp [q, h]
  · simp [q, h]
theorem gd_all : ∀ (k s l j : Nat), s < 2 ^ k → s ≤ 320000 → l ≤ 320000 → j + 2 * k ≤ 100 → Post (cJ ((Nat.gcd s l : Nat) : Int)) S → ∃ n, PX4_greatestDivisor_9 Post n (cJ l) (cJ s) (nI j) S
  | 0, s, l, j, h1, h2, h3, h4, h => by
    have : s = 0 := by simpa using h1
    subst this
    rw [Nat.gcd_zero_left] at h
    exact gd_end h2 (by omega) (Or.inl rfl) h
  | k + 1, s, l, j, h1, h2, h3, h4, h => by
    by_cases z : s = 0
    · subst z
      rw [Nat.gcd_zero_left] at h
      exact gd_end h2 (by omega) (Or.inl rfl) h
    · refine gd_step h3 (by omega) h2 (by omega) ?_
      have r1 : l % s < s := Nat.mod_lt _ (by omega)
      rw [Nat.gcd_rec] at h
      by_cases z1 : l % s = 0
      · rw [z1] at h ⊢
        rw [Nat.gcd_zero_left] at h
        exact gd_end (by omega) (by omega) (Or.inl rfl) h
      · refine gd_step h2 (by omega) (by omega) (by omega) ?_
        rw [Nat.gcd_rec] at h
        refine gd_all k (s % (l % s)) (l % s) (j + 1 + 1) ?_ ?_ (by omega) (by omega) h
        · have r2 : s % (l % s) < l % s := Nat.mod_lt _ (by omega)
          have r3 : l % s + s % (l % s) ≤ s := by
            have := Nat.div_add_mod s (l % s)
            have d : 1 ≤ s / (l % s) := (Nat.one_le_div_iff (by omega)).mpr (by omega)
            have := Nat.mul_le_mul_left (l % s) d
            omega
          have e : 2 ^ (k + 1) = 2 * 2 ^ k := by rw [Nat.pow_succ, Nat.mul_comm]
          omega
        · have r2 : s % (l % s) < l % s := Nat.mod_lt _ (by omega)
          omega
theorem s_gcd {o u : Int} (ho : 0 ≤ o ∧ o ≤ u) (hu : u ≤ 320000) (h : Post (cJ (Int.gcd o u)) S) : PX4_greatestDivisor (cJ o) (cJ u) S Post := by
  have e1 : o = (o.natAbs : Int) := by omega
  have e2 : u = (u.natAbs : Int) := by omega
  unfold PX4_greatestDivisor
  rw [e1, e2]
  refine gd_all 19 o.natAbs u.natAbs 0 (by have : (2 : Nat) ^ 19 = 524288 := by decide
                                           omega) (by omega) (by omega) (by omega) ?_
  exact h
theorem dv_all : ∀ (b s l : Nat), s ≤ b → s ≤ 320000 → l ≤ 320000 → Post (cJ ((Nat.gcd s l : Nat) : Int)) S → ∃ n, PX7_divisor_6 Post n (cJ l) (cJ s) S := by
  intro b
  induction b with
  | zero =>
    intro s l hb hs hl h
    have z : s = 0 := by omega
    subst z
    rw [Nat.gcd_zero_left] at h
    refine ⟨1, ?_⟩
    have e0 : (cJ ((0 : Nat) : Int) = (0 : Int64)) = True := eq_true rfl
    simp only [PX7_divisor_6, e0, true_implies, not_true_eq_false, false_implies, and_true]
    exact h
  | succ b ih =>
    intro s l hb hs hl h
    have e0 : (cJ (s : Int) = (0 : Int64)) = (s = 0) := by rw [j0, cJ_eq ⟨by omega, by omega⟩ ⟨by omega, by omega⟩]; apply propext; omega
    by_cases z : s = 0
    · subst z
      rw [Nat.gcd_zero_left] at h
      refine ⟨1, ?_⟩
      simp only [PX7_divisor_6, e0, true_implies, not_true_eq_false, false_implies, and_true]
      exact h
    · have r1 : l % s < s := Nat.mod_lt _ (by omega)
      rw [Nat.gcd_rec] at h
      obtain ⟨n, h⟩ := ih (l % s) s (by omega) (by omega) hs h
      refine ⟨n + 1, ?_⟩
      simp only [PX7_divisor_6, e0, z, not_false_eq_true, true_implies, false_implies, true_and, forall_eq, cJ_rem hl (show 0 < s by omega) hs]
      exact h
theorem m_gcd {o u : Int} (ho : 0 ≤ o ∧ o ≤ u) (hu : u ≤ 320000) (h : Post (cJ (Int.gcd o u)) S) : PX7_divisor (cJ o) (cJ u) S Post := by
  have e1 : o = (o.natAbs : Int) := by omega
  have e2 : u = (u.natAbs : Int) := by omega
  unfold PX7_divisor
  rw [e1, e2]
  refine dv_all u.natAbs u.natAbs o.natAbs (Nat.le_refl _) (by omega) (by omega) ?_
  have e : Nat.gcd u.natAbs o.natAbs = Int.gcd o u := by rw [Nat.gcd_comm]; rfl
  rw [e]
  exact h
end
/-- what the cutting object's cuts are -/
def CU (S : hs) (a n : Nat) (f : Nat → Fr) : Prop := CZ S a ∧ (hi S a 2 = nI n ∧ n ≤ 50) ∧ ∀ k, k < n → hj S (a + 1) k = cJ (f k).1 ∧ hj S (a + 2) k = cJ (f k).2
/-- all cells but those of the cuts and the stretches -/
def pz (a b j : Nat) : Prop := b < a ∨ a + 4 < b ∨ b = a ∧ j ≠ 2 ∧ j ≠ 5
theorem okF_b {a : Fr} (h : okF a) : (0 ≤ a.1 ∧ a.1 ≤ 320000) ∧ 1 ≤ a.2 ∧ a.2 ≤ 320000 := by
  obtain ⟨⟨a1, a2⟩, ⟨a3, a4⟩, -⟩ := h
  omega
theorem mb2 {a b : Int} (ha : 0 ≤ a ∧ a ≤ 320000) (hb : 0 ≤ b ∧ b ≤ 320000) : bJ (a * b) := by
  have := mb (C := 320000) (D := 320000) (c := a) (w := b) ⟨by omega, by omega⟩ ⟨by omega, by omega⟩
  exact ⟨by omega, by omega⟩
section
variable {S : hs} {a n p : Nat} {f : Nat → Fr} {o u : Int}
theorem CZ.ix1 (C : CZ S a) {k : Nat} (h : k < 50) : ix S 9 (a + 1) (nI k) := ix_n C.2.2.1.1 C.2.2.2.1 h (by decide)
theorem CZ.ix2 (C : CZ S a) {k : Nat} (h : k < 50) : ix S 9 (a + 2) (nI k) := ix_n C.2.2.1.2.1 C.2.2.2.2.1 h (by decide)
theorem CZ.ix3 (C : CZ S a) {k : Nat} (h : k < 50) : ix S 8 (a + 3) (nI k) := ix_n C.2.2.1.2.2.1 C.2.2.2.2.2.1 h (by decide)
theorem CZ.ix4 (C : CZ S a) {k : Nat} (h : k < 50) : ix S 8 (a + 4) (nI k) := ix_n C.2.2.1.2.2.2 C.2.2.2.2.2.2 h (by decide)
theorem CZ.r0 (C : CZ S a) : hr S a 0 = some (a + 1) := C.2.1.1
theorem CZ.r1 (C : CZ S a) : hr S a 1 = some (a + 2) := C.2.1.2.1
theorem CZ.r3 (C : CZ S a) : hr S a 3 = some (a + 3) := C.2.1.2.2.1
theorem CZ.r4 (C : CZ S a) : hr S a 4 = some (a + 4) := C.2.1.2.2.2
/-- while cuts are pushed on: j is free -/
def SI (S : hs) (a n j : Nat) (f : Nat → Fr) : Prop := CZ S a ∧ hi S a 2 = nI n ∧ (∀ k, k < j → hj S (a + 1) k = cJ (f k).1 ∧ hj S (a + 2) k = cJ (f k).2) ∧ ∀ k, j < k → k ≤ n → hj S (a + 1) k = cJ (f (k - 1)).1 ∧ hj S (a + 2) k = cJ (f (k - 1)).2
theorem nI_dn {k : Nat} : nI (k + 1) + (-1) = nI k := by
  rw [nI_c, nI_c, show (-1 : Int32) = cI (-1) from rfl, cI_add]
  congr 1
  omega
theorem s_push (hn : n < 50) (ho : 0 ≤ o ∧ o ≤ u) (hu : 0 < u ∧ u ≤ 320000) : ∀ d S, SI S a n (p + d) f → p + d ≤ n → ∃ S', (∀ Post, Post S' → ∃ m, PX4_addCut_107 Post m a (cJ o) (cJ u) (nI p) (nI (p + d)) S) ∧ CU S' a (n + 1) (insF f p (fr o u)) ∧ agr S S' (pz a) ∧ hr S' = hr S := by
  intro d
  induction d with
  | zero =>
    intro S H hp
    obtain ⟨C, h1, h2, h3⟩ := H
    obtain ⟨g0, g1, g2⟩ := fr_g (o := o) hu.1
    have gle : (Int.gcd o u : Int) ≤ 320000 := by
      have : (Int.gcd o u : Int) ≤ u := Int.le_of_dvd hu.1 (Int.gcd_dvd_right _ _)
      omega
    have q0 : ¬ cJ (Int.gcd o u) ≤ (0 : Int64) := by rw [j0, cJ_le ⟨by omega, by omega⟩ ⟨by omega, by omega⟩]; omega
    have q1 : ¬ cJ (Int.gcd o u) = (0 : Int64) := by rw [j0, cJ_eq ⟨by omega, by omega⟩ ⟨by omega, by omega⟩]; omega
    have d1 : cJ o / cJ (Int.gcd o u) = cJ (fr o u).1 := cJ_div ⟨by omega, by omega⟩ ⟨by omega, by omega⟩ ho.1 g0
    have d2 : cJ u / cJ (Int.gcd o u) = cJ (fr o u).2 := cJ_div ⟨by omega, by omega⟩ ⟨by omega, by omega⟩ (by omega) g0
    have c0 : nI (p + 0) ≤ nI p := nI_le (Nat.le_refl _) (by omega)
    have kp : (nI p).toNatClampNeg = p := nI_clamp (by omega)
    have r1 : hr (sJ S (a + 1) p (cJ (fr o u).1)) a 1 = some (a + 2) := C.r1
    refine ⟨sI (sJ (sJ S (a + 1) p (cJ (fr o u).1)) (a + 2) p (cJ (fr o u).2)) a 2 (nI (n + 1)), fun Post h => ⟨1, ?_⟩, ⟨C, ⟨up2_same _ _ _ _, by omega⟩, fun k hk => ?_⟩, ((agr.rf.wJ (fun h => by unfold pz at h; omega)).wJ (fun h => by unfold pz at h; omega)).wI (fun h => by unfold pz at h; omega), rfl⟩
    · unfold PX4_addCut_107
      simp only [eq_true c0, true_implies, not_true_eq_false, false_implies, and_true]
      refine s_gcd ho hu.2 ?_
      simp only [PX4_addCut_180, PX4_addCut_202, eq_true C.1, true_and, C.r0, r1, Option.some.injEq, exists_eq_left', q0, q1, false_implies, not_false_eq_true, true_implies, d1, d2, eq_true (C.ix1 (show p < 50 by omega)), eq_true (C.ix2 (show p < 50 by omega)), forall_eq, is_J, ix_J, kp]
      have hh : hi (sJ (sJ S (a + 1) p (cJ (fr o u).1)) (a + 2) p (cJ (fr o u).2)) a 2 = nI n := h1
      rw [hh, nI_1]
      exact h
    · have w1 : hj (sI (sJ (sJ S (a + 1) p (cJ (fr o u).1)) (a + 2) p (cJ (fr o u).2)) a 2 (nI (n + 1))) (a + 1) k = if k = p then cJ (fr o u).1 else hj S (a + 1) k := by
        show up2 (up2 (hj S) (a + 1) p (cJ (fr o u).1)) (a + 2) p (cJ (fr o u).2) (a + 1) k = _
        simp [up2]
      have w2 : hj (sI (sJ (sJ S (a + 1) p (cJ (fr o u).1)) (a + 2) p (cJ (fr o u).2)) a 2 (nI (n + 1))) (a + 2) k = if k = p then cJ (fr o u).2 else hj S (a + 2) k := by
        show up2 (up2 (hj S) (a + 1) p (cJ (fr o u).1)) (a + 2) p (cJ (fr o u).2) (a + 2) k = _
        simp [up2]
      rw [w1, w2]
      unfold insF
      by_cases e : k = p
      · simp only [e, Nat.lt_irrefl, if_true, if_false, and_self]
      · by_cases e2 : k < p
        · simp only [e, e2, if_true, if_false]; exact h2 k (by omega)
        · simp only [e, e2, if_false]; exact h3 k (by omega) (by omega)
  | succ d ih =>
    intro S H hp
    obtain ⟨C, h1, h2, h3⟩ := H
    have c0 : ¬ nI (p + (d + 1)) ≤ nI p := nI_ge (by omega) (by omega)
    have k1 : nI (p + (d + 1)) - 1 = nI (p + d) := by rw [nI_pr (by omega)]; rfl
    have k3 : nI (p + (d + 1)) + (-1) = nI (p + d) := nI_dn (k := p + d)
    have kc : (nI (p + d)).toNatClampNeg = p + d := nI_clamp (by omega)
    have kc1 : (nI (p + (d + 1))).toNatClampNeg = p + (d + 1) := nI_clamp (by omega)
    have r1 : ∀ v, hr (sJ S (a + 1) (p + (d + 1)) v) a 1 = some (a + 2) := fun v => C.r1
    have v1 : hj S (a + 1) (p + d) = cJ (f (p + d)).1 := (h2 _ (by omega)).1
    have v2 : ∀ v, hj (sJ S (a + 1) (p + (d + 1)) v) (a + 2) (p + d) = cJ (f (p + d)).2 := fun v => (rdJ (Or.inl (by omega))).trans (h2 _ (by omega)).2
    have H' : SI (sJ (sJ S (a + 1) (p + (d + 1)) (cJ (f (p + d)).1)) (a + 2) (p + (d + 1)) (cJ (f (p + d)).2)) a n (p + d) f := by
      refine ⟨C, h1, fun k hk => ?_, fun k hk1 hk2 => ?_⟩
      · rw [rdJ (Or.inl (by omega)), rdJ (Or.inr (by omega)), rdJ (Or.inr (by omega)), rdJ (Or.inl (by omega))]
        exact h2 k (by omega)
      · by_cases e : k = p + (d + 1)
        · subst e
          rw [rdJ (Or.inl (by omega))]
          exact ⟨up2_same _ _ _ _, up2_same _ _ _ _⟩
        · rw [rdJ (Or.inl (by omega)), rdJ (Or.inr (by omega)), rdJ (Or.inr (by omega)), rdJ (Or.inl (by omega))]
          exact h3 k (by omega) hk2
    obtain ⟨S', q1, q2, q3, q4⟩ := ih _ H' (by omega)
    refine ⟨S', fun Post h => ?_, q2, ((agr.rf.wJ (fun h => by unfold pz at h; omega)).wJ (fun h => by unfold pz at h; omega)).tr q3, q4⟩
    obtain ⟨m, hm⟩ := q1 Post h
    refine ⟨m + 1, ?_⟩
    simp only [PX4_addCut_107, c0, false_implies, not_false_eq_true, true_implies, true_and, eq_true C.1, C.r0, r1, Option.some.injEq, exists_eq_left', k1, eq_true (C.ix1 (show p + d < 50 by omega)), eq_true (C.ix1 (show p + (d + 1) < 50 by omega)), eq_true (C.ix2 (show p + d < 50 by omega)), eq_true (C.ix2 (show p + (d + 1) < 50 by omega)), kc, kc1, v1, v2, forall_eq, is_J, ix_J, k3]
    exact hm
/-- those before p are below v, those from it on are not -/
def isq (n : Nat) (f : Nat → Fr) (v : Fr) (p : Nat) : Prop := p ≤ n ∧ (∀ k, k < p → lo (f k) v) ∧ ∀ k, p ≤ k → k < n → ¬ lo (f k) v
theorem s_seek (C : CU S a n f) (hI : CI n f) (ho : 0 ≤ o ∧ o ≤ u) (hu : 0 < u ∧ u ≤ 320000) : ∀ d, d ≤ n → (∀ k, d ≤ k → k < n → ¬ lo (f k) (fr o u)) → ∃ p, isq n f (fr o u) p ∧ ∀ Post, PX4_addCut_69 Post a (cJ o) (cJ u) (nI p) S → ∃ m, PX4_addCut_32 Post m a (cJ o) (cJ u) (nI d) (nI d - 1) S := by
  have h50 := C.2.1.2
  intro d
  induction d with
  | zero =>
    intro hd hk
    refine ⟨0, ⟨by omega, fun k h => by omega, hk⟩, fun Post h => ⟨1, ?_⟩⟩
    have c0 : nI 0 - 1 < 0 := by decide
    simp only [PX4_addCut_32, eq_true c0, true_implies, not_true_eq_false, false_implies, and_true]
    exact h
  | succ d ih =>
    intro hd hk
    have k1 : nI (d + 1) - 1 = nI d := by rw [nI_pr (by omega)]; rfl
    have c0 : ¬ nI d < 0 := nI_pos (by omega)
    have kc : (nI d).toNatClampNeg = d := nI_clamp (by omega)
    obtain ⟨v1, v2⟩ := C.2.2 d (by omega)
    have b := okF_b (hI.1 d (by omega))
    have lt : (cJ (f d).1 * cJ u < cJ o * cJ (f d).2) = lo (f d) (fr o u) := by
      rw [cJ_mul, cJ_mul, cJ_lt (mb2 b.1 ⟨by omega, by omega⟩) (mb2 ⟨by omega, by omega⟩ ⟨by omega, by omega⟩)]
      exact propext (fr_lo hu.1).1.symm
    by_cases e : lo (f d) (fr o u)
    · refine ⟨d + 1, ⟨hd, fun k h => ?_, hk⟩, fun Post h => ⟨1, ?_⟩⟩
      · by_cases z : k = d
        · subst z; exact e
        · exact lo_tr (hI.1 k (by omega)).2.1.1 (hI.1 d (by omega)).2.1.1 (fr_ok ho hu).2.1.1 (hI.2 k d (by omega) (by omega)) e
      · simp only [PX4_addCut_32, k1, c0, false_implies, not_false_eq_true, true_implies, true_and, eq_true C.1.1, C.1.r0, C.1.r1, Option.some.injEq, exists_eq_left', eq_true (C.1.ix1 (show d < 50 by omega)), eq_true (C.1.ix2 (show d < 50 by omega)), kc, v1, v2, lt, e, not_true_eq_false, and_true]
        exact h
    · obtain ⟨p, q1, q2⟩ := ih (by omega) (fun k h1 h2 => by
        by_cases z : k = d
        · subst z; exact e
        · exact hk k (by omega) h2)
      refine ⟨p, q1, fun Post h => ?_⟩
      obtain ⟨m, hm⟩ := q2 Post h
      refine ⟨m + 1, ?_⟩
      have k2 : nI d + (-1) = nI d - 1 := by rw [Int32.sub_eq_add_neg]
      simp only [PX4_addCut_32, k1, c0, false_implies, not_false_eq_true, true_implies, true_and, eq_true C.1.1, C.1.r0, C.1.r1, Option.some.injEq, exists_eq_left', eq_true (C.1.ix1 (show d < 50 by omega)), eq_true (C.1.ix2 (show d < 50 by omega)), kc, v1, v2, lt, e, forall_eq, k2]
      exact hm
theorem s_share {Post : Int32 → hs → Prop} {o u : Int} (ho : bJ o) (hu : bJ u) : PX4_isShare (cJ o) (cJ u) S Post = Post (zb (decide (0 < u) && (decide (0 ≤ o) && decide (o ≤ u)))) S := by
  have e1 : (cJ u ≤ (0 : Int64)) = (u ≤ 0) := by rw [j0, cJ_le hu ⟨by omega, by omega⟩]
  have e2 : (cJ o < (0 : Int64)) = (o < 0) := by rw [j0, cJ_lt ho ⟨by omega, by omega⟩]
  simp only [PX4_isShare, PX4_isShare_22, PX4_isShare_23, e1, e2, cJ_lt hu ho]
  by_cases c1 : u ≤ 0
  · simp [c1, show ¬ 0 < u by omega, zb]
  · by_cases c2 : o < 0
    · simp [c1, c2, show ¬ 0 ≤ o by omega, zb]
    · by_cases c3 : u < o
      · simp [c1, c2, c3, show ¬ o ≤ u by omega, zb]
      · simp [c1, c2, c3, show 0 < u by omega, show 0 ≤ o by omega, show o ≤ u by omega, zb]
/-- a cut is added, sorted, once -/
def addR (n n' : Nat) (f f' : Nat → Fr) (Q : Fr → Prop) : Prop := CI n' f' ∧ (n ≤ n' ∧ n' ≤ n + 1) ∧ ∀ x, (∃ k, k < n' ∧ f' k = x) ↔ ((∃ k, k < n ∧ f k = x) ∨ Q x)
theorem s_addCut (C : CU S a n f) (hI : CI n f) (hn : n < 50) (ho : bJ o) (hu : -320000 ≤ u ∧ u ≤ 320000) : ∃ S' n' f', (∀ Post, Post S' → PX4_addCut a (cJ o) (cJ u) S Post) ∧ CU S' a n' f' ∧ addR n n' f f' (fun x => (0 ≤ o ∧ o ≤ u) ∧ 0 < u ∧ x = fr o u) ∧ agr S S' (pz a) ∧ hr S' = hr S := by
  by_cases hs : (0 ≤ o ∧ o ≤ u) ∧ 0 < u
  · obtain ⟨ho', hu0⟩ := hs
    have hu' : 0 < u ∧ u ≤ 320000 := ⟨hu0, hu.2⟩
    have sh : (decide (0 < u) && (decide (0 ≤ o) && decide (o ≤ u))) = true := by simp [hu0, ho']
    have c50 : (nI n < (50 : Int32)) = True := eq_true (nI_lt (b := 50) hn (by omega))
    obtain ⟨p, ⟨hp1, hp2, hp3⟩, hseek⟩ := s_seek C hI ho' hu' n (Nat.le_refl _) (fun k h1 h2 => by omega)
    have hv := fr_ok ho' hu'
    by_cases e : p < n ∧ f p = fr o u
    · refine ⟨S, n, f, fun Post h => ?_, C, ⟨hI, by omega, fun x => ⟨Or.inl, ?_⟩⟩, agr.rf, rfl⟩
      · simp only [PX4_addCut, s_share ho (⟨by omega, by omega⟩ : bJ u), sh, zbt, false_implies, not_false_eq_true, true_implies, true_and, eq_true C.1.1, C.2.1.1, c50, forall_eq, not_true_eq_false, and_true]
        refine hseek Post ?_
        obtain ⟨v1, v2⟩ := C.2.2 p e.1
        have b := okF_b hv
        have nl : ¬ nI n ≤ nI p := nI_ge e.1 (by omega)
        have kc : (nI p).toNatClampNeg = p := nI_clamp (by omega)
        obtain ⟨g0, g1, g2⟩ := fr_g (o := o) hu0
        have eq : (cJ o * cJ (f p).2 = cJ (f p).1 * cJ u) = True := by
          apply eq_true
          rw [cJ_mul, cJ_mul, e.2]
          congr 1
          have := (fr_lo (o := o) (u := u) (x := fr o u) hu0)
          unfold lo at this
          omega
        simp only [PX4_addCut_69, eq_true C.1.1, true_and, C.2.1.1, nl, false_implies, not_false_eq_true, true_implies, C.1.r0, C.1.r1, Option.some.injEq, exists_eq_left', eq_true (C.1.ix1 (show p < 50 by omega)), eq_true (C.1.ix2 (show p < 50 by omega)), kc, v1, v2, eq, not_true_eq_false, and_true]
        exact h
      · rintro (h | ⟨-, -, rfl⟩)
        · exact h
        · exact ⟨p, e⟩
    · have neq : ∀ k, k < n → f k ≠ fr o u := by
        intro k hk q
        have irr : ∀ x : Fr, ¬ lo x x := fun x q => by unfold lo at q; omega
        by_cases z : k < p
        · have := hp2 k z
          rw [q] at this
          exact irr _ this
        · by_cases z2 : k = p
          · subst z2; exact e ⟨hk, q⟩
          · have := hI.2 p k (by omega) hk
            rw [q] at this
            exact hp3 p (Nat.le_refl _) (by omega) this
      have hisp : isp n f (fr o u) p := by
        refine ⟨hp1, fun k hk q => ?_, fun k h1 h2 => ?_⟩
        · have := hp2 k hk
          unfold lo at this q
          omega
        · refine Classical.byContradiction fun q => neq k h2 (okF_eq (hI.1 k h2) hv ?_)
          have := hp3 k h1 h2
          unfold lo at this q
          omega
      obtain ⟨i1, i2⟩ := isp_ins hI hv hisp (fun q => neq (p - 1) (by omega) q.2)
      have H0 : SI S a n (p + (n - p)) f := ⟨C.1, C.2.1.1, fun k hk => C.2.2 k (by omega), fun k h1 h2 => by omega⟩
      obtain ⟨S', q1, q2, q3, q4⟩ := s_push (a := a) (n := n) (p := p) (f := f) hn ho' hu' (n - p) S H0 (by omega)
      refine ⟨S', n + 1, insF f p (fr o u), fun Post h => ?_, q2, ⟨i1, by omega, fun x => ?_⟩, q3, q4⟩
      · simp only [PX4_addCut, s_share ho (⟨by omega, by omega⟩ : bJ u), sh, zbt, false_implies, not_false_eq_true, true_implies, true_and, eq_true C.1.1, C.2.1.1, c50, forall_eq, not_true_eq_false, and_true]
        refine hseek Post ?_
        have e101 : PX4_addCut_101 Post a (cJ o) (cJ u) (nI p) S := by
          have := q1 Post h
          rw [show p + (n - p) = n by omega] at this
          simp only [PX4_addCut_101, eq_true C.1.1, true_and, C.2.1.1, forall_eq]
          exact this
        by_cases z : p < n
        · obtain ⟨v1, v2⟩ := C.2.2 p z
          have b := okF_b (hI.1 p z)
          have nl : ¬ nI n ≤ nI p := nI_ge z (by omega)
          have kc : (nI p).toNatClampNeg = p := nI_clamp (by omega)
          have eq : ¬ cJ o * cJ (f p).2 = cJ (f p).1 * cJ u := by
            rw [cJ_mul, cJ_mul, cJ_eq (mb2 ⟨by omega, by omega⟩ ⟨by omega, by omega⟩) (mb2 b.1 ⟨by omega, by omega⟩)]
            have w := (fr_lo (o := o) (u := u) (x := f p) hu0)
            have := w.2.mp (hisp.2.2 p (Nat.le_refl _) z)
            omega
          simp only [PX4_addCut_69, eq_true C.1.1, true_and, C.2.1.1, nl, false_implies, not_false_eq_true, true_implies, C.1.r0, C.1.r1, Option.some.injEq, exists_eq_left', eq_true (C.1.ix1 (show p < 50 by omega)), eq_true (C.1.ix2 (show p < 50 by omega)), kc, v1, v2, eq]
          exact e101
        · have nl : nI n ≤ nI p := nI_le (by omega) (by omega)
          simp only [PX4_addCut_69, eq_true C.1.1, true_and, C.2.1.1, eq_true nl, true_implies, not_true_eq_false, false_implies, and_true]
          exact e101
      · rw [i2]
        constructor
        · rintro (q | q)
          · exact Or.inl q
          · exact Or.inr ⟨ho', hu0, q⟩
        · rintro (q | ⟨-, -, q⟩)
          · exact Or.inl q
          · exact Or.inr q
  · have sh : (decide (0 < u) && (decide (0 ≤ o) && decide (o ≤ u))) = false := by
      rw [Bool.eq_false_iff]
      intro q
      simp at q
      exact hs ⟨q.2, q.1⟩
    refine ⟨S, n, f, fun Post h => ?_, C, ⟨hI, by omega, fun x => ⟨Or.inl, ?_⟩⟩, agr.rf, rfl⟩
    · simp only [PX4_addCut, PX4_addCut_17, s_share ho (⟨by omega, by omega⟩ : bJ u), sh, zbf, not_true_eq_false, false_implies, true_implies, and_true]
      exact h
    · rintro (h | ⟨h1, h2, -⟩)
      · exact h
      · exact absurd ⟨h1, h2⟩ hs
end
