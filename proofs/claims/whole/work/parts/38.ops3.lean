/-! entry, side -/
section
variable {S : hs} {n : Nat} {A : Ga} {R : Nat × Gr} {T : Gk} {X : Gx} {l : Nat}
theorem COx.ix (C : COx S l X) {k : Nat} (h : k < 300) : (ix S 8 (l + 1) (nI k) ∧ ix S 8 (l + 2) (nI k) ∧ ix S 10 (l + 3) (nI k)) ∧ ix S 9 (l + 4) (nI k) ∧ ix S 9 (l + 5) (nI k) :=
  ⟨⟨ix_n C.1.2.2.1.1 C.1.2.2.2.1 h (by decide), ix_n C.1.2.2.1.2.1 C.1.2.2.2.2.1 h (by decide), ix_n C.1.2.2.1.2.2.1 C.1.2.2.2.2.2.1 h (by decide)⟩, ix_n C.1.2.2.1.2.2.2.1 C.1.2.2.2.2.2.2.1 h (by decide), ix_n C.1.2.2.1.2.2.2.2 C.1.2.2.2.2.2.2.2 h (by decide)⟩
theorem c_has_in {k : Nat} {Post : Int32 → hs → Prop} (C : COx S l X) (h : k < X.1) : PX1_has l (nI k) S Post = Post 1 S := by
  have h3 := C.2.1.2
  have c1 : ¬ nI X.1 ≤ nI k := nI_ge h (by omega)
  have c2 : ¬ nI k < 0 := nI_pos (by omega)
  simp only [PX1_has, PX1_has_16, PX1_has_17, eq_true C.1.1, C.2.1.1, c1, c2, true_and, false_implies, not_false_eq_true, true_implies, or_true]
theorem c_has_out {v : Int32} {Post : Int32 → hs → Prop} (C : COx S l X) (h : v < 0 ∨ nI X.1 ≤ v) : PX1_has l v S Post = Post 0 S := by
  simp only [PX1_has, PX1_has_16, PX1_has_17, eq_true C.1.1, C.2.1.1, true_and, true_or]
  by_cases c : v < 0
  · simp [c]
  · have := h.resolve_left c
    simp [c, this]
theorem o10 : ¬ (1 : Int32) = 0 := by decide
theorem op_side {v : Int32} (C : CS S n A R T X) (M : MS S n A R T X) (hA : WA n A) (hT : WT T) : Jo n (PX6_side 0 v) (PX7_side (49 + 14 * n) v) S := by
  have c1 := C.1
  obtain ⟨l, l', cx⟩ := C.2.2.2.2
  have co := cx.2.1
  have c5 := cx.1.2.1
  have m1 := (M.code (v := 0)).2.2.2
  have h3 := co.2.1.2
  rcases of_cases X.1 (by omega) v with ⟨k, hk, rfl⟩ | h
  · have k300 : k < 300 := by omega
    obtain ⟨⟨-, -, e3, -, -⟩, -⟩ := co.2.2 k hk
    obtain ⟨⟨-, -, -, -, t5⟩, -⟩ := m1.2.2.2 k hk
    have q1 : ¬ nI X.1 ≤ nI k := nI_ge hk (by omega)
    have q2 : ¬ nI k < 0 := nI_pos (by omega)
    have q3 : nI k < nI X.1 := nI_lt hk (by omega)
    have e5 : (5 : Int32) * nI k + 4 = nI (5 * k + 4) := by rw [show (5 : Int32) = nI 5 from rfl, nI_mulk, show (4 : Int32) = nI 4 from rfl, nI_addk]
    refine Jo.ro C M hA hT (zb (X.2.2.2.1 k)) (fun P => ?_) (fun P => ?_)
    · simp only [PX6_side, PX6_side_29, PX1_isEntering, PX1_isEntering_21, PX1_isEntering_22, eq_true c1.o, true_and, c5, Option.some.injEq, exists_eq_left', eq_true co.1.1, c_has_in co hk, o10, false_implies, not_false_eq_true, true_implies, co.1.2.1.2.2.1, eq_true (co.ix k300).1.2.2, nI_clamp (show k < 2 ^ 31 by omega), e3, zb_0, or_true, true_or, not_true_eq_false, and_true]
      cases X.2.2.2.1 k <;> simp [zb]
    · simp only [PX7_side, PX7_side_17, PX7_side_32, eq_true M.1.1.1, eq_true m1.1.1, true_and, forall_eq, q2, q3, m1.2.1, false_implies, not_false_eq_true, true_implies, not_true_eq_false, and_true, m1.1.r19, Option.some.injEq, exists_eq_left', e5, eq_true (m1.1.x15 (show 5 * k + 4 < 1500 by omega)), nI_clamp (show 5 * k + 4 < 2 ^ 31 by omega), t5, cJ_i]
      cases X.2.2.2.1 k <;> rfl
  · refine Jo.ro C M hA hT (-1) (fun P => ?_) (fun P => ?_)
    · simp only [PX6_side, eq_true c1.o, true_and, c5, Option.some.injEq, exists_eq_left', eq_true co.1.1, c_has_out co h, not_true_eq_false, false_implies, true_implies, and_true]
    · simp only [PX7_side, PX7_side_17, PX7_side_32, eq_true M.1.1.1, eq_true m1.1.1, true_and, forall_eq, m1.2.1]
      by_cases c : v < 0
      · simp [c]
      · have h2 := h.resolve_left c
        have h3 : ¬ v < nI X.1 := by rw [Int32.lt_iff_toInt_lt]; rw [Int32.le_iff_toInt_le] at h2; omega
        simp [c, h3]
theorem m_told5 {k p : Nat} {x : Int} (M : MX S (49 + 14 * n) X) (hk : k < X.1) (hp : p ≤ 3) (h : hj S (49 + 14 * n + 15) (5 * k + p) = cJ x) : ix S 9 (49 + 14 * n + 15) ((5 : Int32) * nI k + nI p) ∧ hj S (49 + 14 * n + 15) ((5 : Int32) * nI k + nI p).toNatClampNeg = cJ x := by
  have h3 := M.2.2.1
  rw [show (5 : Int32) = nI 5 from rfl, nI_mulk, nI_addk, nI_clamp (by omega)]
  exact ⟨M.1.x15 (by omega), h⟩
theorem op_entry {v w : Int32} (C : CS S n A R T X) (M : MS S n A R T X) (hA : WA n A) (hT : WT T) : Jo n (PX6_entry 0 v w) (PX7_entry (49 + 14 * n) v w) S := by
  have c1 := C.1
  obtain ⟨l, l', cx⟩ := C.2.2.2.2
  have co := cx.2.1
  have c5 := cx.1.2.1
  have m1 := (M.code (v := 0)).2.2.2
  have h3 := co.2.1.2
  rcases of_cases X.1 (by omega) v with ⟨k, hk, rfl⟩ | h
  · have k300 : k < 300 := by omega
    obtain ⟨⟨e1, e2, e3, e4, e5⟩, bx⟩ := co.2.2 k hk
    obtain ⟨⟨t1, t2, t3, t4, t5⟩, -⟩ := m1.2.2.2 k hk
    have q2 : ¬ nI k < 0 := nI_pos (by omega)
    have q3 : nI k < nI X.1 := nI_lt hk (by omega)
    have kc : (nI k).toNatClampNeg = k := nI_clamp (by omega)
    have l1 : (cI (X.2.1 k)).toInt64 = cJ (X.2.1 k) := cI_l (br_I bx.1)
    have l2 : (cI (X.2.2.1 k)).toInt64 = cJ (X.2.2.1 k) := cI_l (br_I bx.2.1)
    have gi : ∀ P, PX7_isIn w.toInt64 0 3 (sI S (49 + 14 * n) 0 0) P = P (zb (gin w.toInt 0 3)) (sI S (49 + 14 * n) 0 0) := by
      intro P
      obtain ⟨e, b⟩ := cI_of w
      generalize w.toInt = c at e b ⊢
      subst e
      unfold bI at b
      rw [cI_l b, j0, show (3 : Int64) = cJ 3 from rfl, m_isIn ⟨by omega, by omega⟩ ⟨by omega, by omega⟩ ⟨by omega, by omega⟩]
    by_cases hw : 0 ≤ w.toInt ∧ w.toInt ≤ 3
    · have g1 : gin w.toInt 0 3 = true := by unfold gin; simp [hw]
      obtain ⟨p, hp, rfl⟩ : ∃ p : Nat, p ≤ 3 ∧ w = nI p := by
        obtain ⟨e, b⟩ := cI_of w
        refine ⟨w.toInt.toNat, by omega, ?_⟩
        rw [nI_c, show ((w.toInt.toNat : Nat) : Int) = w.toInt by omega]
        exact e
      have tp := nI_toInt (n := p) (by omega)
      have hp4 : p = 0 ∨ p = 1 ∨ p = 2 ∨ p = 3 := by omega
      rcases hp4 with rfl | rfl | rfl | rfl
      · obtain ⟨i5, v5⟩ := m_told5 (p := 0) m1 hk (by omega) t1
        refine Jo.ro C M hA hT (cJ (X.2.1 k)) (fun P => ?_) (fun P => ?_)
        · simp [PX6_entry, PX1_pieceOf, PX1_pieceOf_18, eq_true c1.o, c5, eq_true co.1.1, c_has_in co hk, o10, tp, co.1.2.1.1, eq_true (co.ix k300).1.1, kc, e1, l1]
        · simp only [PX7_entry, PX7_entry_51, PX7_entry_17, eq_true M.1.1.1, eq_true m1.1.1, true_and, forall_eq, q2, q3, m1.2.1, gi, g1, zbt, false_implies, not_false_eq_true, true_implies, not_true_eq_false, and_true, m1.1.r19, Option.some.injEq, exists_eq_left', eq_true i5, v5]
      · obtain ⟨i5, v5⟩ := m_told5 (p := 1) m1 hk (by omega) t2
        refine Jo.ro C M hA hT (cJ (X.2.2.2.2.1 k)) (fun P => ?_) (fun P => ?_)
        · simp [PX6_entry, PX1_overOf, PX1_overOf_20, eq_true c1.o, c5, eq_true co.1.1, c_has_in co hk, o10, tp, co.1.2.1.2.2.2.1, eq_true (co.ix k300).2.1, kc, e4]
        · simp only [PX7_entry, PX7_entry_51, PX7_entry_17, eq_true M.1.1.1, eq_true m1.1.1, true_and, forall_eq, q2, q3, m1.2.1, gi, g1, zbt, false_implies, not_false_eq_true, true_implies, not_true_eq_false, and_true, m1.1.r19, Option.some.injEq, exists_eq_left', eq_true i5, v5]
      · obtain ⟨i5, v5⟩ := m_told5 (p := 2) m1 hk (by omega) t3
        refine Jo.ro C M hA hT (cJ (X.2.2.2.2.2 k)) (fun P => ?_) (fun P => ?_)
        · simp [PX6_entry, PX1_underOf, PX1_underOf_20, eq_true c1.o, c5, eq_true co.1.1, c_has_in co hk, o10, tp, co.1.2.1.2.2.2.2, eq_true (co.ix k300).2.2, kc, e5]
        · simp only [PX7_entry, PX7_entry_51, PX7_entry_17, eq_true M.1.1.1, eq_true m1.1.1, true_and, forall_eq, q2, q3, m1.2.1, gi, g1, zbt, false_implies, not_false_eq_true, true_implies, not_true_eq_false, and_true, m1.1.r19, Option.some.injEq, exists_eq_left', eq_true i5, v5]
      · obtain ⟨i5, v5⟩ := m_told5 (p := 3) m1 hk (by omega) t4
        refine Jo.ro C M hA hT (cJ (X.2.2.1 k)) (fun P => ?_) (fun P => ?_)
        · simp [PX6_entry, PX1_areaOf, PX1_areaOf_18, eq_true c1.o, c5, eq_true co.1.1, c_has_in co hk, o10, tp, co.1.2.1.2.1, eq_true (co.ix k300).1.2.1, kc, e2, l2]
        · simp only [PX7_entry, PX7_entry_51, PX7_entry_17, eq_true M.1.1.1, eq_true m1.1.1, true_and, forall_eq, q2, q3, m1.2.1, gi, g1, zbt, false_implies, not_false_eq_true, true_implies, not_true_eq_false, and_true, m1.1.r19, Option.some.injEq, exists_eq_left', eq_true i5, v5]
    · have g1 : gin w.toInt 0 3 = false := by
        unfold gin
        by_cases h1 : 0 ≤ w.toInt
        · simp [h1, show ¬ w.toInt ≤ 3 by omega]
        · simp [h1]
      have hw2 : w.toInt < 0 ∨ 3 < w.toInt := by omega
      refine Jo.ro C M hA hT (-2) (fun P => ?_) (fun P => ?_)
      · simp only [PX6_entry, eq_true c1.o, true_and, c5, Option.some.injEq, exists_eq_left', eq_true co.1.1, c_has_in co hk, o10, false_implies, not_false_eq_true, true_implies, eq_false (show ¬ w.toInt = 0 by omega), eq_false (show ¬ w.toInt = 1 by omega), eq_false (show ¬ w.toInt = 2 by omega), eq_false (show ¬ w.toInt = 3 by omega), eq_true hw2]
      · simp only [PX7_entry, PX7_entry_51, PX7_entry_17, eq_true M.1.1.1, eq_true m1.1.1, true_and, forall_eq, q2, q3, m1.2.1, gi, g1, zbf, false_implies, not_false_eq_true, true_implies, not_true_eq_false, and_true]
  · refine Jo.ro C M hA hT (-1) (fun P => ?_) (fun P => ?_)
    · simp only [PX6_entry, eq_true c1.o, true_and, c5, Option.some.injEq, exists_eq_left', eq_true co.1.1, c_has_out co h, not_true_eq_false, false_implies, true_implies, and_true]
    · simp only [PX7_entry, PX7_entry_51, PX7_entry_17, eq_true M.1.1.1, eq_true m1.1.1, true_and, forall_eq, m1.2.1]
      by_cases c : v < 0
      · simp [c]
      · have h2 := h.resolve_left c
        have h3 : ¬ v < nI X.1 := by rw [Int32.lt_iff_toInt_lt]; rw [Int32.le_iff_toInt_le] at h2; omega
        simp [c, h3]
end
