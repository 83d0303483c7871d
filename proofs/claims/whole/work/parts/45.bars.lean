/-! rules are added: bars -/
def add1 (R : Nat × Gr) (a g f t : Int) : Nat × Gr := (R.1 + 1, upn R.2.1 R.1 a, upn R.2.2.1 R.1 g, upn R.2.2.2.1 R.1 f, upn R.2.2.2.2 R.1 t)
def wRu (S : hs) (a k : Nat) (v1 v2 v3 v4 : Int32) : hs := sI (sI (sI (sI (sI S (a + 1) k v1) (a + 2) k v2) (a + 3) k v3) (a + 4) k v4) a 4 (nI (k + 1))
def wRm (S : hs) (Z k : Nat) (v1 v2 v3 v4 : Int32) : hs := sI (sI (sI (sI (sI S (Z + 7) k v1) (Z + 8) k v2) (Z + 9) k v3) (Z + 10) k v4) Z 8 (nI (k + 1))
theorem s_rule {S : hs} {a n : Nat} {G : Gr} {v1 v2 v3 v4 : Int32} {Post : Int32 → hs → Prop} (R : RuC S a n G) : PX3_add a v1 v2 v3 v4 S Post = (if n < 40 then Post 1 (wRu S a n v1 v2 v3 v4) else Post 0 S) := by
  have h40 := R.n40
  have e1 : (nI n < (40 : Int32)) = (n < 40) := nI_ltk (y := 40) (by omega) (by omega)
  have kc : (nI n).toNatClampNeg = n := nI_clamp (by omega)
  have r0 := R.sz
  obtain ⟨h1, h2, h3, h4⟩ := R.1.2.1
  have r1 : ∀ w1, hi (sI S (a + 1) n w1) a 4 = nI n := fun w1 => (rdI (Or.inl (by omega))).trans r0
  have r2 : ∀ w1 w2, hi (sI (sI S (a + 1) n w1) (a + 2) n w2) a 4 = nI n := fun w1 w2 => (rdI (Or.inl (by omega))).trans (r1 w1)
  have r3 : ∀ w1 w2 w3, hi (sI (sI (sI S (a + 1) n w1) (a + 2) n w2) (a + 3) n w3) a 4 = nI n := fun w1 w2 w3 => (rdI (Or.inl (by omega))).trans (r2 w1 w2)
  have r4 : ∀ w1 w2 w3 w4, hi (sI (sI (sI (sI S (a + 1) n w1) (a + 2) n w2) (a + 3) n w3) (a + 4) n w4) a 4 = nI n := fun w1 w2 w3 w4 => (rdI (Or.inl (by omega))).trans (r3 w1 w2 w3)
  have f2 : ∀ w1, hr (sI S (a + 1) n w1) a 1 = some (a + 2) := fun w1 => h2
  have f3 : ∀ w1 w2, hr (sI (sI S (a + 1) n w1) (a + 2) n w2) a 2 = some (a + 3) := fun w1 w2 => h3
  have f4 : ∀ w1 w2 w3, hr (sI (sI (sI S (a + 1) n w1) (a + 2) n w2) (a + 3) n w3) a 3 = some (a + 4) := fun w1 w2 w3 => h4
  by_cases h : n < 40
  · obtain ⟨i1, i2, i3, i4⟩ := R.ix h
    simp only [PX3_add, eq_true R.1.1, true_and, r0, e1, h, not_true_eq_false, false_implies, true_implies, and_true, h1, f2, f3, f4, Option.some.injEq, exists_eq_left', eq_true i1, eq_true i2, eq_true i3, eq_true i4, is_I, ix_I, kc, forall_eq, r1, r2, r3, r4, nI_1, if_true, wRu]
  · simp only [PX3_add, eq_true R.1.1, true_and, r0, e1, h, not_false_eq_true, false_implies, true_implies, if_false]
theorem m_rule {S : hs} {Z n : Nat} {G : Gr} {v1 v2 v3 v4 : Int32} {Post : hs → Prop} (R : RuM S Z n G) (h : n < 40) : PX7_rule Z v1 v2 v3 v4 S Post = Post (wRm S Z n v1 v2 v3 v4) := by
  have M := R.1.1
  have kc : (nI n).toNatClampNeg = n := nI_clamp (by omega)
  have r0 := R.1.2.1
  have r1 : ∀ w1, hi (sI S (Z + 7) n w1) Z 8 = nI n := fun w1 => (rdI (Or.inl (by omega))).trans r0
  have r2 : ∀ w1 w2, hi (sI (sI S (Z + 7) n w1) (Z + 8) n w2) Z 8 = nI n := fun w1 w2 => (rdI (Or.inl (by omega))).trans (r1 w1)
  have r3 : ∀ w1 w2 w3, hi (sI (sI (sI S (Z + 7) n w1) (Z + 8) n w2) (Z + 9) n w3) Z 8 = nI n := fun w1 w2 w3 => (rdI (Or.inl (by omega))).trans (r2 w1 w2)
  have r4 : ∀ w1 w2 w3 w4, hi (sI (sI (sI (sI S (Z + 7) n w1) (Z + 8) n w2) (Z + 9) n w3) (Z + 10) n w4) Z 8 = nI n := fun w1 w2 w3 w4 => (rdI (Or.inl (by omega))).trans (r3 w1 w2 w3)
  have f2 : ∀ w1, hr (sI S (Z + 7) n w1) Z 10 = some (Z + 8) := fun w1 => M.r10
  have f3 : ∀ w1 w2, hr (sI (sI S (Z + 7) n w1) (Z + 8) n w2) Z 11 = some (Z + 9) := fun w1 w2 => M.r11
  have f4 : ∀ w1 w2 w3, hr (sI (sI (sI S (Z + 7) n w1) (Z + 8) n w2) (Z + 9) n w3) Z 12 = some (Z + 10) := fun w1 w2 w3 => M.r12
  simp only [PX7_rule, eq_true M.1, true_and, r0, M.r9, f2, f3, f4, Option.some.injEq, exists_eq_left', eq_true (M.x7 h), eq_true (M.x8 h), eq_true (M.x9 h), eq_true (M.x10 h), is_I, ix_I, kc, forall_eq, r1, r2, r3, r4, nI_1, wRm]
section
variable {S : hs} {n : Nat} {A : Ga} {R : Nat × Gr} {T : Gk} {E : Gx} {a g f t : Int}
theorem add1_b {k : Nat} (h : brG R.2 k) (hk : k < R.1) : brG (add1 R a g f t).2 k := by
  unfold brG add1
  simp only [upn_n _ _ (show k ≠ R.1 by omega)]
  exact h
theorem wRu_rd {S : hs} {b k v1 v2 v3 v4 : _} (j : Nat) : hi (wRu S b k v1 v2 v3 v4) (b + 1) j = (if j = k then v1 else hi S (b + 1) j) ∧ hi (wRu S b k v1 v2 v3 v4) (b + 2) j = (if j = k then v2 else hi S (b + 2) j) ∧ hi (wRu S b k v1 v2 v3 v4) (b + 3) j = (if j = k then v3 else hi S (b + 3) j) ∧ hi (wRu S b k v1 v2 v3 v4) (b + 4) j = (if j = k then v4 else hi S (b + 4) j) := by
  have e : hi (wRu S b k v1 v2 v3 v4) = up2 (up2 (up2 (up2 (up2 (hi S) (b + 1) k v1) (b + 2) k v2) (b + 3) k v3) (b + 4) k v4) b 4 (nI (k + 1)) := rfl
  rw [e]
  refine ⟨?_, ?_, ?_, ?_⟩ <;> simp [up2]
theorem wRm_rd {S : hs} {b k v1 v2 v3 v4 : _} (j : Nat) : hi (wRm S b k v1 v2 v3 v4) (b + 7) j = (if j = k then v1 else hi S (b + 7) j) ∧ hi (wRm S b k v1 v2 v3 v4) (b + 8) j = (if j = k then v2 else hi S (b + 8) j) ∧ hi (wRm S b k v1 v2 v3 v4) (b + 9) j = (if j = k then v3 else hi S (b + 9) j) ∧ hi (wRm S b k v1 v2 v3 v4) (b + 10) j = (if j = k then v4 else hi S (b + 10) j) := by
  have e : hi (wRm S b k v1 v2 v3 v4) = up2 (up2 (up2 (up2 (up2 (hi S) (b + 7) k v1) (b + 8) k v2) (b + 9) k v3) (b + 10) k v4) b 8 (nI (k + 1)) := rfl
  rw [e]
  refine ⟨?_, ?_, ?_, ?_⟩ <;> simp [up2]
theorem RuC.add {b : Nat} (C : RuC S b R.1 R.2) (h : R.1 < 40) (ha : br a) (hg : br g) (hf : br f) (ht : br t) : RuC (wRu S b R.1 (cI a) (cI g) (cI f) (cI t)) b (add1 R a g f t).1 (add1 R a g f t).2 := by
  obtain ⟨⟨r1, r2, r3, r4, r5, r6⟩, r7⟩ := C
  refine ⟨⟨r1, r2, r3, r4, up2_same _ _ _ _, by show R.1 + 1 ≤ 40; omega⟩, fun k hk => ?_⟩
  obtain ⟨e1, e2, e3, e4⟩ := wRu_rd (S := S) (b := b) (k := R.1) (v1 := cI a) (v2 := cI g) (v3 := cI f) (v4 := cI t) k
  rw [e1, e2, e3, e4]
  by_cases e : k = R.1
  · subst e
    unfold brG add1
    simp only [upn_s, if_true, and_self, true_and]
    exact ⟨ha, hg, hf, ht⟩
  · have hk' : k < R.1 := by have : k < R.1 + 1 := hk; omega
    refine ⟨?_, add1_b (r7 k hk').2 hk'⟩
    unfold add1
    simp only [upn_n _ _ e, if_neg e]
    exact (r7 k hk').1
theorem RuM.add {Z : Nat} (C : RuM S Z R.1 R.2) (h : R.1 < 40) (ha : br a) (hg : br g) (hf : br f) (ht : br t) : RuM (wRm S Z R.1 (cI a) (cI g) (cI f) (cI t)) Z (add1 R a g f t).1 (add1 R a g f t).2 := by
  obtain ⟨⟨r1, r2, r3⟩, r7⟩ := C
  refine ⟨⟨r1, up2_same _ _ _ _, by show R.1 + 1 ≤ 40; omega⟩, fun k hk => ?_⟩
  obtain ⟨e1, e2, e3, e4⟩ := wRm_rd (S := S) (b := Z) (k := R.1) (v1 := cI a) (v2 := cI g) (v3 := cI f) (v4 := cI t) k
  rw [e1, e2, e3, e4]
  by_cases e : k = R.1
  · subst e
    unfold brG add1
    simp only [upn_s, if_true, and_self, true_and]
    exact ⟨ha, hg, hf, ht⟩
  · have hk' : k < R.1 := by have : k < R.1 + 1 := hk; omega
    refine ⟨?_, add1_b (r7 k hk').2 hk'⟩
    unfold add1
    simp only [upn_n _ _ e, if_neg e]
    exact (r7 k hk').1
theorem wRu_agr {b k v1 v2 v3 v4 : _} {p : Nat → Nat → Prop} (h : ∀ c j, b ≤ c → c ≤ b + 4 → ¬ p c j) : agr S (wRu S b k v1 v2 v3 v4) p := ((((agr.rf.wI (h _ _ (by omega) (by omega))).wI (h _ _ (by omega) (by omega))).wI (h _ _ (by omega) (by omega))).wI (h _ _ (by omega) (by omega))).wI (h _ _ (by omega) (by omega))
theorem wRm_agr {b k v1 v2 v3 v4 : _} {p : Nat → Nat → Prop} (h0 : ¬ p b 8) (h : ∀ c j, b + 7 ≤ c → c ≤ b + 10 → ¬ p c j) : agr S (wRm S b k v1 v2 v3 v4) p := ((((agr.rf.wI (h _ _ (by omega) (by omega))).wI (h _ _ (by omega) (by omega))).wI (h _ _ (by omega) (by omega))).wI (h _ _ (by omega) (by omega))).wI h0
theorem CS.addR (C : CS S n A R T E) (h : R.1 < 40) (ha : br a) (hg : br g) (hf : br f) (ht : br t) : CS (wRu S (2 + 14 * n) R.1 (cI a) (cI g) (cI f) (cI t)) n A (add1 R a g f t) T E := by
  obtain ⟨c1, c2, c3, ⟨c4, c5⟩, l, l', c6⟩ := C
  have gg : agr S (wRu S (2 + 14 * n) R.1 (cI a) (cI g) (cI f) (cI t)) (fun b _ => b < 2 + 14 * n ∨ 6 + 14 * n < b) := wRu_agr (fun c j h1 h2 => by omega)
  exact ⟨c1.fr gg (Or.inl (by omega)) (fun b j _ h => Or.inl h), ⟨c2.1, c2.2.add h ha hg hf ht⟩, c3.fr gg (Or.inl (by omega)) (Or.inl (by omega)) (fun b j h _ => Or.inr (by omega)), ⟨c4, c5.fr gg (fun j => Or.inr rfl)⟩, l, l', c6.fr gg (Or.inl (by omega)) (Or.inl (by omega)) (fun b j h _ => Or.inr (by omega))⟩
theorem MS.addR (M : MS S n A R T E) (h : R.1 < 40) (ha : br a) (hg : br g) (hf : br f) (ht : br t) : MS (wRm S (49 + 14 * n) R.1 (cI a) (cI g) (cI f) (cI t)) n A (add1 R a g f t) T E := by
  obtain ⟨c1, c2, c3, c4⟩ := M
  have gg : agr S (wRm S (49 + 14 * n) R.1 (cI a) (cI g) (cI f) (cI t)) (fun b j => (b < 49 + 14 * n + 7 ∨ 49 + 14 * n + 10 < b) ∧ (b = 49 + 14 * n → j ≠ 8)) := wRm_agr (fun h => h.2 rfl rfl) (fun c j h1 h2 h => by omega)
  have hM : Md (wRm S (49 + 14 * n) R.1 (cI a) (cI g) (cI f) (cI t)) (49 + 14 * n) := c1.1
  exact ⟨c1.fr gg hM ⟨by omega, by omega⟩ (fun b j _ _ => ⟨by omega, by omega⟩), c2.add h ha hg hf ht, c3.fr gg hM ⟨by omega, by omega⟩ (fun b j _ _ => ⟨by omega, by omega⟩), c4.fr gg hM ⟨by omega, by omega⟩ (fun j => ⟨by omega, by omega⟩)⟩
theorem wRu_U {k v1 v2 v3 v4 : _} : agr S (wRu S (2 + 14 * n) k v1 v2 v3 v4) (pU (49 + 14 * n)) := wRu_agr (fun c j h1 h2 h => by unfold pU at h; omega)
theorem wRm_L {k v1 v2 v3 v4 : _} : agr S (wRm S (49 + 14 * n) k v1 v2 v3 v4) (pL (49 + 14 * n)) := wRm_agr (fun h => by unfold pL at h; omega) (fun c j h1 h2 h => by unfold pL at h; omega)
theorem op_bars {v w : Int32} (hf : bI f) (ht : bI t) (C : CS S n A R T E) (M : MS S n A R T E) (hA : WA n A) (hT : WT T) : Jo n (PX6_bars 0 v w (cI f) (cI t)) (PX7_bars (49 + 14 * n) v w (cI f) (cI t)) S := by
  have c1 := C.1
  have c2 := C.2.1
  have h12 := c1.n12
  have h40 := c2.2.n40
  have m1 := (M.code (v := 0)).1
  have m2 := (M.code (v := 0)).2.1
  unfold bI at hf ht
  have e0 : (cI f < (0 : Int32)) = (f < 0) := by rw [i0, cI_lt hf ⟨by omega, by omega⟩]
  have e4 : ((400 : Int32) < cI t) = (400 < t) := by rw [show (400 : Int32) = cI 400 from rfl, cI_lt ⟨by omega, by omega⟩ ht]
  have e5 : (cI f ≤ cI t) = (f ≤ t) := by rw [cI_le hf ht]
  have g1 := fun S' P => m_isIn (S := S') (Post := P) (v := f) (l := 0) (m := 400) ⟨by omega, by omega⟩ ⟨by omega, by omega⟩ ⟨by omega, by omega⟩
  have g2 := fun S' P => m_isIn (S := S') (Post := P) (v := t) (l := f) (m := 400) ⟨by omega, by omega⟩ ⟨by omega, by omega⟩ ⟨by omega, by omega⟩
  rw [← j0, show cJ 400 = (400 : Int64) from rfl] at g1
  rw [show cJ 400 = (400 : Int64) from rfl] at g2
  have lf : (cI f).toInt64 = cJ f := cI_l hf
  have lt : (cI t).toInt64 = cJ t := cI_l ht
  have e40 : (nI R.1 = (40 : Int32)) = (R.1 = 40) := propext (nI_eq (b := 40) (by omega) (by omega))
  rcases of_cases n (by omega) v with ⟨i, hi0, rfl⟩ | h
  · rcases of_cases 8 (by omega) w with ⟨g, hg0, rfl⟩ | hw
    · by_cases hd : 0 ≤ f ∧ f ≤ t ∧ t ≤ 400
      · have i1 : gin f 0 400 = true := by unfold gin; simp [hd]; omega
        have i2 : gin t f 400 = true := by unfold gin; simp [hd]
        by_cases h4 : R.1 < 40
        · have o6 : ∀ P, PX6_bars 0 (nI i) (nI g) (cI f) (cI t) S P = P 1 (wRu S (2 + 14 * n) R.1 (cI i) (cI g) (cI f) (cI t)) := by
            intro P
            rw [← nI_c i, ← nI_c g]
            simp only [PX6_bars, PX6_bars_15, PX6_bars_35, eq_true c1.o, true_and, c_area_in c1 hi0, o10, false_implies, not_false_eq_true, true_implies, c_gear_in hg0, e0, e4, e5, show ¬ f < 0 by omega, show ¬ 400 < t by omega, hd.2.1, not_true_eq_false, and_true, c2.1, Option.some.injEq, exists_eq_left', eq_true c2.2.1.1, s_rule c2.2, h4, if_true, or_true]
          have CS1 := C.addR (a := i) (g := g) (f := f) (t := t) h4 ⟨by omega, by omega⟩ ⟨by omega, by omega⟩ ⟨by omega, by omega⟩ ⟨by omega, by omega⟩
          have M1 := M.up (wRu_U (n := n) (S := S) (k := R.1) (v1 := cI i) (v2 := cI g) (v3 := cI f) (v4 := cI t))
          have sh1 : shp S (wRu S (2 + 14 * n) R.1 (cI i) (cI g) (cI f) (cI t)) := shp.rf
          generalize wRu S (2 + 14 * n) R.1 (cI i) (cI g) (cI f) (cI t) = S1 at *
          have M2 := M1.code (v := 0)
          refine Jo.mk (A' := A) (R' := add1 R i g f t) (T' := T) (E' := E) (S1 := S1) (S2 := wRm (sI S1 (49 + 14 * n) 0 0) (49 + 14 * n) R.1 (cI i) (cI g) (cI f) (cI t)) 1 o6 (fun P => ?_) CS1 (M2.addR h4 ⟨by omega, by omega⟩ ⟨by omega, by omega⟩ ⟨by omega, by omega⟩ ⟨by omega, by omega⟩) (g_code.tr wRm_L) sh1 hA hT
          rw [← nI_c i, ← nI_c g]
          simp only [PX7_bars, PX7_bars_60, eq_true M1.1.1.1, true_and, forall_eq, eq_true M2.1.1.1, m_area_in M2.1 h12.2 hi0, o10, false_implies, not_false_eq_true, true_implies, m_gear_in hg0, lf, lt, g1, g2, i1, i2, zbt, M2.2.1.1.2.1, e40, show ¬ R.1 = 40 by omega, m_rule M2.2.1 h4]
        · have e41 : nI R.1 = (40 : Int32) := by rw [e40]; omega
          refine Jo.ro C M hA hT 0 (fun P => ?_) (fun P => ?_)
          · simp only [PX6_bars, PX6_bars_15, PX6_bars_35, eq_true c1.o, true_and, c_area_in c1 hi0, o10, false_implies, not_false_eq_true, true_implies, c_gear_in hg0, e0, e4, e5, show ¬ f < 0 by omega, show ¬ 400 < t by omega, hd.2.1, not_true_eq_false, and_true, c2.1, Option.some.injEq, exists_eq_left', eq_true c2.2.1.1, s_rule c2.2, h4, if_false, true_or]
          · simp only [PX7_bars, PX7_bars_60, eq_true M.1.1.1, true_and, forall_eq, eq_true m1.1.1, m_area_in m1 h12.2 hi0, o10, false_implies, not_false_eq_true, true_implies, m_gear_in hg0, lf, lt, g1, g2, i1, i2, zbt, m2.1.2.1, eq_true e41, not_true_eq_false, and_true]
      · refine Jo.ro C M hA hT 0 (fun P => ?_) (fun P => ?_)
        · simp only [PX6_bars, PX6_bars_15, PX6_bars_35, eq_true c1.o, true_and, c_area_in c1 hi0, o10, false_implies, not_false_eq_true, true_implies, c_gear_in hg0, e0, e4, e5]
          by_cases q1 : f < 0
          · simp [q1]
          · by_cases q2 : 400 < t
            · simp [q1, q2]
            · simp [q1, q2, show ¬ f ≤ t by omega]
        · simp only [PX7_bars, PX7_bars_60, eq_true M.1.1.1, true_and, forall_eq, eq_true m1.1.1, m_area_in m1 h12.2 hi0, o10, false_implies, not_false_eq_true, true_implies, m_gear_in hg0, lf, lt, g1, g2, zb_0]
          have hb : gin f 0 400 = false ∨ gin t f 400 = false := by
            unfold gin
            by_cases q1 : 0 ≤ f
            · by_cases q2 : f ≤ 400
              · right
                by_cases q3 : f ≤ t
                · simp [q3, show ¬ t ≤ 400 by omega]
                · simp [q3]
              · left; simp [q2]
            · left; simp [q1]
          rcases hb with hb | hb
          · simp [hb]
          · cases gin f 0 400 <;> simp [hb]
    · refine Jo.ro C M hA hT 0 (fun P => ?_) (fun P => ?_)
      · simp only [PX6_bars, PX6_bars_15, eq_true c1.o, true_and, c_area_in c1 hi0, o10, false_implies, not_false_eq_true, true_implies, c_gear_out hw, not_true_eq_false, and_true]
      · simp only [PX7_bars, PX7_bars_60, eq_true M.1.1.1, true_and, forall_eq, eq_true m1.1.1, m_area_in m1 h12.2 hi0, o10, false_implies, not_false_eq_true, true_implies, m_gear_out hw, not_true_eq_false, and_true]
  · refine Jo.ro C M hA hT 0 (fun P => ?_) (fun P => ?_)
    · simp only [PX6_bars, PX6_bars_15, eq_true c1.o, true_and, c_area_out c1 h, not_true_eq_false, false_implies, true_implies, and_true]
    · simp only [PX7_bars, PX7_bars_60, eq_true M.1.1.1, true_and, forall_eq, eq_true m1.1.1, m_area_out m1 h, not_true_eq_false, false_implies, true_implies, and_true]
end
