/-! track, place -/
section
variable {S : hs} {n : Nat} {A : Ga} {R : Nat × Gr} {T : Gk} {E : Gx}
theorem TrM.fr2 {S' : hs} {p : Nat → Nat → Prop} {Z t n : Nat} {G : Gt} (g : agr S S' p) (R : TrM S Z t n G) (hM : Md S' Z) (h11 : p (Z + 11) t) (hp : ∀ b k, Z + 12 ≤ b → b ≤ Z + 14 → k < 30 → p b (30 * t + k)) : TrM S' Z t n G := by
  obtain ⟨⟨-, r1, r2, r3⟩, r4⟩ := R
  refine ⟨⟨hM, r1, by rw [(g.2 _ _ h11).1]; exact r2, r3⟩, fun k hk => ⟨?_, (r4 k hk).2⟩⟩
  rw [(g.2 _ _ (hp (Z + 12) k (by omega) (by omega) (by omega))).2.1, (g.2 _ _ (hp (Z + 13) k (by omega) (by omega) (by omega))).2.1, (g.2 _ _ (hp (Z + 14) k (by omega) (by omega) (by omega))).2.1]
  exact (r4 k hk).1
theorem op_track (C : CS S n A R T E) (M : MS S n A R T E) (hA : WA n A) (hT : WT T) : Jo n (PX6_track 0) (PX7_track (49 + 14 * n)) S := by
  have c1 := C.1
  have c3 := C.2.2.1
  have h6 := c3.n6
  have e6 : (nI T.1 < nI 6) = (T.1 < 6) := nI_ltk (by omega) (by omega)
  have e7 : (nI T.1 = (6 : Int32)) = (T.1 = 6) := propext (nI_eq (b := 6) (by omega) (by omega))
  by_cases h : T.1 < 6
  · have o6 : ∀ P, PX6_track 0 S P = P (nI T.1) (sI S 0 3 (nI (T.1 + 1))) := by
      intro P
      simp only [PX6_track, eq_true c1.o, true_and, c3.r2, Option.some.injEq, exists_eq_left', eq_true c3.ao, c3.az, c3.nt, e6, h, not_true_eq_false, false_implies, true_implies, and_true, forall_eq, nI_1]
    have CS1 : CS (sI S 0 3 (nI (T.1 + 1))) n A R (T.1 + 1, T.2.1, T.2.2) E := by
      obtain ⟨c1, c2, c3, ⟨c4, c5⟩, l, l', c6⟩ := C
      have gg : agr S (sI S 0 3 (nI (T.1 + 1))) (fun b j => b ≠ 0 ∨ j ≠ 3) := agr.rf.wI (fun h => by omega)
      refine ⟨c1.fr gg (Or.inr (by omega)) (fun b j _ _ => Or.inl (by omega)), c2.fr gg (Or.inr (by omega)) (fun b j _ _ => Or.inl (by omega)), ?_, ⟨c4, c5.fr gg (fun j => Or.inr rfl)⟩, l, l', c6.fr gg (Or.inr (by omega)) (Or.inr (by omega)) (fun b j _ _ => Or.inl (by omega))⟩
      obtain ⟨⟨d1, d2, d3, d4, d5⟩, d6⟩ := c3
      have hh : hi (sI S 0 3 (nI (T.1 + 1))) 0 3 = nI (T.1 + 1) := by
        show up2 (hi S) 0 3 (nI (T.1 + 1)) 0 3 = nI (T.1 + 1)
        rw [up2_same]
      exact ⟨⟨d1, d2, d3, hh, by show T.1 + 1 ≤ 6; omega⟩, fun t ht => ⟨(d6 t ht).1, (d6 t ht).2.fr gg (fun b j _ _ => Or.inl (by omega))⟩⟩
    have M1 : MS (sI S 0 3 (nI (T.1 + 1))) n A R T E := M.up (agr.rf.wI (fun h => by unfold pU at h; omega))
    have sh1 : shp S (sI S 0 3 (nI (T.1 + 1))) := shp.rf
    generalize sI S 0 3 (nI (T.1 + 1)) = S1 at *
    have M2 := M1.code (v := 0)
    have m3 := M2.2.2.1
    have r1 : ∀ v, hi (sI (sI S1 (49 + 14 * n) 0 0) (49 + 14 * n + 11) T.1 v) (49 + 14 * n) 13 = nI T.1 := fun v => (rdI (S := sI S1 (49 + 14 * n) 0 0) (Or.inl (by omega))).trans m3.2.1
    have r2 : ∀ v w, hi (sI (sI (sI S1 (49 + 14 * n) 0 0) (49 + 14 * n + 11) T.1 v) (49 + 14 * n) 13 w) (49 + 14 * n) 13 = w := fun v w => up2_same _ _ _ _
    have z0 : T.2.1 T.1 = 0 := (hT T.1 h).1 (Nat.le_refl _)
    refine Jo.mk (A' := A) (R' := R) (T' := (T.1 + 1, T.2.1, T.2.2)) (E' := E) (S1 := S1) (S2 := sI (sI (sI S1 (49 + 14 * n) 0 0) (49 + 14 * n + 11) T.1 0) (49 + 14 * n) 13 (nI (T.1 + 1))) (nI T.1) o6 (fun P => ?_) CS1 ?_ ?_ sh1 hA ?_
    · simp only [PX7_track, eq_true M1.1.1.1, true_and, forall_eq, eq_true M2.1.1.1, m3.2.1, e7, show ¬ T.1 = 6 by omega, false_implies, not_false_eq_true, true_implies, m3.1.r14, Option.some.injEq, exists_eq_left', eq_true (m3.1.x11 h), nI_clamp (show T.1 < 2 ^ 31 by omega), is_I, r1, r2, nI_1, nI_pr (show 0 < T.1 + 1 by omega), Nat.add_sub_cancel]
    · obtain ⟨d1, d2, d3, d4⟩ := M2
      have gg : agr (sI S1 (49 + 14 * n) 0 0) (sI (sI (sI S1 (49 + 14 * n) 0 0) (49 + 14 * n + 11) T.1 0) (49 + 14 * n) 13 (nI (T.1 + 1))) (fun b j => (b ≠ 49 + 14 * n + 11 ∨ j ≠ T.1) ∧ (b ≠ 49 + 14 * n ∨ j ≠ 13)) := (agr.rf.wI (fun h => by omega)).wI (fun h => by omega)
      have hM : Md (sI (sI (sI S1 (49 + 14 * n) 0 0) (49 + 14 * n + 11) T.1 0) (49 + 14 * n) 13 (nI (T.1 + 1))) (49 + 14 * n) := d1.1
      refine ⟨d1.fr gg hM ⟨by omega, by omega⟩ (fun b j _ _ => ⟨by omega, by omega⟩), d2.fr gg hM ⟨by omega, by omega⟩ (fun b j _ _ => ⟨by omega, by omega⟩), ⟨hM, up2_same _ _ _ _, by show T.1 + 1 ≤ 6; omega, fun t ht => ?_⟩, d4.fr gg hM ⟨by omega, by omega⟩ (fun j => ⟨by omega, by omega⟩)⟩
      by_cases e : t = T.1
      · show TrM _ _ t (T.2.1 t) (T.2.2 t)
        rw [e, z0]
        refine ⟨⟨hM, h, ?_, by omega⟩, fun k hk => absurd hk (by omega)⟩
        rw [rdI (Or.inl (by omega))]
        exact up2_same _ _ _ _
      · exact (d3.2.2.2 t ht).fr2 gg hM ⟨by omega, by omega⟩ (fun b k _ _ _ => ⟨by omega, by omega⟩)
    · exact ((agr.rf.wI (fun h => by unfold pL at h; omega)).wI (fun h => by unfold pL at h; omega)).wI (fun h => by unfold pL at h; omega)
    · intro t ht
      refine ⟨fun h1 => (hT t ht).1 ?_, (hT t ht).2⟩
      have : T.1 + 1 ≤ t := h1
      omega
  · have e8 : nI T.1 = (6 : Int32) := by rw [e7]; omega
    have m3 := (M.code (v := 0)).2.2.1
    refine Jo.ro C M hA hT (-4) (fun P => ?_) (fun P => ?_)
    · simp only [PX6_track, eq_true c1.o, true_and, c3.r2, Option.some.injEq, exists_eq_left', eq_true c3.ao, c3.az, c3.nt, e6, h, not_false_eq_true, false_implies, true_implies]
    · simp only [PX7_track, eq_true M.1.1.1, true_and, forall_eq, eq_true m3.1.1, m3.2.1, eq_true e8, not_true_eq_false, false_implies, true_implies, and_true]
/-- a place may be added behind n others -/
def gpl (n : Nat) (G : Gt) (s : Int) : Bool := decide (n < 30) && (decide (0 ≤ s) && (decide (s ≤ 40000000) && (decide (n = 0) || decide (G.1 (n - 1) < s))))
theorem s_addPlace {a n : Nat} {G : Gt} {s x y : Int} {Post : Int32 → hs → Prop} (K : TrC S a n G) (hs : bJ s) : PX5_add a (cJ s) (cI x) (cI y) S Post = (if gpl n G s = true then Post 1 (sI (sI (sI (sJ S (a + 1) n (cJ s)) (a + 2) n (cI x)) (a + 3) n (cI y)) a 3 (nI (n + 1))) else Post 0 S) := by
  have h30 := K.n30
  have e30 : ((30 : Int32) ≤ nI n) = (30 ≤ n) := nI_lek (x := 30) (by omega) (by omega)
  have e0 : (cJ s < (0 : Int64)) = (s < 0) := by rw [j0, cJ_lt hs ⟨by omega, by omega⟩]
  have e4 : (cJ s ≤ (40000000 : Int64)) = (s ≤ 40000000) := by rw [show (40000000 : Int64) = cJ 40000000 from rfl, cJ_le hs ⟨by omega, by omega⟩]
  have en : (nI n ≤ (0 : Int32)) = (n = 0) := nI_le0 (by omega)
  have kc : (nI n).toNatClampNeg = n := nI_clamp (by omega)
  obtain ⟨f1, f2, f3⟩ := K.1.2.1
  have r1 : ∀ v, hi (sJ S (a + 1) n v) a 3 = nI n := fun v => K.sz
  have r2 : ∀ v w, hi (sI (sJ S (a + 1) n v) (a + 2) n w) a 3 = nI n := fun v w => (rdI (S := sJ S (a + 1) n v) (Or.inl (by omega))).trans K.sz
  have r3 : ∀ v w u, hi (sI (sI (sJ S (a + 1) n v) (a + 2) n w) (a + 3) n u) a 3 = nI n := fun v w u => (rdI (Or.inl (by omega))).trans (r2 v w)
  have q2 : ∀ v, hr (sJ S (a + 1) n v) a 1 = some (a + 2) := fun v => f2
  have q3 : ∀ v w, hr (sI (sJ S (a + 1) n v) (a + 2) n w) a 2 = some (a + 3) := fun v w => f3
  have add50 : n < 30 → (PX5_add_50 Post a (cJ s) (cI x) (cI y) S) = Post 1 (sI (sI (sI (sJ S (a + 1) n (cJ s)) (a + 2) n (cI x)) (a + 3) n (cI y)) a 3 (nI (n + 1))) := by
    intro h
    obtain ⟨i1, i2, i3⟩ := K.ix h
    simp only [PX5_add_50, eq_true K.1.1, true_and, f1, q2, q3, Option.some.injEq, exists_eq_left', K.sz, kc, eq_true i1, eq_true i2, eq_true i3, is_I, is_J, ix_I, ix_J, forall_eq, r1, r2, r3, nI_1]
  unfold gpl
  by_cases h1 : n < 30
  · simp only [PX5_add, PX5_add_23, eq_true K.1.1, true_and, K.sz, e30, show ¬ 30 ≤ n by omega, e0, e4, en, f1, Option.some.injEq, exists_eq_left', add50 h1, false_implies, not_false_eq_true, true_implies]
    by_cases h2 : s < 0
    · simp [h2, show ¬ 0 ≤ s by omega]
    · by_cases h3 : s ≤ 40000000
      · by_cases h4 : n = 0
        · simp [h2, h3, h4, show 0 ≤ s by omega]
        · obtain ⟨i1, -, -⟩ := K.ix (k := n - 1) (by omega)
          have b := (K.2 (n - 1) (by omega)).2.1
          have e5 : (cJ (G.1 (n - 1)) < cJ s) = (G.1 (n - 1) < s) := by rw [cJ_lt ⟨by omega, by omega⟩ hs]
          simp only [nI_pr (show 0 < n by omega), eq_true i1, nI_clamp (show n - 1 < 2 ^ 31 by omega), (K.2 (n - 1) (by omega)).1.1, e5]
          by_cases h5 : G.1 (n - 1) < s <;> simp [h1, h2, h3, h4, h5, show 0 ≤ s by omega]
      · simp [h2, h3]
  · simp only [PX5_add, PX5_add_23, eq_true K.1.1, true_and, K.sz, e30, show 30 ≤ n by omega, not_true_eq_false, false_implies, true_implies, and_true]
    simp [h1]
theorem TrC.add {a n : Nat} {G : Gt} {s x y : Int} (K : TrC S a n G) (h : n < 30) (hs : 0 ≤ s ∧ s ≤ 40000000) (hx : cr x) (hy : cr y) : TrC (sI (sI (sI (sJ S (a + 1) n (cJ s)) (a + 2) n (cI x)) (a + 3) n (cI y)) a 3 (nI (n + 1))) a (n + 1) (upn G.1 n s, upn G.2.1 n x, upn G.2.2 n y) := by
  obtain ⟨⟨r1, r2, r3, r4, r5, r6⟩, r7⟩ := K
  refine ⟨⟨r1, r2, r3, r4, up2_same _ _ _ _, by omega⟩, fun k hk => ?_⟩
  have w1 : hj (sI (sI (sI (sJ S (a + 1) n (cJ s)) (a + 2) n (cI x)) (a + 3) n (cI y)) a 3 (nI (n + 1))) (a + 1) k = if k = n then cJ s else hj S (a + 1) k := by
    show up2 (hj S) (a + 1) n (cJ s) (a + 1) k = _
    simp [up2]
  have w2 : hi (sI (sI (sI (sJ S (a + 1) n (cJ s)) (a + 2) n (cI x)) (a + 3) n (cI y)) a 3 (nI (n + 1))) (a + 2) k = if k = n then cI x else hi S (a + 2) k := by
    show up2 (up2 (up2 (hi S) (a + 2) n (cI x)) (a + 3) n (cI y)) a 3 (nI (n + 1)) (a + 2) k = _
    simp [up2]
  have w3 : hi (sI (sI (sI (sJ S (a + 1) n (cJ s)) (a + 2) n (cI x)) (a + 3) n (cI y)) a 3 (nI (n + 1))) (a + 3) k = if k = n then cI y else hi S (a + 3) k := by
    show up2 (up2 (up2 (hi S) (a + 2) n (cI x)) (a + 3) n (cI y)) a 3 (nI (n + 1)) (a + 3) k = _
    simp [up2]
  rw [w1, w2, w3]
  unfold bt
  by_cases e : k = n
  · subst e
    simp only [upn_s, if_true, and_self, true_and]
    exact ⟨hs, hx, hy⟩
  · simp only [upn_n _ _ e, if_neg e]
    exact r7 k (by omega)
/-- track t has one place more -/
def addP (T : Gk) (t : Nat) (s x y : Int) : Gk := (T.1, upn T.2.1 t (T.2.1 t + 1), upn T.2.2 t (upn (T.2.2 t).1 (T.2.1 t) s, upn (T.2.2 t).2.1 (T.2.1 t) x, upn (T.2.2 t).2.2 (T.2.1 t) y))
theorem WT.add {t : Nat} {s x y : Int} (hT : WT T) (h1 : t < T.1) (h : gpl (T.2.1 t) (T.2.2 t) s = true) : WT (addP T t s x y) := by
  intro k hk
  unfold addP
  by_cases e : k = t
  · subst e
    simp only [upn_s]
    refine ⟨fun q => absurd h1 (by have : T.1 ≤ k := q; omega), fun j hj0 => ?_⟩
    rw [upn_n _ _ (show j ≠ T.2.1 k by omega)]
    by_cases e2 : j + 1 = T.2.1 k
    · rw [e2, upn_s]
      unfold gpl at h
      simp [show ¬ T.2.1 k = 0 by omega, show T.2.1 k - 1 = j by omega] at h
      exact h.2.2.2
    · rw [upn_n _ _ e2]
      exact (hT k hk).2 j (by omega)
  · simp only [upn_n _ _ e]
    exact hT k hk
theorem op_place {v : Int32} {s x y : Int} (C : CS S n A R T E) (M : MS S n A R T E) (hA : WA n A) (hT : WT T) (hs : bJ s) (hx : bJ x) (hy : bJ y) : Jo n (PX6_place 0 v (cJ s) (cJ x) (cJ y)) (PX7_place (49 + 14 * n) v (cJ s) (cJ x) (cJ y)) S := by
  have c1 := C.1
  have c3 := C.2.2.1
  have h6 := c3.n6
  have gi' := fun S' P (w : Int) (hw : bJ w) => m_isIn (S := S') (Post := P) (v := w) (l := -200) (m := 200) hw ⟨by omega, by omega⟩ ⟨by omega, by omega⟩
  rw [show cJ (-200) = (-200 : Int64) by decide, show cJ 200 = (200 : Int64) by decide] at gi'
  have gs := fun S' P => m_isIn (S := S') (Post := P) (v := s) (l := 0) (m := 40000000) hs ⟨by omega, by omega⟩ ⟨by omega, by omega⟩
  rw [← j0, show cJ 40000000 = (40000000 : Int64) from rfl] at gs
  rcases of_cases T.1 (by omega) v with ⟨t, ht, rfl⟩ | h
  · have ht6 : t < 6 := by omega
    have K := c3.t ht6
    have h30 := K.n30
    have k6 : ∀ P, PX6_place 0 (nI t) (cJ s) (cJ x) (cJ y) S P = (if gin x (-200) 200 = true ∧ gin y (-200) 200 = true ∧ gpl (T.2.1 t) (T.2.2 t) s = true then P 1 (sI (sI (sI (sJ S (8 + 14 * n + 4 * t + 1) (T.2.1 t) (cJ s)) (8 + 14 * n + 4 * t + 2) (T.2.1 t) (cI x)) (8 + 14 * n + 4 * t + 3) (T.2.1 t) (cI y)) (8 + 14 * n + 4 * t) 3 (nI (T.2.1 t + 1))) else P 0 S) := by
      intro P
      simp only [PX6_place, PX6_place_41, PX6_place_42, eq_true c1.o, true_and, c_track_in c3 c1.o ht, o10, false_implies, not_false_eq_true, true_implies, c_place hx hy, zb_0, c3.r2, Option.some.injEq, exists_eq_left', eq_true (c3.ix ht6), c3.ri ht6, eq_true K.1.1, cJ_i, s_addPlace K hs, or_true, true_or]
      cases gin x (-200) 200 <;> cases gin y (-200) 200 <;> cases gpl (T.2.1 t) (T.2.2 t) s <;> simp
    by_cases hg : gin x (-200) 200 = true ∧ gin y (-200) 200 = true ∧ gpl (T.2.1 t) (T.2.2 t) s = true
    · obtain ⟨g1, g2, g3⟩ := hg
      have crx := gin_cr g1
      have cry := gin_cr g2
      have gg := g3
      unfold gpl at gg
      simp only [Bool.and_eq_true, decide_eq_true_eq, Bool.or_eq_true] at gg
      obtain ⟨q1, q2, q3, q4⟩ := gg
      have gs1 : gin s 0 40000000 = true := by unfold gin; simp [q2, q3]
      have o6 : ∀ P, PX6_place 0 (nI t) (cJ s) (cJ x) (cJ y) S P = P 1 (sI (sI (sI (sJ S (8 + 14 * n + 4 * t + 1) (T.2.1 t) (cJ s)) (8 + 14 * n + 4 * t + 2) (T.2.1 t) (cI x)) (8 + 14 * n + 4 * t + 3) (T.2.1 t) (cI y)) (8 + 14 * n + 4 * t) 3 (nI (T.2.1 t + 1))) := fun P => by
        rw [k6, if_pos ⟨g1, g2, g3⟩]
      have KS := K.add q1 ⟨q2, q3⟩ crx cry
      have CS1 : CS (sI (sI (sI (sJ S (8 + 14 * n + 4 * t + 1) (T.2.1 t) (cJ s)) (8 + 14 * n + 4 * t + 2) (T.2.1 t) (cI x)) (8 + 14 * n + 4 * t + 3) (T.2.1 t) (cI y)) (8 + 14 * n + 4 * t) 3 (nI (T.2.1 t + 1))) n A R (addP T t s x y) E := by
        have ga : agr S (sI (sI (sI (sJ S (8 + 14 * n + 4 * t + 1) (T.2.1 t) (cJ s)) (8 + 14 * n + 4 * t + 2) (T.2.1 t) (cI x)) (8 + 14 * n + 4 * t + 3) (T.2.1 t) (cI y)) (8 + 14 * n + 4 * t) 3 (nI (T.2.1 t + 1))) (fun b _ => b < 8 + 14 * n + 4 * t ∨ 8 + 14 * n + 4 * t + 3 < b) := (((agr.rf.wJ (fun h => by omega)).wI (fun h => by omega)).wI (fun h => by omega)).wI (fun h => by omega)
        generalize sI (sI (sI (sJ S (8 + 14 * n + 4 * t + 1) (T.2.1 t) (cJ s)) (8 + 14 * n + 4 * t + 2) (T.2.1 t) (cI x)) (8 + 14 * n + 4 * t + 3) (T.2.1 t) (cI y)) (8 + 14 * n + 4 * t) 3 (nI (T.2.1 t + 1)) = S1 at *
        obtain ⟨c1, c2, c3, ⟨c4, c5⟩, l, l', c6⟩ := C
        refine ⟨c1.fr ga (Or.inl (by omega)) (fun b j _ _ => Or.inl (by omega)), c2.fr ga (Or.inl (by omega)) (fun b j _ _ => Or.inl (by omega)), ?_, ⟨?_, c5.fr ga (fun j => Or.inl (Or.inr (by omega)))⟩, l, l', c6.fr ga (Or.inl (by omega)) (Or.inl (by omega)) (fun b j _ _ => Or.inr (by omega))⟩
        · obtain ⟨⟨d1, d2, d3, d4, d5⟩, d6⟩ := c3
          refine ⟨⟨by rw [(ga.2 0 2 (Or.inl (by omega))).2.2]; exact d1, by rw [ga.o]; exact d2, by rw [ga.z]; exact d3, by rw [(ga.2 0 3 (Or.inl (by omega))).1]; exact d4, d5⟩, fun k hk => ⟨by rw [(ga.2 (7 + 14 * n) k (Or.inl (by omega))).2.2]; exact (d6 k hk).1, ?_⟩⟩
          unfold addP
          by_cases e : k = t
          · subst e
            simp only [upn_s]
            exact KS
          · simp only [upn_n _ _ e]
            exact (d6 k hk).2.fr ga (fun b j _ _ => by omega)
        · rw [(ga.2 0 4 (Or.inl (by omega))).2.2]; exact c4
      have M1 := M.up (S' := sI (sI (sI (sJ S (8 + 14 * n + 4 * t + 1) (T.2.1 t) (cJ s)) (8 + 14 * n + 4 * t + 2) (T.2.1 t) (cI x)) (8 + 14 * n + 4 * t + 3) (T.2.1 t) (cI y)) (8 + 14 * n + 4 * t) 3 (nI (T.2.1 t + 1))) ((((agr.rf.wJ (fun h => by unfold pU at h; omega)).wI (fun h => by unfold pU at h; omega)).wI (fun h => by unfold pU at h; omega)).wI (fun h => by unfold pU at h; omega))
      have sh1 : shp S (sI (sI (sI (sJ S (8 + 14 * n + 4 * t + 1) (T.2.1 t) (cJ s)) (8 + 14 * n + 4 * t + 2) (T.2.1 t) (cI x)) (8 + 14 * n + 4 * t + 3) (T.2.1 t) (cI y)) (8 + 14 * n + 4 * t) 3 (nI (T.2.1 t + 1))) := shp.rf
      clear k6 KS
      generalize sI (sI (sI (sJ S (8 + 14 * n + 4 * t + 1) (T.2.1 t) (cJ s)) (8 + 14 * n + 4 * t + 2) (T.2.1 t) (cI x)) (8 + 14 * n + 4 * t + 3) (T.2.1 t) (cI y)) (8 + 14 * n + 4 * t) 3 (nI (T.2.1 t + 1)) = S1 at *
      have M2 := M1.code (v := 0)
      have m3 := M2.2.2.1
      have m1 := M2.1.1
      have B := m3.2.2.2 t ht6
      have r11 : hi (sI S1 (49 + 14 * n) 0 0) (49 + 14 * n + 11) t = nI (T.2.1 t) := B.1.2.2.1
      have e30 : (nI (T.2.1 t) = (30 : Int32)) = (T.2.1 t = 30) := propext (nI_eq (b := 30) (by omega) (by omega))
      have e0 : (nI (T.2.1 t) ≤ (0 : Int32)) = (T.2.1 t = 0) := nI_le0 (by omega)
      have kt : (nI t).toNatClampNeg = t := nI_clamp (by omega)
      have kk : (nI (30 * t + T.2.1 t)).toNatClampNeg = 30 * t + T.2.1 t := nI_clamp (by omega)
      have p103 : ∀ P, PX7_place_103 P (49 + 14 * n) (nI t) (cJ s) (cJ x) (cJ y) (nI (30 * t + T.2.1 t)) (sI S1 (49 + 14 * n) 0 0) = P 1 (sI (sJ (sJ (sJ (sI S1 (49 + 14 * n) 0 0) (49 + 14 * n + 12) (30 * t + T.2.1 t) (cJ s)) (49 + 14 * n + 13) (30 * t + T.2.1 t) (cJ x)) (49 + 14 * n + 14) (30 * t + T.2.1 t) (cJ y)) (49 + 14 * n + 11) t (nI (T.2.1 t + 1))) := by
        intro P
        simp only [PX7_place_103, eq_true m1.1, is_J, ix_J, true_and, m1.r15, m1.r16, m1.r17, m1.r14, Option.some.injEq, exists_eq_left', forall_eq, eq_true (B.i12 q1), eq_true (B.i13 q1), eq_true (B.i14 q1), eq_true (m1.x11 ht6), kt, kk, r11, nI_1]
      refine Jo.mk (A' := A) (R' := R) (T' := addP T t s x y) (E' := E) (S1 := S1) (S2 := sI (sJ (sJ (sJ (sI S1 (49 + 14 * n) 0 0) (49 + 14 * n + 12) (30 * t + T.2.1 t) (cJ s)) (49 + 14 * n + 13) (30 * t + T.2.1 t) (cJ x)) (49 + 14 * n + 14) (30 * t + T.2.1 t) (cJ y)) (49 + 14 * n + 11) t (nI (T.2.1 t + 1))) 1 o6 (fun P => ?_) CS1 ?_ ?_ sh1 hA (hT.add ht g3)
      · have pp : PX7_place (49 + 14 * n) (nI t) (cJ s) (cJ x) (cJ y) S1 P = PX7_place_103 P (49 + 14 * n) (nI t) (cJ s) (cJ x) (cJ y) (nI (30 * t + T.2.1 t)) (sI S1 (49 + 14 * n) 0 0) := by
          simp only [PX7_place, PX7_place_63, eq_true M1.1.1.1, true_and, forall_eq, eq_true m1.1, m_track_in m3 ht, o10, false_implies, not_false_eq_true, true_implies, gs, gs1, gi' _ _ x hx, gi' _ _ y hy, g1, g2, zbt, m1.r14, Option.some.injEq, exists_eq_left', eq_true (m1.x11 ht6), kt, r11, e30, show ¬ T.2.1 t = 30 by omega, nI_30, e0]
          by_cases z : T.2.1 t = 0
          · simp [z]
          · have eq1 : nI (30 * t + T.2.1 t) - 1 = nI (30 * t + (T.2.1 t - 1)) := by
              rw [nI_pr (by omega)]
              congr 1
              omega
            have lt1 : (cJ ((T.2.2 t).1 (T.2.1 t - 1)) < cJ s) = ((T.2.2 t).1 (T.2.1 t - 1) < s) := by
              have b := (B.2 (T.2.1 t - 1) (by omega)).2.1
              rw [cJ_lt ⟨by omega, by omega⟩ hs]
            have lt2 := q4.resolve_left z
            simp only [z, false_implies, not_false_eq_true, true_implies, true_and, m1.r15, Option.some.injEq, exists_eq_left', eq1, eq_true (B.i12 (show T.2.1 t - 1 < 30 by omega)), B.s (show T.2.1 t - 1 < T.2.1 t by omega), lt1, lt2, not_true_eq_false, and_true]
        rw [pp, p103]
      · obtain ⟨d1, d2, d3, d4⟩ := M2
        have hM : Md (sI (sJ (sJ (sJ (sI S1 (49 + 14 * n) 0 0) (49 + 14 * n + 12) (30 * t + T.2.1 t) (cJ s)) (49 + 14 * n + 13) (30 * t + T.2.1 t) (cJ x)) (49 + 14 * n + 14) (30 * t + T.2.1 t) (cJ y)) (49 + 14 * n + 11) t (nI (T.2.1 t + 1))) (49 + 14 * n) := d1.1
        have w1 : ∀ k, hj (sI (sJ (sJ (sJ (sI S1 (49 + 14 * n) 0 0) (49 + 14 * n + 12) (30 * t + T.2.1 t) (cJ s)) (49 + 14 * n + 13) (30 * t + T.2.1 t) (cJ x)) (49 + 14 * n + 14) (30 * t + T.2.1 t) (cJ y)) (49 + 14 * n + 11) t (nI (T.2.1 t + 1))) (49 + 14 * n + 12) k = if k = 30 * t + T.2.1 t then cJ s else hj (sI S1 (49 + 14 * n) 0 0) (49 + 14 * n + 12) k := by
          intro k
          show up2 (up2 (up2 (hj S1) (49 + 14 * n + 12) (30 * t + T.2.1 t) (cJ s)) (49 + 14 * n + 13) (30 * t + T.2.1 t) (cJ x)) (49 + 14 * n + 14) (30 * t + T.2.1 t) (cJ y) (49 + 14 * n + 12) k = _
          simp [up2]
        have w2 : ∀ k, hj (sI (sJ (sJ (sJ (sI S1 (49 + 14 * n) 0 0) (49 + 14 * n + 12) (30 * t + T.2.1 t) (cJ s)) (49 + 14 * n + 13) (30 * t + T.2.1 t) (cJ x)) (49 + 14 * n + 14) (30 * t + T.2.1 t) (cJ y)) (49 + 14 * n + 11) t (nI (T.2.1 t + 1))) (49 + 14 * n + 13) k = if k = 30 * t + T.2.1 t then cJ x else hj (sI S1 (49 + 14 * n) 0 0) (49 + 14 * n + 13) k := by
          intro k
          show up2 (up2 (up2 (hj S1) (49 + 14 * n + 12) (30 * t + T.2.1 t) (cJ s)) (49 + 14 * n + 13) (30 * t + T.2.1 t) (cJ x)) (49 + 14 * n + 14) (30 * t + T.2.1 t) (cJ y) (49 + 14 * n + 13) k = _
          simp [up2]
        have w3 : ∀ k, hj (sI (sJ (sJ (sJ (sI S1 (49 + 14 * n) 0 0) (49 + 14 * n + 12) (30 * t + T.2.1 t) (cJ s)) (49 + 14 * n + 13) (30 * t + T.2.1 t) (cJ x)) (49 + 14 * n + 14) (30 * t + T.2.1 t) (cJ y)) (49 + 14 * n + 11) t (nI (T.2.1 t + 1))) (49 + 14 * n + 14) k = if k = 30 * t + T.2.1 t then cJ y else hj (sI S1 (49 + 14 * n) 0 0) (49 + 14 * n + 14) k := by
          intro k
          show up2 (up2 (up2 (hj S1) (49 + 14 * n + 12) (30 * t + T.2.1 t) (cJ s)) (49 + 14 * n + 13) (30 * t + T.2.1 t) (cJ x)) (49 + 14 * n + 14) (30 * t + T.2.1 t) (cJ y) (49 + 14 * n + 14) k = _
          simp [up2]
        have w0 : hi (sI (sJ (sJ (sJ (sI S1 (49 + 14 * n) 0 0) (49 + 14 * n + 12) (30 * t + T.2.1 t) (cJ s)) (49 + 14 * n + 13) (30 * t + T.2.1 t) (cJ x)) (49 + 14 * n + 14) (30 * t + T.2.1 t) (cJ y)) (49 + 14 * n + 11) t (nI (T.2.1 t + 1))) (49 + 14 * n + 11) t = nI (T.2.1 t + 1) := up2_same _ _ _ _
        have ga : agr (sI S1 (49 + 14 * n) 0 0) (sI (sJ (sJ (sJ (sI S1 (49 + 14 * n) 0 0) (49 + 14 * n + 12) (30 * t + T.2.1 t) (cJ s)) (49 + 14 * n + 13) (30 * t + T.2.1 t) (cJ x)) (49 + 14 * n + 14) (30 * t + T.2.1 t) (cJ y)) (49 + 14 * n + 11) t (nI (T.2.1 t + 1))) (fun b j => (b ≠ 49 + 14 * n + 11 ∨ j ≠ t) ∧ (b < 49 + 14 * n + 12 ∨ 49 + 14 * n + 14 < b ∨ j ≠ 30 * t + T.2.1 t)) := (((agr.rf.wJ (fun h => by omega)).wJ (fun h => by omega)).wJ (fun h => by omega)).wI (fun h => by omega)
        generalize sI (sJ (sJ (sJ (sI S1 (49 + 14 * n) 0 0) (49 + 14 * n + 12) (30 * t + T.2.1 t) (cJ s)) (49 + 14 * n + 13) (30 * t + T.2.1 t) (cJ x)) (49 + 14 * n + 14) (30 * t + T.2.1 t) (cJ y)) (49 + 14 * n + 11) t (nI (T.2.1 t + 1)) = S2 at *
        refine ⟨d1.fr ga hM ⟨by omega, by omega⟩ (fun b j _ _ => ⟨by omega, by omega⟩), d2.fr ga hM ⟨by omega, by omega⟩ (fun b j _ _ => ⟨by omega, by omega⟩), ⟨hM, by rw [(ga.2 (49 + 14 * n) 13 ⟨by omega, by omega⟩).1]; exact d3.2.1, h6, fun k hk => ?_⟩, d4.fr ga hM ⟨by omega, by omega⟩ (fun j => ⟨by omega, by omega⟩)⟩
        unfold addP
        by_cases e : k = t
        · subst e
          simp only [upn_s]
          refine ⟨⟨hM, hk, w0, by omega⟩, fun j hj0 => ?_⟩
          rw [w1, w2, w3]
          unfold bt
          by_cases e : j = T.2.1 k
          · subst e
            simp only [upn_s, if_true, and_self, true_and]
            exact ⟨⟨q2, q3⟩, crx, cry⟩
          · have e' : ¬ 30 * k + j = 30 * k + T.2.1 k := by omega
            simp only [upn_n _ _ e, if_neg e']
            exact B.2 j (by omega)
        · simp only [upn_n _ _ e]
          exact (d3.2.2.2 k hk).fr2 ga hM ⟨by omega, by omega⟩ (fun b j _ _ _ => ⟨by omega, by omega⟩)
      · exact ((((agr.rf.wI (fun h => by unfold pL at h; omega)).wJ (fun h => by unfold pL at h; omega)).wJ (fun h => by unfold pL at h; omega)).wJ (fun h => by unfold pL at h; omega)).wI (fun h => by unfold pL at h; omega)
    · have M2 := M.code (v := 0)
      have m3 := M2.2.2.1
      have m1 := M2.1.1
      have B := m3.2.2.2 t ht6
      have r11 : hi (sI S (49 + 14 * n) 0 0) (49 + 14 * n + 11) t = nI (T.2.1 t) := B.1.2.2.1
      have e30 : (nI (T.2.1 t) = (30 : Int32)) = (T.2.1 t = 30) := propext (nI_eq (b := 30) (by omega) (by omega))
      have e0 : (nI (T.2.1 t) ≤ (0 : Int32)) = (T.2.1 t = 0) := nI_le0 (by omega)
      have kt : (nI t).toNatClampNeg = t := nI_clamp (by omega)
      refine Jo.ro C M hA hT 0 (fun P => by rw [k6, if_neg hg]) (fun P => ?_)
      simp only [PX7_place, PX7_place_63, eq_true M.1.1.1, true_and, forall_eq, eq_true m1.1, m_track_in m3 ht, o10, false_implies, not_false_eq_true, true_implies, gs, gi' _ _ x hx, gi' _ _ y hy, zb_0, m1.r14, Option.some.injEq, exists_eq_left', eq_true (m1.x11 ht6), kt, r11, e30, nI_30, e0]
      cases z1 : gin s 0 40000000 with
      | false => simp
      | true =>
        cases z2 : gin x (-200) 200 with
        | false => simp
        | true =>
          cases z3 : gin y (-200) 200 with
          | false => simp
          | true =>
            by_cases z4 : T.2.1 t = 30
            · simp [z4]
            · have hq : gpl (T.2.1 t) (T.2.2 t) s = false := by
                cases q : gpl (T.2.1 t) (T.2.2 t) s with
                | false => rfl
                | true => exact absurd ⟨z2, z3, q⟩ hg
              unfold gin at z1
              simp at z1
              unfold gpl at hq
              simp [show T.2.1 t < 30 by omega, z1.1, z1.2] at hq
              have eq1 : nI (30 * t + T.2.1 t) - 1 = nI (30 * t + (T.2.1 t - 1)) := by
                rw [nI_pr (by omega)]
                congr 1
                omega
              have lt1 : (cJ ((T.2.2 t).1 (T.2.1 t - 1)) < cJ s) = ((T.2.2 t).1 (T.2.1 t - 1) < s) := by
                have b := (B.2 (T.2.1 t - 1) (by omega)).2.1
                rw [cJ_lt ⟨by omega, by omega⟩ hs]
              have lt2 : ¬ (T.2.2 t).1 (T.2.1 t - 1) < s := by omega
              simp only [reduceCtorEq, not_false_eq_true, not_true_eq_false, Bool.true_eq_false, false_implies, true_implies, true_and, z4, hq.1, m1.r15, Option.some.injEq, exists_eq_left', eq1, eq_true (B.i12 (show T.2.1 t - 1 < 30 by omega)), B.s (show T.2.1 t - 1 < T.2.1 t by omega), lt1, lt2, and_true]
  · have m3 := (M.code (v := 0)).2.2.1
    refine Jo.ro C M hA hT 0 (fun P => ?_) (fun P => ?_)
    · simp only [PX6_place, PX6_place_41, PX6_place_42, eq_true c1.o, true_and, c_track_out c3 c1.o h, not_true_eq_false, false_implies, true_implies, and_true, true_or]
    · simp only [PX7_place, PX7_place_63, eq_true M.1.1.1, true_and, forall_eq, eq_true m3.1.1, m_track_out m3 h, not_true_eq_false, false_implies, true_implies, and_true]
end
