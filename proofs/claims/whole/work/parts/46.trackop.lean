/-! track, place -/
section
variable {S : hs} {n : Nat} {A : Ga} {R : Nat × Gr} {T : Gk} {E : Gx}
theorem TrM.fr2 {S' : hs} {p : Nat → Nat → Prop} {Z t n : Nat} {G : Gt} (g : agr S S' p) (R : TrM S Z t n G) (hM : Md S' Z) (h11 : p (Z + 11) t) (hp : ∀ b k, Z + 12 ≤ b → b ≤ Z + 14 → k < 30 → p b (30 * t + k)) : TrM S' Z t n G := by
  obtain ⟨⟨-, r1, r2, r3⟩, r4⟩ := R
  refine ⟨⟨hM, r1, by rw [(g.2 _ _ h11).1]; exact r2, r3⟩, fun k hk => ⟨?_, (r4 k hk).2⟩⟩
  rw [(g.2 _ _ (hp (Z + 12) k (by omega) (by omega) (by omega))).2.1, (g.2 _ _ (hp (Z + 13) k (by omega) (by omega) (by omega))).2.1, (g.2 _ _ (hp (Z + 14) k (by omega) (by omega) (by omega))).2.1]
  exact (r4 k hk).1
theorem op_track (C : CS S n A R T E) (M : MS S n A R T E) (hA : WA n A) (hT : WT T) : Jo n (PX6_track 0) (PX7_track (49 + 14 * n)) S := by
  have c1 := C.1
  have c3 := C.2.2.1
  have h6 := c3.n6
  have e6 : (nI T.1 < nI 6) = (T.1 < 6) := nI_ltk (by omega) (by omega)
  have e7 : (nI T.1 = (6 : Int32)) = (T.1 = 6) := propext (nI_eq (b := 6) (by omega) (by omega))
  by_cases h : T.1 < 6
  · have o6 : ∀ P, PX6_track 0 S P = P (nI T.1) (sI S 0 3 (nI (T.1 + 1))) := by
      intro P
      simp only [PX6_track, eq_true c1.o, true_and, c3.r2, Option.some.injEq, exists_eq_left', eq_true c3.ao, c3.az, c3.nt, e6, h, not_true_eq_false, false_implies, true_implies, and_true, forall_eq, nI_1]
    have CS1 : CS (sI S 0 3 (nI (T.1 + 1))) n A R (T.1 + 1, T.2.1, T.2.2) E := by
      obtain ⟨c1, c2, c3, ⟨c4, c5⟩, l, l', c6⟩ := C
      have gg : agr S (sI S 0 3 (nI (T.1 + 1))) (fun b j => b ≠ 0 ∨ j ≠ 3) := agr.rf.wI (fun h => by omega)
      refine ⟨c1.fr gg (Or.inr (by omega)) (fun b j _ _ => Or.inl (by omega)), c2.fr gg (Or.inr (by omega)) (fun b j _ _ => Or.inl (by omega)), ?_, ⟨c4, c5.fr gg (fun j => Or.inr rfl)⟩, l, l', c6.fr gg (Or.inr (by omega)) (Or.inr (by omega)) (fun b j _ _ => Or.inl (by omega))⟩
      obtain ⟨⟨d1, d2, d3, d4, d5⟩, d6⟩ := c3
      exact ⟨⟨d1, d2, d3, (show hi (sI S 0 3 (nI (T.1 + 1))) 0 3 = nI (T.1 + 1) from up2_same _ _ _ _), by show T.1 + 1 ≤ 6; omega⟩, fun t ht => ⟨(d6 t ht).1, (d6 t ht).2.fr gg (fun b j _ _ => Or.inl (by omega))⟩⟩
    have M1 : MS (sI S 0 3 (nI (T.1 + 1))) n A R T E := M.up (agr.rf.wI (fun h => by unfold pU at h; omega))
    have sh1 : shp S (sI S 0 3 (nI (T.1 + 1))) := shp.rf
    generalize sI S 0 3 (nI (T.1 + 1)) = S1 at *
    have M2 := M1.code (v := 0)
    have m3 := M2.2.2.1
    have r1 : ∀ v, hi (sI (sI S1 (49 + 14 * n) 0 0) (49 + 14 * n + 11) T.1 v) (49 + 14 * n) 13 = nI T.1 := fun v => (rdI (S := sI S1 (49 + 14 * n) 0 0) (Or.inl (by omega))).trans m3.2.1
    have r2 : ∀ v w, hi (sI (sI (sI S1 (49 + 14 * n) 0 0) (49 + 14 * n + 11) T.1 v) (49 + 14 * n) 13 w) (49 + 14 * n) 13 = w := fun v w => up2_same _ _ _ _
    have z0 : T.2.1 T.1 = 0 := (hT T.1 h).1 (Nat.le_refl _)
    refine Jo.mk (A' := A) (R' := R) (T' := (T.1 + 1, T.2.1, T.2.2)) (E' := E) (S1 := S1) (S2 := sI (sI (sI S1 (49 + 14 * n) 0 0) (49 + 14 * n + 11) T.1 0) (49 + 14 * n) 13 (nI (T.1 + 1))) (nI T.1) o6 (fun P => ?_) CS1 ?_ ?_ sh1 hA ?_
    · simp only [PX7_track, eq_true M1.1.1.1, true_and, forall_eq, eq_true M2.1.1.1, m3.2.1, e7, show ¬ T.1 = 6 by omega, false_implies, not_false_eq_true, true_implies, m3.1.r14, Option.some.injEq, exists_eq_left', eq_true (m3.1.x11 h), nI_clamp (show T.1 < 2 ^ 31 by omega), is_I, r1, r2, nI_1, nI_pr (show 0 < T.1 + 1 by omega), Nat.add_sub_cancel]
    · obtain ⟨d1, d2, d3, d4⟩ := M2
      have gg : agr (sI S1 (49 + 14 * n) 0 0) (sI (sI (sI S1 (49 + 14 * n) 0 0) (49 + 14 * n + 11) T.1 0) (49 + 14 * n) 13 (nI (T.1 + 1))) (fun b j => (b ≠ 49 + 14 * n + 11 ∨ j ≠ T.1) ∧ (b ≠ 49 + 14 * n ∨ j ≠ 13)) := (agr.rf.wI (fun h => by omega)).wI (fun h => by omega)
      have hM : Md (sI (sI (sI S1 (49 + 14 * n) 0 0) (49 + 14 * n + 11) T.1 0) (49 + 14 * n) 13 (nI (T.1 + 1))) (49 + 14 * n) := d1.1
      refine ⟨d1.fr gg hM ⟨by omega, by omega⟩ (fun b j _ _ => ⟨by omega, by omega⟩), d2.fr gg hM ⟨by omega, by omega⟩ (fun b j _ _ => ⟨by omega, by omega⟩), ⟨hM, up2_same _ _ _ _, by show T.1 + 1 ≤ 6; omega, fun t ht => ?_⟩, d4.fr gg hM ⟨by omega, by omega⟩ (fun j => ⟨by omega, by omega⟩)⟩
      by_cases e : t = T.1
      · show TrM _ _ t (T.2.1 t) (T.2.2 t)
        rw [e, z0]
        refine ⟨⟨hM, h, ?_, by omega⟩, fun k hk => absurd hk (by omega)⟩
        rw [rdI (Or.inl (by omega))]
        exact up2_same _ _ _ _
      · exact (d3.2.2.2 t ht).fr2 gg hM ⟨by omega, by omega⟩ (fun b k _ _ _ => ⟨by omega, by omega⟩)
    · exact ((agr.rf.wI (fun h => by unfold pL at h; omega)).wI (fun h => by unfold pL at h; omega)).wI (fun h => by unfold pL at h; omega)
    · intro t ht
      refine ⟨fun h1 => (hT t ht).1 ?_, (hT t ht).2⟩
      have : T.1 + 1 ≤ t := h1
      omega
  · have e8 : nI T.1 = (6 : Int32) := by rw [e7]; omega
    have m3 := (M.code (v := 0)).2.2.1
    refine Jo.ro C M hA hT (-4) (fun P => ?_) (fun P => ?_)
    · simp only [PX6_track, eq_true c1.o, true_and, c3.r2, Option.some.injEq, exists_eq_left', eq_true c3.ao, c3.az, c3.nt, e6, h, not_false_eq_true, false_implies, true_implies]
    · simp only [PX7_track, eq_true M.1.1.1, true_and, forall_eq, eq_true m3.1.1, m3.2.1, eq_true e8, not_true_eq_false, false_implies, true_implies, and_true]
/-- a place may be added behind n others -/
def gpl (n : Nat) (G : Gt) (s : Int) : Bool := decide (n < 30) && (decide (0 ≤ s) && (decide (s ≤ 40000000) && (decide (n = 0) || decide (G.1 (n - 1) < s))))
theorem s_addPlace {a n : Nat} {G : Gt} {s x y : Int} {Post : Int32 → hs → Prop} (K : TrC S a n G) (hs : bJ s) : PX5_add a (cJ s) (cI x) (cI y) S Post = (if gpl n G s = true then Post 1 (sI (sI (sI (sJ S (a + 1) n (cJ s)) (a + 2) n (cI x)) (a + 3) n (cI y)) a 3 (nI (n + 1))) else Post 0 S) := by
  have h30 := K.n30
  have e30 : ((30 : Int32) ≤ nI n) = (30 ≤ n) := nI_lek (x := 30) (by omega) (by omega)
  have e0 : (cJ s < (0 : Int64)) = (s < 0) := by rw [j0, cJ_lt hs ⟨by omega, by omega⟩]
  have e4 : (cJ s ≤ (40000000 : Int64)) = (s ≤ 40000000) := by rw [show (40000000 : Int64) = cJ 40000000 from rfl, cJ_le hs ⟨by omega, by omega⟩]
  have en : (nI n ≤ (0 : Int32)) = (n = 0) := nI_le0 (by omega)
  have kc : (nI n).toNatClampNeg = n := nI_clamp (by omega)
  obtain ⟨f1, f2, f3⟩ := K.1.2.1
  have r1 : ∀ v, hi (sJ S (a + 1) n v) a 3 = nI n := fun v => K.sz
  have r2 : ∀ v w, hi (sI (sJ S (a + 1) n v) (a + 2) n w) a 3 = nI n := fun v w => (rdI (S := sJ S (a + 1) n v) (Or.inl (by omega))).trans K.sz
  have r3 : ∀ v w u, hi (sI (sI (sJ S (a + 1) n v) (a + 2) n w) (a + 3) n u) a 3 = nI n := fun v w u => (rdI (Or.inl (by omega))).trans (r2 v w)
  have q2 : ∀ v, hr (sJ S (a + 1) n v) a 1 = some (a + 2) := fun v => f2
  have q3 : ∀ v w, hr (sI (sJ S (a + 1) n v) (a + 2) n w) a 2 = some (a + 3) := fun v w => f3
  have add50 : n < 30 → (PX5_add_50 Post a (cJ s) (cI x) (cI y) S) = Post 1 (sI (sI (sI (sJ S (a + 1) n (cJ s)) (a + 2) n (cI x)) (a + 3) n (cI y)) a 3 (nI (n + 1))) := by
    intro h
    obtain ⟨i1, i2, i3⟩ := K.ix h
    simp only [PX5_add_50, eq_true K.1.1, true_and, f1, q2, q3, Option.some.injEq, exists_eq_left', K.sz, kc, eq_true i1, eq_true i2, eq_true i3, is_I, is_J, ix_I, ix_J, forall_eq, r1, r2, r3, nI_1]
  unfold gpl
  by_cases h1 : n < 30
  · simp only [PX5_add, PX5_add_23, eq_true K.1.1, true_and, K.sz, e30, show ¬ 30 ≤ n by omega, e0, e4, en, f1, Option.some.injEq, exists_eq_left', add50 h1, false_implies, not_false_eq_true, true_implies]
    by_cases h2 : s < 0
    · simp [h2, show ¬ 0 ≤ s by omega]
    · by_cases h3 : s ≤ 40000000
      · by_cases h4 : n = 0
        · simp [h2, h3, h4, show 0 ≤ s by omega]
        · obtain ⟨i1, -, -⟩ := K.ix (k := n - 1) (by omega)
          have b := (K.2 (n - 1) (by omega)).2.1
          have e5 : (cJ (G.1 (n - 1)) < cJ s) = (G.1 (n - 1) < s) := by rw [cJ_lt ⟨by omega, by omega⟩ hs]
          simp only [nI_pr (show 0 < n by omega), eq_true i1, nI_clamp (show n - 1 < 2 ^ 31 by omega), (K.2 (n - 1) (by omega)).1.1, e5]
          by_cases h5 : G.1 (n - 1) < s <;> simp [h1, h2, h3, h4, h5, show 0 ≤ s by omega]
      · simp [h2, h3]
  · simp only [PX5_add, PX5_add_23, eq_true K.1.1, true_and, K.sz, e30, show 30 ≤ n by omega, not_true_eq_false, false_implies, true_implies, and_true]
    simp [h1]
end
