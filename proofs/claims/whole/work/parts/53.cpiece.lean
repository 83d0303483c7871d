/-! the class cuts a piece at all sides of an area -/
section
variable {S : hs} {a n : Nat} {X Y : Nat → Int}
theorem s_xk {k : Nat} {Post : Int32 → hs → Prop} (R : RgC S a n X Y) (hk : k < n) : PX2_xOf a (nI k) S Post = Post (cI (X k)) S := by
  have hn := R.1.2.2.2.2.2.2.2.2
  have c1 : ¬ nI k < 0 := nI_pos (by omega)
  have c2 : ¬ nI n ≤ nI k := nI_ge hk (by omega)
  simp only [PX2_xOf, PX2_xOf_21, PX2_xOf_22, eq_true R.1.1, true_and, R.1.2.2.2.2.2.2.2.1, c1, c2, false_implies, not_false_eq_true, true_implies, R.1.2.1, Option.some.injEq, exists_eq_left', eq_true (R.ix1 hk), R.x hk]
theorem s_yk {k : Nat} {Post : Int32 → hs → Prop} (R : RgC S a n X Y) (hk : k < n) : PX2_yOf a (nI k) S Post = Post (cI (Y k)) S := by
  have hn := R.1.2.2.2.2.2.2.2.2
  have c1 : ¬ nI k < 0 := nI_pos (by omega)
  have c2 : ¬ nI n ≤ nI k := nI_ge hk (by omega)
  simp only [PX2_yOf, PX2_yOf_21, PX2_yOf_22, eq_true R.1.1, true_and, R.1.2.2.2.2.2.2.2.1, c1, c2, false_implies, not_false_eq_true, true_implies, R.1.2.2.1, Option.some.injEq, exists_eq_left', eq_true (R.ix2 hk), R.y hk]
theorem s_rsize {Post : Int32 → hs → Prop} (R : RgC S a n X Y) : PX2_size a S Post = Post (nI n) S := by
  simp only [PX2_size, eq_true R.1.1, true_and, R.1.2.2.2.2.2.2.2.1]
end
def unr (dx dy ax ay bx by_ : Int) : Int := dx * (by_ - ay) - dy * (bx - ax)
def ovr (px py ax ay bx by_ : Int) : Int := (ax - px) * (by_ - ay) - (ay - py) * (bx - ax)
def sg1 (z : Int) : Int := if 0 ≤ z then 1 else -1
/-- the cut that a side makes -/
def cv (px py dx dy ax ay bx by_ : Int) (x : Fr) : Prop := (0 < unr dx dy ax ay bx by_ * sg1 (unr dx dy ax ay bx by_) ∧ 0 ≤ so px py dx dy ax ay * sg1 (unr dx dy ax ay bx by_) ∧ so px py dx dy ax ay * sg1 (unr dx dy ax ay bx by_) ≤ unr dx dy ax ay bx by_ * sg1 (unr dx dy ax ay bx by_)) ∧ (0 ≤ ovr px py ax ay bx by_ * sg1 (unr dx dy ax ay bx by_) ∧ ovr px py ax ay bx by_ * sg1 (unr dx dy ax ay bx by_) ≤ unr dx dy ax ay bx by_ * sg1 (unr dx dy ax ay bx by_)) ∧ x = fr (ovr px py ax ay bx by_ * sg1 (unr dx dy ax ay bx by_)) (unr dx dy ax ay bx by_ * sg1 (unr dx dy ax ay bx by_))
def cd (c : Int) : Prop := -400 ≤ c ∧ c ≤ 400
theorem m16 {a b : Int} (ha : cd a) (hb : cd b) : -160000 ≤ a * b ∧ a * b ≤ 160000 := by
  have := mb (C := 400) (D := 400) (c := a) (w := b) ⟨by unfold cd at ha; omega, by unfold cd at ha; omega⟩ ⟨by unfold cd at hb; omega, by unfold cd at hb; omega⟩
  omega
theorem unr_b {dx dy ax ay bx by_ : Int} (h1 : cd dx) (h2 : cd dy) (h3 : cr ax) (h4 : cr ay) (h5 : cr bx) (h6 : cr by_) : -320000 ≤ unr dx dy ax ay bx by_ ∧ unr dx dy ax ay bx by_ ≤ 320000 := by
  have e1 := m16 (b := by_ - ay) h1 (by unfold cr at *; unfold cd; omega)
  have e2 := m16 (b := bx - ax) h2 (by unfold cr at *; unfold cd; omega)
  unfold unr
  omega
theorem ovr_b {px py ax ay bx by_ : Int} (h1 : cr px) (h2 : cr py) (h3 : cr ax) (h4 : cr ay) (h5 : cr bx) (h6 : cr by_) : -320000 ≤ ovr px py ax ay bx by_ ∧ ovr px py ax ay bx by_ ≤ 320000 := by
  have e1 := m16 (a := ax - px) (b := by_ - ay) (by unfold cr at *; unfold cd; omega) (by unfold cr at *; unfold cd; omega)
  have e2 := m16 (a := ay - py) (b := bx - ax) (by unfold cr at *; unfold cd; omega) (by unfold cr at *; unfold cd; omega)
  unfold ovr
  omega
theorem so_b {px py dx dy ax ay : Int} (h1 : cr px) (h2 : cr py) (h3 : cr ax) (h4 : cr ay) (h5 : cd dx) (h6 : cd dy) : -320000 ≤ so px py dx dy ax ay ∧ so px py dx dy ax ay ≤ 320000 := by
  have e1 := m16 (a := ax - px) (b := dy) (by unfold cr at *; unfold cd; omega) h6
  have e2 := m16 (a := ay - py) (b := dx) (by unfold cr at *; unfold cd; omega) h5
  unfold so
  omega
/-- where the piece begins, how it goes -/
def CP (S : hs) (a : Nat) (px py dx dy : Int) : Prop := (hj S a 6 = cJ px ∧ hj S a 7 = cJ py ∧ hj S a 8 = cJ dx ∧ hj S a 9 = cJ dy) ∧ (cr px ∧ cr py) ∧ cd dx ∧ cd dy
theorem CP.fr {S S' : hs} {a : Nat} {px py dx dy : Int} (C : CP S a px py dx dy) (g : agr S S' (pz a)) : CP S' a px py dx dy := by
  obtain ⟨⟨c1, c2, c3, c4⟩, c5⟩ := C
  refine ⟨⟨?_, ?_, ?_, ?_⟩, c5⟩
  · rw [(g.2 a 6 (by unfold pz; omega)).2.1]; exact c1
  · rw [(g.2 a 7 (by unfold pz; omega)).2.1]; exact c2
  · rw [(g.2 a 8 (by unfold pz; omega)).2.1]; exact c3
  · rw [(g.2 a 9 (by unfold pz; omega)).2.1]; exact c4
section
variable {S : hs} {a n : Nat} {f : Nat → Fr} {px py dx dy : Int}
theorem s_side {r nR k : Nat} {X Y : Nat → Int} (C : CU S a n f) (hI : CI n f) (hn : n < 50) (K : CP S a px py dx dy) (R : RgC S r nR X Y) (hk : k < nR) : ∃ S' n' f', (∀ Post, Post S' → PX4_cutAtSide a r (nI k) S Post) ∧ CU S' a n' f' ∧ addR n n' f f' (cv px py dx dy (X k) (Y k) (X (nx nR k)) (Y (nx nR k))) ∧ agr S S' (pz a) ∧ hr S' = hr S := by
  have hk' := nx_lt hk
  have b1 := (R.2 k hk).2
  have b2 := (R.2 _ hk').2
  obtain ⟨⟨k6, k7, k8, k9⟩, ⟨k1, k2⟩, k3, k4⟩ := K
  have bu := unr_b k3 k4 b1.1 b1.2 b2.1 b2.2
  have bo := ovr_b k1 k2 b1.1 b1.2 b2.1 b2.2
  have bs := so_b k1 k2 b1.1 b1.2 k3 k4
  have l1 : (cI (X (nx nR k) - X k)).toInt64 = cJ (X (nx nR k) - X k) := cI_l ⟨by omega, by omega⟩
  have l2 : (cI (Y (nx nR k) - Y k)).toInt64 = cJ (Y (nx nR k) - Y k) := cI_l ⟨by omega, by omega⟩
  have z0 : ((0 : Int64) ≤ cJ (unr dx dy (X k) (Y k) (X (nx nR k)) (Y (nx nR k)))) = (0 ≤ unr dx dy (X k) (Y k) (X (nx nR k)) (Y (nx nR k))) := by rw [j0, cJ_le ⟨by omega, by omega⟩ ⟨by omega, by omega⟩]
  have e : ∀ Post, PX4_cutAtSide a r (nI k) S Post = PX4_cutAtSide_121 Post a (cJ (unr dx dy (X k) (Y k) (X (nx nR k)) (Y (nx nR k)))) (cJ (ovr px py (X k) (Y k) (X (nx nR k)) (Y (nx nR k)))) (cJ (so px py dx dy (X k) (Y k))) (cJ (sg1 (unr dx dy (X k) (Y k) (X (nx nR k)) (Y (nx nR k))))) S := by
    intro Post
    simp only [PX4_cutAtSide, eq_true R.1.1, true_and, sp_next R hk, s_xk R hk', s_xk R hk, s_yk R hk', s_yk R hk, eq_true C.1.1, k6, k7, k8, k9, cI_sub, l1, l2, R.lx hk, R.ly hk, cJ_sub, cJ_mul, forall_eq]
    show (((0 : Int64) ≤ cJ (unr dx dy (X k) (Y k) (X (nx nR k)) (Y (nx nR k))) → PX4_cutAtSide_121 Post a (cJ (unr dx dy (X k) (Y k) (X (nx nR k)) (Y (nx nR k)))) (cJ (ovr px py (X k) (Y k) (X (nx nR k)) (Y (nx nR k)))) (cJ (so px py dx dy (X k) (Y k))) 1 S) ∧ (¬ (0 : Int64) ≤ cJ (unr dx dy (X k) (Y k) (X (nx nR k)) (Y (nx nR k))) → PX4_cutAtSide_121 Post a (cJ (unr dx dy (X k) (Y k) (X (nx nR k)) (Y (nx nR k)))) (cJ (ovr px py (X k) (Y k) (X (nx nR k)) (Y (nx nR k)))) (cJ (so px py dx dy (X k) (Y k))) (-1) S)) = _
    rw [z0]
    unfold sg1
    by_cases c : 0 ≤ unr dx dy (X k) (Y k) (X (nx nR k)) (Y (nx nR k))
    · rw [if_pos c]
      simp only [c, true_implies, not_true_eq_false, false_implies, and_true]
      rfl
    · rw [if_neg c]
      simp only [c, false_implies, not_false_eq_true, true_implies, true_and]
      rfl
  have sg : sg1 (unr dx dy (X k) (Y k) (X (nx nR k)) (Y (nx nR k))) = 1 ∨ sg1 (unr dx dy (X k) (Y k) (X (nx nR k)) (Y (nx nR k))) = -1 := by unfold sg1; split <;> omega
  have cvd : cv px py dx dy (X k) (Y k) (X (nx nR k)) (Y (nx nR k)) = fun x => (0 < unr dx dy (X k) (Y k) (X (nx nR k)) (Y (nx nR k)) * sg1 (unr dx dy (X k) (Y k) (X (nx nR k)) (Y (nx nR k))) ∧ 0 ≤ so px py dx dy (X k) (Y k) * sg1 (unr dx dy (X k) (Y k) (X (nx nR k)) (Y (nx nR k))) ∧ so px py dx dy (X k) (Y k) * sg1 (unr dx dy (X k) (Y k) (X (nx nR k)) (Y (nx nR k))) ≤ unr dx dy (X k) (Y k) (X (nx nR k)) (Y (nx nR k)) * sg1 (unr dx dy (X k) (Y k) (X (nx nR k)) (Y (nx nR k)))) ∧ (0 ≤ ovr px py (X k) (Y k) (X (nx nR k)) (Y (nx nR k)) * sg1 (unr dx dy (X k) (Y k) (X (nx nR k)) (Y (nx nR k))) ∧ ovr px py (X k) (Y k) (X (nx nR k)) (Y (nx nR k)) * sg1 (unr dx dy (X k) (Y k) (X (nx nR k)) (Y (nx nR k))) ≤ unr dx dy (X k) (Y k) (X (nx nR k)) (Y (nx nR k)) * sg1 (unr dx dy (X k) (Y k) (X (nx nR k)) (Y (nx nR k)))) ∧ x = fr (ovr px py (X k) (Y k) (X (nx nR k)) (Y (nx nR k)) * sg1 (unr dx dy (X k) (Y k) (X (nx nR k)) (Y (nx nR k)))) (unr dx dy (X k) (Y k) (X (nx nR k)) (Y (nx nR k)) * sg1 (unr dx dy (X k) (Y k) (X (nx nR k)) (Y (nx nR k)))) := rfl
  rw [cvd]
  clear cvd z0
  generalize sg1 (unr dx dy (X k) (Y k) (X (nx nR k)) (Y (nx nR k))) = s at *
  generalize unr dx dy (X k) (Y k) (X (nx nR k)) (Y (nx nR k)) = un at *
  generalize ovr px py (X k) (Y k) (X (nx nR k)) (Y (nx nR k)) = ov at *
  generalize so px py dx dy (X k) (Y k) = s0 at *
  have m1 : -320000 ≤ un * s ∧ un * s ≤ 320000 := by rcases sg with q | q <;> rw [q] <;> omega
  have m2 : -320000 ≤ ov * s ∧ ov * s ≤ 320000 := by rcases sg with q | q <;> rw [q] <;> omega
  have m3 : -320000 ≤ s0 * s ∧ s0 * s ≤ 320000 := by rcases sg with q | q <;> rw [q] <;> omega
  have hsh := fun (P : Int32 → hs → Prop) => s_share (S := S) (Post := P) (o := s0 * s) (u := un * s) ⟨by omega, by omega⟩ ⟨by omega, by omega⟩
  by_cases hs : 0 < un * s ∧ 0 ≤ s0 * s ∧ s0 * s ≤ un * s
  · obtain ⟨S', n', f', q1, q2, q3, q4, q5⟩ := s_addCut (o := ov * s) (u := un * s) C hI hn ⟨by omega, by omega⟩ m1
    refine ⟨S', n', f', fun Post h => ?_, q2, ⟨q3.1, q3.2.1, fun x => ?_⟩, q4, q5⟩
    · rw [e]
      have sh : (decide (0 < un * s) && (decide (0 ≤ s0 * s) && decide (s0 * s ≤ un * s))) = true := by simp [hs]
      simp only [PX4_cutAtSide_121, PX4_cutAtSide_153, cJ_mul, hsh, sh, zbt, false_implies, not_false_eq_true, true_implies, true_and, eq_true C.1.1]
      exact q1 _ h
    · rw [q3.2.2 x]
      constructor
      · rintro (q | ⟨w1, w2, w3⟩)
        · exact Or.inl q
        · exact Or.inr ⟨hs, w1, w3⟩
      · rintro (q | ⟨w1, w2, w3⟩)
        · exact Or.inl q
        · exact Or.inr ⟨w2, hs.1, w3⟩
  · refine ⟨S, n, f, fun Post h => ?_, C, ⟨hI, by omega, fun x => ⟨Or.inl, ?_⟩⟩, agr.rf, rfl⟩
    · rw [e]
      have sh : (decide (0 < un * s) && (decide (0 ≤ s0 * s) && decide (s0 * s ≤ un * s))) = false := by
        rw [Bool.eq_false_iff]
        intro q
        simp at q
        exact hs q
      simp only [PX4_cutAtSide_121, PX4_cutAtSide_153, cJ_mul, hsh, sh, zbf, not_true_eq_false, false_implies, true_implies, and_true]
      exact h
    · rintro (q | ⟨w1, -, -⟩)
      · exact q
      · exact absurd w1 hs
end
/-- the cuts of the sides before side k of ring r -/
def dn (sz : Nat → Nat) (X Y : Nat → Nat → Int) (px py dx dy : Int) (r k : Nat) (x : Fr) : Prop := ∃ r' k', (r' < r ∨ r' = r ∧ k' < k) ∧ k' < sz r' ∧ cv px py dx dy (X r' k') (Y r' k') (X r' (nx (sz r') k')) (Y r' (nx (sz r') k')) x
theorem dn_s {sz : Nat → Nat} {X Y : Nat → Nat → Int} {px py dx dy : Int} {r k : Nat} {x : Fr} (hk : k < sz r) : dn sz X Y px py dx dy r (k + 1) x ↔ (dn sz X Y px py dx dy r k x ∨ cv px py dx dy (X r k) (Y r k) (X r (nx (sz r) k)) (Y r (nx (sz r) k)) x) := by
  constructor
  · rintro ⟨r', k', h1, h2, h3⟩
    by_cases e : r' = r ∧ k' = k
    · obtain ⟨rfl, rfl⟩ := e
      exact Or.inr h3
    · exact Or.inl ⟨r', k', by omega, h2, h3⟩
  · rintro (⟨r', k', h1, h2, h3⟩ | h)
    · exact ⟨r', k', by omega, h2, h3⟩
    · exact ⟨r, k, by omega, hk, h⟩
theorem dn_r {sz : Nat → Nat} {X Y : Nat → Nat → Int} {px py dx dy : Int} {r : Nat} {x : Fr} : dn sz X Y px py dx dy r (sz r) x ↔ dn sz X Y px py dx dy (r + 1) 0 x := by
  constructor
  · rintro ⟨r', k', h1, h2, h3⟩
    exact ⟨r', k', by omega, h2, h3⟩
  · rintro ⟨r', k', h1, h2, h3⟩
    by_cases e : r' = r
    · subst e
      exact ⟨r', k', by omega, h2, h3⟩
    · exact ⟨r', k', by omega, h2, h3⟩
def LC (S : hs) (a n : Nat) (f : Nat → Fr) (sz : Nat → Nat) (X Y : Nat → Nat → Int) (px py dx dy : Int) (r k : Nat) : Prop := CU S a n f ∧ CI n f ∧ n ≤ 2 + 12 * r + k ∧ ∀ x, (∃ j, j < n ∧ f j = x) ↔ (x = (0, 1) ∨ x = (1, 1) ∨ dn sz X Y px py dx dy r k x)
section
variable {S : hs} {a n ar c : Nat} {f : Nat → Fr} {m : Bool} {sp : Int} {sz : Nat → Nat} {X Y : Nat → Nat → Int} {px py dx dy : Int}
theorem s_ring (har : ar + 13 < a) : ∀ (d k r : Nat) (S : hs) (n : Nat) (f : Nat → Fr), r < c → k + d = sz r → ArC S ar c m sp sz X Y → CP S a px py dx dy → LC S a n f sz X Y px py dx dy r k → ∃ S' n' f', (∀ Post K, K a ar (nI (r + 1)) S' → ∃ q, PX4_cutPiece_94 Post K q a ar (nI r) (ar + 2 + 3 * r) (nI k) S) ∧ LC S' a n' f' sz X Y px py dx dy r (sz r) ∧ agr S S' (pz a) ∧ hr S' = hr S := by
  intro d
  induction d with
  | zero =>
    intro k r S n f hr1 hk A K L
    have c4 := A.c4
    have R := A.r (r := r) (by omega)
    have h12 := R.1.2.2.2.2.2.2.2.2
    have e : k = sz r := by omega
    subst e
    refine ⟨S, n, f, fun Post K h => ⟨1, ?_⟩, L, agr.rf, rfl⟩
    have c1 : nI (sz r) ≤ nI (sz r) := nI_le (Nat.le_refl _) (by omega)
    simp only [PX4_cutPiece_94, eq_true R.1.1, true_and, s_rsize R, eq_true c1, true_implies, not_true_eq_false, false_implies, and_true, forall_eq, nI_1]
    exact h
  | succ d ih =>
    intro k r S n f hr1 hk A K L
    have c4 := A.c4
    have R := A.r (r := r) (by omega)
    have h12 := R.1.2.2.2.2.2.2.2.2
    obtain ⟨L1, L2, L3, L4⟩ := L
    obtain ⟨S1, n1, f1, p1, p2, p3, p4, p5⟩ := s_side L1 L2 (by omega) K R (show k < sz r by omega)
    have L' : LC S1 a n1 f1 sz X Y px py dx dy r (k + 1) := by
      refine ⟨p2, p3.1, by have := p3.2.1; omega, fun x => ?_⟩
      rw [p3.2.2 x, L4 x, dn_s (show k < sz r by omega)]
      constructor
      · rintro ((q | q | q) | q)
        · exact Or.inl q
        · exact Or.inr (Or.inl q)
        · exact Or.inr (Or.inr (Or.inl q))
        · exact Or.inr (Or.inr (Or.inr q))
      · rintro (q | q | q | q)
        · exact Or.inl (Or.inl q)
        · exact Or.inl (Or.inr (Or.inl q))
        · exact Or.inl (Or.inr (Or.inr q))
        · exact Or.inr q
    obtain ⟨S2, n2, f2, q1, q2, q3, q4⟩ := ih (k + 1) r S1 n1 f1 hr1 (by omega) (A.fr p4 (fun b j h1 h2 => by unfold pz; omega)) (K.fr p4) L'
    refine ⟨S2, n2, f2, fun Post K h => ?_, q2, p4.tr q3, q4.trans p5⟩
    obtain ⟨w, hw⟩ := q1 Post K h
    refine ⟨w + 1, ?_⟩
    have c1 : ¬ nI (sz r) ≤ nI k := nI_ge (by omega) (by omega)
    simp only [PX4_cutPiece_94, eq_true R.1.1, true_and, s_rsize R, c1, false_implies, not_false_eq_true, true_implies, eq_true L1.1.1, forall_eq, nI_1]
    exact p1 _ hw
theorem s_rings2 (har : ar + 13 < a) : ∀ (d r : Nat) (S : hs) (n : Nat) (f : Nat → Fr), r + d = c → ArC S ar c m sp sz X Y → CP S a px py dx dy → LC S a n f sz X Y px py dx dy r 0 → ∃ S' n' f', (∀ Post, Post S' → ∃ q, PX4_cutPiece_74 Post q a ar (nI r) S) ∧ LC S' a n' f' sz X Y px py dx dy c 0 ∧ agr S S' (pz a) ∧ hr S' = hr S := by
  intro d
  induction d with
  | zero =>
    intro r S n f hr1 A K L
    have c4 := A.c4
    have e : r = c := by omega
    subst e
    refine ⟨S, n, f, fun Post h => ⟨1, ?_⟩, L, agr.rf, rfl⟩
    have c1 : nI r ≤ nI r := nI_le (Nat.le_refl _) (by omega)
    simp only [PX4_cutPiece_74, eq_true A.o, true_and, s_rings A, eq_true c1, true_implies, not_true_eq_false, false_implies, and_true]
    exact h
  | succ d ih =>
    intro r S n f hr1 A K L
    have c4 := A.c4
    have R := A.r (r := r) (by omega)
    have h12 := R.1.2.2.2.2.2.2.2.2
    obtain ⟨S1, n1, f1, p1, p2, p3, p4⟩ := s_ring har (sz r) 0 r S n f (by omega) (by omega) A K L
    obtain ⟨S2, n2, f2, q1, q2, q3, q4⟩ := ih (r + 1) S1 n1 f1 (by omega) (A.fr p3 (fun b j h1 h2 => by unfold pz; omega)) (K.fr p3) ⟨p2.1, p2.2.1, by have := p2.2.2.1; omega, fun x => by rw [p2.2.2.2 x, dn_r]⟩
    refine ⟨S2, n2, f2, fun Post h => ?_, q2, p3.tr q3, q4.trans p4⟩
    obtain ⟨w, hw⟩ := q1 Post h
    refine ⟨w + 1, ?_⟩
    have c1 : ¬ nI c ≤ nI r := nI_ge (by omega) (by omega)
    simp only [PX4_cutPiece_74, eq_true A.o, true_and, s_rings A, c1, false_implies, not_false_eq_true, true_implies, s_ringOf A (show r < c by omega), Option.some.injEq, exists_eq_left']
    rw [← nI_0]
    exact p1 Post _ hw
theorem dn_0 {x : Fr} : ¬ dn sz X Y px py dx dy 0 0 x := by
  rintro ⟨r', k', h1, -⟩
  omega
/-- all cells but those of the cutting object -/
def pz2 (a b j : Nat) : Prop := b < a ∨ a + 4 < b
theorem s_piece {tr nT p : Nat} {T : Gt} (har : ar + 13 < a) (htr : tr + 3 < a) (Z : CZ S a) (A : ArC S ar c m sp sz X Y) (K : TrC S tr nT T) (hp : p + 1 < nT) : ∃ S' n' f', (∀ Post, Post S' → PX4_cutPiece a ar tr (nI p) S Post) ∧ LC S' a n' f' sz X Y (T.2.1 p) (T.2.2 p) (T.2.1 (p + 1) - T.2.1 p) (T.2.2 (p + 1) - T.2.2 p) c 0 ∧ CP S' a (T.2.1 p) (T.2.2 p) (T.2.1 (p + 1) - T.2.1 p) (T.2.2 (p + 1) - T.2.2 p) ∧ agr S S' (pz2 a) ∧ hr S' = hr S := by
  have h30 := K.n30
  have b1 := (K.2 p (by omega)).2.2
  have b2 := (K.2 (p + 1) hp).2.2
  have l1 : ∀ c : Int, cr c → (cI c).toInt64 = cJ c := fun c h => cI_l (by unfold cr at h; exact ⟨by omega, by omega⟩)
  have pp : ∀ S', agr S S' (fun b _ => b ≠ a) → TrC S' tr nT T := fun S' g => K.fr g (fun b j h1 h2 => by omega)
  have g1 : agr S (sJ S a 6 (cJ (T.2.1 p))) (fun b _ => b ≠ a) := agr.rf.wJ (fun h => h rfl)
  have g2 : agr S (sJ (sJ S a 6 (cJ (T.2.1 p))) a 7 (cJ (T.2.2 p))) (fun b _ => b ≠ a) := g1.wJ (fun h => h rfl)
  have g3 : agr S (sJ (sJ (sJ S a 6 (cJ (T.2.1 p))) a 7 (cJ (T.2.2 p))) a 8 (cJ (T.2.1 (p + 1) - T.2.1 p))) (fun b _ => b ≠ a) := g2.wJ (fun h => h rfl)
  have g4 : agr S (sI (sJ (sJ (sJ (sJ S a 6 (cJ (T.2.1 p))) a 7 (cJ (T.2.2 p))) a 8 (cJ (T.2.1 (p + 1) - T.2.1 p))) a 9 (cJ (T.2.2 (p + 1) - T.2.2 p))) a 2 0) (fun b _ => b ≠ a) := (g3.wJ (fun h => h rfl)).wI (fun h => h rfl)
  have f1 : hj (sJ (sJ S a 6 (cJ (T.2.1 p))) a 7 (cJ (T.2.2 p))) a 6 = cJ (T.2.1 p) := (rdJ (Or.inr (by omega))).trans (up2_same _ _ _ _)
  have f2 : hj (sJ (sJ (sJ S a 6 (cJ (T.2.1 p))) a 7 (cJ (T.2.2 p))) a 8 (cJ (T.2.1 (p + 1) - T.2.1 p))) a 7 = cJ (T.2.2 p) := (rdJ (Or.inr (by omega))).trans (up2_same _ _ _ _)
  have hCP : CP (sI (sJ (sJ (sJ (sJ S a 6 (cJ (T.2.1 p))) a 7 (cJ (T.2.2 p))) a 8 (cJ (T.2.1 (p + 1) - T.2.1 p))) a 9 (cJ (T.2.2 (p + 1) - T.2.2 p))) a 2 0) a (T.2.1 p) (T.2.2 p) (T.2.1 (p + 1) - T.2.1 p) (T.2.2 (p + 1) - T.2.2 p) := by
    refine ⟨⟨?_, ?_, ?_, ?_⟩, b1, by unfold cr at *; unfold cd; omega, by unfold cr at *; unfold cd; omega⟩
    · show hj (sJ (sJ (sJ (sJ S a 6 (cJ (T.2.1 p))) a 7 (cJ (T.2.2 p))) a 8 (cJ (T.2.1 (p + 1) - T.2.1 p))) a 9 (cJ (T.2.2 (p + 1) - T.2.2 p))) a 6 = _
      rw [rdJ (Or.inr (by omega)), rdJ (Or.inr (by omega)), f1]
    · show hj (sJ (sJ (sJ (sJ S a 6 (cJ (T.2.1 p))) a 7 (cJ (T.2.2 p))) a 8 (cJ (T.2.1 (p + 1) - T.2.1 p))) a 9 (cJ (T.2.2 (p + 1) - T.2.2 p))) a 7 = _
      rw [rdJ (Or.inr (by omega)), f2]
    · show hj (sJ (sJ (sJ (sJ S a 6 (cJ (T.2.1 p))) a 7 (cJ (T.2.2 p))) a 8 (cJ (T.2.1 (p + 1) - T.2.1 p))) a 9 (cJ (T.2.2 (p + 1) - T.2.2 p))) a 8 = _
      rw [rdJ (Or.inr (by omega))]; exact up2_same _ _ _ _
    · exact up2_same _ _ _ _
  have h0 : CU (sI (sJ (sJ (sJ (sJ S a 6 (cJ (T.2.1 p))) a 7 (cJ (T.2.2 p))) a 8 (cJ (T.2.1 (p + 1) - T.2.1 p))) a 9 (cJ (T.2.2 (p + 1) - T.2.2 p))) a 2 0) a 0 (fun _ => (0, 1)) := ⟨Z, ⟨up2_same _ _ _ _, by omega⟩, fun k hk => absurd hk (by omega)⟩
  have A0 : ArC (sI (sJ (sJ (sJ (sJ S a 6 (cJ (T.2.1 p))) a 7 (cJ (T.2.2 p))) a 8 (cJ (T.2.1 (p + 1) - T.2.1 p))) a 9 (cJ (T.2.2 (p + 1) - T.2.2 p))) a 2 0) ar c m sp sz X Y := A.fr g4 (fun b j h1 h2 => by omega)
  have eh : hr (sI (sJ (sJ (sJ (sJ S a 6 (cJ (T.2.1 p))) a 7 (cJ (T.2.2 p))) a 8 (cJ (T.2.1 (p + 1) - T.2.1 p))) a 9 (cJ (T.2.2 (p + 1) - T.2.2 p))) a 2 0) = hr S := rfl
  have e : ∀ Post : hs → Prop, PX4_cutPiece a ar tr (nI p) S Post = PX4_addCut a (cJ 0) (cJ 1) (sI (sJ (sJ (sJ (sJ S a 6 (cJ (T.2.1 p))) a 7 (cJ (T.2.2 p))) a 8 (cJ (T.2.1 (p + 1) - T.2.1 p))) a 9 (cJ (T.2.2 (p + 1) - T.2.2 p))) a 2 0) (fun S_62 => is S_62 4 a ∧ PX4_addCut a (cJ 1) (cJ 1) S_62 (fun S_68 => ∃ n, PX4_cutPiece_74 Post n a ar (nI 0) S_68)) := by
    intro Post
    simp only [PX4_cutPiece, eq_true K.1.1, true_and, s_tx K (show p < nT by omega), s_ty (pp _ g1) (show p < nT by omega), s_tx (pp _ g2) hp, s_ty (pp _ g3) hp, eq_true (pp _ g1).1.1, eq_true (pp _ g2).1.1, eq_true (pp _ g3).1.1, nI_1, forall_eq, is_J, is_I, eq_true Z.1, l1 _ b1.1, l1 _ b1.2, l1 _ b2.1, l1 _ b2.2, f1, f2, cJ_sub]
    rfl
  generalize sI (sJ (sJ (sJ (sJ S a 6 (cJ (T.2.1 p))) a 7 (cJ (T.2.2 p))) a 8 (cJ (T.2.1 (p + 1) - T.2.1 p))) a 9 (cJ (T.2.2 (p + 1) - T.2.2 p))) a 2 0 = S0 at *
  obtain ⟨S1, n1, f1', u1, u2, u3, u4, u5⟩ := s_addCut (o := 0) (u := 1) h0 ⟨fun k hk => absurd hk (by omega), fun j k _ hk => absurd hk (by omega)⟩ (by omega) ⟨by omega, by omega⟩ ⟨by omega, by omega⟩
  obtain ⟨S2, n2, f2', v1, v2, v3, v4, v5⟩ := s_addCut (o := 1) (u := 1) u2 u3.1 (by have := u3.2.1; omega) ⟨by omega, by omega⟩ ⟨by omega, by omega⟩
  have g12 := u4.tr v4
  have L0 : LC S2 a n2 f2' sz X Y (T.2.1 p) (T.2.2 p) (T.2.1 (p + 1) - T.2.1 p) (T.2.2 (p + 1) - T.2.2 p) 0 0 := by
    refine ⟨v2, v3.1, by have := u3.2.1; have := v3.2.1; omega, fun x => ?_⟩
    rw [v3.2.2 x, u3.2.2 x]
    have z1 : fr 0 1 = (0, 1) := by decide
    have z2 : fr 1 1 = (1, 1) := by decide
    constructor
    · rintro ((⟨k, hk, -⟩ | ⟨-, -, q⟩) | ⟨-, -, q⟩)
      · omega
      · exact Or.inl (by rw [q, z1])
      · exact Or.inr (Or.inl (by rw [q, z2]))
    · rintro (q | q | q)
      · exact Or.inl (Or.inr ⟨by omega, by omega, by rw [z1]; exact q⟩)
      · exact Or.inr ⟨by omega, by omega, by rw [z2]; exact q⟩
      · exact absurd q dn_0
  obtain ⟨S3, n3, f3', w1, w2, w3, w4⟩ := s_rings2 har c 0 S2 n2 f2' (by omega) (A0.fr g12 (fun b j h1 h2 => by unfold pz; omega)) (hCP.fr g12) L0
  refine ⟨S3, n3, f3', fun Post h => ?_, w2, hCP.fr (g12.tr w3), (g4.mono (fun b j h => by unfold pz2 at h; omega)).tr ((g12.tr w3).mono (fun b j h => by unfold pz2 at h; unfold pz; omega)), w4.trans (v5.trans (u5.trans eh))⟩
  rw [e]
  refine u1 _ ⟨u2.1.1, v1 _ (w1 Post h)⟩
end
