/-! both sides find the same stretches -/
section
variable {S S' : hs} {Z n t nT p i0 c : Nat} {f : Nat → Fr} {T : Gt} {m : Bool} {sp : Int} {sz : Nat → Nat} {X Y : Nat → Nat → Int} {px py dx dy : Int}
theorem lo_irr {x : Fr} : ¬ lo x x := fun q => by unfold lo at q; omega
theorem lo_asy {x y : Fr} (q1 : lo x y) : ¬ lo y x := fun q2 => by unfold lo at q1 q2; omega
theorem CI.ge (C : CI n f) {j k : Nat} (hj : j < n) (hk : k < n) (h : lo (f j) (f k)) : j < k := by
  refine Classical.byContradiction fun q => ?_
  by_cases e : j = k
  · subst e; exact lo_irr h
  · exact lo_asy h (C.2 k j (by omega) hj)
theorem nocut_of (C : CI n f) (hm : ∀ x, dn sz X Y px py dx dy c 0 x → ∃ j, j < n ∧ f j = x) {i : Nat} (hi0 : i + 1 < n) : nocutA c sz X Y px py dx dy (f i).1 (f i).2 (f (i + 1)).1 (f (i + 1)).2 := by
  intro r hr1 k hk h1 h2 h3
  refine Classical.byContradiction fun hne => ?_
  have hcv : ∀ x, cv px py dx dy (X r k) (Y r k) (X r (nx (sz r) k)) (Y r (nx (sz r) k)) x → ∃ j, j < n ∧ f j = x := fun x hx => hm x ⟨r, k, by omega, hk, hx⟩
  have ok1 := C.1 i (by omega)
  have ok2 := C.1 (i + 1) hi0
  have lab := C.2 i (i + 1) (by omega) hi0
  have ge := fun j (hj : j < n) => C.ge (show i < n by omega) hj
  have ge' := fun j (hj : j < n) => C.ge hj hi0
  have e1 : gP px py dx dy (X r k) (Y r k) (X r (nx (sz r) k)) (Y r (nx (sz r) k)) (f i).1 (f i).2 = (f i).2 * ovr px py (X r k) (Y r k) (X r (nx (sz r) k)) (Y r (nx (sz r) k)) - (f i).1 * unr dx dy (X r k) (Y r k) (X r (nx (sz r) k)) (Y r (nx (sz r) k)) := gP_e
  have e2 : gP px py dx dy (X r k) (Y r k) (X r (nx (sz r) k)) (Y r (nx (sz r) k)) (f (i + 1)).1 (f (i + 1)).2 = (f (i + 1)).2 * ovr px py (X r k) (Y r k) (X r (nx (sz r) k)) (Y r (nx (sz r) k)) - (f (i + 1)).1 * unr dx dy (X r k) (Y r k) (X r (nx (sz r) k)) (Y r (nx (sz r) k)) := gP_e
  have e3 : so px py dx dy (X r k) (Y r k) - so px py dx dy (X r (nx (sz r) k)) (Y r (nx (sz r) k)) = unr dx dy (X r k) (Y r k) (X r (nx (sz r) k)) (Y r (nx (sz r) k)) := un_e
  rw [e1, e2] at hne h3
  unfold cv at hcv
  revert hcv h1 h2 h3 hne e3
  generalize so px py dx dy (X r k) (Y r k) = sa
  generalize so px py dx dy (X r (nx (sz r) k)) (Y r (nx (sz r) k)) = sb
  generalize unr dx dy (X r k) (Y r k) (X r (nx (sz r) k)) (Y r (nx (sz r) k)) = un
  generalize ovr px py (X r k) (Y r k) (X r (nx (sz r) k)) (Y r (nx (sz r) k)) = ov
  intro h1 h2 h3 hne hcv e3
  have hs : (sg1 un = 1 ∧ 0 < un) ∨ (sg1 un = -1 ∧ un < 0) := by
    unfold sg1
    by_cases q : 0 ≤ un
    · left; exact ⟨if_pos q, by omega⟩
    · right; exact ⟨if_neg q, by omega⟩
  have hU : 0 < un * sg1 un := by rcases hs with ⟨q, w⟩ | ⟨q, w⟩ <;> rw [q] <;> omega
  have hsa : 0 ≤ sa * sg1 un ∧ sa * sg1 un ≤ un * sg1 un := by
    unfold bet at h1
    rcases hs with ⟨q, w⟩ | ⟨q, w⟩ <;> rw [q] <;> omega
  have pa : (f i).2 * (ov * sg1 un) - (f i).1 * (un * sg1 un) = ((f i).2 * ov - (f i).1 * un) * sg1 un := by grind
  have pb : (f (i + 1)).2 * (ov * sg1 un) - (f (i + 1)).1 * (un * sg1 un) = ((f (i + 1)).2 * ov - (f (i + 1)).1 * un) * sg1 un := by grind
  have hopp : (0 < (f i).2 * (ov * sg1 un) - (f i).1 * (un * sg1 un) ∧ (f (i + 1)).2 * (ov * sg1 un) - (f (i + 1)).1 * (un * sg1 un) < 0) ∨ ((f i).2 * (ov * sg1 un) - (f i).1 * (un * sg1 un) < 0 ∧ 0 < (f (i + 1)).2 * (ov * sg1 un) - (f (i + 1)).1 * (un * sg1 un)) := by
    rw [pa, pb]
    unfold bet at h3
    rcases hs with ⟨q, w⟩ | ⟨q, w⟩ <;> rw [q] <;> omega
  clear pa pb hs
  generalize un * sg1 un = U at *
  generalize ov * sg1 un = V at *
  obtain ⟨⟨o1, o2⟩, ⟨o3, o4⟩, -⟩ := ok1
  obtain ⟨⟨p1, p2⟩, ⟨p3, p4⟩, -⟩ := ok2
  rcases hopp with ⟨q1, q2⟩ | ⟨q1, q2⟩
  · have v1 := Int.mul_nonneg o1 (Int.le_of_lt hU)
    have v2 : 0 < V := (mpos o3).1.mp (by omega)
    have v3 := Int.mul_le_mul_of_nonneg_right p2 (Int.le_of_lt hU)
    have v4 : V < U := by
      have w := (mpos (y := U - V) p3).1
      rw [Int.mul_sub] at w
      omega
    obtain ⟨j, hj, e⟩ := hcv (fr V U) ⟨⟨hU, hsa.1, hsa.2⟩, ⟨by omega, by omega⟩, rfl⟩
    have l1 : lo (f i) (f j) := by rw [e, (fr_lo hU).1, Int.mul_comm V]; omega
    have l2 : lo (f j) (f (i + 1)) := by rw [e, (fr_lo hU).2, Int.mul_comm V]; omega
    have := ge j hj l1
    have := ge' j hj l2
    omega
  · have w1 := Int.mul_lt_mul_of_pos_left (show (f i).2 * V < (f i).1 * U by omega) p3
    have w2 := Int.mul_lt_mul_of_pos_left (show (f (i + 1)).1 * U < (f (i + 1)).2 * V by omega) o3
    have w3 : (f (i + 1)).2 * ((f i).2 * V) = (f i).2 * ((f (i + 1)).2 * V) := by grind
    have w4 : (f (i + 1)).2 * ((f i).1 * U) - (f i).2 * ((f (i + 1)).1 * U) = - (((f (i + 1)).1 * (f i).2 - (f i).1 * (f (i + 1)).2) * U) := by grind
    unfold lo at lab
    have w5 := Int.mul_pos (show 0 < (f (i + 1)).1 * (f i).2 - (f i).1 * (f (i + 1)).2 by omega) hU
    omega
theorem ev_of (hok : ∀ r, r < c → okR (sz r) (X r) (Y r)) (C : CI n f) (hm : ∀ x, dn sz X Y px py dx dy c 0 x → ∃ j, j < n ∧ f j = x) {i : Nat} (hi0 : i + 1 < n) : ev (fun x => gm c sz X Y px py dx dy x.1 x.2) (f i) (f (i + 1)) := by
  have nc := nocut_of C hm hi0
  have h1 : 0 < (f i).2 := (C.1 i (by omega)).2.1.1
  have h2 : 0 < (f (i + 1)).2 := (C.1 (i + 1) hi0).2.1.1
  have lab := C.2 i (i + 1) (by omega) hi0
  have q := mid_in h1 h2 lab
  have tr : ∀ x y : Fr, lo x y → 0 < x.2 * y.1 - x.1 * y.2 := fun x y h => by
    unfold lo at h
    rw [Int.mul_comm x.2]
    omega
  refine ⟨fun x x1 x2 x3 => ?_, fun hmid => ⟨?_, ?_⟩⟩
  · exact gm_in hok nc h1 h2 (tr _ _ lab) x1 (tr _ _ x2) (tr _ _ x3) q.1 (tr _ _ q.2.1) (tr _ _ q.2.2)
  · exact gm_a hok nc h1 h2 (tr _ _ lab) q.1 (tr _ _ q.2.1) (tr _ _ q.2.2) hmid
  · exact gm_b hok nc h1 h2 (tr _ _ lab) q.1 (tr _ _ q.2.1) (tr _ _ q.2.2) hmid
theorem m_stretch (hc : 0 < c) (hok : ∀ r, r < c → okR (sz r) (X r) (Y r)) (A : ArM S Z i0 c m sp sz X Y) (K : TrM S Z t nT T) (hp : p + 1 < nT) : ∃ S' n f D, (∀ Post, Post S' → PX7_stretch Z (nI i0) (nI (30 * t + p)) S Post) ∧ LM S' Z n f sz X Y (T.2.1 p) (T.2.2 p) (T.2.1 (p + 1) - T.2.1 p) (T.2.2 (p + 1) - T.2.2 p) c 0 ∧ MZ S' Z D ∧ (∀ p, p ∈ D → p.1 < n ∧ p.2 < n) ∧ D.map (fun p => (f p.1, f p.2)) = st (fun x => gm c sz X Y (T.2.1 p) (T.2.2 p) (T.2.1 (p + 1) - T.2.1 p) (T.2.2 (p + 1) - T.2.2 p) x.1 x.2) none (tl f 0 n) ∧ D.length ≤ n ∧ agr S S' (pj Z) ∧ hr S' = hr S := by
  have g0 : agr S (sI S Z 22 0) (pj Z) := agr.rf.wI (fun h => by unfold pj at h; omega)
  have C0 : MU (sI S Z 22 0) Z 0 (fun _ => (0, 1)) := ⟨A.M, ⟨up2_same _ _ _ _, by omega⟩, fun k hk => absurd hk (by omega)⟩
  obtain ⟨S1, n1, f1, u1, u2, u3, u4, u5⟩ := m_cut (o := 0) (u := 1) C0 ⟨fun k hk => absurd hk (by omega), fun j k _ hk => absurd hk (by omega)⟩ (by omega) ⟨by omega, by omega⟩ ⟨by omega, by omega, by omega⟩
  obtain ⟨S2, n2, f2, v1, v2, v3, v4, v5⟩ := m_cut (o := 1) (u := 1) u2 u3.1 (by have := u3.2.1; omega) ⟨by omega, by omega⟩ ⟨by omega, by omega, by omega⟩
  have g2 : agr S S2 (pj Z) := g0.tr ((u4.tr v4).mono (fun b j h => pk_pj h))
  have e2 : hr S2 = hr S := v5.trans u5
  have L0 : LM S2 Z n2 f2 sz X Y (T.2.1 p) (T.2.2 p) (T.2.1 (p + 1) - T.2.1 p) (T.2.2 (p + 1) - T.2.2 p) 0 0 := by
    refine ⟨v2, v3.1, by have := u3.2.1; have := v3.2.1; omega, fun x hx => ?_⟩
    rcases hx with q | q | q
    · exact v3.2.2.1 x (u3.2.2.2 x ⟨by decide, q⟩)
    · exact v3.2.2.2 x ⟨by decide, q⟩
    · exact absurd q dn_0
  obtain ⟨S3, n3, f3, w1, w2, w3, w4⟩ := m_rings2 hp c 0 S2 n2 f2 (by omega) (A.fj g2 e2) (K.fj g2 e2) L0
  have g3 : agr S S3 (pj Z) := g2.tr (w3.mono (fun b j h => pk_pj h))
  have e3 : hr S3 = hr S := w4.trans e2
  have g4 : agr S3 (sI S3 Z 25 0) (ph Z) := agr.rf.wI (fun h => by unfold ph at h; omega)
  have g5 : agr S (sI S3 Z 25 0) (pj Z) := g3.tr (g4.mono (fun b j h => ph_pj h))
  have hm3 : ∀ x, dn sz X Y (T.2.1 p) (T.2.2 p) (T.2.1 (p + 1) - T.2.1 p) (T.2.2 (p + 1) - T.2.2 p) c 0 x → ∃ j, j < n3 ∧ f3 j = x := fun x hx => w2.2.2.2 x (Or.inr (Or.inr hx))
  obtain ⟨S4, D, q1, q2, q3, q4, q5, q6, q7⟩ := m_find (n := n3) (f := f3) (i0 := i0) (m := m) (sp := sp) (Z := Z) (t := t) hc hp w2.2.1 (fun j hj h => ((ev_of hok w2.2.1 hm3 hj).2 h).2) n3 0 (sI S3 Z 25 0) [] none (by omega) (w2.1.fh g4 rfl) (A.fj g5 e3) (K.fj g5 e3) ⟨up2_same _ _ _ _, fun k p h => by cases h⟩ (by simp) (fun p hp => by cases hp) (fun b hb => by cases hb)
  refine ⟨S4, n3, f3, D, fun Post h => ?_, ⟨(w2.1.fh g4 rfl).fh q6 q7, w2.2⟩, q2, q3, by simpa using q4, q5, g5.tr (q6.mono (fun b j h => ph_pj h)), q7.trans e3⟩
  simp only [PX7_stretch, eq_true A.M.1, true_and, forall_eq, is_I, j0, j1]
  refine u1 _ ⟨u2.1.1, v1 _ ?_⟩
  rw [← nI_0]
  exact w1 Post (q1 Post h)
/-- a list of cuts that begins with 0, ends with 1 -/
theorem CI.head (C : CI n f) (h : ∃ j, j < n ∧ f j = (0, 1)) : 0 < n ∧ f 0 = (0, 1) := by
  obtain ⟨j, hj, e⟩ := h
  by_cases z : j = 0
  · subst z; exact ⟨hj, e⟩
  · exfalso
    have q := C.2 0 j (by omega) hj
    have b := (C.1 0 (by omega)).1.1
    rw [e] at q
    unfold lo at q
    simp at q
    omega
theorem CI.last (C : CI n f) (h : ∃ j, j < n ∧ f j = (1, 1)) : f (n - 1) = (1, 1) := by
  obtain ⟨j, hj, e⟩ := h
  by_cases z : j = n - 1
  · subst z; exact e
  · exfalso
    have q := C.2 j (n - 1) (by omega) (by omega)
    have b := (C.1 (n - 1) (by omega)).1.2
    rw [e] at q
    unfold lo at q
    simp at q
    omega
theorem CI.inj (C : CI n f) {j k : Nat} (hj : j < n) (hk : k < n) (h : f j = f k) : j = k := by
  rcases Nat.lt_trichotomy j k with q | q | q
  · have := C.2 j k q hk
    rw [h] at this
    exact absurd this lo_irr
  · exact q
  · have := C.2 k j q hj
    rw [h] at this
    exact absurd this lo_irr
theorem st_pure {n' : Nat} {f' : Nat → Fr} (hok : ∀ r, r < c → okR (sz r) (X r) (Y r)) (C : CI n f) (hm : ∀ x, (∃ j, j < n ∧ f j = x) ↔ (x = (0, 1) ∨ x = (1, 1) ∨ dn sz X Y px py dx dy c 0 x)) (C' : CI n' f') (hm' : ∀ x, (x = (0, 1) ∨ x = (1, 1) ∨ dn sz X Y px py dx dy c 0 x) → ∃ j, j < n' ∧ f' j = x) : st (fun x => gm c sz X Y px py dx dy x.1 x.2) none (tl f 0 n) = st (fun x => gm c sz X Y px py dx dy x.1 x.2) none (tl f' 0 n') := by
  obtain ⟨n0, h0⟩ := C.head ((hm _).mpr (Or.inl rfl))
  obtain ⟨n0', h0'⟩ := C'.head (hm' _ (Or.inl rfl))
  obtain ⟨d, rfl⟩ : ∃ d, n = d + 1 := ⟨n - 1, by omega⟩
  obtain ⟨d', rfl⟩ : ∃ d', n' = d' + 1 := ⟨n' - 1, by omega⟩
  have hm1 : ∀ x, dn sz X Y px py dx dy c 0 x → ∃ j, j < d + 1 ∧ f j = x := fun x hx => (hm x).mpr (Or.inr (Or.inr hx))
  show st _ none (f 0 :: tl f 1 d) = st _ none (f' 0 :: tl f' 1 d')
  rw [h0']
  have p1 : List.Pairwise lo (f 0 :: tl f 1 d) := tl_pair (f := f) (i := 0) (d := d + 1) (fun j k _ h2 h3 => C.2 j k h2 (by omega))
  have p2 : List.Pairwise lo (f' 0 :: tl f' 1 d') := tl_pair (f := f') (i := 0) (d := d' + 1) (fun j k _ h2 h3 => C'.2 j k h2 (by omega))
  have a1 : adj (ev (fun x => gm c sz X Y px py dx dy x.1 x.2)) (f 0 :: tl f 1 d) := adj_tl (f := f) (i := 0) (d := d + 1) (fun j _ h2 => ev_of hok C hm1 (by omega))
  rw [h0] at p1 a1 ⊢
  rw [h0'] at p2
  refine st_eq (z := (1, 1)) _ _ _ _ a1 p1 p2 (fun x hx => ?_) ?_ (fun x hx q => ?_) (fun x hx => ?_)
  · obtain ⟨k, k1, k2, rfl⟩ := tl_mem.mp hx
    obtain ⟨j, j1, j2⟩ := hm' (f k) ((hm (f k)).mp ⟨k, by omega, rfl⟩)
    refine tl_mem.mpr ⟨j, ?_, by omega, j2⟩
    refine Nat.pos_of_ne_zero fun q => ?_
    subst q
    rw [h0', ← h0] at j2
    have := C.inj (by omega) (by omega) j2
    omega
  · obtain ⟨j, j1, j2⟩ := (hm (1, 1)).mpr (Or.inr (Or.inl rfl))
    by_cases z : j = 0
    · subst z
      rw [h0] at j2
      exact absurd j2 (by decide)
    · exact List.mem_cons_of_mem _ (tl_mem.mpr ⟨j, by omega, by omega, j2⟩)
  · obtain ⟨k, k1, k2, rfl⟩ := tl_mem.mp hx
    have := (C'.1 k (by omega)).1.2
    unfold lo at q
    simp at q
    omega
  · rcases List.mem_cons.mp hx with q | q
    · subst q; decide
    · obtain ⟨k, k1, k2, rfl⟩ := tl_mem.mp q
      exact (C'.1 k (by omega)).2.1.1
/-- a list of just the cuts of an area's sides -/
def isC2 (c : Nat) (sz : Nat → Nat) (X Y : Nat → Nat → Int) (px py dx dy : Int) (q : Nat × (Nat → Fr)) : Prop := CI q.1 q.2 ∧ ∀ x, (∃ j, j < q.1 ∧ q.2 j = x) ↔ (x = (0, 1) ∨ x = (1, 1) ∨ dn sz X Y px py dx dy c 0 x)
/-- the stretches, whatever the cuts beside those -/
noncomputable def strs (c : Nat) (sz : Nat → Nat) (X Y : Nat → Nat → Int) (px py dx dy : Int) : List (Fr × Fr) := @dite _ (∃ q, isC2 c sz X Y px py dx dy q) (Classical.propDecidable _) (fun h => st (fun x => gm c sz X Y px py dx dy x.1 x.2) none (tl (Classical.choose h).2 0 (Classical.choose h).1)) (fun _ => [])
theorem strs_m {n' : Nat} {f' : Nat → Fr} (hok : ∀ r, r < c → okR (sz r) (X r) (Y r)) (h : ∃ q, isC2 c sz X Y px py dx dy q) (C' : CI n' f') (hm' : ∀ x, (x = (0, 1) ∨ x = (1, 1) ∨ dn sz X Y px py dx dy c 0 x) → ∃ j, j < n' ∧ f' j = x) : st (fun x => gm c sz X Y px py dx dy x.1 x.2) none (tl f' 0 n') = strs c sz X Y px py dx dy := by
  unfold strs
  rw [dif_pos h]
  have q := Classical.choose_spec h
  exact (st_pure hok q.1 q.2 C' hm').symm
theorem LC.ex {a : Nat} (L : LC S a n f sz X Y px py dx dy c 0) : ∃ q, isC2 c sz X Y px py dx dy q := ⟨(n, f), L.2.1, L.2.2.2⟩
theorem LC.st {a : Nat} (hok : ∀ r, r < c → okR (sz r) (X r) (Y r)) (L : LC S a n f sz X Y px py dx dy c 0) : st (fun x => gm c sz X Y px py dx dy x.1 x.2) none (tl f 0 n) = strs c sz X Y px py dx dy := strs_m hok L.ex L.2.1 (fun x => (L.2.2.2 x).mpr)
theorem LM.st (hok : ∀ r, r < c → okR (sz r) (X r) (Y r)) (h : ∃ q, isC2 c sz X Y px py dx dy q) (L : LM S Z n f sz X Y px py dx dy c 0) : st (fun x => gm c sz X Y px py dx dy x.1 x.2) none (tl f 0 n) = strs c sz X Y px py dx dy := strs_m hok h L.2.1 L.2.2.2
theorem LC.h0 {a : Nat} (L : LC S a n f sz X Y px py dx dy c 0) : (0 < n ∧ f 0 = (0, 1)) ∧ f (n - 1) = (1, 1) := ⟨L.2.1.head ((L.2.2.2 _).mpr (Or.inl rfl)), L.2.1.last ((L.2.2.2 _).mpr (Or.inr (Or.inl rfl)))⟩
theorem LM.h0 (L : LM S Z n f sz X Y px py dx dy c 0) : (0 < n ∧ f 0 = (0, 1)) ∧ f (n - 1) = (1, 1) := ⟨L.2.1.head (L.2.2.2 _ (Or.inl rfl)), L.2.1.last (L.2.2.2 _ (Or.inr (Or.inl rfl)))⟩
end
