/-! buffer, entry, side -/
def cnt (p : Nat → Bool) (j : Nat) (c : Nat) : Nat := if p j = true then c + 1 else c
theorem cnt_le (p : Nat → Bool) : ∀ d j c, itr (cnt p) j d c ≤ c + d
  | 0, j, c => Nat.le_refl _
  | d + 1, j, c => by
    have := cnt_le p d (j + 1) (cnt p j c)
    have h : cnt p j c ≤ c + 1 := by unfold cnt; split <;> omega
    show itr (cnt p) (j + 1) d (cnt p j c) ≤ _
    omega
theorem cnt_0 (p : Nat → Bool) : ∀ d j c, (∀ i, j ≤ i → i < j + d → p i = false) → itr (cnt p) j d c = c
  | 0, j, c, _ => rfl
  | d + 1, j, c, h => by
    show itr (cnt p) (j + 1) d (cnt p j c) = c
    have h1 : cnt p j c = c := by unfold cnt; rw [h j (Nat.le_refl _) (by omega)]; rfl
    rw [h1]
    exact cnt_0 p d (j + 1) c (fun i h1 h2 => h i (by omega) (by omega))
section
variable {S : hs} {n : Nat} {A : Ga} {R : Nat × Gr} {T : Gk} {X : Gx}
/-- the places of track t that are in area i or near it -/
def gbf (A : Ga) (T : Gk) (i : Nat) (d : Int) (t : Nat) (c : Nat) : Nat := itr (cnt (fun k => gby (A.1 i) (A.2.2.2.1 i) (A.2.2.2.2.1 i) (A.2.2.2.2.2 i) ((T.2.2 t).2.1 k) ((T.2.2 t).2.2 k) d)) 0 (T.2.1 t) c
theorem c_buf {i : Nat} {d : Int} {Post : Int32 → hs → Prop} (C : CS S n A R T X) (hi0 : i < n) (hc : 0 < A.1 i) (hd : 0 ≤ d ∧ d ≤ 400) : PX6_buffer 0 (nI i) (cJ d) S Post = Post (nI (itr (gbf A T i d) 0 T.1 0)) S := by
  obtain ⟨c1, -, c3, -⟩ := C
  have h12 := c1.n12
  have h6 := c3.n6
  have hdJ : bJ d := ⟨by omega, by omega⟩
  have th : thr n A (nI i) = true := by rw [thr_in hi0 h12.2]; simp [hc]
  have d0 : ¬ cJ d < (0 : Int64) := by rw [j0, cJ_lt hdJ ⟨by omega, by omega⟩]; omega
  have d4 : cJ d ≤ (400 : Int64) := by rw [show (400 : Int64) = cJ 400 from rfl, cJ_le hdJ ⟨by omega, by omega⟩]; omega
  have hin : ∀ (K : Nat → Int32 → Int64 → Int32 → Int32 → hs → Prop) (t c : Nat), t < 6 → (∃ f, PX6_buffer_64 Post K f 0 (nI i) (cJ d) (nI c) (nI t) (8 + 14 * n + 4 * t) (nI 0) S) = K 0 (nI i) (cJ d) (nI (gbf A T i d t c)) (nI (t + 1)) S := by
    intro K t c ht
    have R := c3.t ht
    have h30 := R.n30
    refine loopI (σ := Nat) (P := fun f k c => PX6_buffer_64 Post K f 0 (nI i) (cJ d) (nI c) (nI t) (8 + 14 * n + 4 * t) (nI k) S) (g := cnt (fun k => gby (A.1 i) (A.2.2.2.1 i) (A.2.2.2.2.1 i) (A.2.2.2.2.2 i) ((T.2.2 t).2.1 k) ((T.2.2 t).2.2 k) d)) (rN := fun c => K 0 (nI i) (cJ d) (nI c) (nI (t + 1)) S) (N := T.2.1 t) (fun _ _ => True) (fun j s => rfl) (fun f k c hk _ => ?_) (fun _ _ _ _ => trivial) (fun f c _ => ?_) (T.2.1 t) 0 c (by omega) trivial
    · have c4 : ¬ nI (T.2.1 t) ≤ nI k := nI_ge hk (by omega)
      have b := (R.2 k hk).2
      have l1 : (cI ((T.2.2 t).2.1 k)).toInt64 = cJ ((T.2.2 t).2.1 k) := cI_l (by have := b.2.1; unfold cr at this; exact ⟨by omega, by omega⟩)
      have l2 : (cI ((T.2.2 t).2.2 k)).toInt64 = cJ ((T.2.2 t).2.2 k) := cI_l (by have := b.2.2; unfold cr at this; exact ⟨by omega, by omega⟩)
      show PX6_buffer_64 Post K (f + 1) 0 (nI i) (cJ d) (nI c) (nI t) (8 + 14 * n + 4 * t) (nI k) S = _
      simp only [PX6_buffer_64, PX6_buffer_106, eq_true R.1.1, true_and, s_places R, c4, false_implies, not_false_eq_true, true_implies, eq_true c1.o, c1.r0, Option.some.injEq, exists_eq_left', eq_true (c1.ix hi0), c1.ri hi0, s_tx R hk, s_ty R hk, eq_true (c1.a hi0).o, l1, l2, s_inOrNear (c1.a hi0) b.2.1 b.2.2 hd, zb_0, nI_1, forall_eq]
      cases hg : gby (A.1 i) (A.2.2.2.1 i) (A.2.2.2.2.1 i) (A.2.2.2.2.2 i) ((T.2.2 t).2.1 k) ((T.2.2 t).2.2 k) d <;> simp [cnt, hg]
    · have c4 : nI (T.2.1 t) ≤ nI (T.2.1 t) := nI_le (Nat.le_refl _) (by omega)
      show PX6_buffer_64 Post K (f + 1) 0 (nI i) (cJ d) (nI c) (nI t) (8 + 14 * n + 4 * t) (nI (T.2.1 t)) S = _
      simp only [PX6_buffer_64, eq_true R.1.1, true_and, s_places R, c4, not_true_eq_false, false_implies, true_implies, and_true, nI_1, forall_eq]
  have hl : (∃ f, PX6_buffer_33 Post f 0 (nI i) (cJ d) (nI 0) (nI 0) S) = Post (nI (itr (gbf A T i d) 0 T.1 0)) S := by
    refine loopI (σ := Nat) (P := fun f t c => PX6_buffer_33 Post f 0 (nI i) (cJ d) (nI c) (nI t) S) (g := gbf A T i d) (rN := fun c => Post (nI c) S) (N := T.1) (fun _ _ => True) (fun j s => rfl) (fun f t c ht _ => ?_) (fun _ _ _ _ => trivial) (fun f c _ => ?_) T.1 0 0 (by omega) trivial
    · have c4 : ¬ nI T.1 ≤ nI t := nI_ge ht (by omega)
      have c5 : ¬ nI 6 ≤ nI t := nI_ge (by omega) (by omega)
      have t6 : t < 6 := by omega
      have e := hin (PX6_buffer_33 Post f) t c t6
      rw [nI_0] at e
      show PX6_buffer_33 Post (f + 1) 0 (nI i) (cJ d) (nI c) (nI t) S = _
      simp only [PX6_buffer_33, eq_true c1.o, true_and, c3.nt, c4, false_implies, not_false_eq_true, true_implies, c3.r2, Option.some.injEq, exists_eq_left', eq_true c3.ao, c3.az, c5, eq_true (c3.ix t6), c3.ri t6, e]
    · have c4 : nI T.1 ≤ nI T.1 := nI_le (Nat.le_refl _) (by omega)
      show PX6_buffer_33 Post (f + 1) 0 (nI i) (cJ d) (nI c) (nI T.1) S = _
      simp only [PX6_buffer_33, PX6_buffer_118, eq_true c1.o, true_and, c3.nt, c4, not_true_eq_false, false_implies, true_implies, and_true]
  rw [nI_0] at hl
  simp only [PX6_buffer, eq_true c1.o, true_and, c_thr c1, th, zbt, d0, d4, false_implies, not_false_eq_true, true_implies, not_true_eq_false, and_true, hl]
theorem m_buf {i : Nat} {d : Int} {Post : Int32 → hs → Prop} (M0 : MS S n A R T X) (hn : n ≤ 12) (hi0 : i < n) (hc : 0 < A.1 i) (hd : 0 ≤ d ∧ d ≤ 400) : PX7_buffer (49 + 14 * n) (nI i) (cJ d) S Post = Post (nI (itr (gbf A T i d) 0 T.1 0)) (sI S (49 + 14 * n) 0 0) := by
  obtain ⟨c1, -, c3, -⟩ := M0.code (v := 0)
  have o0 := M0.1.1.1
  generalize 49 + 14 * n = Z at *
  generalize e0 : sI S Z 0 0 = S' at *
  have M := c1.M
  have h6 := c3.2.2.1
  have hdJ : bJ d := ⟨by omega, by omega⟩
  have th : thr n A (nI i) = true := by rw [thr_in hi0 hn]; simp [hc]
  have gi : gin d 0 400 = true := by unfold gin; simp [hd]
  have hin : ∀ (K : Nat → Int32 → Int64 → Int32 → Int32 → hs → Prop) (t c : Nat), t < 6 → (∃ f, PX7_buffer_51 Post K f Z (nI i) (cJ d) (nI c) (nI t) (nI (30 * t + 0)) S') = K Z (nI i) (cJ d) (nI (gbf A T i d t c)) (nI (t + 1)) S' := by
    intro K t c ht
    have R := c3.2.2.2 t ht
    have h30 := R.1.2.2.2
    have es : hi S' (Z + 11) (nI t).toNatClampNeg = nI (T.2.1 t) := by rw [nI_clamp (by omega)]; exact R.1.2.2.1
    refine loopI (σ := Nat) (P := fun f k c => PX7_buffer_51 Post K f Z (nI i) (cJ d) (nI c) (nI t) (nI (30 * t + k)) S') (g := cnt (fun k => gby (A.1 i) (A.2.2.2.1 i) (A.2.2.2.2.1 i) (A.2.2.2.2.2 i) ((T.2.2 t).2.1 k) ((T.2.2 t).2.2 k) d)) (rN := fun c => K Z (nI i) (cJ d) (nI c) (nI (t + 1)) S') (N := T.2.1 t) (fun _ _ => True) (fun j s => rfl) (fun f k c hk _ => ?_) (fun _ _ _ _ => trivial) (fun f c _ => ?_) (T.2.1 t) 0 c (by omega) trivial
    · have c4 : ¬ nI (30 * t + T.2.1 t) ≤ nI (30 * t + k) := nI_ge (by omega) (by omega)
      have b := (R.2 k hk).2
      have e1 : nI (30 * t + k) + 1 = nI (30 * t + (k + 1)) := nI_1 _
      show PX7_buffer_51 Post K (f + 1) Z (nI i) (cJ d) (nI c) (nI t) (nI (30 * t + k)) S' = _
      simp only [PX7_buffer_51, PX7_buffer_101, eq_true M.1, true_and, M.r14, Option.some.injEq, exists_eq_left', eq_true (M.x11 ht), es, nI_30, c4, false_implies, not_false_eq_true, true_implies, M.r16, M.r17, eq_true (R.i13 (show k < 30 by omega)), eq_true (R.i14 (show k < 30 by omega)), R.x hk, R.y hk, m_by (c1.a hi0) hc b.2.1 b.2.2 hd, zb_0, e1, nI_1, forall_eq]
      cases hg : gby (A.1 i) (A.2.2.2.1 i) (A.2.2.2.2.1 i) (A.2.2.2.2.2 i) ((T.2.2 t).2.1 k) ((T.2.2 t).2.2 k) d <;> simp [cnt, hg]
    · have c4 : nI (30 * t + T.2.1 t) ≤ nI (30 * t + T.2.1 t) := nI_le (Nat.le_refl _) (by omega)
      show PX7_buffer_51 Post K (f + 1) Z (nI i) (cJ d) (nI c) (nI t) (nI (30 * t + T.2.1 t)) S' = _
      simp only [PX7_buffer_51, eq_true M.1, true_and, M.r14, Option.some.injEq, exists_eq_left', eq_true (M.x11 ht), es, nI_30, c4, not_true_eq_false, false_implies, true_implies, and_true, nI_1, forall_eq]
  have hl : (∃ f, PX7_buffer_35 Post f Z (nI i) (cJ d) (nI 0) (nI 0) S') = Post (nI (itr (gbf A T i d) 0 T.1 0)) S' := by
    refine loopI (σ := Nat) (P := fun f t c => PX7_buffer_35 Post f Z (nI i) (cJ d) (nI c) (nI t) S') (g := gbf A T i d) (rN := fun c => Post (nI c) S') (N := T.1) (fun _ _ => True) (fun j s => rfl) (fun f t c ht _ => ?_) (fun _ _ _ _ => trivial) (fun f c _ => ?_) T.1 0 0 (by omega) trivial
    · have c4 : ¬ nI T.1 ≤ nI t := nI_ge ht (by omega)
      have e := hin (PX7_buffer_35 Post f) t c (by omega)
      have e3 : (30 : Int32) * nI t = nI (30 * t + 0) := by rw [show (30 : Int32) = nI 30 from rfl, nI_mulk]; rfl
      show PX7_buffer_35 Post (f + 1) Z (nI i) (cJ d) (nI c) (nI t) S' = _
      simp only [PX7_buffer_35, eq_true M.1, true_and, c3.2.1, c4, false_implies, not_false_eq_true, true_implies, e3, forall_eq, e]
    · have c4 : nI T.1 ≤ nI T.1 := nI_le (Nat.le_refl _) (by omega)
      show PX7_buffer_35 Post (f + 1) Z (nI i) (cJ d) (nI c) (nI T.1) S' = _
      simp only [PX7_buffer_35, eq_true M.1, true_and, c3.2.1, c4, not_true_eq_false, false_implies, true_implies, and_true]
  rw [nI_0] at hl
  have gi' := fun P => m_isIn (S := S') (Post := P) (v := d) (l := 0) (m := 400) hdJ ⟨by omega, by omega⟩ ⟨by omega, by omega⟩
  rw [gi, ← j0, show cJ 400 = (400 : Int64) from rfl] at gi'
  simp only [PX7_buffer, eq_true o0, true_and, forall_eq, e0]
  simp only [eq_true M.1, true_and, m_thr c1 hn, th, zbt, gi', false_implies, not_false_eq_true, true_implies, not_true_eq_false, and_true, hl]
theorem op_buffer {v : Int32} {d : Int} (C : CS S n A R T X) (M : MS S n A R T X) (hA : WA n A) (hT : WT T) (hd : bJ d) : Jo n (PX6_buffer 0 v (cJ d)) (PX7_buffer (49 + 14 * n) v (cJ d)) S := by
  have c1 := C.1
  have h12 := c1.n12
  have m1 := M.code (v := 0).1
  have gi' := fun P => m_isIn (S := sI S (49 + 14 * n) 0 0) (Post := P) (v := d) (l := 0) (m := 400) hd ⟨by omega, by omega⟩ ⟨by omega, by omega⟩
  rw [← j0, show cJ 400 = (400 : Int64) from rfl] at gi'
  have e0 : (cJ d < (0 : Int64)) = (d < 0) := by rw [j0, cJ_lt hd ⟨by omega, by omega⟩]
  have e4 : (cJ d ≤ (400 : Int64)) = (d ≤ 400) := by rw [show (400 : Int64) = cJ 400 from rfl, cJ_le hd ⟨by omega, by omega⟩]
  cases h : thr n A v with
  | false =>
    refine Jo.ro C M hA hT (-1) (fun P => ?_) (fun P => ?_)
    · simp only [PX6_buffer, eq_true c1.o, c_thr c1, h, zbf, true_and, not_true_eq_false, false_implies, true_implies, and_true]
    · simp only [PX7_buffer, eq_true M.1.1.1, eq_true m1.1.1, forall_eq, m_thr m1 h12.2, h, zbf, true_and, not_true_eq_false, false_implies, true_implies, and_true]
  | true =>
    by_cases hd2 : 0 ≤ d ∧ d ≤ 400
    · obtain ⟨i, hi0, rfl, hc⟩ := thr_ex h12.2 h
      exact Jo.ro C M hA hT _ (fun P => c_buf C hi0 hc hd2) (fun P => m_buf M h12.2 hi0 hc hd2)
    · have gf : gin d 0 400 = false := by
        unfold gin
        by_cases h1 : 0 ≤ d
        · simp [h1, show ¬ d ≤ 400 by omega]
        · simp [h1]
      refine Jo.ro C M hA hT (-2) (fun P => ?_) (fun P => ?_)
      · simp only [PX6_buffer, PX6_buffer_24, eq_true c1.o, c_thr c1, h, zbt, true_and, not_true_eq_false, not_false_eq_true, false_implies, true_implies, and_true, e0, e4]
        by_cases h1 : d < 0
        · simp [h1]
        · simp [h1, show ¬ d ≤ 400 by omega]
      · simp only [PX7_buffer, eq_true M.1.1.1, eq_true m1.1.1, forall_eq, m_thr m1 h12.2, h, zbt, true_and, not_true_eq_false, not_false_eq_true, false_implies, true_implies, and_true, gi', gf, zbf]
end
