/-! maybe: both sides -/
section
variable {S : hs} {n : Nat} {A : Ga} {R : Nat × Gr} {T : Gk} {X : Gx}
def gma (n : Nat) (A : Ga) (T : Gt) (p : Nat) : Bool := af (fun i => !(decide (0 < A.1 i) && gmay (A.2.2.2.1 i 0) (A.2.2.2.2.1 i 0) (A.2.2.2.2.2 i 0) T p)) 0 n
def rmay (n : Nat) (A : Ga) (T : Gt) (o : Option Nat) : Bool := match o with | some p => !gma n A T p | none => false
theorem WT.sec {t p : Nat} (hT : WT T) (ht : t < 6) (hp : p + 1 < T.2.1 t) : 0 ≤ gsec (T.2.2 t) p := by
  have := (hT t ht).2 p hp
  unfold gsec
  omega
theorem c_maybe {t : Nat} {g : Int} {Post : Int32 → hs → Prop} (C : CS S n A R T X) (hT : WT T) (ht : t < T.1) (hg : bI g) : PX6_maybe 0 (nI t) (cI g) S Post = Post (zb (rmay n A (T.2.2 t) (fpg (T.2.2 t) 0 (T.2.1 t - 1) g))) S := by
  obtain ⟨c1, -, c3, -⟩ := C
  have h12 := c1.n12
  have h6 := c3.n6
  have t6 : t < 6 := by omega
  have K := c3.t t6
  have h30 := K.n30
  have hl : ∀ p, p + 1 < T.2.1 t → (∃ f, PX6_maybe_30 Post f 0 (nI t) (nI p) (nI 0) S) = (if gma n A (T.2.2 t) p = true then Post 0 S else Post 1 S) := by
    intro p hp
    refine loopA (P := fun f i => PX6_maybe_30 Post f 0 (nI t) (nI p) (nI i) S) (N := n) (fun j => rfl) (fun f i hi0 => ?_) (fun f => ?_) n 0 (by omega)
    · have q1 : ¬ nI n ≤ nI i := nI_ge hi0 (by omega)
      show PX6_maybe_30 Post (f + 1) 0 (nI t) (nI p) (nI i) S = _
      simp only [PX6_maybe_30, PX6_maybe_71, eq_true c1.o, true_and, c1.r0, Option.some.injEq, exists_eq_left', eq_true c1.ao, c1.az, q1, false_implies, not_false_eq_true, true_implies, c_there c1 hi0, eq_true (c1.ix hi0), c1.ri hi0, c3.r2, eq_true (c3.ix t6), c3.ri t6, s_may (c1.a hi0) K hp (hT.sec t6 hp), zb_0, nI_1, forall_eq]
      generalize gmay (A.2.2.2.1 i 0) (A.2.2.2.2.1 i 0) (A.2.2.2.2.2 i 0) (T.2.2 t) p = g
      by_cases h : 0 < A.1 i <;> cases g <;> simp [h]
    · have q1 : nI n ≤ nI n := nI_le (Nat.le_refl _) (by omega)
      show PX6_maybe_30 Post (f + 1) 0 (nI t) (nI p) (nI n) S = _
      simp only [PX6_maybe_30, eq_true c1.o, true_and, c1.r0, Option.some.injEq, exists_eq_left', eq_true c1.ao, c1.az, q1, not_true_eq_false, false_implies, true_implies, and_true]
  rw [nI_0] at hl
  simp only [PX6_maybe, eq_true c1.o, true_and, c_track_in c3 c1.o ht, o10, false_implies, not_false_eq_true, true_implies, c3.r2, Option.some.injEq, exists_eq_left', eq_true (c3.ix t6), c3.ri t6, eq_true K.1.1, s_pog K hg]
  cases hf : fpg (T.2.2 t) 0 (T.2.1 t - 1) g with
  | none =>
    have q1 : ¬ (0 : Int32) ≤ oI none := by decide
    simp only [q1, false_implies, not_false_eq_true, true_implies, true_and, rmay]
    rfl
  | some p =>
    have hp := fpg_lt _ _ _ _ _ hf
    have q1 : (0 : Int32) ≤ oI (some p) := nI_pos' (by omega)
    simp only [q1, not_true_eq_false, false_implies, true_implies, and_true, rmay]
    rw [show oI (some p) = nI p from rfl, hl p (by omega)]
    cases gma n A (T.2.2 t) p <;> simp [zb]
end
section
variable {S : hs} {Z n : Nat} {A : Ga} {T : Gk}
theorem m_may {t p i : Nat} {K : Nat → Int64 → Int64 → Int64 → Int64 → Int32 → hs → Prop} {Post : Int32 → hs → Prop} {x0 x1 y0 y1 : Int} (C : MA S Z n A) (hi0 : i < n) (hn : n ≤ 12) (z : 0 < A.2.2.2.1 i 0) (h1 : bJ x0) (h2 : bJ x1) (h3 : bJ y0) (h4 : bJ y1) :
    (∃ f, PX7_maybe_267 Post K f Z (cJ x0) (cJ x1) (cJ y0) (cJ y1) (nI i) (nI (48 * i)) (cJ (A.2.2.2.2.1 i 0 0)) (cJ (A.2.2.2.2.1 i 0 0)) (cJ (A.2.2.2.2.2 i 0 0)) (cJ (A.2.2.2.2.2 i 0 0)) (nI 1) S) = (if grch (A.2.2.2.1 i 0) (A.2.2.2.2.1 i 0) (A.2.2.2.2.2 i 0) x0 x1 y0 y1 = true then Post 1 S else K Z (cJ x0) (cJ x1) (cJ y0) (cJ y1) (nI (i + 1)) S) := by
  have M := C.M
  have G := (C.a hi0).r0
  have h12 := G.1.2.2.2
  generalize A.2.2.2.1 i 0 = N at *
  generalize A.2.2.2.2.1 i 0 = X at *
  generalize A.2.2.2.2.2 i 0 = Y at *
  have bX : ∀ k, k < N → -200 ≤ X k ∧ X k ≤ 200 := fun k hk => (G.2 k hk).2.1
  have bY : ∀ k, k < N → -200 ≤ Y k ∧ Y k ≤ 200 := fun k hk => (G.2 k hk).2.2
  have e4 : (4 : Int32) * nI i = nI (4 * i) := nI_40 i
  have mx1 : mx X 1 = X 0 := by show max (X 0) (X 0) = X 0; omega
  have mn1 : mn X 1 = X 0 := by show min (X 0) (X 0) = X 0; omega
  have mx2 : mx Y 1 = Y 0 := by show max (Y 0) (Y 0) = Y 0; omega
  have mn2 : mn Y 1 = Y 0 := by show min (Y 0) (Y 0) = Y 0; omega
  have e := loopK (P := fun f k => PX7_maybe_267 Post K f Z (cJ x0) (cJ x1) (cJ y0) (cJ y1) (nI i) (nI (48 * i)) (cJ (mn X k)) (cJ (mx X k)) (cJ (mn Y k)) (cJ (mx Y k)) (nI k) S) (rN := (if grch N X Y x0 x1 y0 y1 = true then Post 1 S else K Z (cJ x0) (cJ x1) (cJ y0) (cJ y1) (nI (i + 1)) S)) (N := N) (fun j => rfl) (fun f k hk => by
    have q1 : ¬ nI N ≤ nI k := nI_ge hk (by omega)
    have e5 : nI (48 * i) + nI k = nI (12 * (4 * i) + k) := by rw [nI_addk]; congr 1; omega
    have w1 := mn_b bX z k (by omega)
    have w2 := mx_b bX z k (by omega)
    have w3 := mn_b bY z k (by omega)
    have w4 := mx_b bY z k (by omega)
    have v1 := bX k hk
    have v2 := bY k hk
    show PX7_maybe_267 Post K (f + 1) Z (cJ x0) (cJ x1) (cJ y0) (cJ y1) (nI i) (nI (48 * i)) (cJ (mn X k)) (cJ (mx X k)) (cJ (mn Y k)) (cJ (mx Y k)) (nI k) S = PX7_maybe_267 Post K f Z (cJ x0) (cJ x1) (cJ y0) (cJ y1) (nI i) (nI (48 * i)) (cJ (min (mn X k) (X k))) (cJ (max (mx X k) (X k))) (cJ (min (mn Y k) (Y k))) (cJ (max (mx Y k) (Y k))) (nI (k + 1)) S
    simp only [PX7_maybe_267, eq_true M.1, true_and, M.r4, M.r2, M.r3, Option.some.injEq, exists_eq_left', e4, eq_true G.ix3, G.sz, q1, false_implies, not_false_eq_true, true_implies, e5, eq_true (G.ix1 hk), eq_true (G.ix2 hk), G.x hk, G.y hk, sm_less (show bJ (mn X k) from ⟨by omega, by omega⟩) (show bJ (X k) from ⟨by omega, by omega⟩), sm_more (show bJ (mx X k) from ⟨by omega, by omega⟩) (show bJ (X k) from ⟨by omega, by omega⟩), sm_less (show bJ (mn Y k) from ⟨by omega, by omega⟩) (show bJ (Y k) from ⟨by omega, by omega⟩), sm_more (show bJ (mx Y k) from ⟨by omega, by omega⟩) (show bJ (Y k) from ⟨by omega, by omega⟩), nI_1, forall_eq]) (fun f => by
    have q1 : nI N ≤ nI N := nI_le (Nat.le_refl _) (by omega)
    have w1 := mn_b bX z N (by omega)
    have w2 := mx_b bX z N (by omega)
    have w3 := mn_b bY z N (by omega)
    have w4 := mx_b bY z N (by omega)
    show PX7_maybe_267 Post K (f + 1) Z (cJ x0) (cJ x1) (cJ y0) (cJ y1) (nI i) (nI (48 * i)) (cJ (mn X N)) (cJ (mx X N)) (cJ (mn Y N)) (cJ (mx Y N)) (nI N) S = _
    simp only [PX7_maybe_267, PX7_maybe_389, eq_true M.1, true_and, M.r4, Option.some.injEq, exists_eq_left', e4, eq_true G.ix3, G.sz, q1, not_true_eq_false, false_implies, true_implies, and_true, cJ_lt (show bJ (mx X N) from ⟨by omega, by omega⟩) h1, cJ_lt h2 (show bJ (mn X N) from ⟨by omega, by omega⟩), cJ_lt (show bJ (mx Y N) from ⟨by omega, by omega⟩) h3, cJ_lt h4 (show bJ (mn Y N) from ⟨by omega, by omega⟩), nI_1, forall_eq]
    unfold grch sb sa
    simp only [← Int.not_le]
    by_cases f1 : x0 ≤ mx X N <;> by_cases f2 : mn X N ≤ x1 <;> by_cases f3 : y0 ≤ mx Y N <;> by_cases f4 : mn Y N ≤ y1 <;> simp [f1, f2, f3, f4, z]) (N - 1) 1 (by omega)
  rw [mx1, mn1, mx2, mn2] at e
  exact e
theorem m_mayAll {x0 x1 y0 y1 : Int} {Post : Int32 → hs → Prop} (C : MA S Z n A) (hn : n ≤ 12) (hA : WA n A) (h1 : bJ x0) (h2 : bJ x1) (h3 : bJ y0) (h4 : bJ y1) : (∃ f, PX7_maybe_202 Post f Z (cJ x0) (cJ x1) (cJ y0) (cJ y1) (nI 0) S) = (if af (fun i => !(decide (0 < A.1 i) && grch (A.2.2.2.1 i 0) (A.2.2.2.2.1 i 0) (A.2.2.2.2.2 i 0) x0 x1 y0 y1)) 0 n = true then Post 0 S else Post 1 S) := by
  have M := C.M
  refine loopA (P := fun f i => PX7_maybe_202 Post f Z (cJ x0) (cJ x1) (cJ y0) (cJ y1) (nI i) S) (N := n) (fun j => rfl) (fun f i hi0 => ?_) (fun f => ?_) n 0 (by omega)
  · have q1 : ¬ nI n ≤ nI i := nI_ge hi0 (by omega)
    have a := C.a hi0
    have c4 := a.c4
    show PX7_maybe_202 Post (f + 1) Z (cJ x0) (cJ x1) (cJ y0) (cJ y1) (nI i) S = _
    by_cases hc : A.1 i = 0
    · have hq : nI (A.1 i) ≤ 0 := by rw [nI_le0 (by omega)]; exact hc
      simp only [PX7_maybe_202, PX7_maybe_389, eq_true M.1, true_and, C.2.1, q1, false_implies, not_false_eq_true, true_implies, M.r5, Option.some.injEq, exists_eq_left', eq_true a.x4, a.cl, hq, not_true_eq_false, and_true, nI_1, forall_eq]
      simp [hc]
    · have z := ((hA i hi0).2.2 0 (by omega)).1
      have G := a.r0
      have e48 : (48 : Int32) * nI i = nI (12 * (4 * i)) := by rw [show (48 : Int32) = nI 48 from rfl, nI_mulk]; congr 1; omega
      have e := m_may (t := 0) (p := 0) (K := PX7_maybe_202 Post f) (Post := Post) C hi0 hn (by omega) h1 h2 h3 h4
      rw [show 48 * i = 12 * (4 * i) by omega, nI_one] at e
      simp only [PX7_maybe_202, eq_true M.1, true_and, C.2.1, q1, false_implies, not_false_eq_true, true_implies, M.r5, M.r2, M.r3, Option.some.injEq, exists_eq_left', eq_true a.x4, a.cl, nI_le0 (show A.1 i < 2 ^ 31 by omega), hc, e48, forall_eq, eq_true (G.i10 (by omega)), eq_true (G.i20 (by omega)), G.x0 (show 0 < A.2.2.2.1 i 0 by omega), G.y0 (show 0 < A.2.2.2.1 i 0 by omega), e]
      generalize grch (A.2.2.2.1 i 0) (A.2.2.2.2.1 i 0) (A.2.2.2.2.2 i 0) x0 x1 y0 y1 = g
      cases g <;> simp [show 0 < A.1 i by omega]
  · have q1 : nI n ≤ nI n := nI_le (Nat.le_refl _) (by omega)
    show PX7_maybe_202 Post (f + 1) Z (cJ x0) (cJ x1) (cJ y0) (cJ y1) (nI n) S = _
    simp only [PX7_maybe_202, eq_true M.1, true_and, C.2.1, q1, not_true_eq_false, false_implies, true_implies, and_true]
theorem m_may80 {t p : Nat} {Post : Int32 → hs → Prop} (C : MA S Z n A) (D : MT S Z T) (hn : n ≤ 12) (hA : WA n A) (hT : WT T) (ht : t < 6) (hp : p + 1 < T.2.1 t) : PX7_maybe_80 Post Z (nI (30 * t + p)) S = Post (zb (!gma n A (T.2.2 t) p)) S := by
  have M := C.M
  have K := D.2.2.2 t ht
  have h30 := K.1.2.2.2
  have hp' : p < T.2.1 t := by omega
  have b1 := (K.2 p hp').2
  have b2 := (K.2 (p + 1) hp).2
  have hs := hT.sec ht hp
  have hb := hrs_b b1 b2 hs
  have gb := gsec_b b1 b2
  obtain ⟨-, x1, y1⟩ := b1
  obtain ⟨-, x2, y2⟩ := b2
  unfold cr at x1 y1 x2 y2
  have q1 : (0 : Int32) ≤ nI (30 * t + p) := nI_pos' (by omega)
  have e1 : nI (30 * t + p) + 1 = nI (30 * t + (p + 1)) := nI_1 _
  have eh : (cJ (gsec (T.2.2 t) p) + 3599) / (3600 : Int64) = cJ (ghrs (T.2.2 t) p) := by
    rw [show (3599 : Int64) = cJ 3599 from rfl, show (3600 : Int64) = cJ 3600 from rfl, cJ_add, cJ_div ⟨by omega, by omega⟩ ⟨by omega, by omega⟩ (by omega) (by omega)]
    rfl
  have B1 : bJ ((T.2.2 t).2.1 p) := ⟨by omega, by omega⟩
  have B2 : bJ ((T.2.2 t).2.1 (p + 1)) := ⟨by omega, by omega⟩
  have B3 : bJ ((T.2.2 t).2.2 p) := ⟨by omega, by omega⟩
  have B4 : bJ ((T.2.2 t).2.2 (p + 1)) := ⟨by omega, by omega⟩
  have p30 : p < 30 := by omega
  have p31 : p + 1 < 30 := by omega
  have al := m_mayAll (Post := Post) (x0 := min ((T.2.2 t).2.1 p) ((T.2.2 t).2.1 (p + 1)) - ghrs (T.2.2 t) p) (x1 := max ((T.2.2 t).2.1 p) ((T.2.2 t).2.1 (p + 1)) + ghrs (T.2.2 t) p) (y0 := min ((T.2.2 t).2.2 p) ((T.2.2 t).2.2 (p + 1)) - ghrs (T.2.2 t) p) (y1 := max ((T.2.2 t).2.2 p) ((T.2.2 t).2.2 (p + 1)) + ghrs (T.2.2 t) p) C hn hA ⟨by omega, by omega⟩ ⟨by omega, by omega⟩ ⟨by omega, by omega⟩ ⟨by omega, by omega⟩
  rw [nI_0] at al
  simp only [PX7_maybe_80, q1, not_true_eq_false, false_implies, true_implies, and_true, eq_true M.1, true_and, m_lasts K hp, eh, forall_eq, M.r16, M.r17, Option.some.injEq, exists_eq_left', e1, eq_true (K.i13 p30), eq_true (K.i13 p31), eq_true (K.i14 p30), eq_true (K.i14 p31), K.x hp', K.x hp, K.y hp', K.y hp, sm_less B1 B2, sm_more B1 B2, sm_less B3 B4, sm_more B3 B4, cJ_sub, cJ_add, al]
  unfold gma gmay
  generalize af _ 0 n = g
  cases g <;> simp [zb]
def oA (t : Nat) (o : Option Nat) : Int32 := match o with | some a => nI (30 * t + a) | none => -1
theorem m_maybe {t : Nat} {g : Int} {Post : Int32 → hs → Prop} (o0 : is S 7 Z) (C : MA (sI S Z 0 0) Z n A) (D : MT (sI S Z 0 0) Z T) (hn : n ≤ 12) (hA : WA n A) (hT : WT T) (ht : t < T.1) (hg : bI g) : PX7_maybe Z (nI t) (cI g) S Post = Post (zb (rmay n A (T.2.2 t) (fpg (T.2.2 t) 0 (T.2.1 t - 1) g))) (sI S Z 0 0) := by
  have h6 := D.2.2.1
  have t6 : t < 6 := by omega
  simp only [PX7_maybe, eq_true o0, true_and, forall_eq]
  generalize sI S Z 0 0 = S' at *
  have M := C.M
  have K := D.2.2.2 t t6
  have h30 := K.1.2.2.2
  have es : hi S' (Z + 11) (nI t).toNatClampNeg = nI (T.2.1 t) := by rw [nI_clamp (by omega)]; exact K.1.2.2.1
  have m1 : ¬ (0 : Int32) ≤ (-1) := by decide
  have mp : ∀ k : Nat, k < 10000 → (0 : Int32) ≤ nI k := fun k hk => nI_pos' (by omega)
  have lst := loopS (σ := Option Nat × Nat) (P := fun f k s => PX7_maybe_13 Post f Z (nI t) (cI (g - s.2)) (oA t s.1) (nI k) S') (f := fun k s => match s.1 with | some a => .inr (PX7_maybe_80 Post Z (nI (30 * t + a)) S') | none => if ggap (T.2.2 t) k = true then (if g - (s.2 : Int) = 0 then .inl (some k, s.2 + 1) else .inl (none, s.2 + 1)) else .inl (none, s.2)) (rN := fun s => match s.1 with | some a => PX7_maybe_80 Post Z (nI (30 * t + a)) S' | none => PX7_maybe_80 Post Z (-1) S') (N := T.2.1 t - 1) (fun k s => s.2 ≤ k ∧ ∀ a, s.1 = some a → a < 100) (fun j s => rfl) (fun f k s hk hs => ?_) (fun k s s' hk hs h => ?_) (fun f s hs => ?_) (T.2.1 t - 1) 0 (none, 0) (by omega) ⟨by omega, fun a h => by cases h⟩
  · have lr : ∀ d k s, k + d = T.2.1 t - 1 → lrun (σ := Option Nat × Nat) (fun k s => match s.1 with | some a => .inr (PX7_maybe_80 Post Z (nI (30 * t + a)) S') | none => if ggap (T.2.2 t) k = true then (if g - (s.2 : Int) = 0 then .inl (some k, s.2 + 1) else .inl (none, s.2 + 1)) else .inl (none, s.2)) (fun s => match s.1 with | some a => PX7_maybe_80 Post Z (nI (30 * t + a)) S' | none => PX7_maybe_80 Post Z (-1) S') k d (none, s) = Post (zb (rmay n A (T.2.2 t) (fpg (T.2.2 t) k d (g - s)))) S' := by
      intro d
      induction d with
      | zero =>
        intro k s _
        show PX7_maybe_80 Post Z (-1) S' = Post 0 S'
        simp only [PX7_maybe_80, m1, false_implies, not_false_eq_true, true_implies, true_and]
      | succ d ih =>
        intro k s hd
        unfold lrun fpg
        cases hk : ggap (T.2.2 t) k with
        | true =>
          by_cases h : g - (s : Int) = 0
          · simp only [h, if_true]
            have w : ∀ d' k' s', lrun (σ := Option Nat × Nat) (fun k s => match s.1 with | some a => .inr (PX7_maybe_80 Post Z (nI (30 * t + a)) S') | none => if ggap (T.2.2 t) k = true then (if g - (s.2 : Int) = 0 then .inl (some k, s.2 + 1) else .inl (none, s.2 + 1)) else .inl (none, s.2)) (fun s => match s.1 with | some a => PX7_maybe_80 Post Z (nI (30 * t + a)) S' | none => PX7_maybe_80 Post Z (-1) S') k' d' (some k, s') = PX7_maybe_80 Post Z (nI (30 * t + k)) S' := by
              intro d' k' s'
              cases d' <;> rfl
            rw [w, m_may80 C D hn hA hT t6 (by omega)]
            rfl
          · simp only [h, if_true, if_false]
            rw [ih _ _ (by omega), show g - ((s + 1 : Nat) : Int) = g - (s : Int) - 1 by omega]
        | false =>
          simp only [Bool.false_eq_true, if_false]
          rw [ih _ _ (by omega)]
    rw [lr _ _ _ (by omega), nI_0] at lst
    simpa [oA] using lst
  · obtain ⟨o, s⟩ := s
    obtain ⟨hs, ho⟩ := hs
    have q1 : ¬ nI (T.2.1 t) ≤ nI (k + 1) := nI_ge (by omega) (by omega)
    have e2 : (cI (g - (s : Int)) = 0) = (g - (s : Int) = 0) := by
      rw [← cI_sub, s32_0, cI_eq hg ⟨by omega, by omega⟩]
      apply propext; omega
    have e3 : cI (g - (s : Int)) + (-1) = cI (g - ((s + 1 : Nat) : Int)) := by
      rw [show (-1 : Int32) = cI (-1) by decide, cI_add]
      congr 1
      omega
    show PX7_maybe_13 Post (f + 1) Z (nI t) (cI (g - (s : Int))) (oA t o) (nI k) S' = _
    cases o with
    | some a =>
      have p1 := mp (30 * t + a) (by have := ho a rfl; omega)
      simp only [PX7_maybe_13, oA, eq_true M.1, true_and, m_track_in D ht, o10, false_implies, not_false_eq_true, true_implies, M.r14, Option.some.injEq, exists_eq_left', eq_true (M.x11 t6), es, nI_1, q1, p1, not_true_eq_false, and_true]
    | none =>
      simp only [PX7_maybe_13, oA, PX7_maybe_69, PX7_maybe_74, eq_true M.1, true_and, m_track_in D ht, o10, false_implies, not_false_eq_true, true_implies, M.r14, Option.some.injEq, exists_eq_left', eq_true (M.x11 t6), es, nI_1, q1, m1, nI_30, m_gap K (show k + 1 < T.2.1 t by omega), zb_0, e2, e3, forall_eq]
      cases ggap (T.2.2 t) k <;> by_cases h : g - (s : Int) = 0 <;> simp [h]
  · obtain ⟨o, s⟩ := s
    obtain ⟨hs, ho⟩ := hs
    revert h
    cases o with
    | some a => intro h; cases h
    | none =>
      show (if ggap (T.2.2 t) k = true then (if g - (s : Int) = 0 then (Sum.inl (some k, s + 1) : (Option Nat × Nat) ⊕ Prop) else .inl (none, s + 1)) else .inl (none, s)) = .inl s' → _
      cases ggap (T.2.2 t) k
      · simp only [Bool.false_eq_true, if_false]
        intro h; cases h
        exact ⟨by show s ≤ k + 1; have : s ≤ k := hs; omega, fun a h => by cases h⟩
      · by_cases hz : g - (s : Int) = 0
        · simp only [if_true, hz]
          intro h; cases h
          exact ⟨by show s + 1 ≤ k + 1; have : s ≤ k := hs; omega, fun a h => by cases h; omega⟩
        · simp only [if_true, hz, if_false]
          intro h; cases h
          exact ⟨by show s + 1 ≤ k + 1; have : s ≤ k := hs; omega, fun a h => by cases h⟩
  · obtain ⟨o, s⟩ := s
    have q1 : nI (T.2.1 t) ≤ nI (T.2.1 t - 1 + 1) := nI_le (by omega) (by omega)
    show PX7_maybe_13 Post (f + 1) Z (nI t) (cI (g - (s : Int))) (oA t o) (nI (T.2.1 t - 1)) S' = _
    simp only [PX7_maybe_13, eq_true M.1, true_and, m_track_in D ht, o10, false_implies, not_false_eq_true, true_implies, M.r14, Option.some.injEq, exists_eq_left', eq_true (M.x11 t6), es, nI_1, q1, not_true_eq_false, and_true]
    cases o <;> rfl
end
theorem op_maybe {S : hs} {n : Nat} {A : Ga} {R : Nat × Gr} {T : Gk} {X : Gx} {v : Int32} {g : Int} (C : CS S n A R T X) (M : MS S n A R T X) (hA : WA n A) (hT : WT T) (hg : bI g) : Jo n (PX6_maybe 0 v (cI g)) (PX7_maybe (49 + 14 * n) v (cI g)) S := by
  have c1 := C.1
  have c3 := C.2.2.1
  have h12 := c1.n12
  have m1 := (M.code (v := 0)).1
  have m3 := (M.code (v := 0)).2.2.1
  cases h : trk T v with
  | true =>
    obtain ⟨t, ht, rfl⟩ := trk_ex c3.n6 h
    exact Jo.ro C M hA hT _ (fun P => c_maybe C hT ht hg) (fun P => m_maybe M.1.1.1 m1 m3 h12.2 hA hT ht hg)
  | false =>
    have q1 : ¬ (0 : Int32) ≤ (-1) := by decide
    refine Jo.ro C M hA hT 0 (fun P => ?_) (fun P => ?_)
    · simp only [PX6_maybe, eq_true c1.o, true_and, c_trk c3 c1.o, h, zbf, not_true_eq_false, false_implies, true_implies, and_true]
    · simp only [PX7_maybe, eq_true M.1.1.1, true_and, forall_eq]
      apply propext
      constructor
      · rintro ⟨f, hf⟩
        cases f with
        | zero => exact hf.elim
        | succ f =>
          simp only [PX7_maybe_13, PX7_maybe_80, eq_true m1.1.1, true_and, m_trk m3, h, zbf, not_true_eq_false, false_implies, true_implies, and_true, q1, not_false_eq_true] at hf
          exact hf
      · intro hf
        refine ⟨1, ?_⟩
        simp only [PX7_maybe_13, PX7_maybe_80, eq_true m1.1.1, true_and, m_trk m3, h, zbf, not_true_eq_false, false_implies, true_implies, and_true, q1, not_false_eq_true]
        exact hf
