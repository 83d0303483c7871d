/-! near a side, near an area -/
def gnear (ax ay bx by_ x y d : Int) : Bool :=
  if 0 < (x - ax) * (bx - ax) + (y - ay) * (by_ - ay) then
    (if (x - ax) * (bx - ax) + (y - ay) * (by_ - ay) < (bx - ax) * (bx - ax) + (by_ - ay) * (by_ - ay) then
      !decide (d * d * ((bx - ax) * (bx - ax) + (by_ - ay) * (by_ - ay)) < gT ax ay bx by_ x y 1 * gT ax ay bx by_ x y 1)
    else !decide (d * d < (x - bx) * (x - bx) + (y - by_) * (y - by_)))
  else !decide (d * d < (x - ax) * (x - ax) + (y - ay) * (y - ay))
theorem mm {a b : Int} (h1 : -400 ≤ a ∧ a ≤ 400) (h2 : -400 ≤ b ∧ b ≤ 400) : -160000 ≤ a * b ∧ a * b ≤ 160000 := by
  have := mb (C := 400) (D := 400) (c := a) (w := b) ⟨by omega, by omega⟩ ⟨by omega, by omega⟩
  omega
theorem near_b {ax ay bx by_ x y d : Int} (h1 : cr ax) (h2 : cr ay) (h3 : cr bx) (h4 : cr by_) (h5 : cr x) (h6 : cr y) (hd : 0 ≤ d ∧ d ≤ 400) :
    bJ ((x - ax) * (bx - ax) + (y - ay) * (by_ - ay)) ∧ bJ ((bx - ax) * (bx - ax) + (by_ - ay) * (by_ - ay)) ∧ bJ (d * d) ∧ bJ ((x - ax) * (x - ax) + (y - ay) * (y - ay)) ∧ bJ ((x - bx) * (x - bx) + (y - by_) * (y - by_)) ∧ bJ (d * d * ((bx - ax) * (bx - ax) + (by_ - ay) * (by_ - ay))) ∧ bJ (gT ax ay bx by_ x y 1 * gT ax ay bx by_ x y 1) := by
  have t := gT_b1 h1 h2 h3 h4 h5 h6
  unfold cr at *
  have e1 := mm (a := x - ax) (b := bx - ax) (by omega) (by omega)
  have e2 := mm (a := y - ay) (b := by_ - ay) (by omega) (by omega)
  have e3 := mm (a := bx - ax) (b := bx - ax) (by omega) (by omega)
  have e4 := mm (a := by_ - ay) (b := by_ - ay) (by omega) (by omega)
  have e5 := mm (a := d) (b := d) (by omega) (by omega)
  have e6 := mm (a := x - ax) (b := x - ax) (by omega) (by omega)
  have e7 := mm (a := y - ay) (b := y - ay) (by omega) (by omega)
  have e8 := mm (a := x - bx) (b := x - bx) (by omega) (by omega)
  have e9 := mm (a := y - by_) (b := y - by_) (by omega) (by omega)
  have e10 := mb (C := 160000) (D := 320000) (c := d * d) (w := (bx - ax) * (bx - ax) + (by_ - ay) * (by_ - ay)) ⟨by omega, by omega⟩ ⟨by omega, by omega⟩
  have e11 := mb (C := 320000) (D := 320000) (c := gT ax ay bx by_ x y 1) (w := gT ax ay bx by_ x y 1) ⟨by omega, by omega⟩ ⟨by omega, by omega⟩
  refine ⟨⟨by omega, by omega⟩, ⟨by omega, by omega⟩, ⟨by omega, by omega⟩, ⟨by omega, by omega⟩, ⟨by omega, by omega⟩, ⟨by omega, by omega⟩, ⟨by omega, by omega⟩⟩
set_option maxHeartbeats 2000000 in
theorem s_sideNear {S : hs} {a n k : Nat} {X Y : Nat → Int} {x y d : Int} {Post : Int32 → hs → Prop} (R : RgC S a n X Y) (hk : k < n) (hx : cr x) (hy : cr y) (hd : 0 ≤ d ∧ d ≤ 400) : PX2_isSideNear a (nI k) (cJ x) (cJ y) (cJ d) S Post = Post (zb (gnear (X k) (Y k) (X (nx n k)) (Y (nx n k)) x y d)) S := by
  have hk' := nx_lt hk
  have x1 := (R.2 k hk).2
  have x2 := (R.2 _ hk').2
  obtain ⟨b1, b2, b3, b4, b5, b6, b7⟩ := near_b x1.1 x1.2 x2.1 x2.2 hx hy hd
  have h0 : bJ 0 := ⟨by omega, by omega⟩
  have l1 : (cI (X (nx n k) - X k)).toInt64 = cJ (X (nx n k) - X k) := cI_l ⟨by omega, by omega⟩
  have l2 : (cI (Y (nx n k) - Y k)).toInt64 = cJ (Y (nx n k) - Y k) := cI_l ⟨by omega, by omega⟩
  simp only [PX2_isSideNear, PX2_isSideNear_122, PX2_isSideNear_181, PX2_isSideNear_215, sp_next R hk, eq_true R.1.1, R.1.2.1, R.1.2.2.1, Option.some.injEq, exists_eq_left', eq_true (R.ix1 hk), eq_true (R.ix1 hk'), eq_true (R.ix2 hk), eq_true (R.ix2 hk'), true_and, forall_eq, R.x hk, R.x hk', R.y hk, R.y hk', cI_sub, R.lx hk, R.ly hk, R.lx hk', R.ly hk', l1, l2, cJ_sub, cJ_mul, cJ_add, j1, j0, sp_turn R hk, cJ_lt h0 b1, cJ_lt b1 b2, cJ_lt b3 b4, cJ_lt b3 b5, cJ_lt b6 b7]
  unfold gnear
  generalize (x - X k) * (X (nx n k) - X k) + (y - Y k) * (Y (nx n k) - Y k) = q1
  generalize (X (nx n k) - X k) * (X (nx n k) - X k) + (Y (nx n k) - Y k) * (Y (nx n k) - Y k) = q2
  generalize (x - X k) * (x - X k) + (y - Y k) * (y - Y k) = q3
  generalize (x - X (nx n k)) * (x - X (nx n k)) + (y - Y (nx n k)) * (y - Y (nx n k)) = q4
  generalize gT (X k) (Y k) (X (nx n k)) (Y (nx n k)) x y 1 = q5
  generalize q5 * q5 = q6
  generalize d * d * q2 = q7
  generalize d * d = q8
  by_cases c1 : 0 < q1
  · by_cases c2 : q1 < q2
    · by_cases c3 : q7 < q6 <;> simp [c1, c2, c3, zb]
    · by_cases c3 : q8 < q4 <;> simp [c1, c2, c3, zb]
  · by_cases c3 : q8 < q3 <;> simp [c1, c3, zb]
def gnr (n : Nat) (X Y : Nat → Int) (x y d : Int) : Bool := af (fun k => !gnear (X k) (Y k) (X (nx n k)) (Y (nx n k)) x y d) 0 n
theorem s_near {S : hs} {a n : Nat} {X Y : Nat → Int} {x y d : Int} {Post : Int32 → hs → Prop} (R : RgC S a n X Y) (hx : cr x) (hy : cr y) (hd : 0 ≤ d ∧ d ≤ 400) : PX2_isNear a (cJ x) (cJ y) (cJ d) S Post = Post (zb (!gnr n X Y x y d)) S := by
  have hn := R.1.2.2.2.2.2.2.2.2
  have hsz := R.1.2.2.2.2.2.2.2.1
  have hl : (∃ f, PX2_isNear_3 Post f a (cJ x) (cJ y) (cJ d) (nI 0) S) = (if gnr n X Y x y d = true then Post 0 S else Post 1 S) := by
    refine loopA (P := fun f k => PX2_isNear_3 Post f a (cJ x) (cJ y) (cJ d) (nI k) S) (N := n) (fun j => rfl) (fun f k hk => ?_) (fun f => ?_) n 0 (by omega)
    · have c1 : ¬ nI n ≤ nI k := nI_ge hk (by omega)
      show PX2_isNear_3 Post (f + 1) a (cJ x) (cJ y) (cJ d) (nI k) S = _
      simp only [PX2_isNear_3, hsz, c1, false_implies, not_false_eq_true, true_implies, true_and, eq_true R.1.1, s_sideNear R hk hx hy hd, zb_0, nI_1, forall_eq]
      generalize gnear (X k) (Y k) (X (nx n k)) (Y (nx n k)) x y d = g
      cases g <;> simp
    · have c1 : nI n ≤ nI n := nI_le (Nat.le_refl _) (by omega)
      show PX2_isNear_3 Post (f + 1) a (cJ x) (cJ y) (cJ d) (nI n) S = _
      simp only [PX2_isNear_3, hsz, c1, not_true_eq_false, false_implies, true_implies, and_true, eq_true R.1.1, true_and]
  rw [nI_0] at hl
  unfold PX2_isNear
  rw [hl]
  cases gnr n X Y x y d <;> simp [zb]
/-- in the area or near it -/
def gby (c : Nat) (sz : Nat → Nat) (X Y : Nat → Nat → Int) (x y d : Int) : Bool := !af (fun r => gnr (sz r) (X r) (Y r) x y d) 0 c || ghas c sz X Y x y 1
theorem s_inOrNear {S : hs} {a c : Nat} {m : Bool} {sp : Int} {sz : Nat → Nat} {X Y : Nat → Nat → Int} {x y d : Int} {Post : Int32 → hs → Prop} (A : ArC S a c m sp sz X Y) (hx : cr x) (hy : cr y) (hd : 0 ≤ d ∧ d ≤ 400) : PX0_isInOrNear a (cJ x) (cJ y) (cJ d) S Post = Post (zb (gby c sz X Y x y d)) S := by
  have h4 := A.c4
  have hl : (∃ f, PX0_isInOrNear_3 Post f a (cJ x) (cJ y) (cJ d) (nI 0) S) = (if af (fun r => gnr (sz r) (X r) (Y r) x y d) 0 c = true then Post (zb (ghas c sz X Y x y 1)) S else Post 1 S) := by
    refine loopA (P := fun f r => PX0_isInOrNear_3 Post f a (cJ x) (cJ y) (cJ d) (nI r) S) (N := c) (fun j => rfl) (fun f r hr0 => ?_) (fun f => ?_) c 0 (by omega)
    · have c1 : ¬ nI c ≤ nI r := nI_ge hr0 (by omega)
      have R := A.r (r := r) (by omega)
      show PX0_isInOrNear_3 Post (f + 1) a (cJ x) (cJ y) (cJ d) (nI r) S = _
      simp only [PX0_isInOrNear_3, A.cl, c1, false_implies, not_false_eq_true, true_implies, true_and, eq_true A.o, s_ringOf A hr0, Option.some.injEq, exists_eq_left', eq_true R.1.1, s_near R hx hy hd, zb_0, nI_1, forall_eq]
      cases gnr (sz r) (X r) (Y r) x y d <;> simp
    · have c1 : nI c ≤ nI c := nI_le (Nat.le_refl _) (by omega)
      show PX0_isInOrNear_3 Post (f + 1) a (cJ x) (cJ y) (cJ d) (nI c) S = _
      simp only [PX0_isInOrNear_3, A.cl, c1, not_true_eq_false, false_implies, true_implies, and_true, eq_true A.o, true_and, j1, s_contains A (bw_1 hx hy), eq_true (zb_01 _)]
  rw [nI_0] at hl
  unfold PX0_isInOrNear gby
  rw [hl]
  generalize ghas c sz X Y x y 1 = g1
  generalize af (fun r => gnr (sz r) (X r) (Y r) x y d) 0 c = g2
  cases g1 <;> cases g2 <;> simp [zb]
/-- a loop that gathers an 'or' -/
theorem loopO {P : Nat → Nat → Bool → Prop} {p : Nat → Bool} {Q : Bool → Prop} {N : Nat} (h0 : ∀ j g, P 0 j g = False) (hs : ∀ n j g, j < N → P (n + 1) j g = P n (j + 1) (g || p j)) (hN : ∀ n g, P (n + 1) N g = Q g) :
    ∀ d j g, j + d = N → (∃ n, P n j g) = Q (g || !af (fun i => !p i) j d) := by
  intro d j g hd
  have e := loopS (σ := Bool) (P := P) (f := fun j g => .inl (g || p j)) (rN := Q) (N := N) (fun _ _ => True) h0 (fun n j g hj _ => hs n j g hj) (fun _ _ _ _ _ _ => trivial) (fun n g _ => hN n g) d j g hd trivial
  rw [e]
  clear e hd
  induction d generalizing j g with
  | zero => cases g <;> rfl
  | succ d ih =>
    show lrun _ Q (j + 1) d (g || p j) = _
    rw [ih, show af (fun i => !p i) j (d + 1) = (!p j && af (fun i => !p i) (j + 1) d) from rfl]
    cases g <;> cases p j <;> simp
set_option maxHeartbeats 2000000 in
theorem m_near {S : hs} {Z : Nat} {a b : Int32} {ax ay bx by_ x y d : Int} {Post : Int32 → hs → Prop} (M : Md S Z) (A : Cm S Z a ax ay) (B : Cm S Z b bx by_) (hx : cr x) (hy : cr y) (hd : 0 ≤ d ∧ d ≤ 400) : PX7_isNear Z a b (cJ x) (cJ y) (cJ d) S Post = Post (zb (gnear ax ay bx by_ x y d)) S := by
  obtain ⟨⟨a1, a2⟩, ⟨a3, a4⟩, a5, a6⟩ := A
  obtain ⟨⟨c1, c2⟩, ⟨c3, c4⟩, c5, c6⟩ := B
  obtain ⟨b1, b2, b3, b4, b5, b6, b7⟩ := near_b a5 a6 c5 c6 hx hy hd
  have h0 : bJ 0 := ⟨by omega, by omega⟩
  have e : ((x - ax) * (by_ - ay) - (y - ay) * (bx - ax)) * ((x - ax) * (by_ - ay) - (y - ay) * (bx - ax)) = gT ax ay bx by_ x y 1 * gT ax ay bx by_ x y 1 := by
    unfold gT
    grind
  simp only [PX7_isNear, PX7_isNear_109, PX7_isNear_169, PX7_isNear_205, eq_true M.1, M.r2, M.r3, Option.some.injEq, exists_eq_left', true_and, eq_true a1, eq_true a2, eq_true c1, eq_true c2, a3, a4, c3, c4, forall_eq, cJ_sub, cJ_mul, cJ_add, j0, e, cJ_lt h0 b1, cJ_lt b1 b2, cJ_lt b3 b4, cJ_lt b3 b5, cJ_lt b6 b7]
  unfold gnear
  generalize (x - ax) * (bx - ax) + (y - ay) * (by_ - ay) = q1
  generalize (bx - ax) * (bx - ax) + (by_ - ay) * (by_ - ay) = q2
  generalize (x - ax) * (x - ax) + (y - ay) * (y - ay) = q3
  generalize (x - bx) * (x - bx) + (y - by_) * (y - by_) = q4
  generalize gT ax ay bx by_ x y 1 = q5
  generalize q5 * q5 = q6
  generalize d * d * q2 = q7
  generalize d * d = q8
  by_cases c1 : 0 < q1
  · by_cases c2 : q1 < q2
    · by_cases c3 : q7 < q6 <;> simp [c1, c2, c3, zb]
    · by_cases c3 : q8 < q4 <;> simp [c1, c2, c3, zb]
  · by_cases c3 : q8 < q3 <;> simp [c1, c3, zb]
theorem m_by {S : hs} {Z i c : Nat} {m : Bool} {sp : Int} {sz : Nat → Nat} {X Y : Nat → Nat → Int} {x y d : Int} {Post : Int32 → hs → Prop} (A : ArM S Z i c m sp sz X Y) (hc : 0 < c) (hx : cr x) (hy : cr y) (hd : 0 ≤ d ∧ d ≤ 400) : PX7_isByArea Z (nI i) (cJ x) (cJ y) (cJ d) S Post = Post (zb (gby c sz X Y x y d)) S := by
  have h4 := A.c4
  have M := A.M
  have z0 : zb false = 0 := rfl
  have z1 : zb true = 1 := rfl
  have hin : ∀ (K : Nat → Int32 → Int64 → Int64 → Int64 → Int32 → Int32 → hs → Prop) (r : Nat) (g : Bool), r < c → (∃ f, PX7_isByArea_36 Post K f Z (nI i) (cJ x) (cJ y) (cJ d) (zb g) (nI r) (nI (4 * i + r)) (nI 0) S) = K Z (nI i) (cJ x) (cJ y) (cJ d) (zb (g || !gnr (sz r) (X r) (Y r) x y d)) (nI (r + 1)) S := by
    intro K r g hr0
    have R := A.r (r := r) (by omega)
    have h12 := R.1.2.2.2
    refine loopO (P := fun f k g => PX7_isByArea_36 Post K f Z (nI i) (cJ x) (cJ y) (cJ d) (zb g) (nI r) (nI (4 * i + r)) (nI k) S) (p := fun k => gnear (X r k) (Y r k) (X r (nx (sz r) k)) (Y r (nx (sz r) k)) x y d) (Q := fun g => K Z (nI i) (cJ x) (cJ y) (cJ d) (zb g) (nI (r + 1)) S) (N := sz r) (fun j g => rfl) (fun f k g hk => ?_) (fun f g => ?_) (sz r) 0 g (by omega)
    · have c1 : ¬ nI (sz r) ≤ nI k := nI_ge hk (by omega)
      show PX7_isByArea_36 Post K (f + 1) Z (nI i) (cJ x) (cJ y) (cJ d) (zb g) (nI r) (nI (4 * i + r)) (nI k) S = PX7_isByArea_36 Post K f Z (nI i) (cJ x) (cJ y) (cJ d) (zb (g || gnear (X r k) (Y r k) (X r (nx (sz r) k)) (Y r (nx (sz r) k)) x y d)) (nI r) (nI (4 * i + r)) (nI (k + 1)) S
      simp only [PX7_isByArea_36, PX7_isByArea_83, PX7_isByArea_88, eq_true M.1, true_and, M.r4, Option.some.injEq, exists_eq_left', eq_true R.ix3, R.sz, c1, false_implies, not_false_eq_true, true_implies, nI_1, sm_at0 R hk, sm_at1 R hk, m_near M (R.c hk) (R.c (nx_lt hk)) hx hy hd, zb_0, forall_eq]
      generalize gnear (X r k) (Y r k) (X r (nx (sz r) k)) (Y r (nx (sz r) k)) x y d = g2
      cases g <;> cases g2 <;> simp [z0, z1]
    · have c1 : nI (sz r) ≤ nI (sz r) := nI_le (Nat.le_refl _) (by omega)
      show PX7_isByArea_36 Post K (f + 1) Z (nI i) (cJ x) (cJ y) (cJ d) (zb g) (nI r) (nI (4 * i + r)) (nI (sz r)) S = _
      simp only [PX7_isByArea_36, eq_true M.1, true_and, M.r4, Option.some.injEq, exists_eq_left', eq_true R.ix3, R.sz, c1, not_true_eq_false, false_implies, true_implies, and_true, nI_1, forall_eq]
  have hl : (∃ f, PX7_isByArea_14 Post f Z (nI i) (cJ x) (cJ y) (cJ d) (zb (ghas c sz X Y x y 1)) (nI 0) S) = Post (zb (ghas c sz X Y x y 1 || !af (fun i => !!gnr (sz i) (X i) (Y i) x y d) 0 c)) S := by
    refine loopO (P := fun f r g => PX7_isByArea_14 Post f Z (nI i) (cJ x) (cJ y) (cJ d) (zb g) (nI r) S) (p := fun r => !gnr (sz r) (X r) (Y r) x y d) (Q := fun g => Post (zb g) S) (N := c) (fun j g => rfl) (fun f r g hr0 => ?_) (fun f g => ?_) c 0 _ (by omega)
    · have c1 : ¬ nI c ≤ nI r := nI_ge hr0 (by omega)
      have e := hin (PX7_isByArea_14 Post f) r g hr0
      rw [nI_0] at e
      show PX7_isByArea_14 Post (f + 1) Z (nI i) (cJ x) (cJ y) (cJ d) (zb g) (nI r) S = _
      simp only [PX7_isByArea_14, eq_true M.1, true_and, M.r5, Option.some.injEq, exists_eq_left', eq_true A.x4, A.cl, c1, false_implies, not_false_eq_true, true_implies, nI_4, forall_eq, e]
    · have c1 : nI c ≤ nI c := nI_le (Nat.le_refl _) (by omega)
      show PX7_isByArea_14 Post (f + 1) Z (nI i) (cJ x) (cJ y) (cJ d) (zb g) (nI c) S = _
      simp only [PX7_isByArea_14, eq_true M.1, true_and, M.r5, Option.some.injEq, exists_eq_left', eq_true A.x4, A.cl, c1, not_true_eq_false, false_implies, true_implies, and_true, eq_true (zb_01 g)]
  rw [nI_0] at hl
  simp only [PX7_isByArea, eq_true M.1, true_and, j1, m_has A hc (bw_1 hx hy), hl]
  unfold gby
  simp only [Bool.not_not, Bool.or_comm]
