/-! the reference's simple rings, rings that meet, where a place lies -/
theorem nI_eq0 {i : Nat} (h : i < 2 ^ 31) : (nI i = 0) = (i = 0) := by
  apply propext
  constructor
  · intro e
    by_cases c : i = 0
    · exact c
    · exact absurd e (nI_ne0 (by omega) h)
  · intro e; rw [e]; rfl
theorem nI_2k (i : Nat) : nI i + 2 = nI (i + 2) := nI_addk i 2
theorem sgp (v : Int) : ((0 : Int32) < cI (sg v)) = (0 < v) := by
  rw [i0, cI_lt ⟨by omega, by omega⟩ sg_i]
  unfold sg; by_cases c1 : 0 < v <;> by_cases c2 : v < 0 <;> simp [c1, c2]
theorem sgn (v : Int) : ((0 : Int32) ≤ cI (sg v)) = (0 ≤ v) := by
  rw [i0, cI_le ⟨by omega, by omega⟩ sg_i]
  unfold sg; by_cases c1 : 0 < v <;> by_cases c2 : v < 0 <;> simp [c1, c2] <;> omega
set_option maxRecDepth 10000 in
set_option maxHeartbeats 4000000 in
theorem sm_simple_in {S : hs} {Z q n i : Nat} {X Y : Nat → Int} {Post : Int32 → hs → Prop} {K : Nat → Int32 → Int32 → Int32 → Int32 → hs → Prop} (R : RgM S Z q n X Y) (hi0 : i < n) (g : Bool) : (∃ f, PX7_isSimple_75 Post K f Z (nI q) (nI n) (zb g) (nI i) (nI (i + 1)) S) = K Z (nI q) (nI n) (zb (g && af (gpair n X Y i) (i + 1) (n - (i + 1)))) (nI (i + 1)) S := by
  have h12 := R.1.2.2.2
  have M := R.1.1
  have z1 : ¬ zb true = 0 := by decide
  have z0 : zb false = 0 := rfl
  have z2 : (1 : Int32) = zb true := rfl
  have hi' := nx_lt hi0
  refine loopF (P := fun f j g => PX7_isSimple_75 Post K f Z (nI q) (nI n) (zb g) (nI i) (nI j) S) (p := gpair n X Y i) (Q := fun g => K Z (nI q) (nI n) (zb g) (nI (i + 1)) S) (N := n) (lo := i + 1) (fun j g => rfl) (fun f j hij hj => ?_) (fun f j hj => ?_) (fun f g => ?_) (n - (i + 1)) (i + 1) g (by omega) (by omega)
  · have hj' := nx_lt hj
    have x1 := (R.2 i hi0).2
    have x2 := (R.2 j hj).2
    have c1 : ¬ nI n ≤ nI j := nI_ge hj (by omega)
    show PX7_isSimple_75 Post K (f + 1) Z (nI q) (nI n) (zb true) (nI i) (nI j) S = PX7_isSimple_75 Post K f Z (nI q) (nI n) (zb (gpair n X Y i j)) (nI i) (nI (j + 1)) S
    simp only [PX7_isSimple_75, PX7_isSimple_141, PX7_isSimple_146, PX7_isSimple_169, PX7_isSimple_173, PX7_isSimple_174, PX7_isSimple_224, PX7_isSimple_228, PX7_isSimple_229, c1, z1, false_implies, not_false_eq_true, true_implies, true_and, eq_true M.1, M.r2, M.r3, Option.some.injEq, exists_eq_left', sm_at0 R hi0, sm_at0 R hj, sm_at1 R hi0, sm_at1 R hj, eq_true (R.ix1 hi0), eq_true (R.ix2 hi0), eq_true (R.ix1 hj), eq_true (R.ix2 hj), R.x hi0, R.x hj, R.y hi0, R.y hj, sm_meet M (R.c hi0) (R.c hi') (R.c hj) (R.c hj'), forall_eq, zb_0, nI_1, cJ_eq (show bJ (X i) from ⟨by omega, by omega⟩) (show bJ (X j) from ⟨by omega, by omega⟩), cJ_eq (show bJ (Y i) from ⟨by omega, by omega⟩) (show bJ (Y j) from ⟨by omega, by omega⟩), nI_eq (show j < 2 ^ 31 by omega) (show i + 1 < 2 ^ 31 by omega), nI_pr (show 0 < n by omega), nI_eq (show j < 2 ^ 31 by omega) (show n - 1 < 2 ^ 31 by omega), nI_eq0 (show i < 2 ^ 31 by omega)]
    unfold gpair
    rw [gnb_eq hij hj]
    generalize gmeet (X i) (Y i) (X (nx n i)) (Y (nx n i)) (X j) (Y j) (X (nx n j)) (Y (nx n j)) = g
    rcases Classical.propComplete (X i = X j) with e1 | e1 <;> rcases Classical.propComplete (Y i = Y j) with e2 | e2 <;> rcases Classical.propComplete (j = i + 1) with e3 | e3 <;> rcases Classical.propComplete (i = 0) with e4 | e4 <;> rcases Classical.propComplete (j = n - 1) with e5 | e5 <;> cases g <;> simp [e1, e2, e3, e4, e5, z0, z2.symm]
  · have c1 : ¬ nI n ≤ nI j := nI_ge hj (by omega)
    show PX7_isSimple_75 Post K (f + 1) Z (nI q) (nI n) (zb false) (nI i) (nI j) S = _
    simp only [PX7_isSimple_75, PX7_isSimple_236, c1, z0, false_implies, not_false_eq_true, not_true_eq_false, true_implies, true_and, and_true, forall_eq, nI_1]
  · show PX7_isSimple_75 Post K (f + 1) Z (nI q) (nI n) (zb g) (nI i) (nI n) S = _
    have c1 : nI n ≤ nI n := nI_le (Nat.le_refl _) (by omega)
    simp only [PX7_isSimple_75, PX7_isSimple_236, c1, not_true_eq_false, false_implies, true_implies, and_true, true_and, forall_eq, nI_1]
set_option maxHeartbeats 4000000 in
theorem sm_simple {S : hs} {Z q n : Nat} {X Y : Nat → Int} {Post : Int32 → hs → Prop} (R : RgM S Z q n X Y) : PX7_isSimple Z (nI q) S Post = Post (zb (gsimple n X Y)) S := by
  have h12 := R.1.2.2.2
  have M := R.1.1
  have z1 : ¬ zb true = 0 := by decide
  have z0 : zb false = 0 := rfl
  have z2 : (1 : Int32) = zb true := rfl
  have hl : ∀ g, (∃ f, PX7_isSimple_21 Post f Z (nI q) (nI n) (zb g) (nI 0) S) = Post (zb (g && af (grow n X Y) 0 n)) S := by
    intro g
    refine loopF (P := fun f i g => PX7_isSimple_21 Post f Z (nI q) (nI n) (zb g) (nI i) S) (p := grow n X Y) (Q := fun g => Post (zb g) S) (N := n) (lo := 0) (fun j g => rfl) (fun f i _ hi0 => ?_) (fun f i hi0 => ?_) (fun f g => ?_) n 0 g (by omega) (by omega)
    · have hi' := nx_lt hi0
      have hi'' := nx_lt hi'
      have c1 : ¬ nI n ≤ nI i := nI_ge hi0 (by omega)
      have si := fun g => sm_simple_in (Post := Post) (K := PX7_isSimple_21 Post f) R hi0 g
      show PX7_isSimple_21 Post (f + 1) Z (nI q) (nI n) (zb true) (nI i) S = PX7_isSimple_21 Post f Z (nI q) (nI n) (zb (grow n X Y i)) (nI (i + 1)) S
      simp only [PX7_isSimple_21, PX7_isSimple_68, c1, z1, false_implies, not_false_eq_true, true_implies, true_and, eq_true M.1, nI_1, nI_2k, sm_at0 R hi0, sm_at1 R hi0, sm_at2 R hi0, sm_fold M (R.c hi0) (R.c hi') (R.c hi''), zb_0, forall_eq]
      unfold grow
      generalize gfold (X (nx n i)) (Y (nx n i)) (X i) (Y i) (X (nx n (nx n i))) (Y (nx n (nx n i))) = g1
      have s0 := si false
      have s1 := si true
      rw [z0] at s0
      rw [← z2] at s1
      rw [s0, s1]
      generalize af (gpair n X Y i) (i + 1) (n - (i + 1)) = g2
      cases g1 <;> cases g2 <;> simp
    · have c1 : ¬ nI n ≤ nI i := nI_ge hi0 (by omega)
      show PX7_isSimple_21 Post (f + 1) Z (nI q) (nI n) (zb false) (nI i) S = _
      simp only [PX7_isSimple_21, PX7_isSimple_242, c1, z0, false_implies, not_false_eq_true, not_true_eq_false, true_implies, true_and, and_true, true_or]
    · show PX7_isSimple_21 Post (f + 1) Z (nI q) (nI n) (zb g) (nI n) S = _
      have c1 : nI n ≤ nI n := nI_le (Nat.le_refl _) (by omega)
      simp only [PX7_isSimple_21, PX7_isSimple_242, c1, not_true_eq_false, false_implies, true_implies, and_true, eq_true (zb_01 g), true_and]
  have e3 : (nI n ≤ (2 : Int32)) = (n ≤ 2) := by
    apply propext
    exact nI_leI (a := n) (b := 2) (by omega) (by omega)
  have l0 := hl false
  have l1 := hl true
  rw [nI_0, z0] at l0
  rw [nI_0, ← z2] at l1
  simp only [PX7_isSimple, PX7_isSimple_17, eq_true M.1, true_and, M.r4, Option.some.injEq, exists_eq_left', eq_true R.ix3, R.sz, forall_eq, e3, l0, l1]
  unfold gsimple
  generalize af (grow n X Y) 0 n = g
  by_cases c : 3 ≤ n
  · cases g <;> simp [c, show ¬ n ≤ 2 by omega]
  · cases g <;> simp [c, show n ≤ 2 by omega]
set_option maxHeartbeats 4000000 in
theorem sm_meets {S : hs} {Z q n q' n' : Nat} {X Y X' Y' : Nat → Int} {Post : Int32 → hs → Prop} (R : RgM S Z q n X Y) (R' : RgM S Z q' n' X' Y') : PX7_ringsMeet Z (nI q) (nI q') S Post = Post (zb (gmeets n X Y n' X' Y')) S := by
  have h12 := R.1.2.2.2
  have h12' := R'.1.2.2.2
  have M := R.1.1
  have hin : ∀ (K : Nat → Int32 → Int32 → Int32 → hs → Prop) (i : Nat), i < n → (∃ f, PX7_ringsMeet_15 Post K f Z (nI q) (nI q') (nI i) (nI 0) S) = (if af (fun j => !gmeet (X i) (Y i) (X (nx n i)) (Y (nx n i)) (X' j) (Y' j) (X' (nx n' j)) (Y' (nx n' j))) 0 n' = true then K Z (nI q) (nI q') (nI (i + 1)) S else Post 1 S) := by
    intro K i hi0
    refine loopA (P := fun f j => PX7_ringsMeet_15 Post K f Z (nI q) (nI q') (nI i) (nI j) S) (N := n') (fun j => rfl) (fun f j hj => ?_) (fun f => ?_) n' 0 (by omega)
    · have c1 : ¬ nI n' ≤ nI j := nI_ge hj (by omega)
      show PX7_ringsMeet_15 Post K (f + 1) Z (nI q) (nI q') (nI i) (nI j) S = _
      simp only [PX7_ringsMeet_15, c1, false_implies, not_false_eq_true, true_implies, true_and, eq_true M.1, M.r4, Option.some.injEq, exists_eq_left', eq_true R'.ix3, R'.sz, nI_1, sm_at0 R hi0, sm_at1 R hi0, sm_at0 R' hj, sm_at1 R' hj, sm_meet M (R.c hi0) (R.c (nx_lt hi0)) (R'.c hj) (R'.c (nx_lt hj)), zb_0, forall_eq]
      generalize gmeet (X i) (Y i) (X (nx n i)) (Y (nx n i)) (X' j) (Y' j) (X' (nx n' j)) (Y' (nx n' j)) = g
      cases g <;> simp
    · show PX7_ringsMeet_15 Post K (f + 1) Z (nI q) (nI q') (nI i) (nI n') S = _
      have c1 : nI n' ≤ nI n' := nI_le (Nat.le_refl _) (by omega)
      simp only [PX7_ringsMeet_15, c1, not_true_eq_false, false_implies, true_implies, and_true, true_and, eq_true M.1, M.r4, Option.some.injEq, exists_eq_left', eq_true R'.ix3, R'.sz, forall_eq, nI_1]
  have hl : (∃ f, PX7_ringsMeet_2 Post f Z (nI q) (nI q') (nI 0) S) = (if af (fun i => af (fun j => !gmeet (X i) (Y i) (X (nx n i)) (Y (nx n i)) (X' j) (Y' j) (X' (nx n' j)) (Y' (nx n' j))) 0 n') 0 n = true then Post 0 S else Post 1 S) := by
    refine loopA (P := fun f i => PX7_ringsMeet_2 Post f Z (nI q) (nI q') (nI i) S) (N := n) (fun j => rfl) (fun f i hi0 => ?_) (fun f => ?_) n 0 (by omega)
    · have c1 : ¬ nI n ≤ nI i := nI_ge hi0 (by omega)
      show PX7_ringsMeet_2 Post (f + 1) Z (nI q) (nI q') (nI i) S = _
      have e := hin (PX7_ringsMeet_2 Post f) i hi0
      rw [nI_0] at e
      simp only [PX7_ringsMeet_2, c1, false_implies, not_false_eq_true, true_implies, true_and, eq_true M.1, M.r4, Option.some.injEq, exists_eq_left', eq_true R.ix3, R.sz, e]
    · show PX7_ringsMeet_2 Post (f + 1) Z (nI q) (nI q') (nI n) S = _
      have c1 : nI n ≤ nI n := nI_le (Nat.le_refl _) (by omega)
      simp only [PX7_ringsMeet_2, c1, not_true_eq_false, false_implies, true_implies, and_true, eq_true M.1, M.r4, Option.some.injEq, exists_eq_left', eq_true R.ix3, R.sz, true_and]
  rw [nI_0] at hl
  unfold PX7_ringsMeet
  rw [hl]
  unfold gmeets zb
  generalize af (fun i => af (fun j => !gmeet (X i) (Y i) (X (nx n i)) (Y (nx n i)) (X' j) (Y' j) (X' (nx n' j)) (Y' (nx n' j))) 0 n') 0 n = g
  cases g <;> simp
theorem str_A {D E t u w : Int} (hD : 0 < D) (hE : 0 ≤ E) (h0 : 0 ≤ t) (h1 : t ≤ D * w) (e : E * t = D * u) : 0 ≤ u ∧ u ≤ E * w := by
  constructor
  · apply Int.le_of_mul_le_mul_left _ hD
    rw [Int.mul_zero, ← e]
    exact Int.mul_nonneg hE h0
  · apply Int.le_of_mul_le_mul_left _ hD
    rw [← e, Int.mul_left_comm]
    exact Int.mul_le_mul_of_nonneg_left h1 hE
theorem gS_str {ax ay bx by_ x y w : Int} (hw : 0 ≤ w) (e : (bx - ax) * (y - ay * w) = (by_ - ay) * (x - ax * w)) (h1 : ay * w ≤ y) (h2 : y < by_ * w) : gS ax ay bx by_ x y w = true := by
  have hD : 0 < by_ - ay := by
    have h3 : 0 < (by_ - ay) * w := by rw [Int.sub_mul]; omega
    refine Classical.byContradiction fun c => ?_
    have h4 := Int.mul_le_mul_of_nonneg_right (show by_ - ay ≤ 0 by omega) hw
    rw [Int.zero_mul] at h4
    omega
  have ht : y - ay * w ≤ (by_ - ay) * w := by rw [Int.sub_mul]; omega
  have hy : min ay by_ * w ≤ y ∧ y ≤ max ay by_ * w := by
    rw [Int.min_eq_left (by omega), Int.max_eq_right (by omega)]
    omega
  have hx : min ax bx * w ≤ x ∧ x ≤ max ax bx * w := by
    by_cases c : ax ≤ bx
    · have := str_A hD (show 0 ≤ bx - ax by omega) (by omega) ht e
      rw [Int.sub_mul] at this
      rw [Int.min_eq_left c, Int.max_eq_right c]
      omega
    · have e' : (ax - bx) * (y - ay * w) = (by_ - ay) * (ax * w - x) := by
        have h5 : ax - bx = -(bx - ax) := by omega
        have h6 : ax * w - x = -(x - ax * w) := by omega
        rw [h5, h6, Int.neg_mul, Int.mul_neg, e]
      have := str_A hD (show 0 ≤ ax - bx by omega) (by omega) ht e'
      rw [Int.sub_mul] at this
      rw [Int.min_eq_right (by omega), Int.max_eq_left (by omega)]
      omega
  simp [gS, hx, hy]
theorem gS_comm {ax ay bx by_ x y w : Int} : gS ax ay bx by_ x y w = gS bx by_ ax ay x y w := by
  unfold gS
  rw [Int.min_comm ax, Int.max_comm ax, Int.min_comm ay, Int.max_comm ay]
theorem gS_turn {ax ay bx by_ x y w : Int} (hw : 0 ≤ w) (e : gT ax ay bx by_ x y w = 0) (hs : gS ax ay bx by_ x y w = false) : (ay * w ≤ y) = (by_ * w ≤ y) := by
  have e1 : (bx - ax) * (y - ay * w) = (by_ - ay) * (x - ax * w) := by unfold gT at e; omega
  apply propext
  constructor
  · intro h
    refine Classical.byContradiction fun c => ?_
    have := gS_str hw e1 h (by omega)
    rw [hs] at this
    cases this
  · intro h
    refine Classical.byContradiction fun c => ?_
    have e2 : (ax - bx) * (y - by_ * w) = (ay - by_) * (x - bx * w) := by
      grind
    have := gS_str hw e2 h (by omega)
    rw [gS_comm, hs] at this
    cases this
set_option maxRecDepth 10000 in
set_option maxHeartbeats 4000000 in
theorem sm_where {S : hs} {Z q n : Nat} {X Y : Nat → Int} {x y w : Int} {Post : Int32 → hs → Prop} (R : RgM S Z q n X Y) (hb : bw x y w) : PX7_where Z (nI q) (cJ x) (cJ y) (cJ w) S Post = Post (cI (gloc n X Y x y w)) S := by
  have h12 := R.1.2.2.2
  have M := R.1.1
  have h0 : bJ 0 := ⟨by omega, by omega⟩
  have hl : (∃ f, PX7_where_6 Post f Z (nI q) (cJ x) (cJ y) (cJ w) (zb false) (nI 0) S) = lrun (σ := Bool) (fun k odd => if gon (X k) (Y k) (X (nx n k)) (Y (nx n k)) x y w = true then .inr (Post 0 S) else .inl (odd ^^ gcross (X k) (Y k) (X (nx n k)) (Y (nx n k)) x y w)) (fun odd => Post (if odd = true then 1 else -1) S) 0 n false := by
    refine loopS (P := fun f k odd => PX7_where_6 Post f Z (nI q) (cJ x) (cJ y) (cJ w) (zb odd) (nI k) S) (N := n) (fun _ _ => True) (fun j s => rfl) (fun f k odd hk _ => ?_) (fun _ _ _ _ _ _ => trivial) (fun f odd _ => ?_) n 0 false (by omega) trivial
    · have hk' := nx_lt hk
      have x1 := (R.2 k hk).2
      have x2 := (R.2 _ hk').2
      have t1 := gT_bw x1.1 x1.2 x2.1 x2.2 hb
      have m1 := bw_m hb (c := X k) ⟨by omega, by omega⟩
      have m2 := bw_m hb (c := Y k) ⟨by omega, by omega⟩
      have m3 := bw_m hb (c := X (nx n k)) ⟨by omega, by omega⟩
      have m4 := bw_m hb (c := Y (nx n k)) ⟨by omega, by omega⟩
      have hw : 0 ≤ w := hb.2.2.1
      have hbx : bJ x := by obtain ⟨hx, -, -⟩ := hb; exact ⟨by omega, by omega⟩
      have hby : bJ y := by obtain ⟨-, hy, -⟩ := hb; exact ⟨by omega, by omega⟩
      have c1 : ¬ nI n ≤ nI k := nI_ge hk (by omega)
      have n1 : bJ (w * X k) := by rw [Int.mul_comm]; exact ⟨by omega, by omega⟩
      have n2 : bJ (w * Y k) := by rw [Int.mul_comm]; exact ⟨by omega, by omega⟩
      have n3 : bJ (w * X (nx n k)) := by rw [Int.mul_comm]; exact ⟨by omega, by omega⟩
      have n4 : bJ (w * Y (nx n k)) := by rw [Int.mul_comm]; exact ⟨by omega, by omega⟩
      have et : (X (nx n k) - X k) * (y - w * Y k) - (Y (nx n k) - Y k) * (x - w * X k) = gT (X k) (Y k) (X (nx n k)) (Y (nx n k)) x y w := by
        unfold gT
        rw [Int.mul_comm w, Int.mul_comm w]
      show PX7_where_6 Post (f + 1) Z (nI q) (cJ x) (cJ y) (cJ w) (zb odd) (nI k) S = _
      simp only [PX7_where_6, PX7_where_192, PX7_where_213, PX7_where_234, PX7_where_244, PX7_where_246, c1, false_implies, not_false_eq_true, true_implies, true_and, eq_true M.1, M.r2, M.r3, M.r4, Option.some.injEq, exists_eq_left', eq_true R.ix3, R.sz, nI_1, sm_at0 R hk, sm_at1 R hk, eq_true (R.ix1 hk), eq_true (R.ix1 hk'), eq_true (R.ix2 hk), eq_true (R.ix2 hk'), R.x hk, R.x hk', R.y hk, R.y hk', forall_eq, cJ_mul, cJ_sub, et, sm_sign t1, sge, sm_between n1 n2 n3 n4 hbx hby, gB_gS hw, cJ_lt hby n2, cJ_lt hby n4, cJ_le n2 hby, cJ_le n4 hby, zb_0, sgp, sgn]
      rw [Int.mul_comm w (Y k), Int.mul_comm w (Y (nx n k))]
      unfold gon gcross
      have st : gT (X k) (Y k) (X (nx n k)) (Y (nx n k)) x y w = 0 → gS (X k) (Y k) (X (nx n k)) (Y (nx n k)) x y w = false → (Y k * w ≤ y) = (Y (nx n k) * w ≤ y) := gS_turn hw
      generalize gT (X k) (Y k) (X (nx n k)) (Y (nx n k)) x y w = q0 at *
      generalize gS (X k) (Y k) (X (nx n k)) (Y (nx n k)) x y w = s at *
      generalize Y k * w = r1 at *
      generalize Y (nx n k) * w = r2 at *
      have z0 : zb false = 0 := rfl
      have z1 : zb true = 1 := rfl
      simp only [← Int.not_le]
      by_cases e1 : q0 = 0
      · cases s with
        | true => by_cases e3 : r1 ≤ y <;> by_cases e4 : r2 ≤ y <;> cases odd <;> simp [e1, e3, e4, z0, z1]
        | false =>
          have st := st e1 rfl
          by_cases e4 : r2 ≤ y <;> cases odd <;> simp [e1, st, e4, z0, z1]
      · by_cases e2 : q0 ≤ 0
        · have e5 : ¬ 0 ≤ q0 := by omega
          by_cases e3 : r1 ≤ y <;> by_cases e4 : r2 ≤ y <;> cases s <;> cases odd <;> simp [e1, e2, e3, e4, e5, z0, z1]
        · have e5 : 0 ≤ q0 := by omega
          by_cases e3 : r1 ≤ y <;> by_cases e4 : r2 ≤ y <;> cases s <;> cases odd <;> simp [e1, e2, e3, e4, e5, z0, z1]
    · show PX7_where_6 Post (f + 1) Z (nI q) (cJ x) (cJ y) (cJ w) (zb odd) (nI n) S = _
      have c1 : nI n ≤ nI n := nI_le (Nat.le_refl _) (by omega)
      simp only [PX7_where_6, PX7_where_262, c1, not_true_eq_false, false_implies, true_implies, and_true, eq_true M.1, M.r4, Option.some.injEq, exists_eq_left', eq_true R.ix3, R.sz, true_and, zb_0]
      cases odd <;> simp
  have hr0 : ∀ d k odd, lrun (σ := Bool) (fun k odd => if gon (X k) (Y k) (X (nx n k)) (Y (nx n k)) x y w = true then .inr (Post 0 S) else .inl (odd ^^ gcross (X k) (Y k) (X (nx n k)) (Y (nx n k)) x y w)) (fun odd => Post (if odd = true then 1 else -1) S) k d odd = Post (cI (glo n X Y x y w k d odd)) S := by
    intro d
    induction d with
    | zero => intro k odd; cases odd <;> rfl
    | succ d ih =>
      intro k odd
      unfold lrun glo
      cases hg : gon (X k) (Y k) (X (nx n k)) (Y (nx n k)) x y w with
      | true => simp only [if_true]; rfl
      | false =>
        simp only [Bool.false_eq_true, if_false]
        exact ih (k + 1) _
  unfold PX7_where
  rw [hr0] at hl
  exact hl
