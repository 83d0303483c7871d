/-! one area: the class's (ArC), the reference's (ArM); whether a place is in it -/
def ArC (S : hs) (a c : Nat) (m : Bool) (sp : Int) (sz : Nat → Nat) (X Y : Nat → Nat → Int) : Prop := (is S 0 a ∧ hr S a 0 = some (a + 1) ∧ is S 12 (a + 1) ∧ hz S (a + 1) = 4 ∧ hi S a 1 = nI c ∧ hi S a 2 = zb m ∧ hj S a 3 = cJ sp ∧ c ≤ 4) ∧ ∀ r, r < 4 → hr S (a + 1) r = some (a + 2 + 3 * r) ∧ RgC S (a + 2 + 3 * r) (sz r) (X r) (Y r)
def ArM (S : hs) (Z i c : Nat) (m : Bool) (sp : Int) (sz : Nat → Nat) (X Y : Nat → Nat → Int) : Prop := (Md S Z ∧ i < 12 ∧ hi S (Z + 4) i = nI c ∧ hi S (Z + 5) i = zb m ∧ hj S (Z + 6) i = cJ sp ∧ c ≤ 4) ∧ ∀ r, r < 4 → RgM S Z (4 * i + r) (sz r) (X r) (Y r)
section
variable {S : hs} {a c : Nat} {m : Bool} {sp : Int} {sz : Nat → Nat} {X Y : Nat → Nat → Int}
theorem ArC.o (A : ArC S a c m sp sz X Y) : is S 0 a := A.1.1
theorem ArC.rs (A : ArC S a c m sp sz X Y) : hr S a 0 = some (a + 1) := A.1.2.1
theorem ArC.cl (A : ArC S a c m sp sz X Y) : hi S a 1 = nI c := A.1.2.2.2.2.1
theorem ArC.mk (A : ArC S a c m sp sz X Y) : hi S a 2 = zb m := A.1.2.2.2.2.2.1
theorem ArC.fs (A : ArC S a c m sp sz X Y) : hj S a 3 = cJ sp := A.1.2.2.2.2.2.2.1
theorem ArC.c4 (A : ArC S a c m sp sz X Y) : c ≤ 4 := A.1.2.2.2.2.2.2.2
theorem ArC.ix (A : ArC S a c m sp sz X Y) {r : Nat} (h : r < 4) : ix S 12 (a + 1) (nI r) := ix_n A.1.2.2.1 A.1.2.2.2.1 h (by decide)
theorem ArC.rg (A : ArC S a c m sp sz X Y) {r : Nat} (h : r < 4) : hr S (a + 1) (nI r).toNatClampNeg = some (a + 2 + 3 * r) := by
  rw [nI_clamp (by omega)]; exact (A.2 r h).1
theorem ArC.r (A : ArC S a c m sp sz X Y) {r : Nat} (h : r < 4) : RgC S (a + 2 + 3 * r) (sz r) (X r) (Y r) := (A.2 r h).2
theorem ArC.r0 (A : ArC S a c m sp sz X Y) : RgC S (a + 2) (sz 0) (X 0) (Y 0) := (A.2 0 (by decide)).2
theorem nI_le0 {c : Nat} (h : c < 2 ^ 31) : (nI c ≤ 0) = (c = 0) := by
  apply propext
  constructor
  · intro h1
    refine Classical.byContradiction fun h2 => nI_nle (by omega) h h1
  · intro h1; subst h1; exact nI_le (a := 0) (b := 0) (by omega) (by omega)
theorem nI_ltk {x y : Nat} (hx : x < 2 ^ 31) (hy : y < 2 ^ 31) : (nI x < nI y) = (x < y) := by
  apply propext
  constructor
  · intro h; refine Classical.byContradiction fun q => nI_nlt (by omega) hx h
  · intro h; exact nI_lt h hy
theorem nI_lek {x y : Nat} (hx : x < 2 ^ 31) (hy : y < 2 ^ 31) : (nI x ≤ nI y) = (x ≤ y) := by
  apply propext
  constructor
  · intro h; refine Classical.byContradiction fun q => nI_ge (by omega) hx h
  · intro h; exact nI_le h hy
theorem s_there {Post : Int32 → hs → Prop} (A : ArC S a c m sp sz X Y) : PX0_isThere a S Post = Post (zb (decide (0 < c))) S := by
  have := A.c4
  simp only [PX0_isThere, PX0_isThere_12, eq_true A.o, true_and, A.cl, nI_le0 (show c < 2 ^ 31 by omega)]
  by_cases h : c = 0
  · simp [h, zb]
  · simp [h, zb, show 0 < c by omega]
theorem s_outer {Post : Option Nat → hs → Prop} (A : ArC S a c m sp sz X Y) : PX0_outer a S Post = Post (some (a + 2)) S := by
  have h1 := A.ix (r := 0) (by decide)
  have h2 := A.rg (r := 0) (by decide)
  rw [nI_0] at h1 h2
  simp only [PX0_outer, eq_true A.o, true_and, A.rs, Option.some.injEq, exists_eq_left', eq_true h1, h2]
theorem s_untouched {Post : Int32 → hs → Prop} (A : ArC S a c m sp sz X Y) : PX0_isUntouched a S Post = Post (zb (decide (c = 0) && decide (sz 0 = 0))) S := by
  have := A.c4
  have R := A.r0
  have := R.1.2.2.2.2.2.2.2.2
  simp only [PX0_isUntouched, PX0_isUntouched_21, PX0_isUntouched_22, PX2_size, eq_true A.o, true_and, A.cl, nI_eq0 (show c < 2 ^ 31 by omega), s_outer A, Option.some.injEq, exists_eq_left', eq_true R.1.1, R.1.2.2.2.2.2.2.2.1, nI_eq0 (show sz 0 < 2 ^ 31 by omega)]
  by_cases h : c = 0 <;> by_cases h' : sz 0 = 0 <;> simp [h, h', zb]
theorem s_rings {Post : Int32 → hs → Prop} (A : ArC S a c m sp sz X Y) : PX0_closedRings a S Post = Post (nI c) S := by
  simp only [PX0_closedRings, eq_true A.o, true_and, A.cl]
theorem s_fast {Post : Int64 → hs → Prop} (A : ArC S a c m sp sz X Y) : PX0_fastFrom a S Post = Post (cJ sp) S := by
  simp only [PX0_fastFrom, eq_true A.o, true_and, A.fs]
theorem s_ringOf {r : Nat} {Post : Option Nat → hs → Prop} (A : ArC S a c m sp sz X Y) (h : r < c) : PX0_ringOf a (nI r) S Post = Post (some (a + 2 + 3 * r)) S := by
  have h4 := A.c4
  have h1 := A.ix (r := 0) (by decide)
  have h2 := A.rg (r := 0) (by decide)
  have h3 := A.ix (r := r) (by omega)
  have h5 := A.rg (r := r) (by omega)
  have e : ((4 : Int32) ≤ nI r) = False := eq_false (nI_ge (b := 4) (show r < 4 by omega) (by decide))
  rw [nI_0] at h1 h2
  simp only [PX0_ringOf, PX0_ringOf_26, PX0_ringOf_32, eq_true A.o, true_and, A.cl, nI_le0 (show r < 2 ^ 31 by omega), A.rs, Option.some.injEq, exists_eq_left', eq_true h1, h2, eq_true h3, h5, eq_false (nI_ge h (show c < 2 ^ 31 by omega)), e, false_implies, not_false_eq_true, true_implies]
  by_cases h0 : r = 0
  · simp [h0]
  · simp [h0]
end
theorem gloc_3 (n : Nat) (X Y : Nat → Int) (x y w : Int) : gloc n X Y x y w = -1 ∨ gloc n X Y x y w = 0 ∨ gloc n X Y x y w = 1 := glo_3 n X Y x y w n 0 false
theorem cl_1 (n : Nat) (X Y : Nat → Int) (x y w : Int) : (cI (gloc n X Y x y w) = (1 : Int32)) = ¬ gloc n X Y x y w ≤ 0 := by
  rcases gloc_3 n X Y x y w with h | h | h <;> rw [h] <;> decide
theorem cl_m (n : Nat) (X Y : Nat → Int) (x y w : Int) : (cI (gloc n X Y x y w) = ((-1) : Int32)) = ¬ 0 ≤ gloc n X Y x y w := by
  rcases gloc_3 n X Y x y w with h | h | h <;> rw [h] <;> decide
theorem cl_p (n : Nat) (X Y : Nat → Int) (x y w : Int) : ((0 : Int32) < cI (gloc n X Y x y w)) = ¬ gloc n X Y x y w ≤ 0 := by
  rcases gloc_3 n X Y x y w with h | h | h <;> rw [h] <;> decide
theorem cl_n (n : Nat) (X Y : Nat → Int) (x y w : Int) : (cI (gloc n X Y x y w) < (0 : Int32)) = ¬ 0 ≤ gloc n X Y x y w := by
  rcases gloc_3 n X Y x y w with h | h | h <;> rw [h] <;> decide
def ghas (c : Nat) (sz : Nat → Nat) (X Y : Nat → Nat → Int) (x y w : Int) : Bool := decide (0 < c) && (decide (0 ≤ gloc (sz 0) (X 0) (Y 0) x y w) && af (fun r => decide (gloc (sz r) (X r) (Y r) x y w ≤ 0)) 1 (c - 1))
theorem nI_one : nI 1 = (1 : Int32) := rfl
theorem s_contains {S : hs} {a c : Nat} {m : Bool} {sp : Int} {sz : Nat → Nat} {X Y : Nat → Nat → Int} {x y w : Int} {Post : Int32 → hs → Prop} (A : ArC S a c m sp sz X Y) (hb : bw x y w) : PX0_contains a (cJ x) (cJ y) (cJ w) S Post = Post (zb (ghas c sz X Y x y w)) S := by
  have h4 := A.c4
  have hl : 0 < c → (∃ n, PX0_contains_27 Post n a (cJ x) (cJ y) (cJ w) (nI 1) S) = (if af (fun r => decide (gloc (sz r) (X r) (Y r) x y w ≤ 0)) 1 (c - 1) = true then Post 1 S else Post 0 S) := by
    intro hc
    refine loopA (P := fun f r => PX0_contains_27 Post f a (cJ x) (cJ y) (cJ w) (nI r) S) (N := c) (fun j => rfl) (fun f r hr0 => ?_) (fun f => ?_) (c - 1) 1 (by omega)
    · have c1 : ¬ nI c ≤ nI r := nI_ge hr0 (by omega)
      have R := A.r (r := r) (by omega)
      show PX0_contains_27 Post (f + 1) a (cJ x) (cJ y) (cJ w) (nI r) S = _
      simp only [PX0_contains_27, eq_true A.o, true_and, A.cl, c1, false_implies, not_false_eq_true, true_implies, s_ringOf A hr0, Option.some.injEq, exists_eq_left', eq_true R.1.1, sp_locate R hb, cl_1, nI_1, forall_eq]
      by_cases h : gloc (sz r) (X r) (Y r) x y w ≤ 0 <;> simp [h]
    · have c1 : nI c ≤ nI c := nI_le (Nat.le_refl _) (by omega)
      show PX0_contains_27 Post (f + 1) a (cJ x) (cJ y) (cJ w) (nI c) S = _
      simp only [PX0_contains_27, eq_true A.o, true_and, A.cl, c1, not_true_eq_false, false_implies, true_implies, and_true]
  have R := A.r0
  rw [nI_one] at hl
  simp only [PX0_contains, PX0_contains_22, eq_true A.o, true_and, s_there A, zb_0, s_outer A, Option.some.injEq, exists_eq_left', eq_true R.1.1, sp_locate R hb, cl_m]
  unfold ghas
  by_cases hc : 0 < c
  · rw [hl hc]
    generalize af (fun r => decide (gloc (sz r) (X r) (Y r) x y w ≤ 0)) 1 (c - 1) = g
    by_cases h : 0 ≤ gloc (sz 0) (X 0) (Y 0) x y w <;> cases g <;> simp [h, hc, zb]
  · simp [hc, zb]
section
variable {S : hs} {Z i c : Nat} {m : Bool} {sp : Int} {sz : Nat → Nat} {X Y : Nat → Nat → Int}
theorem ArM.M (A : ArM S Z i c m sp sz X Y) : Md S Z := A.1.1
theorem ArM.cl (A : ArM S Z i c m sp sz X Y) : hi S (Z + 4) (nI i).toNatClampNeg = nI c := by
  rw [nI_clamp (by have := A.1.2.1; omega)]; exact A.1.2.2.1
theorem ArM.mk (A : ArM S Z i c m sp sz X Y) : hi S (Z + 5) (nI i).toNatClampNeg = zb m := by
  rw [nI_clamp (by have := A.1.2.1; omega)]; exact A.1.2.2.2.1
theorem ArM.fs (A : ArM S Z i c m sp sz X Y) : hj S (Z + 6) (nI i).toNatClampNeg = cJ sp := by
  rw [nI_clamp (by have := A.1.2.1; omega)]; exact A.1.2.2.2.2.1
theorem ArM.c4 (A : ArM S Z i c m sp sz X Y) : c ≤ 4 := A.1.2.2.2.2.2
theorem ArM.r (A : ArM S Z i c m sp sz X Y) {r : Nat} (h : r < 4) : RgM S Z (4 * i + r) (sz r) (X r) (Y r) := A.2 r h
theorem ArM.r0 (A : ArM S Z i c m sp sz X Y) : RgM S Z (4 * i) (sz 0) (X 0) (Y 0) := A.2 0 (by decide)
theorem ArM.x4 (A : ArM S Z i c m sp sz X Y) : ix S 8 (Z + 4) (nI i) := A.M.x4 A.1.2.1
theorem ArM.x5 (A : ArM S Z i c m sp sz X Y) : ix S 10 (Z + 5) (nI i) := A.M.x5 A.1.2.1
theorem ArM.x6 (A : ArM S Z i c m sp sz X Y) : ix S 9 (Z + 6) (nI i) := A.M.x6 A.1.2.1
theorem nI_4 (r i : Nat) : (4 : Int32) * nI i + nI r = nI (4 * i + r) := by rw [n4, nI_mulk, nI_addk]
theorem nI_40 (i : Nat) : (4 : Int32) * nI i = nI (4 * i) := by rw [n4, nI_mulk]
theorem m_has {x y w : Int} {Post : Int32 → hs → Prop} (A : ArM S Z i c m sp sz X Y) (hc : 0 < c) (hb : bw x y w) : PX7_has Z (nI i) (cJ x) (cJ y) (cJ w) S Post = Post (zb (ghas c sz X Y x y w)) S := by
  have h4 := A.c4
  have M := A.M
  have z1 : ¬ zb true = 0 := by decide
  have z0 : zb false = 0 := rfl
  have z2 : (1 : Int32) = zb true := rfl
  have hl : ∀ g, (∃ n, PX7_has_25 Post n Z (nI i) (cJ x) (cJ y) (cJ w) (zb g) (nI 1) S) = Post (zb (g && af (fun r => decide (gloc (sz r) (X r) (Y r) x y w ≤ 0)) 1 (c - 1))) S := by
    intro g
    refine loopF (P := fun f r g => PX7_has_25 Post f Z (nI i) (cJ x) (cJ y) (cJ w) (zb g) (nI r) S) (p := fun r => decide (gloc (sz r) (X r) (Y r) x y w ≤ 0)) (Q := fun g => Post (zb g) S) (N := c) (lo := 1) (fun j g => rfl) (fun f r _ hr0 => ?_) (fun f r hr0 => ?_) (fun f g => ?_) (c - 1) 1 g (by omega) (by omega)
    · have c1 : ¬ nI c ≤ nI r := nI_ge hr0 (by omega)
      have R := A.r (r := r) (by omega)
      show PX7_has_25 Post (f + 1) Z (nI i) (cJ x) (cJ y) (cJ w) (zb true) (nI r) S = PX7_has_25 Post f Z (nI i) (cJ x) (cJ y) (cJ w) (zb (decide (gloc (sz r) (X r) (Y r) x y w ≤ 0))) (nI (r + 1)) S
      simp only [PX7_has_25, PX7_has_64, eq_true M.1, true_and, M.r5, Option.some.injEq, exists_eq_left', eq_true A.x4, A.cl, c1, z1, false_implies, not_false_eq_true, true_implies, nI_4, sm_where R hb, cl_p, nI_1, forall_eq]
      by_cases h : gloc (sz r) (X r) (Y r) x y w ≤ 0 <;> simp [h, z0, z2]
    · have c1 : ¬ nI c ≤ nI r := nI_ge hr0 (by omega)
      show PX7_has_25 Post (f + 1) Z (nI i) (cJ x) (cJ y) (cJ w) (zb false) (nI r) S = _
      simp only [PX7_has_25, PX7_has_72, eq_true M.1, true_and, M.r5, Option.some.injEq, exists_eq_left', eq_true A.x4, A.cl, c1, z0, false_implies, not_false_eq_true, not_true_eq_false, true_implies, and_true, true_or]
    · have c1 : nI c ≤ nI c := nI_le (Nat.le_refl _) (by omega)
      show PX7_has_25 Post (f + 1) Z (nI i) (cJ x) (cJ y) (cJ w) (zb g) (nI c) S = _
      simp only [PX7_has_25, PX7_has_72, eq_true M.1, true_and, M.r5, Option.some.injEq, exists_eq_left', eq_true A.x4, A.cl, c1, not_true_eq_false, false_implies, true_implies, and_true, eq_true (zb_01 g)]
  have R := A.r0
  have l0 := hl false
  have l1 := hl true
  rw [z0, nI_one] at l0
  rw [← z2, nI_one] at l1
  simp only [PX7_has, PX7_has_20, eq_true M.1, true_and, nI_40, sm_where R hb, cl_n, l0, l1]
  unfold ghas
  by_cases h : 0 ≤ gloc (sz 0) (X 0) (Y 0) x y w <;> simp [h, hc]
theorem m_there {n : Nat} {Post : Int32 → hs → Prop} (A : ArM S Z i c m sp sz X Y) (hn : hi S Z 1 = nI n) (hi0 : i < n) (hn2 : n ≤ 12) : PX7_isThere Z (nI i) S Post = Post (zb (decide (0 < c))) S := by
  have h4 := A.c4
  have M := A.M
  have c1 : ¬ nI n ≤ nI i := nI_ge hi0 (by omega)
  have c2 : ¬ nI i < 0 := nI_pos (by omega)
  have o1 : ¬ (1 : Int32) = 0 := by decide
  simp only [PX7_isThere, PX7_isThere_21, PX7_isThere_22, PX7_isArea, PX7_isArea_16, PX7_isArea_17, eq_true M.1, true_and, M.r5, Option.some.injEq, exists_eq_left', eq_true A.x4, A.cl, c1, c2, hn, o1, false_implies, not_false_eq_true, true_implies, nI_le0 (show c < 2 ^ 31 by omega), or_true, true_or]
  by_cases h : c = 0
  · simp [h, zb]
  · simp [h, zb, show 0 < c by omega]
end
