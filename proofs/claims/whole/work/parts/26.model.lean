/-! the reference's object: its arrays by their places; its rings by their numbers -/
def mtb : List (Nat × Nat × Nat × Nat) := [(2, 1, 9, 576), (3, 2, 9, 576), (4, 3, 8, 48), (5, 4, 8, 12), (6, 5, 10, 12), (7, 6, 9, 12), (9, 7, 8, 40), (10, 8, 8, 40), (11, 9, 8, 40), (12, 10, 8, 40), (14, 11, 8, 6), (15, 12, 9, 180), (16, 13, 9, 180), (17, 14, 9, 180), (19, 15, 9, 1500), (21, 16, 9, 1500), (23, 17, 9, 128), (24, 18, 9, 128), (26, 19, 8, 128), (27, 20, 8, 128)]
def Md (S : hs) (Z : Nat) : Prop := is S 7 Z ∧ ∀ t ∈ mtb, hr S Z t.1 = some (Z + t.2.1) ∧ is S t.2.2.1 (Z + t.2.1) ∧ hz S (Z + t.2.1) = t.2.2.2
theorem Md.r {S : hs} {Z : Nat} (h : Md S Z) {p c k n : Nat} (ht : (p, c, k, n) ∈ mtb) : hr S Z p = some (Z + c) := (h.2 _ ht).1
theorem Md.x {S : hs} {Z : Nat} (h : Md S Z) {p c k n i : Nat} (ht : (p, c, k, n) ∈ mtb) (hi0 : i < n) (hn : n ≤ 1500) : ix S k (Z + c) (nI i) := ix_n (n := n) (h.2 _ ht).2.1 (h.2 _ ht).2.2 hi0 (show n < 2 ^ 31 by omega)
theorem Md.r2 {S : hs} {Z : Nat} (h : Md S Z) : hr S Z 2 = some (Z + 1) := h.r (k := 9) (n := 576) (by decide)
theorem Md.r3 {S : hs} {Z : Nat} (h : Md S Z) : hr S Z 3 = some (Z + 2) := h.r (k := 9) (n := 576) (by decide)
theorem Md.r4 {S : hs} {Z : Nat} (h : Md S Z) : hr S Z 4 = some (Z + 3) := h.r (k := 8) (n := 48) (by decide)
theorem Md.r5 {S : hs} {Z : Nat} (h : Md S Z) : hr S Z 5 = some (Z + 4) := h.r (k := 8) (n := 12) (by decide)
theorem Md.r6 {S : hs} {Z : Nat} (h : Md S Z) : hr S Z 6 = some (Z + 5) := h.r (k := 10) (n := 12) (by decide)
theorem Md.r7 {S : hs} {Z : Nat} (h : Md S Z) : hr S Z 7 = some (Z + 6) := h.r (k := 9) (n := 12) (by decide)
theorem Md.r9 {S : hs} {Z : Nat} (h : Md S Z) : hr S Z 9 = some (Z + 7) := h.r (k := 8) (n := 40) (by decide)
theorem Md.r10 {S : hs} {Z : Nat} (h : Md S Z) : hr S Z 10 = some (Z + 8) := h.r (k := 8) (n := 40) (by decide)
theorem Md.r11 {S : hs} {Z : Nat} (h : Md S Z) : hr S Z 11 = some (Z + 9) := h.r (k := 8) (n := 40) (by decide)
theorem Md.r12 {S : hs} {Z : Nat} (h : Md S Z) : hr S Z 12 = some (Z + 10) := h.r (k := 8) (n := 40) (by decide)
theorem Md.r14 {S : hs} {Z : Nat} (h : Md S Z) : hr S Z 14 = some (Z + 11) := h.r (k := 8) (n := 6) (by decide)
theorem Md.r15 {S : hs} {Z : Nat} (h : Md S Z) : hr S Z 15 = some (Z + 12) := h.r (k := 9) (n := 180) (by decide)
theorem Md.r16 {S : hs} {Z : Nat} (h : Md S Z) : hr S Z 16 = some (Z + 13) := h.r (k := 9) (n := 180) (by decide)
theorem Md.r17 {S : hs} {Z : Nat} (h : Md S Z) : hr S Z 17 = some (Z + 14) := h.r (k := 9) (n := 180) (by decide)
theorem Md.r19 {S : hs} {Z : Nat} (h : Md S Z) : hr S Z 19 = some (Z + 15) := h.r (k := 9) (n := 1500) (by decide)
theorem Md.r21 {S : hs} {Z : Nat} (h : Md S Z) : hr S Z 21 = some (Z + 16) := h.r (k := 9) (n := 1500) (by decide)
theorem Md.r23 {S : hs} {Z : Nat} (h : Md S Z) : hr S Z 23 = some (Z + 17) := h.r (k := 9) (n := 128) (by decide)
theorem Md.r24 {S : hs} {Z : Nat} (h : Md S Z) : hr S Z 24 = some (Z + 18) := h.r (k := 9) (n := 128) (by decide)
theorem Md.r26 {S : hs} {Z : Nat} (h : Md S Z) : hr S Z 26 = some (Z + 19) := h.r (k := 8) (n := 128) (by decide)
theorem Md.r27 {S : hs} {Z : Nat} (h : Md S Z) : hr S Z 27 = some (Z + 20) := h.r (k := 8) (n := 128) (by decide)
theorem Md.x1 {S : hs} {Z i : Nat} (h : Md S Z) (hi0 : i < 576) : ix S 9 (Z + 1) (nI i) := h.x (p := 2) (n := 576) (by decide) hi0 (by decide)
theorem Md.x2 {S : hs} {Z i : Nat} (h : Md S Z) (hi0 : i < 576) : ix S 9 (Z + 2) (nI i) := h.x (p := 3) (n := 576) (by decide) hi0 (by decide)
theorem Md.x3 {S : hs} {Z i : Nat} (h : Md S Z) (hi0 : i < 48) : ix S 8 (Z + 3) (nI i) := h.x (p := 4) (n := 48) (by decide) hi0 (by decide)
theorem Md.x4 {S : hs} {Z i : Nat} (h : Md S Z) (hi0 : i < 12) : ix S 8 (Z + 4) (nI i) := h.x (p := 5) (n := 12) (by decide) hi0 (by decide)
theorem Md.x5 {S : hs} {Z i : Nat} (h : Md S Z) (hi0 : i < 12) : ix S 10 (Z + 5) (nI i) := h.x (p := 6) (n := 12) (by decide) hi0 (by decide)
theorem Md.x6 {S : hs} {Z i : Nat} (h : Md S Z) (hi0 : i < 12) : ix S 9 (Z + 6) (nI i) := h.x (p := 7) (n := 12) (by decide) hi0 (by decide)
theorem Md.x7 {S : hs} {Z i : Nat} (h : Md S Z) (hi0 : i < 40) : ix S 8 (Z + 7) (nI i) := h.x (p := 9) (n := 40) (by decide) hi0 (by decide)
theorem Md.x8 {S : hs} {Z i : Nat} (h : Md S Z) (hi0 : i < 40) : ix S 8 (Z + 8) (nI i) := h.x (p := 10) (n := 40) (by decide) hi0 (by decide)
theorem Md.x9 {S : hs} {Z i : Nat} (h : Md S Z) (hi0 : i < 40) : ix S 8 (Z + 9) (nI i) := h.x (p := 11) (n := 40) (by decide) hi0 (by decide)
theorem Md.x10 {S : hs} {Z i : Nat} (h : Md S Z) (hi0 : i < 40) : ix S 8 (Z + 10) (nI i) := h.x (p := 12) (n := 40) (by decide) hi0 (by decide)
theorem Md.x11 {S : hs} {Z i : Nat} (h : Md S Z) (hi0 : i < 6) : ix S 8 (Z + 11) (nI i) := h.x (p := 14) (n := 6) (by decide) hi0 (by decide)
theorem Md.x12 {S : hs} {Z i : Nat} (h : Md S Z) (hi0 : i < 180) : ix S 9 (Z + 12) (nI i) := h.x (p := 15) (n := 180) (by decide) hi0 (by decide)
theorem Md.x13 {S : hs} {Z i : Nat} (h : Md S Z) (hi0 : i < 180) : ix S 9 (Z + 13) (nI i) := h.x (p := 16) (n := 180) (by decide) hi0 (by decide)
theorem Md.x14 {S : hs} {Z i : Nat} (h : Md S Z) (hi0 : i < 180) : ix S 9 (Z + 14) (nI i) := h.x (p := 17) (n := 180) (by decide) hi0 (by decide)
theorem Md.x15 {S : hs} {Z i : Nat} (h : Md S Z) (hi0 : i < 1500) : ix S 9 (Z + 15) (nI i) := h.x (p := 19) (n := 1500) (by decide) hi0 (by decide)
theorem Md.x16 {S : hs} {Z i : Nat} (h : Md S Z) (hi0 : i < 1500) : ix S 9 (Z + 16) (nI i) := h.x (p := 21) (n := 1500) (by decide) hi0 (by decide)
theorem Md.x17 {S : hs} {Z i : Nat} (h : Md S Z) (hi0 : i < 128) : ix S 9 (Z + 17) (nI i) := h.x (p := 23) (n := 128) (by decide) hi0 (by decide)
theorem Md.x18 {S : hs} {Z i : Nat} (h : Md S Z) (hi0 : i < 128) : ix S 9 (Z + 18) (nI i) := h.x (p := 24) (n := 128) (by decide) hi0 (by decide)
theorem Md.x19 {S : hs} {Z i : Nat} (h : Md S Z) (hi0 : i < 128) : ix S 8 (Z + 19) (nI i) := h.x (p := 26) (n := 128) (by decide) hi0 (by decide)
theorem Md.x20 {S : hs} {Z i : Nat} (h : Md S Z) (hi0 : i < 128) : ix S 8 (Z + 20) (nI i) := h.x (p := 27) (n := 128) (by decide) hi0 (by decide)
theorem nI_mulk (a b : Nat) : nI a * nI b = nI (a * b) := by rw [nI_c, nI_c, cI_mul, nI_c]; congr 1
theorem nI_addk (a b : Nat) : nI a + nI b = nI (a + b) := by rw [nI_c, nI_c, cI_add, nI_c]; congr 1
theorem nI_remk {a n : Nat} (ha : a < 2 ^ 31) (hn : 0 < n) (hn2 : n < 2 ^ 31) : nI a - nI a / nI n * nI n = nI (a % n) := by
  have e : nI a / nI n = nI (a / n) := by
    apply Int32.toInt_inj.mp
    have hq : a / n ≤ a := Nat.div_le_self a n
    rw [Int32.toInt_div, nI_toInt ha, nI_toInt hn2, nI_toInt (by omega), Int.tdiv_eq_ediv_of_nonneg (by omega)]
    rw [← Int.natCast_ediv]
    generalize a / n = d at *
    exact Int.bmod_eq_of_le (by omega) (by omega)
  rw [e, nI_mulk, nI_c, nI_c, cI_sub, nI_c]
  congr 1
  have := Nat.div_add_mod a n
  rw [Nat.mul_comm] at this
  generalize a / n * n = q at *
  omega
theorem n12 : (12 : Int32) = nI 12 := rfl
theorem n4 : (4 : Int32) = nI 4 := rfl
theorem n2 : (2 : Int32) = nI 2 := rfl
/-- ring number q of the reference -/
def RgM (S : hs) (Z q n : Nat) (X Y : Nat → Int) : Prop := (Md S Z ∧ q < 48 ∧ hi S (Z + 3) q = nI n ∧ n ≤ 12) ∧ ∀ k, k < n → (hj S (Z + 1) (12 * q + k) = cJ (X k) ∧ hj S (Z + 2) (12 * q + k) = cJ (Y k)) ∧ (-200 ≤ X k ∧ X k ≤ 200) ∧ -200 ≤ Y k ∧ Y k ≤ 200
theorem RgM.ix1 {S : hs} {Z q n k : Nat} {X Y : Nat → Int} (R : RgM S Z q n X Y) (hk : k < n) : ix S 9 (Z + 1) (nI (12 * q + k)) := R.1.1.x1 (by have := R.1.2; omega)
theorem RgM.ix2 {S : hs} {Z q n k : Nat} {X Y : Nat → Int} (R : RgM S Z q n X Y) (hk : k < n) : ix S 9 (Z + 2) (nI (12 * q + k)) := R.1.1.x2 (by have := R.1.2; omega)
theorem RgM.x {S : hs} {Z q n k : Nat} {X Y : Nat → Int} (R : RgM S Z q n X Y) (hk : k < n) : hj S (Z + 1) (nI (12 * q + k)).toNatClampNeg = cJ (X k) := by
  rw [nI_clamp (by have := R.1.2; omega)]; exact (R.2 k hk).1.1
theorem RgM.y {S : hs} {Z q n k : Nat} {X Y : Nat → Int} (R : RgM S Z q n X Y) (hk : k < n) : hj S (Z + 2) (nI (12 * q + k)).toNatClampNeg = cJ (Y k) := by
  rw [nI_clamp (by have := R.1.2; omega)]; exact (R.2 k hk).1.2
theorem RgM.sz {S : hs} {Z q n : Nat} {X Y : Nat → Int} (R : RgM S Z q n X Y) : hi S (Z + 3) (nI q).toNatClampNeg = nI n := by
  rw [nI_clamp (by have := R.1.2; omega)]; exact R.1.2.2.1
theorem RgM.ix3 {S : hs} {Z q n : Nat} {X Y : Nat → Int} (R : RgM S Z q n X Y) : ix S 8 (Z + 3) (nI q) := R.1.1.x3 R.1.2.1
theorem sm_at {S : hs} {Z q n k : Nat} {X Y : Nat → Int} {Post : Int32 → hs → Prop} (R : RgM S Z q n X Y) (hn : 0 < n) (hk : k < 100) : PX7_at Z (nI q) (nI k) S Post = Post (nI (12 * q + k % n)) S := by
  have h12 := R.1.2.2.2
  simp only [PX7_at, eq_true R.1.1.1, true_and, R.1.1.r4, Option.some.injEq, exists_eq_left', eq_true R.ix3, R.sz, nI_remk (show k < 2 ^ 31 by omega) hn (show n < 2 ^ 31 by omega), n12, nI_mulk, nI_addk, nI_ne0 hn (show n < 2 ^ 31 by omega), not_false_eq_true]
theorem mod_0 {n k : Nat} (h : k < n) : k % n = k := Nat.mod_eq_of_lt h
theorem mod_1 {n k : Nat} (h : k < n) : (k + 1) % n = nx n k := by
  unfold nx
  split
  · exact Nat.mod_eq_of_lt (by assumption)
  · rw [show k + 1 = n by omega, Nat.mod_self]
theorem mod_2 {n k : Nat} (h : k < n) : (k + 2) % n = nx n (nx n k) := by
  rw [← mod_1 (nx_lt h), ← mod_1 h, Nat.mod_add_mod]
theorem sm_at0 {S : hs} {Z q n k : Nat} {X Y : Nat → Int} {Post : Int32 → hs → Prop} (R : RgM S Z q n X Y) (hk : k < n) : PX7_at Z (nI q) (nI k) S Post = Post (nI (12 * q + k)) S := by
  have h12 := R.1.2.2.2
  rw [sm_at R (by omega) (by omega), mod_0 hk]
theorem sm_at1 {S : hs} {Z q n k : Nat} {X Y : Nat → Int} {Post : Int32 → hs → Prop} (R : RgM S Z q n X Y) (hk : k < n) : PX7_at Z (nI q) (nI (k + 1)) S Post = Post (nI (12 * q + nx n k)) S := by
  have h12 := R.1.2.2.2
  rw [sm_at R (by omega) (by omega), mod_1 hk]
theorem sm_at2 {S : hs} {Z q n k : Nat} {X Y : Nat → Int} {Post : Int32 → hs → Prop} (R : RgM S Z q n X Y) (hk : k < n) : PX7_at Z (nI q) (nI (k + 2)) S Post = Post (nI (12 * q + nx n (nx n k))) S := by
  have h12 := R.1.2.2.2
  rw [sm_at R (by omega) (by omega), mod_2 hk]
def sg (v : Int) : Int := if 0 < v then 1 else if v < 0 then -1 else 0
theorem sm_sign {S : hs} {v : Int} {Post : Int32 → hs → Prop} (h : bJ v) : PX7_signOf (cJ v) S Post = Post (cI (sg v)) S := by
  have h0 : bJ 0 := ⟨by omega, by omega⟩
  simp only [PX7_signOf, PX7_signOf_21, j0, cJ_le h h0, cJ_le h0 h]
  unfold sg
  by_cases c1 : v ≤ 0
  · by_cases c2 : 0 ≤ v
    · simp [c1, c2, show ¬ 0 < v by omega, show ¬ v < 0 by omega]; rfl
    · simp [c1, c2, show ¬ 0 < v by omega, show v < 0 by omega]; rfl
  · simp [c1, show 0 < v by omega]; rfl
theorem sm_less {S : hs} {a b : Int} {Post : Int64 → hs → Prop} (ha : bJ a) (hb : bJ b) : PX7_less (cJ a) (cJ b) S Post = Post (cJ (min a b)) S := by
  simp only [PX7_less, PX7_less_11, cJ_le hb ha]
  by_cases c : b ≤ a
  · simp [c, Int.min_eq_right c]
  · simp [c, Int.min_eq_left (show a ≤ b by omega)]
theorem sm_more {S : hs} {a b : Int} {Post : Int64 → hs → Prop} (ha : bJ a) (hb : bJ b) : PX7_more (cJ a) (cJ b) S Post = Post (cJ (max a b)) S := by
  simp only [PX7_more, PX7_more_11, cJ_le ha hb]
  by_cases c : a ≤ b
  · simp [c, Int.max_eq_right c]
  · simp [c, Int.max_eq_left (show b ≤ a by omega)]
theorem bJ_min {a b : Int} (ha : bJ a) (hb : bJ b) : bJ (min a b) := by unfold bJ at *; omega
theorem bJ_max {a b : Int} (ha : bJ a) (hb : bJ b) : bJ (max a b) := by unfold bJ at *; omega
def gB (ax ay bx by_ x y : Int) : Bool := decide (min ax bx ≤ x) && (decide (x ≤ max ax bx) && (decide (min ay by_ ≤ y) && decide (y ≤ max ay by_)))
set_option maxHeartbeats 2000000 in
theorem sm_between {S : hs} {ax ay bx by_ x y : Int} {Post : Int32 → hs → Prop} (h1 : bJ ax) (h2 : bJ ay) (h3 : bJ bx) (h4 : bJ by_) (h5 : bJ x) (h6 : bJ y) : PX7_isBetween (cJ ax) (cJ ay) (cJ bx) (cJ by_) (cJ x) (cJ y) S Post = Post (zb (gB ax ay bx by_ x y)) S := by
  simp only [PX7_isBetween, PX7_isBetween_53, PX7_isBetween_52, sm_less h1 h3, sm_more h1 h3, sm_less h2 h4, sm_more h2 h4, cJ_lt h5 (bJ_min h1 h3), cJ_lt (bJ_max h1 h3) h5, cJ_lt h6 (bJ_min h2 h4), cJ_lt (bJ_max h2 h4) h6]
  unfold gB zb
  generalize min ax bx = q1
  generalize max ax bx = q2
  generalize min ay by_ = q3
  generalize max ay by_ = q4
  by_cases c1 : x < q1
  · simp [c1, show ¬ q1 ≤ x by omega]
  · by_cases c2 : q2 < x
    · simp [c1, c2, show ¬ x ≤ q2 by omega]
    · by_cases c3 : y < q3
      · simp [c1, c2, c3, show ¬ q3 ≤ y by omega]
      · by_cases c4 : q4 < y
        · simp [c1, c2, c3, c4, show ¬ y ≤ q4 by omega]
        · simp [c1, c2, c3, c4, show q1 ≤ x by omega, show x ≤ q2 by omega, show q3 ≤ y by omega, show y ≤ q4 by omega]
theorem min_w {a b w : Int} (hw : 0 ≤ w) : min (w * a) (w * b) = min a b * w := by
  rw [Int.mul_comm w a, Int.mul_comm w b]
  by_cases c : a ≤ b
  · rw [Int.min_eq_left c, Int.min_eq_left (Int.mul_le_mul_of_nonneg_right c hw)]
  · rw [Int.min_eq_right (show b ≤ a by omega), Int.min_eq_right (Int.mul_le_mul_of_nonneg_right (show b ≤ a by omega) hw)]
theorem max_w {a b w : Int} (hw : 0 ≤ w) : max (w * a) (w * b) = max a b * w := by
  rw [Int.mul_comm w a, Int.mul_comm w b]
  by_cases c : a ≤ b
  · rw [Int.max_eq_right c, Int.max_eq_right (Int.mul_le_mul_of_nonneg_right c hw)]
  · rw [Int.max_eq_left (show b ≤ a by omega), Int.max_eq_left (Int.mul_le_mul_of_nonneg_right (show b ≤ a by omega) hw)]
theorem gB_gS {ax ay bx by_ x y w : Int} (hw : 0 ≤ w) : gB (w * ax) (w * ay) (w * bx) (w * by_) x y = gS ax ay bx by_ x y w := by
  unfold gB gS
  rw [min_w hw, min_w hw, max_w hw, max_w hw]
theorem gB_gS1 {ax ay bx by_ x y : Int} : gB ax ay bx by_ x y = gS ax ay bx by_ x y 1 := by
  rw [← gB_gS (by omega), Int.one_mul, Int.one_mul, Int.one_mul, Int.one_mul]
