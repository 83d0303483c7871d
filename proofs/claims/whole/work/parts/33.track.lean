/-! tracks: the class's (TrC), the reference's (TrM); their pieces -/
abbrev Gt : Type := (Nat → Int) × (Nat → Int) × (Nat → Int)
def bt (T : Gt) (k : Nat) : Prop := (0 ≤ T.1 k ∧ T.1 k ≤ 40000000) ∧ cr (T.2.1 k) ∧ cr (T.2.2 k)
def TrC (S : hs) (a n : Nat) (T : Gt) : Prop := (is S 5 a ∧ (hr S a 0 = some (a + 1) ∧ hr S a 1 = some (a + 2) ∧ hr S a 2 = some (a + 3)) ∧ (is S 9 (a + 1) ∧ is S 8 (a + 2) ∧ is S 8 (a + 3)) ∧ (hz S (a + 1) = 30 ∧ hz S (a + 2) = 30 ∧ hz S (a + 3) = 30) ∧ hi S a 3 = nI n ∧ n ≤ 30) ∧ ∀ k, k < n → (hj S (a + 1) k = cJ (T.1 k) ∧ hi S (a + 2) k = cI (T.2.1 k) ∧ hi S (a + 3) k = cI (T.2.2 k)) ∧ bt T k
def TrM (S : hs) (Z t n : Nat) (T : Gt) : Prop := (Md S Z ∧ t < 6 ∧ hi S (Z + 11) t = nI n ∧ n ≤ 30) ∧ ∀ k, k < n → (hj S (Z + 12) (30 * t + k) = cJ (T.1 k) ∧ hj S (Z + 13) (30 * t + k) = cJ (T.2.1 k) ∧ hj S (Z + 14) (30 * t + k) = cJ (T.2.2 k)) ∧ bt T k
def gsec (T : Gt) (p : Nat) : Int := T.1 (p + 1) - T.1 p
def ggap (T : Gt) (p : Nat) : Bool := decide (3600 < gsec T p)
def gfast (sp : Int) (T : Gt) (p : Nat) : Bool := decide (0 < sp) && !decide (((T.2.1 (p + 1) - T.2.1 p) * (T.2.1 (p + 1) - T.2.1 p) + (T.2.2 (p + 1) - T.2.2 p) * (T.2.2 (p + 1) - T.2.2 p)) * 3600 * 3600 < sp * gsec T p * (sp * gsec T p))
theorem gsec_b {T : Gt} {p : Nat} (h1 : bt T p) (h2 : bt T (p + 1)) : -40000000 ≤ gsec T p ∧ gsec T p ≤ 40000000 := by
  unfold gsec
  have := h1.1
  have := h2.1
  omega
section
variable {S : hs} {a n : Nat} {T : Gt}
theorem TrC.n30 (R : TrC S a n T) : n ≤ 30 := R.1.2.2.2.2.2
theorem TrC.sz (R : TrC S a n T) : hi S a 3 = nI n := R.1.2.2.2.2.1
theorem TrC.ix (R : TrC S a n T) {k : Nat} (h : k < 30) : ix S 9 (a + 1) (nI k) ∧ ix S 8 (a + 2) (nI k) ∧ ix S 8 (a + 3) (nI k) :=
  ⟨ix_n R.1.2.2.1.1 R.1.2.2.2.1.1 h (by decide), ix_n R.1.2.2.1.2.1 R.1.2.2.2.1.2.1 h (by decide), ix_n R.1.2.2.1.2.2 R.1.2.2.2.1.2.2 h (by decide)⟩
theorem s_pieces {Post : Int32 → hs → Prop} (R : TrC S a n T) : PX5_pieces a S Post = Post (nI (n - 1)) S := by
  have h30 := R.n30
  simp only [PX5_pieces, eq_true R.1.1, true_and, R.sz, forall_eq]
  by_cases h : n = 0
  · subst h
    congr 1
  · rw [nI_pr (by omega)]
    by_cases h1 : n = 1
    · subst h1; congr 1
    · rw [if_pos (by rw [← nI_0]; exact nI_lt (by omega) (by omega))]
theorem s_places {Post : Int32 → hs → Prop} (R : TrC S a n T) : PX5_places a S Post = Post (nI n) S := by
  simp only [PX5_places, eq_true R.1.1, true_and, R.sz]
theorem s_hasPiece {p : Nat} {Post : Int32 → hs → Prop} (R : TrC S a n T) (hp : p + 1 < n) : PX5_hasPiece a (nI p) S Post = Post 1 S := by
  have h30 := R.n30
  have c1 : ¬ nI p < 0 := nI_pos (by omega)
  have c2 : ¬ nI n - 1 ≤ nI p := by rw [nI_pr (by omega)]; exact nI_ge (by omega) (by omega)
  simp only [PX5_hasPiece, PX5_hasPiece_18, PX5_hasPiece_19, eq_true R.1.1, true_and, R.sz, c1, c2, false_implies, not_false_eq_true, true_implies, or_true]
theorem s_hasPiece_m {Post : Int32 → hs → Prop} : PX5_hasPiece a (-1) S Post = Post 0 S := by
  have c1 : (-1 : Int32) < 0 := by decide
  simp only [PX5_hasPiece, PX5_hasPiece_18, PX5_hasPiece_19, c1, not_true_eq_false, false_implies, true_implies, and_true, true_or, true_and]
theorem s_sec {p : Nat} {Post : Int64 → hs → Prop} (R : TrC S a n T) (hp : p + 1 < n) : PX5_secondsOf a (nI p) S Post = Post (cJ (gsec T p)) S := by
  have h30 := R.n30
  obtain ⟨i1, -, -⟩ := R.ix (k := p) (by omega)
  obtain ⟨j1, -, -⟩ := R.ix (k := p + 1) (by omega)
  have o1 : ¬ (1 : Int32) = 0 := by decide
  simp only [PX5_secondsOf, PX5_secondsOf_27, eq_true R.1.1, true_and, s_hasPiece R hp, o1, false_implies, not_false_eq_true, true_implies, R.1.2.1.1, Option.some.injEq, exists_eq_left', nI_1, eq_true i1, eq_true j1, nI_clamp (show p < 2 ^ 31 by omega), nI_clamp (show p + 1 < 2 ^ 31 by omega), (R.2 p (by omega)).1.1, (R.2 (p + 1) hp).1.1, cJ_sub]
  rfl
theorem s_gap {p : Nat} {Post : Int32 → hs → Prop} (R : TrC S a n T) (hp : p + 1 < n) : PX5_isGap a (nI p) S Post = Post (zb (ggap T p)) S := by
  have b := gsec_b (R.2 p (by omega)).2 (R.2 (p + 1) hp).2
  have e : (cJ (gsec T p) ≤ (3600 : Int64)) = (gsec T p ≤ 3600) := by
    rw [show (3600 : Int64) = cJ 3600 from rfl, cJ_le ⟨by omega, by omega⟩ ⟨by omega, by omega⟩]
  simp only [PX5_isGap, PX5_isGap_17, eq_true R.1.1, true_and, s_sec R hp, e]
  unfold ggap
  by_cases h : gsec T p ≤ 3600
  · simp [h, show ¬ 3600 < gsec T p by omega, zb]
  · simp [h, show 3600 < gsec T p by omega, zb]
theorem s_day {p : Nat} {Post : Int64 → hs → Prop} (R : TrC S a n T) (hp : p + 1 < n) : PX5_dayOf a (nI p) S Post = Post (cJ (T.1 p / 86400)) S := by
  have h30 := R.n30
  obtain ⟨i1, -, -⟩ := R.ix (k := p) (by omega)
  have b := (R.2 p (by omega)).2.1
  have o1 : ¬ (1 : Int32) = 0 := by decide
  have e : cJ (T.1 p) / (86400 : Int64) = cJ (T.1 p / 86400) := by
    rw [show (86400 : Int64) = cJ 86400 from rfl, cJ_div ⟨by omega, by omega⟩ ⟨by omega, by omega⟩ (by omega) (by omega)]
  simp only [PX5_dayOf, PX5_dayOf_24, eq_true R.1.1, true_and, s_hasPiece R hp, o1, false_implies, not_false_eq_true, true_implies, R.1.2.1.1, Option.some.injEq, exists_eq_left', eq_true i1, nI_clamp (show p < 2 ^ 31 by omega), (R.2 p (by omega)).1.1, e]
theorem s_hours {p : Nat} {Post : Int64 → hs → Prop} (R : TrC S a n T) (hp : p + 1 < n) (h0 : 0 ≤ gsec T p) : PX5_hoursBegunOf a (nI p) S Post = Post (cJ ((gsec T p + 3599) / 3600)) S := by
  have b := gsec_b (R.2 p (by omega)).2 (R.2 (p + 1) hp).2
  have e : (cJ (gsec T p) + 3600 - 1) / (3600 : Int64) = cJ ((gsec T p + 3599) / 3600) := by
    rw [show (3600 : Int64) = cJ 3600 from rfl, j1, cJ_add, cJ_sub, cJ_div ⟨by omega, by omega⟩ ⟨by omega, by omega⟩ (by omega) (by omega)]
    congr 2
    omega
  simp only [PX5_hoursBegunOf, eq_true R.1.1, true_and, s_sec R hp, e]
theorem s_tx {p : Nat} {Post : Int32 → hs → Prop} (R : TrC S a n T) (hp : p < n) : PX5_xOf a (nI p) S Post = Post (cI (T.2.1 p)) S := by
  have h30 := R.n30
  obtain ⟨-, i2, i3⟩ := R.ix (k := p) (by omega)
  have c1 : ¬ nI p < 0 := nI_pos (by omega)
  have c2 : ¬ nI n ≤ nI p := nI_ge hp (by omega)
  simp only [PX5_xOf, PX5_xOf_21, PX5_xOf_22, eq_true R.1.1, true_and, R.sz, c1, c2, false_implies, not_false_eq_true, true_implies, R.1.2.1.2.1, Option.some.injEq, exists_eq_left', eq_true i2, nI_clamp (show p < 2 ^ 31 by omega), (R.2 p hp).1.2.1]
theorem s_ty {p : Nat} {Post : Int32 → hs → Prop} (R : TrC S a n T) (hp : p < n) : PX5_yOf a (nI p) S Post = Post (cI (T.2.2 p)) S := by
  have h30 := R.n30
  obtain ⟨-, i2, i3⟩ := R.ix (k := p) (by omega)
  have c1 : ¬ nI p < 0 := nI_pos (by omega)
  have c2 : ¬ nI n ≤ nI p := nI_ge hp (by omega)
  simp only [PX5_yOf, PX5_yOf_21, PX5_yOf_22, eq_true R.1.1, true_and, R.sz, c1, c2, false_implies, not_false_eq_true, true_implies, R.1.2.1.2.2, Option.some.injEq, exists_eq_left', eq_true i3, nI_clamp (show p < 2 ^ 31 by omega), (R.2 p hp).1.2.2]
theorem fast_b {sp : Int} {p : Nat} (hs : 0 ≤ sp ∧ sp ≤ 100000) (h1 : bt T p) (h2 : bt T (p + 1)) (hg : -3600 ≤ gsec T p ∧ gsec T p ≤ 3600) : bJ (((T.2.1 (p + 1) - T.2.1 p) * (T.2.1 (p + 1) - T.2.1 p) + (T.2.2 (p + 1) - T.2.2 p) * (T.2.2 (p + 1) - T.2.2 p)) * 3600 * 3600) ∧ bJ (sp * gsec T p * (sp * gsec T p)) := by
  obtain ⟨-, h3, h4⟩ := h1
  obtain ⟨-, h5, h6⟩ := h2
  unfold cr at *
  have e1 := mm (a := T.2.1 (p + 1) - T.2.1 p) (b := T.2.1 (p + 1) - T.2.1 p) (by omega) (by omega)
  have e2 := mm (a := T.2.2 (p + 1) - T.2.2 p) (b := T.2.2 (p + 1) - T.2.2 p) (by omega) (by omega)
  have e3 := mb (C := 100000) (D := 3600) (c := sp) (w := gsec T p) ⟨by omega, by omega⟩ ⟨by omega, by omega⟩
  have e4 := mb (C := 360000000) (D := 360000000) (c := sp * gsec T p) (w := sp * gsec T p) ⟨by omega, by omega⟩ ⟨by omega, by omega⟩
  exact ⟨⟨by omega, by omega⟩, ⟨by omega, by omega⟩⟩
theorem s_isFast {sp : Int} {p : Nat} {Post : Int32 → hs → Prop} (R : TrC S a n T) (hp : p + 1 < n) (hs : 0 ≤ sp ∧ sp ≤ 100000) (hg : ggap T p = false) (h0 : 0 ≤ gsec T p) : PX5_isFast a (nI p) (cJ sp) S Post = Post (zb (gfast sp T p)) S := by
  have h30 := R.n30
  have b1 := (R.2 p (by omega)).2
  have b2 := (R.2 (p + 1) hp).2
  have hg' : gsec T p ≤ 3600 := by
    unfold ggap at hg
    simp at hg
    omega
  obtain ⟨f1, f2⟩ := fast_b hs b1 b2 (by omega)
  have e0 : (cJ sp ≤ (0 : Int64)) = (sp ≤ 0) := by rw [j0, cJ_le ⟨by omega, by omega⟩ ⟨by omega, by omega⟩]
  have l1 : (cI (T.2.1 (p + 1) - T.2.1 p)).toInt64 = cJ (T.2.1 (p + 1) - T.2.1 p) := cI_l (by have := b1.2.1; have := b2.2.1; unfold cr at *; exact ⟨by omega, by omega⟩)
  have l2 : (cI (T.2.2 (p + 1) - T.2.2 p)).toInt64 = cJ (T.2.2 (p + 1) - T.2.2 p) := cI_l (by have := b1.2.2; have := b2.2.2; unfold cr at *; exact ⟨by omega, by omega⟩)
  simp only [PX5_isFast, PX5_isFast_14, PX5_isFast_94, e0, eq_true R.1.1, true_and, s_gap R hp, hg, show zb false = 0 from rfl, true_implies, not_true_eq_false, false_implies, and_true, nI_1, s_tx R hp, s_tx R (show p < n by omega), s_ty R hp, s_ty R (show p < n by omega), s_sec R hp, cI_sub, l1, l2, cJ_mul, cJ_add, show (3600 : Int64) = cJ 3600 from rfl, cJ_lt f1 f2, forall_eq]
  unfold gfast
  generalize ((T.2.1 (p + 1) - T.2.1 p) * (T.2.1 (p + 1) - T.2.1 p) + (T.2.2 (p + 1) - T.2.2 p) * (T.2.2 (p + 1) - T.2.2 p)) * 3600 * 3600 = q1
  generalize sp * gsec T p * (sp * gsec T p) = q2
  by_cases c1 : sp ≤ 0
  · simp [c1, show ¬ 0 < sp by omega, zb]
  · by_cases c2 : q1 < q2 <;> simp [c1, c2, show 0 < sp by omega, zb]
end
section
variable {S : hs} {Z t n : Nat} {T : Gt}
theorem TrM.M (R : TrM S Z t n T) : Md S Z := R.1.1
theorem nI_30 (i k : Nat) : (30 : Int32) * nI i + nI k = nI (30 * i + k) := by rw [show (30 : Int32) = nI 30 from rfl, nI_mulk, nI_addk]
theorem TrM.s {k : Nat} (R : TrM S Z t n T) (h : k < n) : hj S (Z + 12) (nI (30 * t + k)).toNatClampNeg = cJ (T.1 k) := by
  have := R.1.2.1; have := R.1.2.2.2
  rw [nI_clamp (by omega)]; exact (R.2 k h).1.1
theorem TrM.x {k : Nat} (R : TrM S Z t n T) (h : k < n) : hj S (Z + 13) (nI (30 * t + k)).toNatClampNeg = cJ (T.2.1 k) := by
  have := R.1.2.1; have := R.1.2.2.2
  rw [nI_clamp (by omega)]; exact (R.2 k h).1.2.1
theorem TrM.y {k : Nat} (R : TrM S Z t n T) (h : k < n) : hj S (Z + 14) (nI (30 * t + k)).toNatClampNeg = cJ (T.2.2 k) := by
  have := R.1.2.1; have := R.1.2.2.2
  rw [nI_clamp (by omega)]; exact (R.2 k h).1.2.2
theorem TrM.i12 {k : Nat} (R : TrM S Z t n T) (h : k < 30) : ix S 9 (Z + 12) (nI (30 * t + k)) := R.M.x12 (by have := R.1.2.1; omega)
theorem TrM.i13 {k : Nat} (R : TrM S Z t n T) (h : k < 30) : ix S 9 (Z + 13) (nI (30 * t + k)) := R.M.x13 (by have := R.1.2.1; omega)
theorem TrM.i14 {k : Nat} (R : TrM S Z t n T) (h : k < 30) : ix S 9 (Z + 14) (nI (30 * t + k)) := R.M.x14 (by have := R.1.2.1; omega)
theorem m_lasts {p : Nat} {Post : Int64 → hs → Prop} (R : TrM S Z t n T) (hp : p + 1 < n) : PX7_lasts Z (nI (30 * t + p)) S Post = Post (cJ (gsec T p)) S := by
  have h30 := R.1.2.2.2
  have M := R.M
  have e : nI (30 * t + p) + 1 = nI (30 * t + (p + 1)) := nI_1 _
  simp only [PX7_lasts, eq_true M.1, true_and, M.r15, Option.some.injEq, exists_eq_left', e, eq_true (R.i12 (show p + 1 < 30 by omega)), eq_true (R.i12 (show p < 30 by omega)), R.s hp, R.s (show p < n by omega), cJ_sub]
  rfl
theorem m_gap {p : Nat} {Post : Int32 → hs → Prop} (R : TrM S Z t n T) (hp : p + 1 < n) : PX7_isGap Z (nI (30 * t + p)) S Post = Post (zb (ggap T p)) S := by
  have b := gsec_b (R.2 p (by omega)).2 (R.2 (p + 1) hp).2
  have e : (cJ (gsec T p) ≤ (3600 : Int64)) = (gsec T p ≤ 3600) := by
    rw [show (3600 : Int64) = cJ 3600 from rfl, cJ_le ⟨by omega, by omega⟩ ⟨by omega, by omega⟩]
  simp only [PX7_isGap, PX7_isGap_17, eq_true R.M.1, true_and, m_lasts R hp, e]
  unfold ggap
  by_cases h : gsec T p ≤ 3600
  · simp [h, show ¬ 3600 < gsec T p by omega, zb]
  · simp [h, show 3600 < gsec T p by omega, zb]
end
