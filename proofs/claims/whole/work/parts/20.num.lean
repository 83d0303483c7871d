/-! PURE PART. Numbers of the machine by whole numbers: cI, cJ -/
def cI (c : Int) : Int32 := Int32.ofInt c
def cJ (c : Int) : Int64 := Int64.ofInt c
theorem cI_add (a b : Int) : cI a + cI b = cI (a + b) := (Int32.ofInt_add a b).symm
theorem cI_sub (a b : Int) : cI a - cI b = cI (a - b) := (Int32.ofInt_sub a b).symm
theorem cI_mul (a b : Int) : cI a * cI b = cI (a * b) := (Int32.ofInt_mul a b).symm
theorem cI_neg (a : Int) : - cI a = cI (-a) := (Int32.ofInt_neg a).symm
theorem cJ_add (a b : Int) : cJ a + cJ b = cJ (a + b) := (Int64.ofInt_add a b).symm
theorem cJ_sub (a b : Int) : cJ a - cJ b = cJ (a - b) := (Int64.ofInt_sub a b).symm
theorem cJ_mul (a b : Int) : cJ a * cJ b = cJ (a * b) := (Int64.ofInt_mul a b).symm
theorem cJ_neg (a : Int) : - cJ a = cJ (-a) := (Int64.ofInt_neg a).symm
/-- within an int, within a long -/
def bI (c : Int) : Prop := -2147483648 ≤ c ∧ c < 2147483648
def bJ (c : Int) : Prop := -9223372036854775808 ≤ c ∧ c < 9223372036854775808
theorem cI_toInt {c : Int} (h : bI c) : (cI c).toInt = c := Int32.toInt_ofInt_of_le h.1 (by have := h.2; omega)
theorem cJ_toInt {c : Int} (h : bJ c) : (cJ c).toInt = c := Int64.toInt_ofInt_of_le h.1 (by have := h.2; omega)
theorem cI_of (x : Int32) : x = cI x.toInt ∧ bI x.toInt := ⟨(Int32.ofInt_toInt x).symm, Int32.le_toInt x, by have := Int32.toInt_lt x; omega⟩
theorem cJ_of (x : Int64) : x = cJ x.toInt ∧ bJ x.toInt := ⟨(Int64.ofInt_toInt x).symm, Int64.le_toInt x, by have := Int64.toInt_lt x; omega⟩
theorem cI_l {c : Int} (h : bI c) : (cI c).toInt64 = cJ c := by
  apply Int64.toInt_inj.mp
  rw [Int32.toInt_toInt64, cI_toInt h, cJ_toInt ⟨by have := h.1; omega, by have := h.2; omega⟩]
theorem cJ_i (c : Int) : (cJ c).toInt32 = cI c := by
  simp [cJ, cI]
theorem cI_lt {a b : Int} (ha : bI a) (hb : bI b) : cI a < cI b ↔ a < b := by rw [Int32.lt_iff_toInt_lt, cI_toInt ha, cI_toInt hb]
theorem cI_le {a b : Int} (ha : bI a) (hb : bI b) : cI a ≤ cI b ↔ a ≤ b := by rw [Int32.le_iff_toInt_le, cI_toInt ha, cI_toInt hb]
theorem cI_eq {a b : Int} (ha : bI a) (hb : bI b) : cI a = cI b ↔ a = b := ⟨fun h => by rw [← cI_toInt ha, h, cI_toInt hb], fun h => by rw [h]⟩
theorem cJ_lt {a b : Int} (ha : bJ a) (hb : bJ b) : cJ a < cJ b ↔ a < b := by rw [Int64.lt_iff_toInt_lt, cJ_toInt ha, cJ_toInt hb]
theorem cJ_le {a b : Int} (ha : bJ a) (hb : bJ b) : cJ a ≤ cJ b ↔ a ≤ b := by rw [Int64.le_iff_toInt_le, cJ_toInt ha, cJ_toInt hb]
theorem cJ_eq {a b : Int} (ha : bJ a) (hb : bJ b) : cJ a = cJ b ↔ a = b := ⟨fun h => by rw [← cJ_toInt ha, h, cJ_toInt hb], fun h => by rw [h]⟩
theorem nI_c (n : Nat) : nI n = cI n := rfl
theorem lN_c (n : Nat) : lN n = cJ n := rfl
theorem i0 : (0 : Int32) = cI 0 := rfl
theorem i1 : (1 : Int32) = cI 1 := rfl
theorem j0 : (0 : Int64) = cJ 0 := rfl
theorem j1 : (1 : Int64) = cJ 1 := rfl
theorem cJ_div {a b : Int} (ha : bJ a) (hb : bJ b) (h0 : 0 ≤ a) (h1 : 0 < b) : cJ a / cJ b = cJ (a / b) := by
  have hq : bJ (a / b) := by
    have h2 : 0 ≤ a / b := Int.ediv_nonneg h0 (by omega)
    have h3 : a / b ≤ a := Int.ediv_le_self b h0
    exact ⟨by omega, by have := ha.2; omega⟩
  apply Int64.toInt_inj.mp
  rw [Int64.toInt_div, cJ_toInt ha, cJ_toInt hb, cJ_toInt hq, Int.tdiv_eq_ediv_of_nonneg h0]
  have h2 : 0 ≤ a / b := Int.ediv_nonneg h0 (by omega)
  have h3 : a / b ≤ a := Int.ediv_le_self b h0
  exact Int.bmod_eq_of_le (by omega) (by have := ha.2; omega)
/-! branches: by whole numbers -/
theorem brI_lt {a b : Int} {x y : Int32} {A B : Prop} (hx : x = cI a) (hy : y = cI b) (ha : bI a) (hb : bI b) (f : a < b → A) (g : b ≤ a → B) : (x < y → A) ∧ (¬ x < y → B) := by
  subst hx; subst hy
  rw [cI_lt ha hb]
  exact ⟨f, fun h => g (by omega)⟩
theorem brI_le {a b : Int} {x y : Int32} {A B : Prop} (hx : x = cI a) (hy : y = cI b) (ha : bI a) (hb : bI b) (f : a ≤ b → A) (g : b < a → B) : (x ≤ y → A) ∧ (¬ x ≤ y → B) := by
  subst hx; subst hy
  rw [cI_le ha hb]
  exact ⟨f, fun h => g (by omega)⟩
theorem brI_eq {a b : Int} {x y : Int32} {A B : Prop} (hx : x = cI a) (hy : y = cI b) (ha : bI a) (hb : bI b) (f : a = b → A) (g : ¬ a = b → B) : (x = y → A) ∧ (¬ x = y → B) := by
  subst hx; subst hy
  rw [cI_eq ha hb]
  exact ⟨f, g⟩
theorem brJ_lt {a b : Int} {x y : Int64} {A B : Prop} (hx : x = cJ a) (hy : y = cJ b) (ha : bJ a) (hb : bJ b) (f : a < b → A) (g : b ≤ a → B) : (x < y → A) ∧ (¬ x < y → B) := by
  subst hx; subst hy
  rw [cJ_lt ha hb]
  exact ⟨f, fun h => g (by omega)⟩
theorem brJ_le {a b : Int} {x y : Int64} {A B : Prop} (hx : x = cJ a) (hy : y = cJ b) (ha : bJ a) (hb : bJ b) (f : a ≤ b → A) (g : b < a → B) : (x ≤ y → A) ∧ (¬ x ≤ y → B) := by
  subst hx; subst hy
  rw [cJ_le ha hb]
  exact ⟨f, fun h => g (by omega)⟩
theorem brJ_eq {a b : Int} {x y : Int64} {A B : Prop} (hx : x = cJ a) (hy : y = cJ b) (ha : bJ a) (hb : bJ b) (f : a = b → A) (g : ¬ a = b → B) : (x = y → A) ∧ (¬ x = y → B) := by
  subst hx; subst hy
  rw [cJ_eq ha hb]
  exact ⟨f, g⟩
theorem ix_n {S : hs} {k a : Nat} {n i : Nat} (h : is S k a) (hz0 : hz S a = n) (hi0 : i < n) (hn : n < 2 ^ 31) : ix S k a (nI i) := ⟨h, by rw [hz0]; exact vp_in_nI hi0 hn⟩
