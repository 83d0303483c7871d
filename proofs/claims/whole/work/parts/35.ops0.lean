/-! whether a number names an area, a track, a gear, a place: both sides -/
theorem of_cases (n : Nat) (hn : n < 2 ^ 31) (v : Int32) : (∃ i, i < n ∧ v = nI i) ∨ (v < 0 ∨ nI n ≤ v) := by
  obtain ⟨e, b⟩ := cI_of v
  generalize v.toInt = c at e b
  by_cases h : 0 ≤ c ∧ c < n
  · refine Or.inl ⟨c.toNat, by omega, ?_⟩
    rw [e, nI_c]
    congr 1
    omega
  · right
    rw [e, i0, nI_c, cI_lt b ⟨by omega, by omega⟩, cI_le ⟨by omega, by omega⟩ b]
    omega
section
variable {S : hs} {n : Nat} {A : Ga}
theorem CA.o (C : CA S n A) : is S 6 0 := C.1.1
theorem CA.r0 (C : CA S n A) : hr S 0 0 = some 1 := C.1.2.1
theorem CA.ao (C : CA S n A) : is S 11 1 := C.1.2.2.1
theorem CA.az (C : CA S n A) : hz S 1 = n := C.1.2.2.2.1
theorem CA.n12 (C : CA S n A) : 1 ≤ n ∧ n ≤ 12 := C.1.2.2.2.2
theorem CA.ix (C : CA S n A) {i : Nat} (h : i < n) : ix S 11 1 (nI i) := ix_n C.ao C.az h (by have := C.n12; omega)
theorem CA.ri (C : CA S n A) {i : Nat} (h : i < n) : hr S 1 (nI i).toNatClampNeg = some (2 + 14 * i) := by
  rw [nI_clamp (by have := C.n12; omega)]; exact (C.2 i h).1
theorem CA.a (C : CA S n A) {i : Nat} (h : i < n) : ArC S (2 + 14 * i) (A.1 i) (A.2.1 i) (A.2.2.1 i) (A.2.2.2.1 i) (A.2.2.2.2.1 i) (A.2.2.2.2.2 i) := (C.2 i h).2
theorem c_area_in {i : Nat} {Post : Int32 → hs → Prop} (C : CA S n A) (h : i < n) : PX6_isArea 0 (nI i) S Post = Post 1 S := by
  have h12 := C.n12
  have c1 : ¬ nI n ≤ nI i := nI_ge h (by omega)
  have c2 : ¬ nI i < 0 := nI_pos (by omega)
  simp only [PX6_isArea, PX6_isArea_17, PX6_isArea_18, eq_true C.o, C.r0, eq_true C.ao, C.az, c1, c2, Option.some.injEq, exists_eq_left', true_and, false_implies, not_false_eq_true, true_implies, or_true]
theorem c_area_out {v : Int32} {Post : Int32 → hs → Prop} (C : CA S n A) (h : v < 0 ∨ nI n ≤ v) : PX6_isArea 0 v S Post = Post 0 S := by
  simp only [PX6_isArea, PX6_isArea_17, PX6_isArea_18, eq_true C.o, C.r0, eq_true C.ao, C.az, Option.some.injEq, exists_eq_left', true_and, true_or]
  by_cases c : v < 0
  · simp [c]
  · have := h.resolve_left c
    simp [c, this]
theorem c_there {i : Nat} {Post : Int32 → hs → Prop} (C : CA S n A) (h : i < n) : PX6_isThere 0 (nI i) S Post = Post (zb (decide (0 < A.1 i))) S := by
  have o1 : ¬ (1 : Int32) = 0 := by decide
  simp only [PX6_isThere, PX6_isThere_24, PX6_isThere_25, eq_true C.o, c_area_in C h, o1, C.r0, eq_true (C.ix h), C.ri h, eq_true (C.a h).o, s_there (C.a h), zb_0, Option.some.injEq, exists_eq_left', true_and, false_implies, not_false_eq_true, true_implies, or_true, true_or]
  by_cases h : 0 < A.1 i <;> simp [h, zb]
theorem c_there_out {v : Int32} {Post : Int32 → hs → Prop} (C : CA S n A) (h : v < 0 ∨ nI n ≤ v) : PX6_isThere 0 v S Post = Post 0 S := by
  simp only [PX6_isThere, PX6_isThere_24, PX6_isThere_25, eq_true C.o, c_area_out C h, true_and, not_true_eq_false, false_implies, true_implies, and_true, true_or]
variable {Z : Nat}
theorem MA.M (C : MA S Z n A) : Md S Z := C.1
theorem MA.a (C : MA S Z n A) {i : Nat} (h : i < n) : ArM S Z i (A.1 i) (A.2.1 i) (A.2.2.1 i) (A.2.2.2.1 i) (A.2.2.2.2.1 i) (A.2.2.2.2.2 i) := C.2.2 i h
theorem m_area_in {i : Nat} {Post : Int32 → hs → Prop} (C : MA S Z n A) (hn : n ≤ 12) (h : i < n) : PX7_isArea Z (nI i) S Post = Post 1 S := by
  have c1 : ¬ nI n ≤ nI i := nI_ge h (by omega)
  have c2 : ¬ nI i < 0 := nI_pos (by omega)
  simp only [PX7_isArea, PX7_isArea_16, PX7_isArea_17, eq_true C.M.1, C.2.1, c1, c2, true_and, false_implies, not_false_eq_true, true_implies, or_true]
theorem m_area_out {v : Int32} {Post : Int32 → hs → Prop} (C : MA S Z n A) (h : v < 0 ∨ nI n ≤ v) : PX7_isArea Z v S Post = Post 0 S := by
  simp only [PX7_isArea, PX7_isArea_16, PX7_isArea_17, eq_true C.M.1, C.2.1, true_and, true_or]
  by_cases c : v < 0
  · simp [c]
  · have := h.resolve_left c
    simp [c, this]
theorem m_there_in {i : Nat} {Post : Int32 → hs → Prop} (C : MA S Z n A) (hn : n ≤ 12) (h : i < n) : PX7_isThere Z (nI i) S Post = Post (zb (decide (0 < A.1 i))) S := m_there (C.a h) C.2.1 h hn
theorem m_there_out {v : Int32} {Post : Int32 → hs → Prop} (C : MA S Z n A) (h : v < 0 ∨ nI n ≤ v) : PX7_isThere Z v S Post = Post 0 S := by
  simp only [PX7_isThere, PX7_isThere_21, PX7_isThere_22, eq_true C.M.1, m_area_out C h, true_and, not_true_eq_false, false_implies, true_implies, and_true, true_or]
end
section
variable {S : hs} {n : Nat} {T : Gk}
theorem CT.r2 (C : CT S n T) : hr S 0 2 = some (7 + 14 * n) := C.1.1
theorem CT.ao (C : CT S n T) : is S 13 (7 + 14 * n) := C.1.2.1
theorem CT.az (C : CT S n T) : hz S (7 + 14 * n) = 6 := C.1.2.2.1
theorem CT.nt (C : CT S n T) : hi S 0 3 = nI T.1 := C.1.2.2.2.1
theorem CT.n6 (C : CT S n T) : T.1 ≤ 6 := C.1.2.2.2.2
theorem CT.ix (C : CT S n T) {t : Nat} (h : t < 6) : ix S 13 (7 + 14 * n) (nI t) := ix_n C.ao C.az h (by omega)
theorem CT.ri (C : CT S n T) {t : Nat} (h : t < 6) : hr S (7 + 14 * n) (nI t).toNatClampNeg = some (8 + 14 * n + 4 * t) := by
  rw [nI_clamp (by omega)]; exact (C.2 t h).1
theorem CT.t (C : CT S n T) {t : Nat} (h : t < 6) : TrC S (8 + 14 * n + 4 * t) (T.2.1 t) (T.2.2 t) := (C.2 t h).2
theorem c_track_in {t : Nat} {Post : Int32 → hs → Prop} (C : CT S n T) (ho : is S 6 0) (h : t < T.1) : PX6_isTrack 0 (nI t) S Post = Post 1 S := by
  have h6 := C.n6
  have c1 : ¬ nI T.1 ≤ nI t := nI_ge h (by omega)
  have c2 : ¬ nI t < 0 := nI_pos (by omega)
  have c3 : ¬ nI 6 ≤ nI t := nI_ge (by omega) (by omega)
  simp only [PX6_isTrack, PX6_isTrack_25, PX6_isTrack_26, eq_true ho, C.r2, eq_true C.ao, C.az, C.nt, c1, c2, c3, Option.some.injEq, exists_eq_left', true_and, false_implies, not_false_eq_true, true_implies, or_true]
theorem c_track_out {v : Int32} {Post : Int32 → hs → Prop} (C : CT S n T) (ho : is S 6 0) (h : v < 0 ∨ nI T.1 ≤ v) : PX6_isTrack 0 v S Post = Post 0 S := by
  simp only [PX6_isTrack, PX6_isTrack_25, PX6_isTrack_26, eq_true ho, C.r2, eq_true C.ao, C.az, C.nt, Option.some.injEq, exists_eq_left', true_and, true_or]
  by_cases c : v < 0
  · simp [c]
  · have := h.resolve_left c
    simp [c, this]
variable {Z : Nat}
theorem m_track_in {t : Nat} {Post : Int32 → hs → Prop} (C : MT S Z T) (h : t < T.1) : PX7_isTrack Z (nI t) S Post = Post 1 S := by
  have h6 := C.2.2.1
  have c1 : ¬ nI T.1 ≤ nI t := nI_ge h (by omega)
  have c2 : ¬ nI t < 0 := nI_pos (by omega)
  simp only [PX7_isTrack, PX7_isTrack_16, PX7_isTrack_17, eq_true C.1.1, C.2.1, c1, c2, true_and, false_implies, not_false_eq_true, true_implies, or_true]
theorem m_track_out {v : Int32} {Post : Int32 → hs → Prop} (C : MT S Z T) (h : v < 0 ∨ nI T.1 ≤ v) : PX7_isTrack Z v S Post = Post 0 S := by
  simp only [PX7_isTrack, PX7_isTrack_16, PX7_isTrack_17, eq_true C.1.1, C.2.1, true_and, true_or]
  by_cases c : v < 0
  · simp [c]
  · have := h.resolve_left c
    simp [c, this]
end
/-- within least and most -/
def gin (v l m : Int) : Bool := decide (l ≤ v) && decide (v ≤ m)
theorem m_isIn {S : hs} {v l m : Int} {Post : Int32 → hs → Prop} (hv : bJ v) (hl : bJ l) (hm : bJ m) : PX7_isIn (cJ v) (cJ l) (cJ m) S Post = Post (zb (gin v l m)) S := by
  simp only [PX7_isIn, PX7_isIn_17, PX7_isIn_18, cJ_lt hv hl, cJ_lt hm hv]
  unfold gin
  simp only [← Int.not_le]
  by_cases c1 : l ≤ v <;> by_cases c2 : v ≤ m <;> simp [c1, c2, zb]
theorem c_coord {S : hs} {v : Int} {Post : Int32 → hs → Prop} (hv : bJ v) : PX6_isCoordinate (cJ v) S Post = Post (zb (gin v (-200) 200)) S := by
  have m2 : ((-200) : Int64) = cJ (-200) := by decide
  have e1 : (cJ v < ((-200) : Int64)) = (v < -200) := by rw [m2, cJ_lt hv ⟨by omega, by omega⟩]
  have p2 : (200 : Int64) = cJ 200 := by decide
  have e2 : ((200 : Int64) < cJ v) = (200 < v) := by rw [p2, cJ_lt ⟨by omega, by omega⟩ hv]
  simp only [PX6_isCoordinate, PX6_isCoordinate_20, PX6_isCoordinate_21, e1, e2]
  unfold gin
  simp only [← Int.not_le]
  by_cases c1 : -200 ≤ v <;> by_cases c2 : v ≤ 200 <;> simp [c1, c2, zb]
theorem c_place {S : hs} {x y : Int} {Post : Int32 → hs → Prop} (hx : bJ x) (hy : bJ y) : PX6_isPlace (cJ x) (cJ y) S Post = Post (zb (gin x (-200) 200 && gin y (-200) 200)) S := by
  simp only [PX6_isPlace, PX6_isPlace_18, PX6_isPlace_19, c_coord hx, c_coord hy, zb_0]
  cases gin x (-200) 200 <;> cases gin y (-200) 200 <;> simp [zb]
theorem gin_cr {x : Int} (h : gin x (-200) 200 = true) : cr x := by
  unfold gin at h
  simp at h
  exact h
theorem c_gear_in {S : hs} {g : Nat} {Post : Int32 → hs → Prop} (h : g < 8) : PX6_isGear (nI g) S Post = Post 1 S := by
  have c1 : ¬ nI 8 ≤ nI g := nI_ge h (by omega)
  have c2 : ¬ nI g < 0 := nI_pos (by omega)
  simp only [PX6_isGear, PX6_isGear_14, PX6_isGear_15, show (8 : Int32) = nI 8 from rfl, c1, c2, true_and, false_implies, not_false_eq_true, true_implies, or_true]
theorem c_gear_out {S : hs} {v : Int32} {Post : Int32 → hs → Prop} (h : v < 0 ∨ nI 8 ≤ v) : PX6_isGear v S Post = Post 0 S := by
  simp only [PX6_isGear, PX6_isGear_14, PX6_isGear_15, show (8 : Int32) = nI 8 from rfl, true_and, true_or]
  by_cases c : v < 0
  · simp [c]
  · have := h.resolve_left c
    simp [c, this]
theorem nI_lc {g : Nat} (h : g < 2 ^ 31) : (nI g).toInt64 = cJ g := by rw [nI_c, cI_l ⟨by omega, by omega⟩]
theorem m_gear_in {S : hs} {g : Nat} {Post : Int32 → hs → Prop} (h : g < 8) : PX7_isIn (nI g).toInt64 0 7 S Post = Post 1 S := by
  rw [nI_lc (by omega), j0, show (7 : Int64) = cJ 7 from rfl, m_isIn ⟨by omega, by omega⟩ ⟨by omega, by omega⟩ ⟨by omega, by omega⟩]
  unfold gin
  simp [show (g : Int) ≤ 7 by omega, zb]
theorem m_gear_out {S : hs} {v : Int32} {Post : Int32 → hs → Prop} (h : v < 0 ∨ nI 8 ≤ v) : PX7_isIn v.toInt64 0 7 S Post = Post 0 S := by
  obtain ⟨e, b⟩ := cI_of v
  generalize v.toInt = c at e b
  subst e
  rw [i0, nI_c, cI_lt b ⟨by omega, by omega⟩, cI_le ⟨by omega, by omega⟩ b] at h
  unfold bI at b
  rw [cI_l b, j0, show (7 : Int64) = cJ 7 from rfl, m_isIn ⟨by omega, by omega⟩ ⟨by omega, by omega⟩ ⟨by omega, by omega⟩]
  unfold gin
  by_cases h1 : 0 ≤ c
  · simp [h1, show ¬ c ≤ 7 by omega, zb]
  · simp [h1, zb]
