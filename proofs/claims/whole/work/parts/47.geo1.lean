/-! a piece against a ring: what is the same at two places of a piece with no side between them -/
section
variable {x y : Int}
theorem mpos (hx : 0 < x) : (0 < x * y ↔ 0 < y) ∧ (x * y < 0 ↔ y < 0) ∧ (x * y = 0 ↔ y = 0) := by
  rcases Int.lt_trichotomy y 0 with h | h | h
  · have := Int.mul_neg_of_pos_of_neg hx h
    omega
  · subst h
    rw [Int.mul_zero]
    omega
  · have := Int.mul_pos hx h
    omega
theorem mneg (hx : x < 0) : (0 < x * y ↔ y < 0) ∧ (x * y < 0 ↔ 0 < y) ∧ (x * y = 0 ↔ y = 0) := by
  rcases Int.lt_trichotomy y 0 with h | h | h
  · have := Int.mul_pos_of_neg_of_neg hx h
    omega
  · subst h
    rw [Int.mul_zero]
    omega
  · have := Int.mul_neg_of_neg_of_pos hx h
    omega
theorem mlt (h : x * y < 0) : (y < 0 ↔ 0 < x) ∧ (0 < y ↔ x < 0) ∧ x ≠ 0 ∧ y ≠ 0 := by
  rcases Int.lt_trichotomy x 0 with q | q | q
  · have := mneg (y := y) q
    omega
  · subst q
    rw [Int.zero_mul] at h
    omega
  · have := mpos (y := y) q
    omega
theorem mgt (h : 0 < x * y) : (y < 0 ↔ x < 0) ∧ (0 < y ↔ 0 < x) ∧ x ≠ 0 ∧ y ≠ 0 := by
  rcases Int.lt_trichotomy x 0 with q | q | q
  · have := mneg (y := y) q
    omega
  · subst q
    rw [Int.zero_mul] at h
    omega
  · have := mpos (y := y) q
    omega
end
/-- of opposite signs, or 0 -/
def bet (p q : Int) : Prop := (0 ≤ p ∧ q ≤ 0) ∨ (p ≤ 0 ∧ 0 ≤ q)
/-- of one sign -/
def one (p q : Int) : Prop := (0 < p ∧ 0 < q) ∨ (p < 0 ∧ q < 0)
theorem bet_one {p q : Int} : bet p q ↔ ¬ one p q := by unfold bet one; omega
theorem bet_c {p q : Int} : bet p q ↔ bet q p := by unfold bet; omega
theorem gS_bet {ax ay bx by_ x y w : Int} (hw : 0 < w) : gS ax ay bx by_ x y w = true ↔ bet (x - ax * w) (x - bx * w) ∧ bet (y - ay * w) (y - by_ * w) := by
  have l1 : ∀ a b : Int, (min a b * w ≤ x ∧ x ≤ max a b * w) ↔ bet (x - a * w) (x - b * w) := by
    intro a b
    unfold bet
    rcases Int.le_total a b with h | h
    · have := Int.mul_le_mul_of_nonneg_right h (Int.le_of_lt hw)
      rw [Int.min_eq_left h, Int.max_eq_right h]
      omega
    · have := Int.mul_le_mul_of_nonneg_right h (Int.le_of_lt hw)
      rw [Int.min_eq_right h, Int.max_eq_left h]
      omega
  have l2 : ∀ a b : Int, (min a b * w ≤ y ∧ y ≤ max a b * w) ↔ bet (y - a * w) (y - b * w) := by
    intro a b
    unfold bet
    rcases Int.le_total a b with h | h
    · have := Int.mul_le_mul_of_nonneg_right h (Int.le_of_lt hw)
      rw [Int.min_eq_left h, Int.max_eq_right h]
      omega
    · have := Int.mul_le_mul_of_nonneg_right h (Int.le_of_lt hw)
      rw [Int.min_eq_right h, Int.max_eq_left h]
      omega
  unfold gS
  simp only [Bool.and_eq_true, decide_eq_true_eq]
  rw [← l1, ← l2]
  constructor
  · rintro ⟨h1, h2, h3, h4⟩; exact ⟨⟨h1, h2⟩, h3, h4⟩
  · rintro ⟨⟨h1, h2⟩, h3, h4⟩; exact ⟨h1, h2, h3, h4⟩
/-- a side's toggle, by the heights over its ends and the turn -/
def cc (hA hB p : Int) : Bool := (decide (0 ≤ hA) != decide (0 ≤ hB)) && (decide (p ≤ 0) == decide (0 ≤ hB))
theorem cc_g {ax ay bx by_ x y w : Int} : gcross ax ay bx by_ x y w = cc (y - ay * w) (y - by_ * w) (gT ax ay bx by_ x y w) := by
  unfold gcross cc
  simp only [Int.sub_nonneg]
theorem kA {D dy sy a p1 p2 u1 u2 h1 h2 : Int} (hD : 0 < D) (hu1 : 0 < u1) (hu2 : 0 < u2) (m : u1 * h2 - u2 * h1 = D * dy) (i2 : D * (sy * a) = p1 * h2 - p2 * h1) (hp : one p1 p2) (hne : (0 ≤ h1 ∧ h2 < 0) ∨ (h1 < 0 ∧ 0 ≤ h2)) : 0 < dy * a ↔ ((0 < sy ∧ 0 < p1) ∨ (sy < 0 ∧ p1 < 0)) := by
  rcases hne with ⟨n1, n2⟩ | ⟨n1, n2⟩
  · have hdy : dy < 0 := by
      have e1 := Int.mul_neg_of_pos_of_neg hu1 n2
      have e2 := Int.mul_nonneg (Int.le_of_lt hu2) n1
      exact (mpos hD).2.1.mp (by omega)
    rw [(mneg hdy).1]
    rcases hp with ⟨q1, q2⟩ | ⟨q1, q2⟩
    · have e1 := Int.mul_neg_of_pos_of_neg q1 n2
      have e2 := Int.mul_nonneg (Int.le_of_lt q2) n1
      have hs : sy * a < 0 := (mpos hD).2.1.mp (by omega)
      have := mlt hs
      omega
    · have e1 := Int.mul_pos_of_neg_of_neg q1 n2
      have e2 := Int.mul_nonpos_of_nonpos_of_nonneg (Int.le_of_lt q2) n1
      have hs : 0 < sy * a := (mpos hD).1.mp (by omega)
      have := mgt hs
      omega
  · have hdy : 0 < dy := by
      have e1 := Int.mul_neg_of_pos_of_neg hu2 n1
      have e2 := Int.mul_nonneg (Int.le_of_lt hu1) n2
      exact (mpos hD).1.mp (by omega)
    rw [(mpos hdy).1]
    rcases hp with ⟨q1, q2⟩ | ⟨q1, q2⟩
    · have e1 := Int.mul_neg_of_pos_of_neg q2 n1
      have e2 := Int.mul_nonneg (Int.le_of_lt q1) n2
      have hs : 0 < sy * a := (mpos hD).1.mp (by omega)
      have := mgt hs
      omega
    · have e1 := Int.mul_pos_of_neg_of_neg q2 n1
      have e2 := Int.mul_nonpos_of_nonpos_of_nonneg (Int.le_of_lt q1) n2
      have hs : sy * a < 0 := (mpos hD).2.1.mp (by omega)
      have := mlt hs
      omega
theorem cc_i {hA hB u sy p : Int} (e : hA - hB = u * sy) (hu : 0 < u) (hp : p ≠ 0) : cc hA hB p = ((decide (0 ≤ hA) != decide (0 ≤ hB)) && decide ((0 < sy ∧ 0 < p) ∨ (sy < 0 ∧ p < 0))) := by
  unfold cc
  by_cases c1 : 0 ≤ hA <;> by_cases c2 : 0 ≤ hB
  · simp [c1, c2]
  · have : 0 < sy := (mpos hu).1.mp (by omega)
    by_cases c3 : p ≤ 0
    · simp [c1, c2, c3, show ¬ 0 < p by omega, show ¬ sy < 0 by omega]
    · simp [c1, c2, c3, show 0 < p by omega, this]
  · have : sy < 0 := (mpos hu).2.1.mp (by omega)
    by_cases c3 : p ≤ 0
    · simp [c1, c2, c3, show p < 0 by omega, this]
    · simp [c1, c2, c3, show ¬ p < 0 by omega, show ¬ 0 < sy by omega]
  · simp [c1, c2]
theorem cc_ii {hA hB dy p a b : Int} (i1 : dy * p = hA * b - hB * a) (h : one a b) : cc hA hB p = ((decide (0 ≤ hA) != decide (0 ≤ hB)) && decide (0 < dy * a)) := by
  unfold cc
  by_cases c1 : 0 ≤ hA <;> by_cases c2 : 0 ≤ hB
  · simp [c1, c2]
  · rcases h with ⟨h1, h2⟩ | ⟨h1, h2⟩
    · have e1 := Int.mul_nonneg c1 (Int.le_of_lt h2)
      have e2 := Int.mul_neg_of_neg_of_pos (show hB < 0 by omega) h1
      have e3 := mgt (x := dy) (y := p) (by omega)
      have e4 : 0 < dy * a ↔ 0 < dy := by rw [Int.mul_comm]; exact (mpos h1).1
      by_cases c3 : p ≤ 0
      · simp [c1, c2, c3, show ¬ 0 < dy * a by omega]
      · simp [c1, c2, c3, show 0 < dy * a by omega]
    · have e1 := Int.mul_nonpos_of_nonneg_of_nonpos c1 (Int.le_of_lt h2)
      have e2 := Int.mul_pos_of_neg_of_neg (show hB < 0 by omega) h1
      have e3 := mlt (x := dy) (y := p) (by omega)
      have e4 : 0 < dy * a ↔ dy < 0 := by rw [Int.mul_comm]; exact (mneg h1).1
      by_cases c3 : p ≤ 0
      · simp [c1, c2, c3, show ¬ 0 < dy * a by omega]
      · simp [c1, c2, c3, show 0 < dy * a by omega]
  · rcases h with ⟨h1, h2⟩ | ⟨h1, h2⟩
    · have e1 := Int.mul_nonneg c2 (Int.le_of_lt h1)
      have e2 := Int.mul_neg_of_neg_of_pos (show hA < 0 by omega) h2
      have e3 := mlt (x := dy) (y := p) (by omega)
      have e4 : 0 < dy * a ↔ 0 < dy := by rw [Int.mul_comm]; exact (mpos h1).1
      by_cases c3 : p ≤ 0
      · simp [c1, c2, c3, show 0 < dy * a by omega]
      · simp [c1, c2, c3, show ¬ 0 < dy * a by omega]
    · have e1 := Int.mul_nonpos_of_nonneg_of_nonpos c2 (Int.le_of_lt h1)
      have e2 := Int.mul_pos_of_neg_of_neg (show hA < 0 by omega) h2
      have e3 := mgt (x := dy) (y := p) (by omega)
      have e4 : 0 < dy * a ↔ dy < 0 := by rw [Int.mul_comm]; exact (mneg h1).1
      by_cases c3 : p ≤ 0
      · simp [c1, c2, c3, show 0 < dy * a by omega]
      · simp [c1, c2, c3, show ¬ 0 < dy * a by omega]
  · simp [c1, c2]
theorem bool_i : ∀ A1 A2 B1 B2 k GA GB : Bool, (A1 = A2 ∨ GA = k) → (B1 = B2 ∨ GB = k) → ((((A1 != B1) && k) ^^ ((A2 != B2) && k)) = (((A1 ^^ A2) && GA) ^^ ((B1 ^^ B2) && GB))) := by decide
theorem l1 {D dy sy a b p1 p2 u1 u2 hA1 hA2 hB1 hB2 : Int} (hD : 0 < D) (hu1 : 0 < u1) (hu2 : 0 < u2) (e1 : hA1 - hB1 = u1 * sy) (e2 : hA2 - hB2 = u2 * sy) (mA : u1 * hA2 - u2 * hA1 = D * dy) (mB : u1 * hB2 - u2 * hB1 = D * dy) (i1 : dy * p1 = hA1 * b - hB1 * a) (i1' : dy * p2 = hA2 * b - hB2 * a) (i2 : D * (sy * a) = p1 * hA2 - p2 * hA1) (i2' : D * (sy * b) = p1 * hB2 - p2 * hB1) (H : one p1 p2 ∨ one a b ∨ (a = 0 ∧ b = 0 ∧ cc hA1 hB1 p1 = false ∧ cc hA2 hB2 p2 = false)) : (cc hA1 hB1 p1 ^^ cc hA2 hB2 p2) = (((decide (0 ≤ hA1) ^^ decide (0 ≤ hA2)) && decide (0 < dy * a)) ^^ ((decide (0 ≤ hB1) ^^ decide (0 ≤ hB2)) && decide (0 < dy * b))) := by
  rcases H with H | H | ⟨h1, h2, h3, h4⟩
  · have hp1 : p1 ≠ 0 := by unfold one at H; omega
    have hp2 : p2 ≠ 0 := by unfold one at H; omega
    have ek : decide ((0 < sy ∧ 0 < p2) ∨ (sy < 0 ∧ p2 < 0)) = decide ((0 < sy ∧ 0 < p1) ∨ (sy < 0 ∧ p1 < 0)) := by
      unfold one at H
      apply decide_eq_decide.mpr
      omega
    rw [cc_i e1 hu1 hp1, cc_i e2 hu2 hp2, ek]
    refine bool_i _ _ _ _ _ _ _ ?_ ?_
    · by_cases c1 : 0 ≤ hA1 <;> by_cases c2 : 0 ≤ hA2
      · left; simp [c1, c2]
      · right; exact decide_eq_decide.mpr (kA hD hu1 hu2 mA i2 H (by omega))
      · right; exact decide_eq_decide.mpr (kA hD hu1 hu2 mA i2 H (by omega))
      · left; simp [c1, c2]
    · by_cases c1 : 0 ≤ hB1 <;> by_cases c2 : 0 ≤ hB2
      · left; simp [c1, c2]
      · right; exact decide_eq_decide.mpr (kA hD hu1 hu2 mB i2' H (by omega))
      · right; exact decide_eq_decide.mpr (kA hD hu1 hu2 mB i2' H (by omega))
      · left; simp [c1, c2]
  · rw [cc_ii i1 H, cc_ii i1' H]
    refine bool_i _ _ _ _ _ _ _ (Or.inr rfl) (Or.inr ?_)
    apply decide_eq_decide.mpr
    rcases Int.lt_trichotomy dy 0 with h | h | h
    · have := mneg (y := a) h
      have := mneg (y := b) h
      unfold one at H
      omega
    · subst h
      simp
    · have := mpos (y := a) h
      have := mpos (y := b) h
      unfold one at H
      omega
  · rw [h3, h4, h1, h2]
    simp
/-- the toggles of rounds k to k + d -/
def xr (f : Nat → Bool) : Nat → Nat → Bool → Bool
  | _, 0, o => o
  | k, d + 1, o => xr f (k + 1) d (o ^^ f k)
theorem xr_o (f : Nat → Bool) : ∀ d k o, xr f k d o = (o ^^ xr f k d false)
  | 0, k, o => by simp [xr]
  | d + 1, k, o => by
    unfold xr
    rw [xr_o f d (k + 1) (o ^^ f k), xr_o f d (k + 1) (false ^^ f k)]
    cases o <;> cases f k <;> simp
theorem xr_2 (f g h : Nat → Bool) : ∀ d k, (∀ j, k ≤ j → j < k + d → (f j ^^ g j) = h j) → (xr f k d false ^^ xr g k d false) = xr h k d false
  | 0, k, _ => rfl
  | d + 1, k, e => by
    unfold xr
    rw [xr_o f d, xr_o g d, xr_o h d, ← xr_2 f g h d (k + 1) (fun j h1 h2 => e j (by omega) (by omega)), ← e k (by omega) (by omega)]
    cases f k <;> cases g k <;> cases xr f (k + 1) d false <;> cases xr g (k + 1) d false <;> rfl
theorem xr_t (G : Nat → Bool) (n : Nat) : ∀ d k, k + d + 1 = n → xr (fun k => G k ^^ G (nx n k)) k (d + 1) false = (G k ^^ G 0)
  | 0, k, e => by
    have : nx n k = 0 := by unfold nx; rw [if_neg (by omega)]
    simp [xr, this]
  | d + 1, k, e => by
    unfold xr
    rw [xr_o, xr_t G n d (k + 1) (by omega)]
    have : nx n k = k + 1 := by unfold nx; rw [if_pos (by omega)]
    rw [this]
    cases G k <;> cases G (k + 1) <;> cases G 0 <;> rfl
theorem glo_xr {n : Nat} {X Y : Nat → Int} {x y w : Int} : ∀ d k odd, (∀ j, k ≤ j → j < k + d → gon (X j) (Y j) (X (nx n j)) (Y (nx n j)) x y w = false) → glo n X Y x y w k d odd = (if xr (fun j => gcross (X j) (Y j) (X (nx n j)) (Y (nx n j)) x y w) k d odd = true then 1 else -1)
  | 0, k, odd, _ => rfl
  | d + 1, k, odd, h => by
    unfold glo xr
    rw [h k (by omega) (by omega)]
    simp only [Bool.false_eq_true, if_false]
    exact glo_xr d (k + 1) _ (fun j h1 h2 => h j (by omega) (by omega))
/-- no side through either place, and the toggles differ by a potential: the same lie -/
theorem gloc_same {n : Nat} {X Y : Nat → Int} {x y w x' y' w' : Int} (G : Nat → Bool) (h1 : ∀ k, k < n → gon (X k) (Y k) (X (nx n k)) (Y (nx n k)) x y w = false) (h2 : ∀ k, k < n → gon (X k) (Y k) (X (nx n k)) (Y (nx n k)) x' y' w' = false) (h : ∀ k, k < n → (gcross (X k) (Y k) (X (nx n k)) (Y (nx n k)) x y w ^^ gcross (X k) (Y k) (X (nx n k)) (Y (nx n k)) x' y' w') = (G k ^^ G (nx n k))) : gloc n X Y x y w = gloc n X Y x' y' w' := by
  unfold gloc
  rw [glo_xr n 0 false (fun j _ q => h1 j (by omega)), glo_xr n 0 false (fun j _ q => h2 j (by omega))]
  have e := xr_2 _ _ (fun k => G k ^^ G (nx n k)) n 0 (fun j _ q => h j (by omega))
  have t : xr (fun k => G k ^^ G (nx n k)) 0 n false = false := by
    cases n with
    | zero => rfl
    | succ m => rw [xr_t G (m + 1) m 0 (by omega)]; cases G 0 <;> rfl
  rw [t] at e
  revert e
  generalize xr _ 0 n false = p
  generalize xr _ 0 n false = q
  cases p <;> cases q <;> simp
theorem glo_on {n : Nat} {X Y : Nat → Int} {x y w : Int} : ∀ d k odd, (∃ j, k ≤ j ∧ j < k + d ∧ gon (X j) (Y j) (X (nx n j)) (Y (nx n j)) x y w = true) → glo n X Y x y w k d odd = 0
  | 0, k, odd, ⟨j, h1, h2, _⟩ => by omega
  | d + 1, k, odd, ⟨j, h1, h2, h3⟩ => by
    unfold glo
    by_cases e : j = k
    · subst e; rw [if_pos h3]
    · split
      · rfl
      · exact glo_on d (k + 1) _ ⟨j, by omega, by omega, h3⟩
theorem gloc_on {n : Nat} {X Y : Nat → Int} {x y w : Int} : gloc n X Y x y w = 0 ↔ ∃ j, j < n ∧ gon (X j) (Y j) (X (nx n j)) (Y (nx n j)) x y w = true := by
  constructor
  · intro h
    refine Classical.byContradiction fun q => ?_
    unfold gloc at h
    rw [glo_xr n 0 false (fun j _ hj => Bool.eq_false_iff.mpr (fun g => q ⟨j, by omega, g⟩))] at h
    split at h <;> omega
  · rintro ⟨j, h1, h2⟩
    exact glo_on n 0 false ⟨j, by omega, by omega, h2⟩
/-- the same place by another divisor -/
theorem gT_k {ax ay bx by_ x y w k : Int} : gT ax ay bx by_ (k * x) (k * y) (k * w) = k * gT ax ay bx by_ x y w := by
  unfold gT
  grind
theorem gon_k {ax ay bx by_ x y w k : Int} (hk : 0 < k) (hw : 0 < w) : gon ax ay bx by_ (k * x) (k * y) (k * w) = gon ax ay bx by_ x y w := by
  have e : ∀ a z : Int, k * z - a * (k * w) = k * (z - a * w) := by intro a z; grind
  have b : ∀ p q : Int, bet (k * p) (k * q) ↔ bet p q := by
    intro p q
    have := mpos (y := p) hk
    have := mpos (y := q) hk
    unfold bet
    omega
  apply Bool.eq_iff_iff.mpr
  unfold gon
  simp only [Bool.and_eq_true, decide_eq_true_eq]
  rw [gS_bet (Int.mul_pos hk hw), gS_bet hw, gT_k, (mpos hk).2.2, e, e, e, e, b, b]
theorem gcross_k {ax ay bx by_ x y w k : Int} (hk : 0 < k) : gcross ax ay bx by_ (k * x) (k * y) (k * w) = gcross ax ay bx by_ x y w := by
  rw [cc_g, cc_g, gT_k]
  have e : ∀ a : Int, k * y - a * (k * w) = k * (y - a * w) := by intro a; grind
  rw [e, e]
  have f : ∀ z : Int, decide (0 ≤ k * z) = decide (0 ≤ z) := by
    intro z
    have := mpos (y := z) hk
    apply decide_eq_decide.mpr
    omega
  have f' : ∀ z : Int, decide (k * z ≤ 0) = decide (z ≤ 0) := by
    intro z
    have := mpos (y := z) hk
    apply decide_eq_decide.mpr
    omega
  unfold cc
  rw [f, f, f']
theorem glo_k {n : Nat} {X Y : Nat → Int} {x y w k : Int} (hk : 0 < k) (hw : 0 < w) : ∀ d j odd, glo n X Y (k * x) (k * y) (k * w) j d odd = glo n X Y x y w j d odd
  | 0, j, odd => rfl
  | d + 1, j, odd => by
    unfold glo
    rw [gon_k hk hw, gcross_k hk, glo_k hk hw d]
theorem gloc_k {n : Nat} {X Y : Nat → Int} {x y w k : Int} (hk : 0 < k) (hw : 0 < w) : gloc n X Y (k * x) (k * y) (k * w) = gloc n X Y x y w := glo_k hk hw n 0 false
