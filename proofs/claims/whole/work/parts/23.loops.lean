/-! loops of the preconditions: what they come to -/
/-- a loop from j on, d rounds to go: each round goes on with a new state, or ends in a proposition -/
def lrun {σ : Type} (f : Nat → σ → σ ⊕ Prop) (rN : σ → Prop) : Nat → Nat → σ → Prop
  | _, 0, s => rN s
  | j, d + 1, s => match f j s with
    | .inl s' => lrun f rN (j + 1) d s'
    | .inr q => q
theorem loopS {σ : Type} {P : Nat → Nat → σ → Prop} {f : Nat → σ → σ ⊕ Prop} {rN : σ → Prop} {N : Nat} (I : Nat → σ → Prop) (h0 : ∀ j s, P 0 j s = False)
    (hs : ∀ n j s, j < N → I j s → P (n + 1) j s = (match f j s with | .inl s' => P n (j + 1) s' | .inr q => q)) (hI : ∀ j s s', j < N → I j s → f j s = .inl s' → I (j + 1) s') (hN : ∀ n s, I N s → P (n + 1) N s = rN s) :
    ∀ d j s, j + d = N → I j s → (∃ n, P n j s) = lrun f rN j d s := by
  intro d
  induction d with
  | zero =>
    intro j s hj hi0
    obtain rfl : j = N := by omega
    apply propext
    constructor
    · rintro ⟨n, h⟩
      cases n with
      | zero => rw [h0] at h; exact h.elim
      | succ n => rw [hN n s hi0] at h; exact h
    · intro h
      exact ⟨1, by rw [hN 0 s hi0]; exact h⟩
  | succ d ih =>
    intro j s hj hi0
    have hlt : j < N := by omega
    unfold lrun
    cases hf : f j s with
    | inl s' =>
      have e := ih (j + 1) s' (by omega) (hI j s s' hlt hi0 hf)
      show (∃ n, P n j s) = lrun f rN (j + 1) d s'
      rw [← e]
      apply propext
      constructor
      · rintro ⟨n, h⟩
        cases n with
        | zero => rw [h0] at h; exact h.elim
        | succ n => rw [hs n j s hlt hi0, hf] at h; exact ⟨n, h⟩
      · rintro ⟨n, h⟩
        exact ⟨n + 1, by rw [hs n j s hlt hi0, hf]; exact h⟩
    | inr q =>
      show (∃ n, P n j s) = q
      apply propext
      constructor
      · rintro ⟨n, h⟩
        cases n with
        | zero => rw [h0] at h; exact h.elim
        | succ n => rw [hs n j s hlt hi0, hf] at h; exact h
      · intro h
        exact ⟨1, by rw [hs 0 j s hlt hi0, hf]; exact h⟩
/-- all of the d numbers from j on -/
def af (p : Nat → Bool) : Nat → Nat → Bool
  | _, 0 => true
  | j, d + 1 => p j && af p (j + 1) d
/-- a loop that goes on while p holds -/
theorem loopA {P : Nat → Nat → Prop} {p : Nat → Bool} {r rN : Prop} {N : Nat} (h0 : ∀ j, P 0 j = False) (hs : ∀ n j, j < N → P (n + 1) j = (if p j = true then P n (j + 1) else r)) (hN : ∀ n, P (n + 1) N = rN) :
    ∀ d j, j + d = N → (∃ n, P n j) = (if af p j d = true then rN else r) := by
  intro d
  induction d with
  | zero =>
    intro j hj
    obtain rfl : j = N := by omega
    simp only [af, if_true]
    apply propext
    constructor
    · rintro ⟨n, h⟩
      cases n with
      | zero => rw [h0] at h; exact h.elim
      | succ n => rw [hN n] at h; exact h
    · intro h
      exact ⟨1, by rw [hN 0]; exact h⟩
  | succ d ih =>
    intro j hj
    have e := ih (j + 1) (by omega)
    unfold af
    cases hp : p j with
    | true =>
      rw [Bool.true_and, ← e]
      apply propext
      constructor
      · rintro ⟨n, h⟩
        cases n with
        | zero => rw [h0] at h; exact h.elim
        | succ n => rw [hs n j (by omega), hp, if_pos rfl] at h; exact ⟨n, h⟩
      · rintro ⟨n, h⟩
        exact ⟨n + 1, by rw [hs n j (by omega), hp, if_pos rfl]; exact h⟩
    | false =>
      rw [Bool.false_and, if_neg (by decide)]
      apply propext
      constructor
      · rintro ⟨n, h⟩
        cases n with
        | zero => rw [h0] at h; exact h.elim
        | succ n => rw [hs n j (by omega), hp, if_neg (by decide)] at h; exact h
      · intro h
        exact ⟨1, by rw [hs 0 j (by omega), hp, if_neg (by decide)]; exact h⟩
theorem af_congr {p q : Nat → Bool} : ∀ (d j : Nat), (∀ i, j ≤ i → i < j + d → p i = q i) → af p j d = af q j d
  | 0, _, _ => rfl
  | d + 1, j, h => by
    unfold af
    rw [h j (Nat.le_refl _) (by omega), af_congr d (j + 1) (fun i h1 h2 => h i (by omega) (by omega))]
theorem af_true {p : Nat → Bool} : ∀ (d j : Nat), af p j d = true ↔ ∀ i, j ≤ i → i < j + d → p i = true
  | 0, j => ⟨fun _ i h1 h2 => absurd h2 (by omega), fun _ => rfl⟩
  | d + 1, j => by
    unfold af
    rw [Bool.and_eq_true, af_true d (j + 1)]
    constructor
    · rintro ⟨h1, h2⟩ i h3 h4
      by_cases h : i = j
      · rw [h]; exact h1
      · exact h2 i (by omega) (by omega)
    · intro h
      exact ⟨h j (Nat.le_refl _) (by omega), fun i h1 h2 => h i (by omega) (by omega)⟩
/-! corners that fold back -/
def gfold (kx ky bx by_ hx hy : Int) : Bool := decide ((bx - kx) * (hy - ky) = (by_ - ky) * (hx - kx)) && decide (0 < (bx - kx) * (hx - kx) + (by_ - ky) * (hy - ky))
theorem sp_fold {S : hs} {a n k b c : Nat} {X Y : Nat → Int} {Post : Int32 → hs → Prop} (R : RgC S a n X Y) (hk : k < n) (hb : b < n) (hc : c < n) : PX2_foldsBackAt a (nI k) (nI b) (nI c) S Post = Post (zb (gfold (X k) (Y k) (X b) (Y b) (X c) (Y c))) S := by
  have x1 := (R.2 k hk).2
  have x2 := (R.2 b hb).2
  have x3 := (R.2 c hc).2
  simp only [PX2_foldsBackAt, PX2_foldsBackAt_91, PX2_foldsBackAt_92, eq_true R.1.1, R.1.2.1, R.1.2.2.1, Option.some.injEq, exists_eq_left', eq_true (R.ix1 hk), eq_true (R.ix1 hb), eq_true (R.ix1 hc), eq_true (R.ix2 hk), eq_true (R.ix2 hb), eq_true (R.ix2 hc), true_and, forall_eq, R.x hk, R.x hb, R.x hc, R.y hk, R.y hb, R.y hc, cI_sub, cI_mul, cI_add, i0]
  generalize X k = kx at *
  generalize Y k = ky at *
  generalize X b = bx at *
  generalize Y b = by_ at *
  generalize X c = hx at *
  generalize Y c = hy at *
  have e1 := mb (C := 400) (D := 400) (c := bx - kx) (w := hy - ky) ⟨by omega, by omega⟩ ⟨by omega, by omega⟩
  have e2 := mb (C := 400) (D := 400) (c := by_ - ky) (w := hx - kx) ⟨by omega, by omega⟩ ⟨by omega, by omega⟩
  have e3 := mb (C := 400) (D := 400) (c := bx - kx) (w := hx - kx) ⟨by omega, by omega⟩ ⟨by omega, by omega⟩
  have e4 := mb (C := 400) (D := 400) (c := by_ - ky) (w := hy - ky) ⟨by omega, by omega⟩ ⟨by omega, by omega⟩
  unfold gfold
  generalize (bx - kx) * (hy - ky) = p1 at *
  generalize (by_ - ky) * (hx - kx) = p2 at *
  generalize (bx - kx) * (hx - kx) = p3 at *
  generalize (by_ - ky) * (hy - ky) = p4 at *
  have h0 : bI 0 := ⟨by omega, by omega⟩
  have b1 : bI p1 := ⟨by omega, by omega⟩
  have b2 : bI p2 := ⟨by omega, by omega⟩
  have b3 : bI (p3 + p4) := ⟨by omega, by omega⟩
  simp only [cI_eq b1 b2, cI_le b3 h0]
  by_cases c1 : p1 = p2
  · by_cases c2 : p3 + p4 ≤ 0
    · simp [c1, c2, show ¬ 0 < p3 + p4 by omega, zb]; exact Iff.rfl
    · simp [c1, c2, show 0 < p3 + p4 by omega, zb]
  · simp [c1, zb]; exact Iff.rfl
