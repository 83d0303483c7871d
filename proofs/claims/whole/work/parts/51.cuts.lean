/-! cuts as fractions; stretches between them -/
abbrev Fr : Type := Int × Int
def lo (a b : Fr) : Prop := a.1 * b.2 < b.1 * a.2
def okF (a : Fr) : Prop := (0 ≤ a.1 ∧ a.1 ≤ a.2) ∧ (0 < a.2 ∧ a.2 ≤ 320000) ∧ Int.gcd a.1 a.2 = 1
def tl {α : Type} (f : Nat → α) : Nat → Nat → List α
  | _, 0 => []
  | i, d + 1 => f i :: tl f (i + 1) d
theorem tl_mem {α : Type} {f : Nat → α} {x : α} : ∀ {d i : Nat}, x ∈ tl f i d ↔ ∃ j, i ≤ j ∧ j < i + d ∧ f j = x
  | 0, i => by
    unfold tl
    constructor
    · intro h; cases h
    · rintro ⟨j, h1, h2, _⟩; omega
  | d + 1, i => by
    unfold tl
    rw [List.mem_cons, tl_mem]
    constructor
    · rintro (h | ⟨j, h1, h2, h3⟩)
      · exact ⟨i, by omega, by omega, h.symm⟩
      · exact ⟨j, by omega, by omega, h3⟩
    · rintro ⟨j, h1, h2, h3⟩
      by_cases e : j = i
      · subst e; exact Or.inl h3.symm
      · exact Or.inr ⟨j, by omega, by omega, h3⟩
theorem tl_pair {α : Type} {f : Nat → α} {R : α → α → Prop} : ∀ {d i : Nat}, (∀ j k, i ≤ j → j < k → k < i + d → R (f j) (f k)) → List.Pairwise R (tl f i d)
  | 0, i, _ => List.Pairwise.nil
  | d + 1, i, h => by
    unfold tl
    refine List.Pairwise.cons (fun x hx => ?_) (tl_pair (fun j k h1 h2 h3 => h j k (by omega) h2 (by omega)))
    obtain ⟨j, h1, h2, rfl⟩ := tl_mem.mp hx
    exact h i j (by omega) (by omega) (by omega)
def mid (a b : Fr) : Fr := (a.1 * b.2 + b.1 * a.2, 2 * a.2 * b.2)
def goes (m : Fr → Bool) (c : Fr) : List Fr → Bool
  | [] => false
  | d :: _ => m (mid c d)
def opn (m : Fr → Bool) (o : Option Fr) (c : Fr) : Option Fr := match o with
  | some b => some b
  | none => if m c = true then some c else none
/-- the stretches: where each begins and ends -/
def st (m : Fr → Bool) : Option Fr → List Fr → List (Fr × Fr)
  | _, [] => []
  | o, c :: l => match opn m o c with
    | none => st m none l
    | some b => if goes m c l = true then st m (some b) l else (b, c) :: st m none l
theorem mid_in {a b : Fr} (ha : 0 < a.2) (hb : 0 < b.2) (h : lo a b) : 0 < (mid a b).2 ∧ lo a (mid a b) ∧ lo (mid a b) b := by
  unfold lo mid at *
  have e := Int.mul_pos ha hb
  refine ⟨?_, ?_, ?_⟩
  · show 0 < 2 * a.2 * b.2
    rw [Int.mul_assoc]; omega
  · show a.1 * (2 * a.2 * b.2) < (a.1 * b.2 + b.1 * a.2) * a.2
    have := Int.mul_lt_mul_of_pos_right h ha
    grind
  · show (a.1 * b.2 + b.1 * a.2) * b.2 < b.1 * (2 * a.2 * b.2)
    have := Int.mul_lt_mul_of_pos_right h hb
    grind
theorem lo_tr {a b c : Fr} (ha : 0 < a.2) (hb : 0 < b.2) (hc : 0 < c.2) (h1 : lo a b) (h2 : lo b c) : lo a c := by
  unfold lo at *
  have e1 := Int.mul_lt_mul_of_pos_right h1 hc
  have e2 := Int.mul_lt_mul_of_pos_right h2 ha
  have e3 : b.2 * (a.1 * c.2) < b.2 * (c.1 * a.2) := by grind
  have := (mpos (y := c.1 * a.2 - a.1 * c.2) hb).1
  rw [Int.mul_sub] at this
  omega
/-- between a and b the lie is one; if it is in, so are a and b -/
def ev (m : Fr → Bool) (a b : Fr) : Prop := (∀ x, 0 < x.2 → lo a x → lo x b → m x = m (mid a b)) ∧ (m (mid a b) = true → m a = true ∧ m b = true)
theorem st_skip_t {m : Fr → Bool} {a b β : Fr} {l : List Fr} (hv : ∀ x, 0 < x.2 → lo a x → lo x b → m x = true) (hb : 0 < b.2) : ∀ es : List Fr, List.Pairwise lo (es ++ b :: l) → (∀ e, e ∈ es → 0 < e.2 ∧ lo a e ∧ lo e b) → (0 < a.2) → st m (some β) (es ++ b :: l) = st m (some β) (b :: l)
  | [], _, _, _ => rfl
  | e :: es, hp, he, ha => by
    have h1 := he e List.mem_cons_self
    have hp' := List.pairwise_cons.mp hp
    have ih := st_skip_t (β := β) (l := l) hv hb es hp'.2 (fun x hx => he x (List.mem_cons_of_mem _ hx)) ha
    have g : goes m e (es ++ b :: l) = true := by
      cases es with
      | nil =>
        have q := mid_in h1.1 hb h1.2.2
        exact hv _ q.1 (lo_tr ha h1.1 q.1 h1.2.1 q.2.1) q.2.2
      | cons d es =>
        have h2 := he d (List.mem_cons_of_mem _ List.mem_cons_self)
        have q := mid_in h1.1 h2.1 (hp'.1 d (by simp))
        exact hv _ q.1 (lo_tr ha h1.1 q.1 h1.2.1 q.2.1) (lo_tr q.1 h2.1 hb q.2.2 h2.2.2)
    show (match opn m (some β) e with
      | none => st m none (es ++ b :: l)
      | some b' => if goes m e (es ++ b :: l) = true then st m (some b') (es ++ b :: l) else (b', e) :: st m none (es ++ b :: l)) = _
    simp only [opn, g, if_true]
    exact ih
theorem st_skip_f {m : Fr → Bool} {l : List Fr} : ∀ es : List Fr, (∀ e, e ∈ es → m e = false) → st m none (es ++ l) = st m none l
  | [], _ => rfl
  | e :: es, h => by
    have ih := st_skip_f (m := m) (l := l) es (fun x hx => h x (List.mem_cons_of_mem _ hx))
    show (match opn m none e with
      | none => st m none (es ++ l)
      | some b' => if goes m e (es ++ l) = true then st m (some b') (es ++ l) else (b', e) :: st m none (es ++ l)) = _
    simp only [opn, h e List.mem_cons_self, Bool.false_eq_true, if_false]
    exact ih
/-- neighbours in a list -/
def adj (Q : Fr → Fr → Prop) : List Fr → Prop
  | [] => True
  | a :: l => (match l with
    | [] => True
    | b :: _ => Q a b) ∧ adj Q l
theorem adj_tl {Q : Fr → Fr → Prop} {f : Nat → Fr} : ∀ {d i : Nat}, (∀ j, i ≤ j → j + 1 < i + d → Q (f j) (f (j + 1))) → adj Q (tl f i d)
  | 0, i, _ => trivial
  | 1, i, _ => ⟨trivial, trivial⟩
  | d + 2, i, h => ⟨h i (by omega) (by omega), adj_tl (d := d + 1) (fun j h1 h2 => h j (by omega) (by omega))⟩
/-- more cuts where nothing changes: the same stretches -/
theorem st_eq {m : Fr → Bool} {z : Fr} : ∀ (L : List Fr) (a : Fr) (l' : List Fr) (o : Option Fr), adj (ev m) (a :: L) → List.Pairwise lo (a :: L) → List.Pairwise lo (a :: l') → (∀ x, x ∈ L → x ∈ l') → z ∈ a :: L → (∀ x, x ∈ l' → ¬ lo z x) → (∀ x, x ∈ a :: l' → 0 < x.2) → st m o (a :: L) = st m o (a :: l')
  | [], a, l', o, _, _, hp', _, hz, hl, _ => by
    have : l' = [] := by
      cases l' with
      | nil => rfl
      | cons x t =>
        exfalso
        have e : z = a := by simpa using hz
        subst e
        exact hl x List.mem_cons_self ((List.pairwise_cons.mp hp').1 x List.mem_cons_self)
    rw [this]
  | b :: L, a, l', o, ha, hp, hp', hs, hz, hl, hpos => by
    obtain ⟨⟨h1, h2⟩, ha'⟩ := ha
    obtain ⟨es, t, rfl⟩ := List.append_of_mem (hs b List.mem_cons_self)
    have pa := List.pairwise_cons.mp hp
    have pa' := List.pairwise_cons.mp hp'
    have pe := List.pairwise_append.mp pa'.2
    have pb := List.pairwise_cons.mp pa.2
    have qa : 0 < a.2 := hpos a List.mem_cons_self
    have qb : 0 < b.2 := hpos b (by simp)
    have lab : lo a b := pa.1 b List.mem_cons_self
    have hes : ∀ e, e ∈ es → 0 < e.2 ∧ lo a e ∧ lo e b := fun e he => ⟨hpos e (by simp [he]), pa'.1 e (by simp [he]), pe.2.2 e he b List.mem_cons_self⟩
    have irr : ∀ x : Fr, ¬ lo x x := fun x q => by unfold lo at q; omega
    have asy : ∀ x y : Fr, lo x y → ¬ lo y x := fun x y q1 q2 => by unfold lo at q1 q2; omega
    have ih := fun o => st_eq (m := m) (z := z) L b t o ha' pa.2 pe.2.1 (fun x hx => by
        have q := hs x (List.mem_cons_of_mem _ hx)
        rcases List.mem_append.mp q with q | q
        · exact absurd (pb.1 x hx) (asy _ _ (hes x q).2.2)
        · rcases List.mem_cons.mp q with q | q
          · subst q; exact absurd (pb.1 x hx) (irr x)
          · exact q) (by
        rcases List.mem_cons.mp hz with q | q
        · subst q; exact absurd lab (hl b (by simp))
        · exact q) (fun x hx => hl x (by simp [hx])) (fun x hx => by
        rcases List.mem_cons.mp hx with q | q
        · subst q; exact qb
        · exact hpos x (by simp [q]))
    have qm := mid_in qa qb lab
    have g1 : goes m a (b :: L) = m (mid a b) := rfl
    have g2 : goes m a (es ++ b :: t) = m (mid a b) := by
      cases es with
      | nil => rfl
      | cons e es =>
        have q := hes e List.mem_cons_self
        have q2 := mid_in qa q.1 q.2.1
        exact h1 _ q2.1 q2.2.1 (lo_tr q2.1 q.1 qb q2.2.2 q.2.2)
    show (match opn m o a with
      | none => st m none (b :: L)
      | some b' => if goes m a (b :: L) = true then st m (some b') (b :: L) else (b', a) :: st m none (b :: L)) = (match opn m o a with
      | none => st m none (es ++ b :: t)
      | some b' => if goes m a (es ++ b :: t) = true then st m (some b') (es ++ b :: t) else (b', a) :: st m none (es ++ b :: t))
    rw [g1, g2]
    cases hv : m (mid a b) with
    | true =>
      have k := fun β => st_skip_t (m := m) (a := a) (b := b) (β := β) (l := t) (fun x x1 x2 x3 => by rw [h1 x x1 x2 x3]; exact hv) qb es pa'.2 hes qa
      cases ho : opn m o a with
      | none =>
        exfalso
        have := (h2 hv).1
        unfold opn at ho
        rw [this] at ho
        cases o <;> simp at ho
      | some β =>
        simp only [if_true]
        rw [k, ih]
    | false =>
      have k := st_skip_f (m := m) (l := b :: t) es (fun e he => by rw [h1 e (hes e he).1 (hes e he).2.1 (hes e he).2.2]; exact hv)
      cases ho : opn m o a with
      | none => simp only; rw [k, ih]
      | some β =>
        simp only [Bool.false_eq_true, if_false]
        rw [k, ih]
/-! a cut is added -/
def fr (o u : Int) : Fr := (o / Int.gcd o u, u / Int.gcd o u)
theorem fr_g {o u : Int} (hu : 0 < u) : 0 < (Int.gcd o u : Int) ∧ o = (fr o u).1 * Int.gcd o u ∧ u = (fr o u).2 * Int.gcd o u := by
  have g0 : 0 < Int.gcd o u := Int.gcd_pos_of_ne_zero_right _ (by omega)
  refine ⟨by omega, ?_, ?_⟩
  · exact (Int.ediv_mul_cancel (Int.gcd_dvd_left _ _)).symm
  · exact (Int.ediv_mul_cancel (Int.gcd_dvd_right _ _)).symm
theorem fr_ok {o u : Int} (h : 0 ≤ o ∧ o ≤ u) (hu : 0 < u ∧ u ≤ 320000) : okF (fr o u) := by
  obtain ⟨g0, e1, e2⟩ := fr_g (o := o) hu.1
  have h1 : 0 ≤ (fr o u).1 := Int.ediv_nonneg h.1 (by omega)
  have h2 : (fr o u).2 ≤ u := Int.ediv_le_self _ (by omega)
  have h3 : 0 < (fr o u).2 := by
    have := mpos (y := (fr o u).2) g0
    rw [Int.mul_comm, ← e2] at this
    omega
  have h4 : (fr o u).1 ≤ (fr o u).2 := Int.ediv_le_ediv g0 h.2
  refine ⟨⟨h1, h4⟩, ⟨h3, by omega⟩, ?_⟩
  have e3 : Int.gcd o u = Int.gcd (fr o u).1 (fr o u).2 * Int.gcd o u := by
    have q := Int.gcd_mul_right (fr o u).1 (Int.gcd o u) (fr o u).2
    rw [← e1, ← e2, Int.natAbs_natCast] at q
    exact q
  have g1 : 0 < Int.gcd o u := by omega
  exact Nat.eq_of_mul_eq_mul_right g1 (by rw [← e3, Nat.one_mul])
theorem fr_lo {o u : Int} {x : Fr} (hu : 0 < u) : (lo x (fr o u) ↔ x.1 * u < o * x.2) ∧ (lo (fr o u) x ↔ o * x.2 < x.1 * u) := by
  obtain ⟨g0, e1, e2⟩ := fr_g (o := o) hu
  unfold lo
  have k1 : x.1 * u = (x.1 * (fr o u).2) * Int.gcd o u := by rw [Int.mul_assoc, ← e2]
  have k2 : o * x.2 = ((fr o u).1 * x.2) * Int.gcd o u := by
    have : ((fr o u).1 * x.2) * Int.gcd o u = ((fr o u).1 * Int.gcd o u) * x.2 := by rw [Int.mul_assoc, Int.mul_comm x.2, ← Int.mul_assoc]
    rw [this, ← e1]
  rw [k1, k2]
  have m := mpos (y := (fr o u).1 * x.2 - x.1 * (fr o u).2) g0
  rw [Int.mul_comm, Int.sub_mul] at m
  omega
theorem dvd_cop {k m n : Int} (h : Int.gcd m k = 1) (d : k ∣ m * n) : k ∣ n := by
  have d1 : k.natAbs ∣ m.natAbs * n.natAbs := by rw [← Int.natAbs_mul]; exact Int.natAbs_dvd_natAbs.mpr d
  have c : Nat.Coprime k.natAbs m.natAbs := by
    rw [Nat.coprime_iff_gcd_eq_one, Nat.gcd_comm]
    exact h
  exact Int.natAbs_dvd_natAbs.mp (c.dvd_of_dvd_mul_left d1)
/-- of one value, and both reduced: the same -/
theorem okF_eq {a b : Fr} (ha : okF a) (hb : okF b) (h : a.1 * b.2 = b.1 * a.2) : a = b := by
  obtain ⟨⟨a1, a2⟩, ⟨a3, a4⟩, a5⟩ := ha
  obtain ⟨⟨b1, b2⟩, ⟨b3, b4⟩, b5⟩ := hb
  have d1 : a.2 ∣ b.2 := by
    have : a.2 ∣ a.1 * b.2 := ⟨b.1, by rw [h, Int.mul_comm]⟩
    exact dvd_cop a5 this
  have d2 : b.2 ∣ a.2 := by
    have : b.2 ∣ b.1 * a.2 := ⟨a.1, by rw [← h, Int.mul_comm]⟩
    exact dvd_cop b5 this
  have e : a.2 = b.2 := Int.le_antisymm (Int.le_of_dvd b3 d1) (Int.le_of_dvd a3 d2)
  have e1 : a.1 = b.1 := by
    rw [e] at h
    have : (a.1 - b.1) * b.2 = 0 := by rw [Int.sub_mul]; omega
    have := (Int.mul_eq_zero.mp this).resolve_right (by omega)
    omega
  exact Prod.ext e1 e
/-- sorted cuts -/
def CI (n : Nat) (f : Nat → Fr) : Prop := (∀ k, k < n → okF (f k)) ∧ ∀ j k, j < k → k < n → lo (f j) (f k)
def insF (f : Nat → Fr) (p : Nat) (v : Fr) : Nat → Fr := fun k => if k < p then f k else if k = p then v else f (k - 1)
/-- p: those before it are not above v, those from it on are above it -/
def isp (n : Nat) (f : Nat → Fr) (v : Fr) (p : Nat) : Prop := p ≤ n ∧ (∀ k, k < p → ¬ lo v (f k)) ∧ ∀ k, p ≤ k → k < n → lo v (f k)
theorem isp_ins {n p : Nat} {f : Nat → Fr} {v : Fr} (C : CI n f) (hv : okF v) (h : isp n f v p) (hne : ¬ (0 < p ∧ f (p - 1) = v)) : CI (n + 1) (insF f p v) ∧ ∀ x, (∃ k, k < n + 1 ∧ insF f p v k = x) ↔ ((∃ k, k < n ∧ f k = x) ∨ x = v) := by
  obtain ⟨h1, h2, h3⟩ := h
  have lt : ∀ k, k < p → lo (f k) v := by
    have l0 : ∀ k, k < n → ¬ lo v (f k) → f k ≠ v → lo (f k) v := by
      intro k hk q1 q2
      refine Classical.byContradiction fun q3 => q2 (okF_eq (C.1 k hk) hv ?_)
      unfold lo at q1 q3
      omega
    intro k hk
    by_cases e : k = p - 1
    · subst e
      exact l0 _ (by omega) (h2 _ hk) (fun q => hne ⟨by omega, q⟩)
    · have q1 := l0 (p - 1) (by omega) (h2 _ (by omega)) (fun q => hne ⟨by omega, q⟩)
      have q2 := C.2 k (p - 1) (by omega) (by omega)
      exact lo_tr (C.1 k (by omega)).2.1.1 (C.1 (p - 1) (by omega)).2.1.1 hv.2.1.1 q2 q1
  refine ⟨⟨fun k hk => ?_, fun j k hj hk => ?_⟩, fun x => ⟨?_, ?_⟩⟩
  · unfold insF
    by_cases c1 : k < p
    · rw [if_pos c1]; exact C.1 k (by omega)
    · rw [if_neg c1]
      by_cases c2 : k = p
      · rw [if_pos c2]; exact hv
      · rw [if_neg c2]; exact C.1 (k - 1) (by omega)
  · unfold insF
    by_cases c1 : j < p
    · rw [if_pos c1]
      by_cases c2 : k < p
      · rw [if_pos c2]; exact C.2 j k hj (by omega)
      · rw [if_neg c2]
        by_cases c3 : k = p
        · rw [if_pos c3]; exact lt j c1
        · rw [if_neg c3]; exact C.2 j (k - 1) (by omega) (by omega)
    · rw [if_neg c1, if_neg (show ¬ k < p by omega), if_neg (show ¬ k = p by omega)]
      by_cases c3 : j = p
      · rw [if_pos c3]; exact h3 (k - 1) (by omega) (by omega)
      · rw [if_neg c3]; exact C.2 (j - 1) (k - 1) (by omega) (by omega)
  · rintro ⟨k, hk, rfl⟩
    unfold insF
    by_cases c1 : k < p
    · rw [if_pos c1]; exact Or.inl ⟨k, by omega, rfl⟩
    · rw [if_neg c1]
      by_cases c2 : k = p
      · rw [if_pos c2]; exact Or.inr rfl
      · rw [if_neg c2]; exact Or.inl ⟨k - 1, by omega, rfl⟩
  · rintro (⟨k, hk, rfl⟩ | rfl)
    · by_cases c1 : k < p
      · exact ⟨k, by omega, by unfold insF; rw [if_pos c1]⟩
      · exact ⟨k + 1, by omega, by unfold insF; rw [if_neg (by omega), if_neg (by omega)]; rfl⟩
    · exact ⟨p, by omega, by unfold insF; rw [if_neg (by omega), if_pos rfl]⟩
