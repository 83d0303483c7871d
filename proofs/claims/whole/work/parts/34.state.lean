/-! the whole state: what both sides show of it, the class's heap (CS), the reference's (MS); what a change leaves alone (agr) -/
def agr (S S' : hs) (p : Nat → Nat → Prop) : Prop := (S'.1 = S.1 ∧ hk S' = hk S ∧ hz S' = hz S) ∧ ∀ a j, p a j → hi S' a j = hi S a j ∧ hj S' a j = hj S a j ∧ hr S' a j = hr S a j
theorem ne_pp {p : Nat → Nat → Prop} {a j b k : Nat} (h : ¬ p a j) (c : p b k) : b ≠ a ∨ k ≠ j := by
  by_cases e : b = a
  · by_cases e' : k = j
    · subst e; subst e'; exact absurd c h
    · exact Or.inr e'
  · exact Or.inl e
section
variable {S S' S2 : hs} {p q : Nat → Nat → Prop}
theorem agr.rf : agr S S p := ⟨⟨rfl, rfl, rfl⟩, fun _ _ _ => ⟨rfl, rfl, rfl⟩⟩
theorem agr.tr (g : agr S S' p) (h : agr S' S2 p) : agr S S2 p := ⟨⟨h.1.1.trans g.1.1, h.1.2.1.trans g.1.2.1, h.1.2.2.trans g.1.2.2⟩, fun a j c => ⟨(h.2 a j c).1.trans (g.2 a j c).1, (h.2 a j c).2.1.trans (g.2 a j c).2.1, (h.2 a j c).2.2.trans (g.2 a j c).2.2⟩⟩
theorem agr.mono (g : agr S S' p) (h : ∀ a j, q a j → p a j) : agr S S' q := ⟨g.1, fun a j c => g.2 a j (h a j c)⟩
theorem agr.wI (g : agr S S' p) {a j : Nat} {v : Int32} (h : ¬ p a j) : agr S (sI S' a j v) p := ⟨g.1, fun b k c => ⟨(up2_ne _ _ (ne_pp h c)).trans (g.2 b k c).1, (g.2 b k c).2.1, (g.2 b k c).2.2⟩⟩
theorem agr.wJ (g : agr S S' p) {a j : Nat} {v : Int64} (h : ¬ p a j) : agr S (sJ S' a j v) p := ⟨g.1, fun b k c => ⟨(g.2 b k c).1, (up2_ne _ _ (ne_pp h c)).trans (g.2 b k c).2.1, (g.2 b k c).2.2⟩⟩
theorem agr.wR (g : agr S S' p) {a j : Nat} {v : Option Nat} (h : ¬ p a j) : agr S (sR S' a j v) p := ⟨g.1, fun b k c => ⟨(g.2 b k c).1, (g.2 b k c).2.1, (up2_ne _ _ (ne_pp h c)).trans (g.2 b k c).2.2⟩⟩
theorem agr.o (g : agr S S' p) (k a : Nat) : is S' k a = is S k a := by
  show (a < S'.1 ∧ hk S' a = k) = (a < S.1 ∧ hk S a = k)
  rw [g.1.1, g.1.2.1]
theorem agr.z (g : agr S S' p) (a : Nat) : hz S' a = hz S a := by rw [g.1.2.2]
theorem RgC.fr {a n : Nat} {X Y : Nat → Int} (g : agr S S' p) (R : RgC S a n X Y) (hp : ∀ b j, a ≤ b → b ≤ a + 2 → p b j) : RgC S' a n X Y := by
  have e0 := fun j => g.2 a j (hp _ _ (by omega) (by omega))
  have e1 := fun j => (g.2 (a + 1) j (hp _ _ (by omega) (by omega))).1
  have e2 := fun j => (g.2 (a + 2) j (hp _ _ (by omega) (by omega))).1
  unfold RgC at *
  simp only [g.o, g.z, (e0 _).1, (e0 _).2.2, e1, e2]
  exact R
theorem ArC.fr {a c : Nat} {m : Bool} {sp : Int} {sz : Nat → Nat} {X Y : Nat → Nat → Int} (g : agr S S' p) (R : ArC S a c m sp sz X Y) (hp : ∀ b j, a ≤ b → b ≤ a + 13 → p b j) : ArC S' a c m sp sz X Y := by
  have e0 := fun j => g.2 a j (hp _ _ (by omega) (by omega))
  have e1 := fun j => (g.2 (a + 1) j (hp _ _ (by omega) (by omega))).2.2
  unfold ArC at *
  simp only [g.o, g.z, (e0 _).1, (e0 _).2.1, (e0 _).2.2, e1]
  exact ⟨R.1, fun r h => ⟨(R.2 r h).1, (R.2 r h).2.fr g (fun b j h1 h2 => hp b j (by omega) (by omega))⟩⟩
theorem RuC.fr {a n : Nat} {G : Gr} (g : agr S S' p) (R : RuC S a n G) (hp : ∀ b j, a ≤ b → b ≤ a + 4 → p b j) : RuC S' a n G := by
  have e0 := fun j => g.2 a j (hp _ _ (by omega) (by omega))
  have e1 := fun j => (g.2 (a + 1) j (hp _ _ (by omega) (by omega))).1
  have e2 := fun j => (g.2 (a + 2) j (hp _ _ (by omega) (by omega))).1
  have e3 := fun j => (g.2 (a + 3) j (hp _ _ (by omega) (by omega))).1
  have e4 := fun j => (g.2 (a + 4) j (hp _ _ (by omega) (by omega))).1
  unfold RuC at *
  simp only [g.o, g.z, (e0 _).1, (e0 _).2.2, e1, e2, e3, e4]
  exact R
theorem TrC.fr {a n : Nat} {T : Gt} (g : agr S S' p) (R : TrC S a n T) (hp : ∀ b j, a ≤ b → b ≤ a + 3 → p b j) : TrC S' a n T := by
  have e0 := fun j => g.2 a j (hp _ _ (by omega) (by omega))
  have e1 := fun j => (g.2 (a + 1) j (hp _ _ (by omega) (by omega))).2.1
  have e2 := fun j => (g.2 (a + 2) j (hp _ _ (by omega) (by omega))).1
  have e3 := fun j => (g.2 (a + 3) j (hp _ _ (by omega) (by omega))).1
  unfold TrC at *
  simp only [g.o, g.z, (e0 _).1, (e0 _).2.2, e1, e2, e3]
  exact R
theorem Md.fr {Z : Nat} (g : agr S S' p) (M : Md S Z) (hp : ∀ j, j ≠ 0 → j ≠ 1 → p Z j ∨ hr S' Z j = hr S Z j) : Md S' Z := by
  unfold Md at *
  simp only [g.o, g.z]
  refine ⟨M.1, fun t ht => ⟨?_, (M.2 t ht).2⟩⟩
  have h2 : t.1 ≠ 0 ∧ t.1 ≠ 1 := by
    revert t
    decide
  rcases hp t.1 h2.1 h2.2 with h | h
  · rw [(g.2 Z t.1 h).2.2]; exact (M.2 t ht).1
  · rw [h]; exact (M.2 t ht).1
end
/-- areas: rings closed, whether one is being made, fast from, sizes, corners -/
abbrev Ga : Type := (Nat → Nat) × (Nat → Bool) × (Nat → Int) × (Nat → Nat → Nat) × (Nat → Nat → Nat → Int) × (Nat → Nat → Nat → Int)
/-- tracks: how many, their places -/
abbrev Gk : Type := Nat × (Nat → Nat) × (Nat → Gt)
/-- crossings: how many; piece, area, whether it enters, over, under -/
abbrev Gx : Type := Nat × (Nat → Int) × (Nat → Int) × (Nat → Bool) × (Nat → Int) × (Nat → Int)
def ArCv (S : hs) (a : Nat) (A : Ga) (i : Nat) : Prop := ArC S a (A.1 i) (A.2.1 i) (A.2.2.1 i) (A.2.2.2.1 i) (A.2.2.2.2.1 i) (A.2.2.2.2.2 i)
def ArMv (S : hs) (Z : Nat) (A : Ga) (i : Nat) : Prop := ArM S Z i (A.1 i) (A.2.1 i) (A.2.2.1 i) (A.2.2.2.1 i) (A.2.2.2.2.1 i) (A.2.2.2.2.2 i)
def CA (S : hs) (n : Nat) (A : Ga) : Prop := (is S 6 0 ∧ hr S 0 0 = some 1 ∧ is S 11 1 ∧ hz S 1 = n ∧ 1 ≤ n ∧ n ≤ 12) ∧ ∀ i, i < n → hr S 1 i = some (2 + 14 * i) ∧ ArCv S (2 + 14 * i) A i
def CR (S : hs) (n : Nat) (R : Nat × Gr) : Prop := hr S 0 1 = some (2 + 14 * n) ∧ RuC S (2 + 14 * n) R.1 R.2
def CT (S : hs) (n : Nat) (T : Gk) : Prop := (hr S 0 2 = some (7 + 14 * n) ∧ is S 13 (7 + 14 * n) ∧ hz S (7 + 14 * n) = 6 ∧ hi S 0 3 = nI T.1 ∧ T.1 ≤ 6) ∧ ∀ t, t < 6 → hr S (7 + 14 * n) t = some (8 + 14 * n + 4 * t) ∧ TrC S (8 + 14 * n + 4 * t) (T.2.1 t) (T.2.2 t)
/-- the object that cuts pieces -/
def CZ (S : hs) (a : Nat) : Prop := is S 4 a ∧ (hr S a 0 = some (a + 1) ∧ hr S a 1 = some (a + 2) ∧ hr S a 3 = some (a + 3) ∧ hr S a 4 = some (a + 4)) ∧ (is S 9 (a + 1) ∧ is S 9 (a + 2) ∧ is S 8 (a + 3) ∧ is S 8 (a + 4)) ∧ hz S (a + 1) = 50 ∧ hz S (a + 2) = 50 ∧ hz S (a + 3) = 50 ∧ hz S (a + 4) = 50
/-- an object that keeps crossings -/
def CO (S : hs) (a : Nat) : Prop := is S 1 a ∧ (hr S a 0 = some (a + 1) ∧ hr S a 1 = some (a + 2) ∧ hr S a 2 = some (a + 3) ∧ hr S a 3 = some (a + 4) ∧ hr S a 4 = some (a + 5)) ∧ (is S 8 (a + 1) ∧ is S 8 (a + 2) ∧ is S 10 (a + 3) ∧ is S 9 (a + 4) ∧ is S 9 (a + 5)) ∧ hz S (a + 1) = 300 ∧ hz S (a + 2) = 300 ∧ hz S (a + 3) = 300 ∧ hz S (a + 4) = 300 ∧ hz S (a + 5) = 300
def bx (X : Gx) (k : Nat) : Prop := br (X.2.1 k) ∧ br (X.2.2.1 k) ∧ bJ (X.2.2.2.2.1 k) ∧ bJ (X.2.2.2.2.2 k)
def COx (S : hs) (a : Nat) (X : Gx) : Prop := CO S a ∧ (hi S a 5 = nI X.1 ∧ X.1 ≤ 300) ∧ ∀ k, k < X.1 → (hi S (a + 1) k = cI (X.2.1 k) ∧ hi S (a + 2) k = cI (X.2.2.1 k) ∧ hi S (a + 3) k = zb (X.2.2.2.1 k) ∧ hj S (a + 4) k = cJ (X.2.2.2.2.1 k) ∧ hj S (a + 5) k = cJ (X.2.2.2.2.2 k)) ∧ bx X k
/-- the last run's crossings at l, the spare ones at l' -/
def CX (S : hs) (n : Nat) (X : Gx) (l l' : Nat) : Prop := ((l = 37 + 14 * n ∧ l' = 43 + 14 * n ∨ l = 43 + 14 * n ∧ l' = 37 + 14 * n) ∧ hr S 0 5 = some l ∧ hr S 0 6 = some l') ∧ COx S l X ∧ CO S l'
def CS (S : hs) (n : Nat) (A : Ga) (R : Nat × Gr) (T : Gk) (X : Gx) : Prop := CA S n A ∧ CR S n R ∧ CT S n T ∧ (hr S 0 4 = some (32 + 14 * n) ∧ CZ S (32 + 14 * n)) ∧ ∃ l l', CX S n X l l'
def MA (S : hs) (Z n : Nat) (A : Ga) : Prop := Md S Z ∧ hi S Z 1 = nI n ∧ ∀ i, i < n → ArMv S Z A i
def MT (S : hs) (Z : Nat) (T : Gk) : Prop := Md S Z ∧ hi S Z 13 = nI T.1 ∧ T.1 ≤ 6 ∧ ∀ t, t < 6 → TrM S Z t (T.2.1 t) (T.2.2 t)
def MX (S : hs) (Z : Nat) (X : Gx) : Prop := Md S Z ∧ hi S Z 18 = nI X.1 ∧ X.1 ≤ 300 ∧ ∀ k, k < X.1 → (hj S (Z + 15) (5 * k) = cJ (X.2.1 k) ∧ hj S (Z + 15) (5 * k + 1) = cJ (X.2.2.2.2.1 k) ∧ hj S (Z + 15) (5 * k + 2) = cJ (X.2.2.2.2.2 k) ∧ hj S (Z + 15) (5 * k + 3) = cJ (X.2.2.1 k) ∧ hj S (Z + 15) (5 * k + 4) = cJ (if X.2.2.2.1 k = true then 1 else 0)) ∧ bx X k
def MS (S : hs) (n : Nat) (A : Ga) (R : Nat × Gr) (T : Gk) (X : Gx) : Prop := MA S (49 + 14 * n) n A ∧ RuM S (49 + 14 * n) R.1 R.2 ∧ MT S (49 + 14 * n) T ∧ MX S (49 + 14 * n) X
section
variable {S S' : hs} {p : Nat → Nat → Prop} {n : Nat}
theorem CA.fr {A : Ga} (g : agr S S' p) (R : CA S n A) (h0 : p 0 0) (hp : ∀ b j, 1 ≤ b → b < 2 + 14 * n → p b j) : CA S' n A := by
  obtain ⟨⟨r1, r2, r3, r4, r5⟩, r6⟩ := R
  have e0 := (g.2 0 0 h0).2.2
  have e1 := fun j => (g.2 1 j (hp _ _ (by omega) (by omega))).2.2
  unfold CA
  simp only [g.o, g.z, e0, e1]
  exact ⟨⟨r1, r2, r3, r4, r5⟩, fun i hi0 => ⟨(r6 i hi0).1, (r6 i hi0).2.fr g (fun b j h1 h2 => hp b j (by omega) (by omega))⟩⟩
theorem CR.fr {R : Nat × Gr} (g : agr S S' p) (C : CR S n R) (h0 : p 0 1) (hp : ∀ b j, 2 + 14 * n ≤ b → b ≤ 6 + 14 * n → p b j) : CR S' n R := by
  unfold CR at *
  rw [(g.2 0 1 h0).2.2]
  exact ⟨C.1, C.2.fr g (fun b j h1 h2 => hp b j h1 (by omega))⟩
theorem CT.fr {T : Gk} (g : agr S S' p) (C : CT S n T) (h0 : p 0 2) (h1 : p 0 3) (hp : ∀ b j, 7 + 14 * n ≤ b → b ≤ 31 + 14 * n → p b j) : CT S' n T := by
  have e1 := fun j => (g.2 (7 + 14 * n) j (hp _ _ (by omega) (by omega))).2.2
  obtain ⟨c1, c2⟩ := C
  unfold CT
  simp only [g.o, g.z, (g.2 0 2 h0).2.2, (g.2 0 3 h1).1, e1]
  exact ⟨c1, fun t ht => ⟨(c2 t ht).1, (c2 t ht).2.fr g (fun b j h1 h2 => hp b j (by omega) (by omega))⟩⟩
theorem CZ.fr {a : Nat} (g : agr S S' p) (C : CZ S a) (hp : ∀ j, p a j ∨ hr S' a j = hr S a j) : CZ S' a := by
  have e : ∀ j, hr S' a j = hr S a j := fun j => (hp j).elim (fun h => (g.2 a j h).2.2) id
  unfold CZ at *
  simp only [g.o, g.z, e]
  exact C
theorem CO.fr {a : Nat} (g : agr S S' p) (C : CO S a) (hp : ∀ j, p a j ∨ hr S' a j = hr S a j) : CO S' a := by
  have e : ∀ j, hr S' a j = hr S a j := fun j => (hp j).elim (fun h => (g.2 a j h).2.2) id
  unfold CO at *
  simp only [g.o, g.z, e]
  exact C
theorem COx.fr {a : Nat} {X : Gx} (g : agr S S' p) (C : COx S a X) (hp : ∀ b j, a ≤ b → b ≤ a + 5 → p b j) : COx S' a X := by
  have e0 := fun j => g.2 a j (hp _ _ (by omega) (by omega))
  have e1 := fun j => (g.2 (a + 1) j (hp _ _ (by omega) (by omega))).1
  have e2 := fun j => (g.2 (a + 2) j (hp _ _ (by omega) (by omega))).1
  have e3 := fun j => (g.2 (a + 3) j (hp _ _ (by omega) (by omega))).1
  have e4 := fun j => (g.2 (a + 4) j (hp _ _ (by omega) (by omega))).2.1
  have e5 := fun j => (g.2 (a + 5) j (hp _ _ (by omega) (by omega))).2.1
  obtain ⟨c1, c2⟩ := C
  unfold COx
  simp only [(e0 _).1, e1, e2, e3, e4, e5]
  exact ⟨c1.fr g (fun j => Or.inl (hp _ _ (by omega) (by omega))), c2⟩
theorem CX.fr {X : Gx} {l l' : Nat} (g : agr S S' p) (C : CX S n X l l') (h5 : p 0 5) (h6 : p 0 6) (hp : ∀ b j, 37 + 14 * n ≤ b → b ≤ 48 + 14 * n → p b j) : CX S' n X l l' := by
  obtain ⟨⟨c1, c2, c3⟩, c4, c5⟩ := C
  unfold CX
  simp only [(g.2 0 5 h5).2.2, (g.2 0 6 h6).2.2]
  exact ⟨⟨c1, c2, c3⟩, c4.fr g (fun b j h1 h2 => hp b j (by omega) (by omega)), c5.fr g (fun j => Or.inl (hp _ _ (by omega) (by omega)))⟩
/-- what is below the reference's cells is left alone: so is the class's state -/
theorem CS.fr {A : Ga} {R : Nat × Gr} {T : Gk} {X : Gx} (g : agr S S' p) (C : CS S n A R T X) (hp : ∀ b j, b < 49 + 14 * n → p b j) : CS S' n A R T X := by
  obtain ⟨c1, c2, c3, ⟨c4, c5⟩, l, l', c6⟩ := C
  refine ⟨c1.fr g (hp _ _ (by omega)) (fun b j _ h => hp b j (by omega)), c2.fr g (hp _ _ (by omega)) (fun b j _ h => hp b j (by omega)), c3.fr g (hp _ _ (by omega)) (hp _ _ (by omega)) (fun b j _ h => hp b j (by omega)), ⟨?_, c5.fr g (fun j => Or.inl (hp _ _ (by omega)))⟩, l, l', c6.fr g (hp _ _ (by omega)) (hp _ _ (by omega)) (fun b j _ h => hp b j (by omega))⟩
  rw [(g.2 0 4 (hp _ _ (by omega))).2.2]
  exact c4
theorem RgM.fr {Z q n : Nat} {X Y : Nat → Int} (g : agr S S' p) (R : RgM S Z q n X Y) (hM : Md S' Z) (hp : ∀ b j, Z + 1 ≤ b → b ≤ Z + 6 → p b j) : RgM S' Z q n X Y := by
  have e1 := fun j => (g.2 (Z + 1) j (hp _ _ (by omega) (by omega))).2.1
  have e2 := fun j => (g.2 (Z + 2) j (hp _ _ (by omega) (by omega))).2.1
  have e3 := fun j => (g.2 (Z + 3) j (hp _ _ (by omega) (by omega))).1
  obtain ⟨⟨-, r1⟩, r2⟩ := R
  unfold RgM
  simp only [e1, e2, e3]
  exact ⟨⟨hM, r1⟩, r2⟩
theorem MA.fr {Z : Nat} {A : Ga} (g : agr S S' p) (C : MA S Z n A) (hM : Md S' Z) (h1 : p Z 1) (hp : ∀ b j, Z + 1 ≤ b → b ≤ Z + 6 → p b j) : MA S' Z n A := by
  obtain ⟨-, c1, c2⟩ := C
  refine ⟨hM, by rw [(g.2 Z 1 h1).1]; exact c1, fun i hi0 => ?_⟩
  obtain ⟨⟨-, a1⟩, a2⟩ := c2 i hi0
  have e4 := fun j => (g.2 (Z + 4) j (hp _ _ (by omega) (by omega))).1
  have e5 := fun j => (g.2 (Z + 5) j (hp _ _ (by omega) (by omega))).1
  have e6 := fun j => (g.2 (Z + 6) j (hp _ _ (by omega) (by omega))).2.1
  unfold ArMv ArM
  simp only [e4, e5, e6]
  exact ⟨⟨hM, a1⟩, fun r h => (a2 r h).fr g hM hp⟩
theorem RuM.fr {Z n : Nat} {G : Gr} (g : agr S S' p) (R : RuM S Z n G) (hM : Md S' Z) (h1 : p Z 8) (hp : ∀ b j, Z + 7 ≤ b → b ≤ Z + 10 → p b j) : RuM S' Z n G := by
  have e1 := fun j => (g.2 (Z + 7) j (hp _ _ (by omega) (by omega))).1
  have e2 := fun j => (g.2 (Z + 8) j (hp _ _ (by omega) (by omega))).1
  have e3 := fun j => (g.2 (Z + 9) j (hp _ _ (by omega) (by omega))).1
  have e4 := fun j => (g.2 (Z + 10) j (hp _ _ (by omega) (by omega))).1
  obtain ⟨⟨-, r1⟩, r2⟩ := R
  unfold RuM
  simp only [e1, e2, e3, e4, (g.2 Z 8 h1).1]
  exact ⟨⟨hM, r1⟩, r2⟩
theorem MT.fr {Z : Nat} {T : Gk} (g : agr S S' p) (C : MT S Z T) (hM : Md S' Z) (h1 : p Z 13) (hp : ∀ b j, Z + 11 ≤ b → b ≤ Z + 14 → p b j) : MT S' Z T := by
  obtain ⟨-, c1, c2, c3⟩ := C
  refine ⟨hM, by rw [(g.2 Z 13 h1).1]; exact c1, c2, fun t ht => ?_⟩
  obtain ⟨⟨-, a1⟩, a2⟩ := c3 t ht
  have e1 := fun j => (g.2 (Z + 11) j (hp _ _ (by omega) (by omega))).1
  have e2 := fun j => (g.2 (Z + 12) j (hp _ _ (by omega) (by omega))).2.1
  have e3 := fun j => (g.2 (Z + 13) j (hp _ _ (by omega) (by omega))).2.1
  have e4 := fun j => (g.2 (Z + 14) j (hp _ _ (by omega) (by omega))).2.1
  unfold TrM
  simp only [e1, e2, e3, e4]
  exact ⟨⟨hM, a1⟩, a2⟩
theorem MX.fr {Z : Nat} {X : Gx} (g : agr S S' p) (C : MX S Z X) (hM : Md S' Z) (h1 : p Z 18) (hp : ∀ j, p (Z + 15) j) : MX S' Z X := by
  obtain ⟨-, c1, c2, c3⟩ := C
  have e1 := fun j => (g.2 (Z + 15) j (hp _)).2.1
  unfold MX
  simp only [e1, (g.2 Z 18 h1).1]
  exact ⟨hM, c1, c2, c3⟩
/-- the reference's cells that hold what it shows -/
def pM (Z : Nat) (b j : Nat) : Prop := Z ≤ b ∧ b ≤ Z + 15 ∧ (b = Z → j ≠ 0 ∧ j ≠ 20 ∧ j ≠ 22 ∧ j ≠ 25)
theorem MS.fr {A : Ga} {R : Nat × Gr} {T : Gk} {X : Gx} (g : agr S S' p) (C : MS S n A R T X) (hr0 : ∀ j, hr S' (49 + 14 * n) j = hr S (49 + 14 * n) j) (hp : ∀ b j, pM (49 + 14 * n) b j → p b j) : MS S' n A R T X := by
  obtain ⟨c1, c2, c3, c4⟩ := C
  have hM : Md S' (49 + 14 * n) := c1.1.fr g (fun j _ _ => Or.inr (hr0 j))
  unfold pM at hp
  exact ⟨c1.fr g hM (hp _ _ (by omega)) (fun b j _ _ => hp b j (by omega)), c2.fr g hM (hp _ _ (by omega)) (fun b j _ _ => hp b j (by omega)), c3.fr g hM (hp _ _ (by omega)) (fun b j _ _ => hp b j (by omega)), c4.fr g hM (hp _ _ (by omega)) (fun j => hp _ j (by omega))⟩
end
