/-! one area's part of the state is changed -/
def upn {α : Type} (f : Nat → α) (i : Nat) (v : α) : Nat → α := fun k => if k = i then v else f k
theorem upn_s {α : Type} (f : Nat → α) (i : Nat) (v : α) : upn f i v i = v := if_pos rfl
theorem upn_n {α : Type} (f : Nat → α) {i k : Nat} (v : α) (h : k ≠ i) : upn f i v k = f k := if_neg h
def setA (A : Ga) (i c : Nat) (m : Bool) (sp : Int) (sz : Nat → Nat) (X Y : Nat → Nat → Int) : Ga := (upn A.1 i c, upn A.2.1 i m, upn A.2.2.1 i sp, upn A.2.2.2.1 i sz, upn A.2.2.2.2.1 i X, upn A.2.2.2.2.2 i Y)
section
variable {S S' : hs} {p : Nat → Nat → Prop} {n i c : Nat} {m : Bool} {sp : Int} {sz : Nat → Nat} {X Y : Nat → Nat → Int} {A : Ga} {R : Nat × Gr} {T : Gk} {E : Gx}
theorem ArCv_s {a : Nat} (h : ArC S a c m sp sz X Y) : ArCv S a (setA A i c m sp sz X Y) i := by
  unfold ArCv setA
  simp only [upn_s]
  exact h
theorem ArCv_n {a k : Nat} (h : ArCv S a A k) (hk : k ≠ i) : ArCv S a (setA A i c m sp sz X Y) k := by
  unfold ArCv setA at *
  simp only [upn_n _ _ hk]
  exact h
theorem ArMv_s {Z : Nat} (h : ArM S Z i c m sp sz X Y) : ArMv S Z (setA A i c m sp sz X Y) i := by
  unfold ArMv setA
  simp only [upn_s]
  exact h
theorem ArMv_n {Z k : Nat} (h : ArMv S Z A k) (hk : k ≠ i) : ArMv S Z (setA A i c m sp sz X Y) k := by
  unfold ArMv setA at *
  simp only [upn_n _ _ hk]
  exact h
/-- all but the cells of the class's area i -/
def paC (i b j : Nat) : Prop := b < 2 + 14 * i ∨ 15 + 14 * i < b
theorem CA.upd (C : CA S n A) (hi0 : i < n) (g : agr S S' (paC i)) (ha : ArC S' (2 + 14 * i) c m sp sz X Y) : CA S' n (setA A i c m sp sz X Y) := by
  obtain ⟨⟨r1, r2, r3, r4, r5⟩, r6⟩ := C
  have e0 := (g.2 0 0 (by unfold paC; omega)).2.2
  have e1 := fun j => (g.2 1 j (by unfold paC; omega)).2.2
  unfold CA
  simp only [g.o, g.z, e0, e1]
  refine ⟨⟨r1, r2, r3, r4, r5⟩, fun k hk => ⟨(r6 k hk).1, ?_⟩⟩
  by_cases h : k = i
  · subst h
    exact ArCv_s ha
  · refine ArCv_n ((r6 k hk).2.fr g (fun b j h1 h2 => ?_)) h
    unfold paC
    omega
theorem CS.updA (C : CS S n A R T E) (hi0 : i < n) (g : agr S S' (paC i)) (ha : ArC S' (2 + 14 * i) c m sp sz X Y) : CS S' n (setA A i c m sp sz X Y) R T E := by
  obtain ⟨c1, c2, c3, ⟨c4, c5⟩, l, l', c6⟩ := C
  have hp : ∀ b j, 2 + 14 * n ≤ b → paC i b j := fun b j h => by unfold paC; omega
  have h0 : ∀ j, paC i 0 j := fun j => by unfold paC; omega
  refine ⟨c1.upd hi0 g ha, c2.fr g (h0 _) (fun b j h _ => hp b j h), c3.fr g (h0 _) (h0 _) (fun b j h _ => hp b j (by omega)), ⟨?_, c5.fr g (fun j => Or.inl (hp _ _ (by omega)))⟩, l, l', c6.fr g (h0 _) (h0 _) (fun b j h _ => hp b j (by omega))⟩
  rw [(g.2 0 4 (h0 _)).2.2]
  exact c4
theorem ArC.upd {a c' : Nat} {m' : Bool} {sp' : Int} {sz' : Nat → Nat} {X' Y' : Nat → Nat → Int} (A : ArC S a c m sp sz X Y) (g : agr S S' p) (hr0 : ∀ b j, hr S' b j = hr S b j) (h1 : hi S' a 1 = nI c') (h2 : hi S' a 2 = zb m') (h3 : hj S' a 3 = cJ sp') (h4 : c' ≤ 4) (h5 : ∀ r, r < 4 → RgC S' (a + 2 + 3 * r) (sz' r) (X' r) (Y' r)) : ArC S' a c' m' sp' sz' X' Y' := by
  obtain ⟨⟨a1, a2, a3, a4, -⟩, a6⟩ := A
  unfold ArC
  simp only [g.o, g.z, hr0]
  exact ⟨⟨a1, a2, a3, a4, h1, h2, h3, h4⟩, fun r h => ⟨(a6 r h).1, h5 r h⟩⟩
/-- the cells of the reference's area i -/
def mA (Z i b j : Nat) : Prop := (b = Z + 1 ∨ b = Z + 2) ∧ 48 * i ≤ j ∧ j < 48 * i + 48 ∨ b = Z + 3 ∧ 4 * i ≤ j ∧ j < 4 * i + 4 ∨ (b = Z + 4 ∨ b = Z + 5 ∨ b = Z + 6) ∧ j = i
theorem RgM.fr2 {Z q n : Nat} {X Y : Nat → Int} (g : agr S S' p) (R : RgM S Z q n X Y) (hM : Md S' Z) (hp : ∀ k, k < 12 → p (Z + 1) (12 * q + k) ∧ p (Z + 2) (12 * q + k)) (hq : p (Z + 3) q) : RgM S' Z q n X Y := by
  obtain ⟨⟨-, r1, r2, r3⟩, r4⟩ := R
  refine ⟨⟨hM, r1, by rw [(g.2 _ _ hq).1]; exact r2, r3⟩, fun k hk => ⟨?_, (r4 k hk).2⟩⟩
  have := hp k (by omega)
  rw [(g.2 _ _ this.1).2.1, (g.2 _ _ this.2).2.1]
  exact (r4 k hk).1
theorem MS.updA (C : MS S n A R T E) (hi0 : i < n) (hr0 : ∀ j, hr S' (49 + 14 * n) j = hr S (49 + 14 * n) j) (g : agr S S' (fun b j => pM (49 + 14 * n) b j ∧ ¬ mA (49 + 14 * n) i b j)) (ha : Md S' (49 + 14 * n) → ArM S' (49 + 14 * n) i c m sp sz X Y) : MS S' n (setA A i c m sp sz X Y) R T E := by
  obtain ⟨⟨c0, c1, c2⟩, c3, c4, c5⟩ := C
  have hM : Md S' (49 + 14 * n) := c0.fr g (fun j _ _ => Or.inr (hr0 j))
  unfold MS
  generalize 49 + 14 * n = Z at *
  have nm : ∀ b j, b = Z ∨ Z + 7 ≤ b → ¬ mA Z i b j := fun b j h q => by unfold mA at q; omega
  have hp : ∀ b j, Z + 7 ≤ b → b ≤ Z + 15 → pM Z b j ∧ ¬ mA Z i b j := fun b j h1 h2 => ⟨by unfold pM; omega, nm b j (by omega)⟩
  refine ⟨⟨hM, ?_, fun k hk => ?_⟩, c3.fr g hM ⟨by unfold pM; omega, nm _ _ (by omega)⟩ (fun b j _ _ => hp b j (by omega) (by omega)), c4.fr g hM ⟨by unfold pM; omega, nm _ _ (by omega)⟩ (fun b j _ _ => hp b j (by omega) (by omega)), c5.fr g hM ⟨by unfold pM; omega, nm _ _ (by omega)⟩ (fun j => hp _ j (by omega) (by omega))⟩
  · rw [(g.2 Z 1 ⟨by unfold pM; omega, nm _ _ (by omega)⟩).1]; exact c1
  · by_cases h : k = i
    · subst h
      exact ArMv_s (ha hM)
    · refine ArMv_n ?_ h
      obtain ⟨⟨-, a1, a2, a3, a4, a5⟩, a6⟩ := c2 k hk
      have q4 : ∀ b, b = Z + 4 ∨ b = Z + 5 ∨ b = Z + 6 → pM Z b k ∧ ¬ mA Z i b k := fun b hb => ⟨by unfold pM; omega, fun q => by unfold mA at q; omega⟩
      unfold ArMv ArM
      rw [(g.2 _ _ (q4 (Z + 4) (by omega))).1, (g.2 _ _ (q4 (Z + 5) (by omega))).1, (g.2 _ _ (q4 (Z + 6) (by omega))).2.1]
      refine ⟨⟨hM, a1, a2, a3, a4, a5⟩, fun r hr1 => (a6 r hr1).fr2 g hM (fun x hx => ⟨⟨by unfold pM; omega, fun q => by unfold mA at q; omega⟩, ⟨by unfold pM; omega, fun q => by unfold mA at q; omega⟩⟩) ⟨by unfold pM; omega, fun q => by unfold mA at q; omega⟩⟩
theorem WA.set (h : WA n A) (h1 : 0 ≤ sp ∧ sp ≤ 100000) (h2 : m = true → c < 4) (h3 : ∀ r, r < c → okR (sz r) (X r) (Y r)) : WA n (setA A i c m sp sz X Y) := by
  intro k hk
  by_cases e : k = i
  · subst e
    unfold setA
    simp only [upn_s]
    exact ⟨h1, h2, h3⟩
  · unfold setA
    simp only [upn_n _ _ e]
    exact h k hk
theorem Jo.mk {α : Type} {P6 P7 : hs → (α → hs → Prop) → Prop} {A' : Ga} {R' : Nat × Gr} {T' : Gk} {E' : Gx} {S1 S2 : hs} (r : α) (h6 : ∀ Post, P6 S Post = Post r S1) (h7 : ∀ Post, P7 S1 Post = Post r S2) (C : CS S1 n A' R' T' E') (M : MS S2 n A' R' T' E') (g : agr S1 S2 (pL (49 + 14 * n))) (s1 : shp S S1) (hA : WA n A') (hT : WT T') : Jo n P6 P7 S :=
  ⟨r, S1, S2, fun P h => by rw [h6]; exact h, fun P h => by rw [h7]; exact h, ⟨A', R', T', E', C.low g, M, hA, hT⟩, s1, ⟨g.1.1.trans s1.1, g.1.2.1.trans s1.2.1, g.1.2.2.trans s1.2.2⟩⟩
end
