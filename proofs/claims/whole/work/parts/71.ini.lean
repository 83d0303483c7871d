/-! the objects at their beginning -/
/-- cells may be added; where p says so nothing is changed -/
def ey (S S' : hs) (p : Nat → Nat → Prop) : Prop := (S.1 ≤ S'.1 ∧ ∀ a, a < S.1 → hk S' a = hk S a ∧ hz S' a = hz S a) ∧ ∀ a j, a < S.1 → p a j → hi S' a j = hi S a j ∧ hj S' a j = hj S a j ∧ hr S' a j = hr S a j
section
variable {S S' S2 : hs} {p q : Nat → Nat → Prop} {a k z : Nat}
theorem ey.rf : ey S S p := ⟨⟨Nat.le_refl _, fun _ _ => ⟨rfl, rfl⟩⟩, fun _ _ _ _ => ⟨rfl, rfl, rfl⟩⟩
theorem ey.tr (g : ey S S' p) (h : ey S' S2 p) : ey S S2 p := by
  refine ⟨⟨Nat.le_trans g.1.1 h.1.1, fun a ha => ?_⟩, fun a j ha hp => ?_⟩
  · have h1 := g.1.2 a ha
    have h2 := h.1.2 a (Nat.lt_of_lt_of_le ha g.1.1)
    exact ⟨h2.1.trans h1.1, h2.2.trans h1.2⟩
  · have h1 := g.2 a j ha hp
    have h2 := h.2 a j (Nat.lt_of_lt_of_le ha g.1.1) hp
    exact ⟨h2.1.trans h1.1, h2.2.1.trans h1.2.1, h2.2.2.trans h1.2.2⟩
theorem ey.mono (g : ey S S' p) (h : ∀ a j, q a j → p a j) : ey S S' q := ⟨g.1, fun a j ha c => g.2 a j ha (h a j c)⟩
theorem ey.n : ey S (nw S k z) p := by
  refine ⟨⟨Nat.le_succ _, fun a ha => ⟨va_up_off _ _ (Nat.ne_of_lt ha), va_up_off _ _ (Nat.ne_of_lt ha)⟩⟩, fun a j ha _ => ⟨if_neg (Nat.ne_of_lt ha), if_neg (Nat.ne_of_lt ha), if_neg (Nat.ne_of_lt ha)⟩⟩
theorem ey.I {j : Nat} {v : Int32} (g : ey S S' p) (h : ¬ p a j) : ey S (sI S' a j v) p := ⟨g.1, fun b i hb c => ⟨(up2_ne _ _ (ne_pp h c)).trans (g.2 b i hb c).1, (g.2 b i hb c).2.1, (g.2 b i hb c).2.2⟩⟩
theorem ey.J {j : Nat} {v : Int64} (g : ey S S' p) (h : ¬ p a j) : ey S (sJ S' a j v) p := ⟨g.1, fun b i hb c => ⟨(g.2 b i hb c).1, (up2_ne _ _ (ne_pp h c)).trans (g.2 b i hb c).2.1, (g.2 b i hb c).2.2⟩⟩
theorem ey.R {j : Nat} {v : Option Nat} (g : ey S S' p) (h : ¬ p a j) : ey S (sR S' a j v) p := ⟨g.1, fun b i hb c => ⟨(g.2 b i hb c).1, (g.2 b i hb c).2.1, (up2_ne _ _ (ne_pp h c)).trans (g.2 b i hb c).2.2⟩⟩
theorem ey.o (g : ey S S' p) (h : is S k a) : is S' k a := ⟨Nat.lt_of_lt_of_le h.1 g.1.1, (g.1.2 a h.1).1.trans h.2⟩
theorem ey.zz (g : ey S S' p) (h : is S k a) (e : hz S a = z) : hz S' a = z := (g.1.2 a h.1).2.trans e
theorem ey.r (g : ey S S' p) (h : is S k a) {j : Nat} {v : Option Nat} (hp : p a j) (e : hr S a j = v) : hr S' a j = v := (g.2 a j h.1 hp).2.2.trans e
theorem ey.i (g : ey S S' p) (h : is S k a) {j : Nat} {v : Int32} (hp : p a j) (e : hi S a j = v) : hi S' a j = v := (g.2 a j h.1 hp).1.trans e
theorem ey.j (g : ey S S' p) (h : is S k a) {j : Nat} {v : Int64} (hp : p a j) (e : hj S a j = v) : hj S' a j = v := (g.2 a j h.1 hp).2.1.trans e
theorem RgC.ey {X Y : Nat → Int} (R : RgC S a 0 X Y) (g : ey S S' p) (hp : ∀ b j, a ≤ b → b ≤ a + 2 → p b j) : RgC S' a 0 X Y := by
  obtain ⟨⟨r1, r2, r3, r4, r5, r6, r7, r8, r9⟩, -⟩ := R
  exact ⟨⟨g.o r1, g.r r1 (hp _ _ (by omega) (by omega)) r2, g.r r1 (hp _ _ (by omega) (by omega)) r3, g.o r4, g.o r5, g.zz r4 r6, g.zz r5 r7, g.i r1 (hp _ _ (by omega) (by omega)) r8, r9⟩, fun k hk => absurd hk (by omega)⟩
theorem ArC.ey {c : Nat} {m : Bool} {sp : Int} {X Y : Nat → Nat → Int} (A : ArC S a c m sp (fun _ => 0) X Y) (g : ey S S' p) (hp : ∀ b j, a ≤ b → b ≤ a + 13 → p b j) : ArC S' a c m sp (fun _ => 0) X Y := by
  obtain ⟨⟨a1, a2, a3, a4, a5, a6, a7, a8⟩, a9⟩ := A
  refine ⟨⟨g.o a1, g.r a1 (hp _ _ (by omega) (by omega)) a2, g.o a3, g.zz a3 a4, g.i a1 (hp _ _ (by omega) (by omega)) a5, g.i a1 (hp _ _ (by omega) (by omega)) a6, g.j a1 (hp _ _ (by omega) (by omega)) a7, a8⟩, fun r hr1 => ⟨g.r a3 (hp _ _ (by omega) (by omega)) (a9 r hr1).1, (a9 r hr1).2.ey g (fun b j h1 h2 => hp b j (by omega) (by omega))⟩⟩
theorem RuC.ey {G : Gr} (R : RuC S a 0 G) (g : ey S S' p) (hp : ∀ b j, a ≤ b → b ≤ a + 4 → p b j) : RuC S' a 0 G := by
  obtain ⟨⟨r1, ⟨r2, r3, r4, r5⟩, ⟨r6, r7, r8, r9⟩, ⟨z1, z2, z3, z4⟩, r10, r11⟩, -⟩ := R
  have h : ∀ j, p a j := fun j => hp _ _ (by omega) (by omega)
  exact ⟨⟨g.o r1, ⟨g.r r1 (h _) r2, g.r r1 (h _) r3, g.r r1 (h _) r4, g.r r1 (h _) r5⟩, ⟨g.o r6, g.o r7, g.o r8, g.o r9⟩, ⟨g.zz r6 z1, g.zz r7 z2, g.zz r8 z3, g.zz r9 z4⟩, g.i r1 (h _) r10, r11⟩, fun k hk => absurd hk (by omega)⟩
theorem TrC.ey {G : Gt} (R : TrC S a 0 G) (g : ey S S' p) (hp : ∀ b j, a ≤ b → b ≤ a + 3 → p b j) : TrC S' a 0 G := by
  obtain ⟨⟨r1, ⟨r2, r3, r4⟩, ⟨r6, r7, r8⟩, ⟨z1, z2, z3⟩, r10, r11⟩, -⟩ := R
  have h : ∀ j, p a j := fun j => hp _ _ (by omega) (by omega)
  exact ⟨⟨g.o r1, ⟨g.r r1 (h _) r2, g.r r1 (h _) r3, g.r r1 (h _) r4⟩, ⟨g.o r6, g.o r7, g.o r8⟩, ⟨g.zz r6 z1, g.zz r7 z2, g.zz r8 z3⟩, g.i r1 (h _) r10, r11⟩, fun k hk => absurd hk (by omega)⟩
theorem CZ.ey (C : CZ S a) (g : ey S S' p) (hp : ∀ j, p a j) : CZ S' a := by
  obtain ⟨r1, ⟨r2, r3, r4, r5⟩, ⟨r6, r7, r8, r9⟩, z1, z2, z3, z4⟩ := C
  exact ⟨g.o r1, ⟨g.r r1 (hp _) r2, g.r r1 (hp _) r3, g.r r1 (hp _) r4, g.r r1 (hp _) r5⟩, ⟨g.o r6, g.o r7, g.o r8, g.o r9⟩, g.zz r6 z1, g.zz r7 z2, g.zz r8 z3, g.zz r9 z4⟩
theorem CO.ey (C : CO S a) (g : ey S S' p) (hp : ∀ j, p a j) : CO S' a := by
  obtain ⟨r1, ⟨r2, r3, r4, r5, r5'⟩, ⟨r6, r7, r8, r9, r9'⟩, z1, z2, z3, z4, z5⟩ := C
  exact ⟨g.o r1, ⟨g.r r1 (hp _) r2, g.r r1 (hp _) r3, g.r r1 (hp _) r4, g.r r1 (hp _) r5, g.r r1 (hp _) r5'⟩, ⟨g.o r6, g.o r7, g.o r8, g.o r9, g.o r9'⟩, g.zz r6 z1, g.zz r7 z2, g.zz r8 z3, g.zz r9 z4, g.zz r9' z5⟩
theorem wf_n (h : wfS S) : wfS (nw S k z) := by
  intro a j r e
  have e' : (if a = S.1 then none else hr S a j) = some r := e
  by_cases c : a = S.1
  · rw [if_pos c] at e'; cases e'
  · rw [if_neg c] at e'
    exact Nat.lt_succ_of_lt (h a j r e')
theorem wf_R {j b : Nat} (h : wfS S) (hb : b < S.1) : wfS (sR S a j (some b)) := by
  intro a' j' r e
  have e' : (if a' = a ∧ j' = j then some b else hr S a' j') = some r := e
  by_cases c : a' = a ∧ j' = j
  · rw [if_pos c] at e'; cases e'; exact hb
  · rw [if_neg c] at e'
    exact h a' j' r e'
theorem is_n : is (nw S k z) k S.1 := ⟨Nat.lt_succ_self _, va_up_at _ _ _⟩
theorem hz_n : hz (nw S k z) S.1 = z := va_up_at _ _ _
end
/-- an object that is being made: at Z, of kind k0, its arrays so far l; all of its cells 0 -/
def Gm (S0 : hs) (k0 : Nat) (S : hs) (Z c : Nat) (l : List (Nat × Nat × Nat × Nat)) : Prop := (S.1 = Z + c ∧ 1 ≤ c ∧ wfS S ∧ is S k0 Z) ∧ (∀ t, t ∈ l → hr S Z t.1 = some (Z + t.2.1) ∧ is S t.2.2.1 (Z + t.2.1) ∧ hz S (Z + t.2.1) = t.2.2.2) ∧ (∀ b j, Z ≤ b → hi S b j = 0 ∧ hj S b j = 0) ∧ ey S0 S (fun b _ => b < Z) ∧ Z = S0.1
section
variable {S0 S : hs} {k0 Z c p k z : Nat} {l : List (Nat × Nat × Nat × Nat)}
theorem hi_n0 {b j : Nat} (h : ∀ b j, Z ≤ b → hi S b j = 0 ∧ hj S b j = 0) (hb : Z ≤ b) : hi (nw S k z) b j = 0 ∧ hj (nw S k z) b j = 0 := by
  show (if b = S.1 then 0 else hi S b j) = 0 ∧ (if b = S.1 then 0 else hj S b j) = 0
  by_cases e : b = S.1
  · rw [if_pos e, if_pos e]; exact ⟨rfl, rfl⟩
  · rw [if_neg e, if_neg e]; exact h b j hb
theorem Gm.st (G : Gm S0 k0 S Z c l) (hp : ∀ t, t ∈ l → t.1 ≠ p) : Gm S0 k0 (sR (nw S k z) Z p (some S.1)) Z (c + 1) ((p, c, k, z) :: l) := by
  obtain ⟨⟨g1, g1', g2, g3⟩, g4, g5, g6, g7⟩ := G
  have e1 : ey S (sR (nw S k z) Z p (some S.1)) (fun b j => b ≠ Z ∨ j ≠ p) := ey.n.R (fun h => by omega)
  have e2 : ey S (sR (nw S k z) Z p (some S.1)) (fun b _ => b < Z) := ey.n.R (fun h => by omega)
  refine ⟨⟨by show S.1 + 1 = _; omega, by omega, wf_R (wf_n g2) (Nat.lt_succ_self _), e1.o g3⟩, fun t ht => ?_, fun b j hb => hi_n0 (k := k) (z := z) g5 hb, g6.tr e2, g7⟩
  rcases List.mem_cons.mp ht with q | q
  · subst q
    refine ⟨?_, ?_, ?_⟩
    · show up2 (hr (nw S k z)) Z p (some S.1) Z p = some (Z + c)
      rw [up2_same, g1]
    · show is (nw S k z) k (Z + c)
      rw [← g1]; exact is_n
    · show hz (nw S k z) (Z + c) = z
      rw [← g1]; exact hz_n
  · obtain ⟨q1, q2, q3⟩ := g4 t q
    exact ⟨e1.r g3 (Or.inr (hp t q)) q1, e1.o q2, e1.zz q2 q3⟩
theorem Gm.i0 (G : Gm S0 k0 S Z c l) : Gm S0 k0 (sI S Z p 0) Z c l := by
  obtain ⟨⟨g1, g1', g2, g3⟩, g4, g5, g6, g7⟩ := G
  refine ⟨⟨g1, g1', g2, g3⟩, g4, fun b j hb => ⟨?_, (g5 b j hb).2⟩, g6.I (fun h => by omega), g7⟩
  show (if b = Z ∧ j = p then 0 else hi S b j) = 0
  by_cases e : b = Z ∧ j = p
  · rw [if_pos e]
  · rw [if_neg e]; exact (g5 b j hb).1
theorem Gm.j0 (G : Gm S0 k0 S Z c l) : Gm S0 k0 (sJ S Z p 0) Z c l := by
  obtain ⟨⟨g1, g1', g2, g3⟩, g4, g5, g6, g7⟩ := G
  refine ⟨⟨g1, g1', g2, g3⟩, g4, fun b j hb => ⟨(g5 b j hb).1, ?_⟩, g6.J (fun h => by omega), g7⟩
  show (if b = Z ∧ j = p then 0 else hj S b j) = 0
  by_cases e : b = Z ∧ j = p
  · rw [if_pos e]
  · rw [if_neg e]; exact (g5 b j hb).2
/-- all cells that aren't there are 0 -/
def zS (S : hs) : Prop := ∀ b j, S.1 ≤ b → hi S b j = 0 ∧ hj S b j = 0
theorem Gm.new (wf : wfS S) (hz0 : zS S) : Gm S k0 (nw S k0 0) S.1 1 [] := ⟨⟨rfl, Nat.le_refl _, wf_n wf, is_n⟩, fun t ht => by (cases ht), fun b j hb => hi_n0 hz0 hb, ey.n, rfl⟩
theorem Gm.zs (G : Gm S0 k0 S Z c l) : zS S := fun b j hb => G.2.2.1 b j (by have := G.1.1; omega)
theorem Gm.lt (G : Gm S0 k0 S Z c l) : Z < S.1 := by have := G.1; omega
/-- how many cells a method may make -/
theorem rm_ok {M : mt} (h : 1600 * M.2.2.2.1.cells ≤ M.2.2.2.1.slots) (G : Gm S0 k0 S Z c l) (hc : c ≤ M.2.2.2.1.cells) : rmA M S (Z + 1) := by
  obtain ⟨g1, g1', -⟩ := G.1
  exact ⟨by omega, by omega, h⟩
theorem fin_ok {M : mt} (h : 1600 * M.2.2.2.1.cells ≤ M.2.2.2.1.slots) (G : Gm S0 k0 S Z c l) (hc : c ≤ M.2.2.2.1.cells + 1) : Z + 1 ≤ S.1 ∧ S.1 - (Z + 1) ≤ M.2.2.2.1.cells ∧ 1600 * M.2.2.2.1.cells ≤ M.2.2.2.1.slots := by
  obtain ⟨g1, g1', -⟩ := G.1
  exact ⟨by omega, by omega, h⟩
end
section
variable {S : hs}
theorem i_ring (wf : wfS S) (hz0 : zS S) : ∃ S', (∀ Post : hs → Prop, Post S' → PX2_init S.1 (S.1 + 1) (nw S 2 0) Post) ∧ Gm S 2 S' S.1 3 [(1, 2, 8, 12), (0, 1, 8, 12)] := by
  have g0 := Gm.new (k0 := 2) wf hz0
  have g1 := g0.st (p := 0) (k := 8) (z := 12) (fun t ht => by (cases ht))
  have g2 := g1.st (p := 1) (k := 8) (z := 12) (by decide)
  have g3 := g2.i0 (p := 2)
  refine ⟨_, fun Post h => ?_, g3⟩
  unfold PX2_init
  refine ⟨rm_ok (by decide) g0 (by decide), g0.1.2.2.1, g0.lt, ?_⟩
  rintro _ rfl
  refine ⟨ey.n.o (p := fun _ _ => True) g0.1.2.2.2, ?_⟩
  rintro _ rfl
  refine ⟨rm_ok (by decide) g1 (by decide), g1.1.2.2.1, g1.lt, ?_⟩
  rintro _ rfl
  refine ⟨ey.n.o (p := fun _ _ => True) g1.1.2.2.2, ?_⟩
  rintro _ rfl
  refine ⟨g2.1.2.2.2, ?_⟩
  rintro _ rfl
  exact ⟨fin_ok (by decide) g3 (by decide), h⟩
theorem i_rules (wf : wfS S) (hz0 : zS S) : ∃ S', (∀ Post : hs → Prop, Post S' → PX3_init S.1 (S.1 + 1) (nw S 3 0) Post) ∧ Gm S 3 S' S.1 5 [(3, 4, 8, 40), (2, 3, 8, 40), (1, 2, 8, 40), (0, 1, 8, 40)] := by
  have g0 := Gm.new (k0 := 3) wf hz0
  have g1 := g0.st (p := 0) (k := 8) (z := 40) (fun t ht => by (cases ht))
  have g2 := g1.st (p := 1) (k := 8) (z := 40) (by decide)
  have g3 := g2.st (p := 2) (k := 8) (z := 40) (by decide)
  have g4 := g3.st (p := 3) (k := 8) (z := 40) (by decide)
  have g5 := g4.i0 (p := 4)
  refine ⟨_, fun Post h => ?_, g5⟩
  unfold PX3_init
  refine ⟨rm_ok (by decide) g0 (by decide), g0.1.2.2.1, g0.lt, ?_⟩
  rintro _ rfl
  refine ⟨ey.n.o (p := fun _ _ => True) g0.1.2.2.2, ?_⟩
  rintro _ rfl
  refine ⟨rm_ok (by decide) g1 (by decide), g1.1.2.2.1, g1.lt, ?_⟩
  rintro _ rfl
  refine ⟨ey.n.o (p := fun _ _ => True) g1.1.2.2.2, ?_⟩
  rintro _ rfl
  refine ⟨rm_ok (by decide) g2 (by decide), g2.1.2.2.1, g2.lt, ?_⟩
  rintro _ rfl
  refine ⟨ey.n.o (p := fun _ _ => True) g2.1.2.2.2, ?_⟩
  rintro _ rfl
  refine ⟨rm_ok (by decide) g3 (by decide), g3.1.2.2.1, g3.lt, ?_⟩
  rintro _ rfl
  refine ⟨ey.n.o (p := fun _ _ => True) g3.1.2.2.2, ?_⟩
  rintro _ rfl
  refine ⟨g4.1.2.2.2, ?_⟩
  rintro _ rfl
  exact ⟨fin_ok (by decide) g5 (by decide), h⟩
theorem i_track (wf : wfS S) (hz0 : zS S) : ∃ S', (∀ Post : hs → Prop, Post S' → PX5_init S.1 (S.1 + 1) (nw S 5 0) Post) ∧ Gm S 5 S' S.1 4 [(2, 3, 8, 30), (1, 2, 8, 30), (0, 1, 9, 30)] := by
  have g0 := Gm.new (k0 := 5) wf hz0
  have g1 := g0.st (p := 0) (k := 9) (z := 30) (fun t ht => by (cases ht))
  have g2 := g1.st (p := 1) (k := 8) (z := 30) (by decide)
  have g3 := g2.st (p := 2) (k := 8) (z := 30) (by decide)
  have g5 := g3.i0 (p := 3)
  refine ⟨_, fun Post h => ?_, g5⟩
  unfold PX5_init
  refine ⟨rm_ok (by decide) g0 (by decide), g0.1.2.2.1, g0.lt, ?_⟩
  rintro _ rfl
  refine ⟨ey.n.o (p := fun _ _ => True) g0.1.2.2.2, ?_⟩
  rintro _ rfl
  refine ⟨rm_ok (by decide) g1 (by decide), g1.1.2.2.1, g1.lt, ?_⟩
  rintro _ rfl
  refine ⟨ey.n.o (p := fun _ _ => True) g1.1.2.2.2, ?_⟩
  rintro _ rfl
  refine ⟨rm_ok (by decide) g2 (by decide), g2.1.2.2.1, g2.lt, ?_⟩
  rintro _ rfl
  refine ⟨ey.n.o (p := fun _ _ => True) g2.1.2.2.2, ?_⟩
  rintro _ rfl
  refine ⟨g3.1.2.2.2, ?_⟩
  rintro _ rfl
  exact ⟨fin_ok (by decide) g5 (by decide), h⟩
theorem i_cross (wf : wfS S) (hz0 : zS S) : ∃ S', (∀ Post : hs → Prop, Post S' → PX1_init S.1 (S.1 + 1) (nw S 1 0) Post) ∧ Gm S 1 S' S.1 6 [(4, 5, 9, 300), (3, 4, 9, 300), (2, 3, 10, 300), (1, 2, 8, 300), (0, 1, 8, 300)] := by
  have g0 := Gm.new (k0 := 1) wf hz0
  have g1 := g0.st (p := 0) (k := 8) (z := 300) (fun t ht => by (cases ht))
  have g2 := g1.st (p := 1) (k := 8) (z := 300) (by decide)
  have g3 := g2.st (p := 2) (k := 10) (z := 300) (by decide)
  have g4 := g3.st (p := 3) (k := 9) (z := 300) (by decide)
  have g5 := g4.st (p := 4) (k := 9) (z := 300) (by decide)
  have g6 := g5.i0 (p := 5)
  refine ⟨_, fun Post h => ?_, g6⟩
  unfold PX1_init
  refine ⟨rm_ok (by decide) g0 (by decide), g0.1.2.2.1, g0.lt, ?_⟩
  rintro _ rfl
  refine ⟨ey.n.o (p := fun _ _ => True) g0.1.2.2.2, ?_⟩
  rintro _ rfl
  refine ⟨rm_ok (by decide) g1 (by decide), g1.1.2.2.1, g1.lt, ?_⟩
  rintro _ rfl
  refine ⟨ey.n.o (p := fun _ _ => True) g1.1.2.2.2, ?_⟩
  rintro _ rfl
  refine ⟨rm_ok (by decide) g2 (by decide), g2.1.2.2.1, g2.lt, ?_⟩
  rintro _ rfl
  refine ⟨ey.n.o (p := fun _ _ => True) g2.1.2.2.2, ?_⟩
  rintro _ rfl
  refine ⟨rm_ok (by decide) g3 (by decide), g3.1.2.2.1, g3.lt, ?_⟩
  rintro _ rfl
  refine ⟨ey.n.o (p := fun _ _ => True) g3.1.2.2.2, ?_⟩
  rintro _ rfl
  refine ⟨rm_ok (by decide) g4 (by decide), g4.1.2.2.1, g4.lt, ?_⟩
  rintro _ rfl
  refine ⟨ey.n.o (p := fun _ _ => True) g4.1.2.2.2, ?_⟩
  rintro _ rfl
  refine ⟨g5.1.2.2.2, ?_⟩
  rintro _ rfl
  exact ⟨fin_ok (by decide) g6 (by decide), h⟩
theorem i_cut (wf : wfS S) (hz0 : zS S) : ∃ S', (∀ Post : hs → Prop, Post S' → PX4_init S.1 (S.1 + 1) (nw S 4 0) Post) ∧ Gm S 4 S' S.1 5 [(4, 4, 8, 50), (3, 3, 8, 50), (1, 2, 9, 50), (0, 1, 9, 50)] := by
  have g0 := Gm.new (k0 := 4) wf hz0
  have g1 := g0.st (p := 0) (k := 9) (z := 50) (fun t ht => by (cases ht))
  have g2 := g1.st (p := 1) (k := 9) (z := 50) (by decide)
  have g2' := g2.i0 (p := 2)
  have g3 := g2'.st (p := 3) (k := 8) (z := 50) (by decide)
  have g4 := g3.st (p := 4) (k := 8) (z := 50) (by decide)
  have g5 := g4.i0 (p := 5)
  have g6 := g5.j0 (p := 6)
  have g7 := g6.j0 (p := 7)
  have g8 := g7.j0 (p := 8)
  have g9 := g8.j0 (p := 9)
  refine ⟨_, fun Post h => ?_, g9⟩
  unfold PX4_init
  refine ⟨rm_ok (by decide) g0 (by decide), g0.1.2.2.1, g0.lt, ?_⟩
  rintro _ rfl
  refine ⟨ey.n.o (p := fun _ _ => True) g0.1.2.2.2, ?_⟩
  rintro _ rfl
  refine ⟨rm_ok (by decide) g1 (by decide), g1.1.2.2.1, g1.lt, ?_⟩
  rintro _ rfl
  refine ⟨ey.n.o (p := fun _ _ => True) g1.1.2.2.2, ?_⟩
  rintro _ rfl
  refine ⟨g2.1.2.2.2, ?_⟩
  rintro _ rfl
  refine ⟨rm_ok (by decide) g2' (by decide), g2'.1.2.2.1, g2'.lt, ?_⟩
  rintro _ rfl
  refine ⟨ey.n.o (p := fun _ _ => True) g2'.1.2.2.2, ?_⟩
  rintro _ rfl
  refine ⟨rm_ok (by decide) g3 (by decide), g3.1.2.2.1, g3.lt, ?_⟩
  rintro _ rfl
  refine ⟨ey.n.o (p := fun _ _ => True) g3.1.2.2.2, ?_⟩
  rintro _ rfl
  refine ⟨g4.1.2.2.2, ?_⟩
  rintro _ rfl
  refine ⟨g5.1.2.2.2, ?_⟩
  rintro _ rfl
  refine ⟨g6.1.2.2.2, ?_⟩
  rintro _ rfl
  refine ⟨g7.1.2.2.2, ?_⟩
  rintro _ rfl
  refine ⟨g8.1.2.2.2, ?_⟩
  rintro _ rfl
  exact ⟨fin_ok (by decide) g9 (by decide), h⟩
end
