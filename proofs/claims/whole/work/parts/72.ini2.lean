/-! the class's object at its beginning -/
def A0 : Ga := (fun _ => 0, fun _ => true, fun _ => 0, fun _ _ => 0, fun _ _ _ => 0, fun _ _ _ => 0)
def R0 : Nat × Gr := (0, (fun _ => 0, fun _ => 0, fun _ => 0, fun _ => 0))
def T0 : Gk := (0, fun _ => 0, fun _ => (fun _ => 0, fun _ => 0, fun _ => 0))
def E0 : Gx := (0, fun _ => 0, fun _ => 0, fun _ => false, fun _ => 0, fun _ => 0)
section
variable {S0 S S' : hs} {Z c : Nat} {p : Nat → Nat → Prop} {n : Nat}
theorem Gm.ring {X Y : Nat → Int} (G : Gm S0 2 S Z c [(1, 2, 8, 12), (0, 1, 8, 12)]) : RgC S Z 0 X Y := by
  obtain ⟨⟨g1, g1', g2, g3⟩, g4, g5, -⟩ := G
  have t1 := g4 (0, 1, 8, 12) (by simp)
  have t2 := g4 (1, 2, 8, 12) (by simp)
  exact ⟨⟨g3, t1.1, t2.1, t1.2.1, t2.2.1, t1.2.2, t2.2.2, (g5 _ _ (Nat.le_refl _)).1, by omega⟩, fun k hk => absurd hk (by omega)⟩
theorem Gm.rules (G : Gm S0 3 S Z c [(3, 4, 8, 40), (2, 3, 8, 40), (1, 2, 8, 40), (0, 1, 8, 40)]) : RuC S Z R0.1 R0.2 := by
  obtain ⟨⟨g1, g1', g2, g3⟩, g4, g5, -⟩ := G
  have t1 := g4 (0, 1, 8, 40) (by simp)
  have t2 := g4 (1, 2, 8, 40) (by simp)
  have t3 := g4 (2, 3, 8, 40) (by simp)
  have t4 := g4 (3, 4, 8, 40) (by simp)
  exact ⟨⟨g3, ⟨t1.1, t2.1, t3.1, t4.1⟩, ⟨t1.2.1, t2.2.1, t3.2.1, t4.2.1⟩, ⟨t1.2.2, t2.2.2, t3.2.2, t4.2.2⟩, (g5 _ _ (Nat.le_refl _)).1, by show 0 ≤ 40; omega⟩, fun k hk => absurd hk (Nat.not_lt_zero k)⟩
theorem Gm.track {G0 : Gt} (G : Gm S0 5 S Z c [(2, 3, 8, 30), (1, 2, 8, 30), (0, 1, 9, 30)]) : TrC S Z 0 G0 := by
  obtain ⟨⟨g1, g1', g2, g3⟩, g4, g5, -⟩ := G
  have t1 := g4 (0, 1, 9, 30) (by simp)
  have t2 := g4 (1, 2, 8, 30) (by simp)
  have t3 := g4 (2, 3, 8, 30) (by simp)
  exact ⟨⟨g3, ⟨t1.1, t2.1, t3.1⟩, ⟨t1.2.1, t2.2.1, t3.2.1⟩, ⟨t1.2.2, t2.2.2, t3.2.2⟩, (g5 _ _ (Nat.le_refl _)).1, by omega⟩, fun k hk => absurd hk (by omega)⟩
theorem Gm.cut (G : Gm S0 4 S Z c [(4, 4, 8, 50), (3, 3, 8, 50), (1, 2, 9, 50), (0, 1, 9, 50)]) : CZ S Z := by
  obtain ⟨⟨g1, g1', g2, g3⟩, g4, g5, -⟩ := G
  have t1 := g4 (0, 1, 9, 50) (by simp)
  have t2 := g4 (1, 2, 9, 50) (by simp)
  have t3 := g4 (3, 3, 8, 50) (by simp)
  have t4 := g4 (4, 4, 8, 50) (by simp)
  exact ⟨g3, ⟨t1.1, t2.1, t3.1, t4.1⟩, ⟨t1.2.1, t2.2.1, t3.2.1, t4.2.1⟩, t1.2.2, t2.2.2, t3.2.2, t4.2.2⟩
theorem Gm.cross (G : Gm S0 1 S Z c [(4, 5, 9, 300), (3, 4, 9, 300), (2, 3, 10, 300), (1, 2, 8, 300), (0, 1, 8, 300)]) : CO S Z ∧ hi S Z 5 = nI 0 := by
  obtain ⟨⟨g1, g1', g2, g3⟩, g4, g5, -⟩ := G
  have t1 := g4 (0, 1, 8, 300) (by simp)
  have t2 := g4 (1, 2, 8, 300) (by simp)
  have t3 := g4 (2, 3, 10, 300) (by simp)
  have t4 := g4 (3, 4, 9, 300) (by simp)
  have t5 := g4 (4, 5, 9, 300) (by simp)
  exact ⟨⟨g3, ⟨t1.1, t2.1, t3.1, t4.1, t5.1⟩, ⟨t1.2.1, t2.2.1, t3.2.1, t4.2.1, t5.2.1⟩, t1.2.2, t2.2.2, t3.2.2, t4.2.2, t5.2.2⟩, (g5 _ _ (Nat.le_refl _)).1⟩
/-- an area whose first r rings are made -/
def QR (S0 S : hs) (Z r : Nat) : Prop := (S.1 = Z + 2 + 3 * r ∧ wfS S ∧ zS S ∧ ey S0 S (fun b _ => b < Z) ∧ Z = S0.1) ∧ (is S 0 Z ∧ hr S Z 0 = some (Z + 1) ∧ is S 12 (Z + 1) ∧ hz S (Z + 1) = 4 ∧ hi S Z 1 = nI 0 ∧ hi S Z 2 = zb true ∧ hj S Z 3 = cJ 0) ∧ ∀ r', r' < r → hr S (Z + 1) r' = some (Z + 2 + 3 * r') ∧ RgC S (Z + 2 + 3 * r') 0 (fun _ => 0) (fun _ => 0)
theorem i_rings : ∀ (d r : Nat) (S : hs), r + d = 4 → QR S0 S Z r → ∃ S', (∀ Post : hs → Prop, Post S' → ∃ w, PX0_init_29 Post (Z + 1) w Z (nI r) S) ∧ QR S0 S' Z 4 := by
  intro d
  induction d with
  | zero =>
    intro r S hr1 Q
    have e : r = 4 := by omega
    subst e
    refine ⟨S, fun Post h => ⟨1, ?_⟩, Q⟩
    have q1 := Q.1.1
    have c0 : (4 : Int32) ≤ nI 4 := by decide
    simp only [PX0_init_29, eq_true c0, true_implies, not_true_eq_false, false_implies, and_true]
    exact ⟨⟨by omega, by show S.1 - (Z + 1) ≤ 13; omega, by decide⟩, h⟩
  | succ d ih =>
    intro r S hr1 Q
    obtain ⟨⟨q1, q2, q3, q4, q5⟩, ⟨a1, a2, a3, a4, a5, a6, a7⟩, q6⟩ := Q
    obtain ⟨S1, p1, p2⟩ := i_ring q2 q3
    have r1 := p2.ring (X := fun _ => 0) (Y := fun _ => 0)
    have s1 : S1.1 = S.1 + 3 := p2.1.1
    have g1 : ey S S1 (fun b _ => b < S.1) := p2.2.2.2.1
    have g2 : ey S (sR S1 (Z + 1) r (some S.1)) (fun b j => b < S.1 ∧ (b ≠ Z + 1 ∨ j ≠ r)) := (g1.mono (fun b j h => h.1)).R (fun h => by omega)
    have Q' : QR S0 (sR S1 (Z + 1) r (some S.1)) Z (r + 1) := by
      refine ⟨⟨by show S1.1 = _; omega, wf_R p2.1.2.2.1 (by omega), p2.zs, q4.tr (g2.mono (fun b j h => ⟨by omega, by omega⟩)), q5⟩, ⟨g2.o a1, g2.r a1 ⟨by omega, by omega⟩ a2, g2.o a3, g2.zz a3 a4, g2.i a1 ⟨by omega, by omega⟩ a5, g2.i a1 ⟨by omega, by omega⟩ a6, g2.j a1 ⟨by omega, by omega⟩ a7⟩, fun r' hr' => ?_⟩
      by_cases e : r' = r
      · subst e
        refine ⟨?_, ?_⟩
        · show up2 (hr S1) (Z + 1) r' (some S.1) (Z + 1) r' = _
          rw [up2_same, q1]
        · have w : ey S1 (sR S1 (Z + 1) r' (some S.1)) (fun b _ => b ≠ Z + 1) := ey.rf.R (fun h => h rfl)
          rw [q1] at r1
          exact r1.ey w (fun b j h1 h2 => by omega)
      · obtain ⟨w1, w2⟩ := q6 r' (by omega)
        exact ⟨g2.r a3 ⟨by omega, Or.inr e⟩ w1, w2.ey g2 (fun b j h1 h2 => ⟨by omega, by omega⟩)⟩
    obtain ⟨S2, t1, t2⟩ := ih (r + 1) _ (by omega) Q'
    refine ⟨S2, fun Post h => ?_, t2⟩
    obtain ⟨w, hw⟩ := t1 Post h
    refine ⟨w + 1, ?_⟩
    have c0 : ¬ (4 : Int32) ≤ nI r := nI_ge (b := 4) (by omega) (by omega)
    have kr : (nI r).toNatClampNeg = r := nI_clamp (by omega)
    unfold PX0_init_29
    refine ⟨fun z => absurd z c0, fun _ => ⟨a1, Z + 1, a2, ⟨by omega, by show S.1 - (Z + 1) + 1 ≤ 13; omega, by decide⟩, q2, by omega, by omega, ?_⟩⟩
    rintro _ rfl
    refine ⟨⟨by show Z + 1 ≤ S.1 + 1; omega, by show S.1 + 1 - (Z + 1) + 2 ≤ 13; omega, by decide⟩, by show Z < S.1 + 1; omega, by show S.1 < S.1 + 1; omega, by show Z + 1 < S.1 + 1; omega, p1 _ ⟨s1, ?_, p2.1.2.2.2, ?_⟩⟩
    · exact ix_n (g1.o a3) (g1.zz a3 a4) (by omega) (by omega)
    · rintro _ rfl
      rintro _ rfl
      rw [kr, nI_1]
      exact hw
theorem i_area (wf : wfS S) (hz0 : zS S) : ∃ S', (∀ Post : hs → Prop, Post S' → PX0_init S.1 (S.1 + 1) (nw S 0 0) Post) ∧ (S'.1 = S.1 + 14 ∧ wfS S' ∧ zS S' ∧ ey S S' (fun b _ => b < S.1)) ∧ ArC S' S.1 0 true 0 (fun _ => 0) (fun _ _ => 0) (fun _ _ => 0) := by
  have g0 := Gm.new (k0 := 0) wf hz0
  have g1 := g0.st (p := 0) (k := 12) (z := 4) (fun t ht => by (cases ht))
  have g2 := g1.i0 (p := 1)
  obtain ⟨⟨b1, b1', b2, b3⟩, b4, b5, b6, b7⟩ := g2
  have t1 := b4 (0, 1, 12, 4) (by simp)
  have Q : QR S (sJ (sI (sI (sR (nw (nw S 0 0) 12 4) S.1 0 (some (nw S 0 0).1)) S.1 1 0) S.1 2 1) S.1 3 0) S.1 0 := by
    refine ⟨⟨b1, b2, fun b j hb => ?_, (b6.I (fun h => by omega)).J (fun h => by omega), rfl⟩, ⟨b3, t1.1, t1.2.1, t1.2.2, ?_, up2_same _ _ _ _, up2_same _ _ _ _⟩, fun r' hr' => absurd hr' (by omega)⟩
    · have hb' : S.1 + 2 ≤ b := by
        have : (sR (nw (nw S 0 0) 12 4) S.1 0 (some (nw S 0 0).1)).1 = S.1 + 2 := rfl
        show S.1 + 2 ≤ b
        exact hb
      refine ⟨?_, ?_⟩
      · show up2 (hi (sI (sR (nw (nw S 0 0) 12 4) S.1 0 (some (nw S 0 0).1)) S.1 1 0)) S.1 2 1 b j = 0
        rw [up2_ne _ _ (Or.inl (by omega))]
        exact (b5 b j (by omega)).1
      · show up2 (hj (sI (sI (sR (nw (nw S 0 0) 12 4) S.1 0 (some (nw S 0 0).1)) S.1 1 0) S.1 2 1)) S.1 3 0 b j = 0
        rw [up2_ne _ _ (Or.inl (by omega))]
        exact (b5 b j (by omega)).2
    · show up2 (hi (sI (sR (nw (nw S 0 0) 12 4) S.1 0 (some (nw S 0 0).1)) S.1 1 0)) S.1 2 1 S.1 1 = nI 0
      rw [up2_ne _ _ (Or.inr (by omega))]
      exact (b5 S.1 1 (Nat.le_refl _)).1
  obtain ⟨S', p1, ⟨q1, q2, q3, q4, q5⟩, ⟨a1, a2, a3, a4, a5, a6, a7⟩, q6⟩ := i_rings 4 0 _ (by omega) Q
  refine ⟨S', fun Post h => ?_, ⟨by omega, q2, q3, q4⟩, ⟨⟨a1, a2, a3, a4, a5, a6, a7, by omega⟩, fun r hr1 => q6 r hr1⟩⟩
  have hh := p1 Post h
  unfold PX0_init
  refine ⟨rm_ok (by decide) g0 (by decide), g0.1.2.2.1, g0.lt, ?_⟩
  rintro _ rfl
  refine ⟨ey.n.o (p := fun _ _ => True) g0.1.2.2.2, ?_⟩
  rintro _ rfl
  refine ⟨g1.1.2.2.2, ?_⟩
  rintro _ rfl
  refine ⟨b3, ?_⟩
  rintro _ rfl
  refine ⟨b3, ?_⟩
  rintro _ rfl
  rw [← nI_0]
  exact hh
theorem CA.ey {i : Nat} (h : ∀ k, k < i → hr S 1 k = some (2 + 14 * k) ∧ ArCv S (2 + 14 * k) A0 k) (h11 : is S 11 1) (g : ey S S' p) (hp1 : ∀ k, k < i → p 1 k) (hp : ∀ b j, 2 ≤ b → b < 2 + 14 * i → p b j) : ∀ k, k < i → hr S' 1 k = some (2 + 14 * k) ∧ ArCv S' (2 + 14 * k) A0 k := by
  intro k hk
  obtain ⟨w1, w2⟩ := h k hk
  have w3 : ArC S (2 + 14 * k) 0 true 0 (fun _ => 0) (fun _ _ => 0) (fun _ _ => 0) := w2
  exact ⟨g.r h11 (hp1 k hk) w1, w3.ey g (fun b j h1 h2 => hp b j (by omega) (by omega))⟩
/-- the class's object with its first i areas -/
def QC (S : hs) (n i : Nat) : Prop := (S.1 = 2 + 14 * i ∧ wfS S ∧ zS S) ∧ (is S 6 0 ∧ hr S 0 0 = some 1 ∧ is S 11 1 ∧ hz S 1 = n) ∧ ∀ k, k < i → hr S 1 k = some (2 + 14 * k) ∧ ArCv S (2 + 14 * k) A0 k
theorem i_areas (hn : n ≤ 12) : ∀ (d i : Nat) (S : hs), i + d = n → QC S n i → ∃ S', QC S' n n ∧ ∀ Post : hs → Prop, (∃ w, PX6_init_23 Post 1 w 0 (nI n) S') → ∃ w, PX6_init_23 Post 1 w 0 (nI i) S := by
  intro d
  induction d with
  | zero =>
    intro i S hi1 Q
    have e : i = n := by omega
    subst e
    exact ⟨S, Q, fun Post h => h⟩
  | succ d ih =>
    intro i S hi1 Q
    obtain ⟨⟨q1, q2, q3⟩, ⟨a1, a2, a3, a4⟩, q6⟩ := Q
    obtain ⟨S1, p1, ⟨p2, p3, p4, p5⟩, p6⟩ := i_area q2 q3
    have g2 : ey S (sR S1 1 i (some S.1)) (fun b j => b < S.1 ∧ (b ≠ 1 ∨ j ≠ i)) := (p5.mono (fun b j h => h.1)).R (fun h => by omega)
    have Q' : QC (sR S1 1 i (some S.1)) n (i + 1) := by
      refine ⟨⟨by show S1.1 = _; omega, wf_R p3 (by omega), p4⟩, ⟨g2.o a1, g2.r a1 ⟨by omega, by omega⟩ a2, g2.o a3, g2.zz a3 a4⟩, fun k hk => ?_⟩
      by_cases e : k = i
      · subst e
        refine ⟨?_, ?_⟩
        · show up2 (hr S1) 1 k (some S.1) 1 k = _
          rw [up2_same, q1]
        · rw [q1] at p6
          have w : ey S1 (sR S1 1 k (some S.1)) (fun b _ => b ≠ 1) := ey.rf.R (fun h => h rfl)
          have p7 : ArC (sR S1 1 k (some S.1)) (2 + 14 * k) 0 true 0 (fun _ => 0) (fun _ _ => 0) (fun _ _ => 0) := p6.ey w (fun b j h1 h2 => by omega)
          exact p7
      · exact CA.ey q6 a3 g2 (fun k hk => ⟨by omega, Or.inr (by omega)⟩) (fun b j h1 h2 => ⟨by omega, by omega⟩) k (by omega)
    obtain ⟨S2, t1, t2⟩ := ih (i + 1) _ (by omega) Q'
    refine ⟨S2, t1, fun Post h => ?_⟩
    obtain ⟨w, hw⟩ := t2 Post h
    refine ⟨w + 1, ?_⟩
    have c0 : ¬ nI n ≤ nI i := nI_ge (by omega) (by omega)
    have kr : (nI i).toNatClampNeg = i := nI_clamp (by omega)
    unfold PX6_init_23
    refine ⟨a1, 1, a2, a3, fun z => absurd (by rw [a4] at z; exact z) c0, fun _ => ⟨a1, 1, a2, ⟨by omega, by show S.1 - 1 + 1 ≤ 216; omega, by decide⟩, q2, by omega, by omega, ?_⟩⟩
    rintro _ rfl
    refine ⟨⟨by show 1 ≤ S.1 + 1; omega, by show S.1 + 1 - 1 + 13 ≤ 216; omega, by decide⟩, by show 0 < S.1 + 1; omega, by show S.1 < S.1 + 1; omega, by show 1 < S.1 + 1; omega, p1 _ ⟨p2, ?_, p6.o, ?_⟩⟩
    · exact ix_n (p5.o a3) (p5.zz a3 a4) (by omega) (by omega)
    · rintro _ rfl
      rintro _ rfl
      rw [kr, nI_1]
      exact hw
/-- with its rules and its first t tracks -/
def QT (S : hs) (n t : Nat) : Prop := (S.1 = 8 + 14 * n + 4 * t ∧ wfS S ∧ zS S) ∧ (is S 6 0 ∧ hr S 0 0 = some 1 ∧ is S 11 1 ∧ hz S 1 = n) ∧ (∀ k, k < n → hr S 1 k = some (2 + 14 * k) ∧ ArCv S (2 + 14 * k) A0 k) ∧ (hr S 0 1 = some (2 + 14 * n) ∧ RuC S (2 + 14 * n) R0.1 R0.2) ∧ (hr S 0 2 = some (7 + 14 * n) ∧ is S 13 (7 + 14 * n) ∧ hz S (7 + 14 * n) = 6) ∧ ∀ k, k < t → hr S (7 + 14 * n) k = some (8 + 14 * n + 4 * k) ∧ TrC S (8 + 14 * n + 4 * k) 0 (T0.2.2 k)
theorem i_tracks (hn : n ≤ 12) : ∀ (d t : Nat) (S : hs), t + d = 6 → QT S n t → ∃ S', QT S' n 6 ∧ ∀ Post : hs → Prop, (∃ w, PX6_init_73 Post 1 w 0 (nI 6) S') → ∃ w, PX6_init_73 Post 1 w 0 (nI t) S := by
  intro d
  induction d with
  | zero =>
    intro t S hi1 Q
    have e : t = 6 := by omega
    subst e
    exact ⟨S, Q, fun Post h => h⟩
  | succ d ih =>
    intro t S hi1 Q
    obtain ⟨⟨q1, q2, q3⟩, ⟨a1, a2, a3, a4⟩, q6, ⟨u1, u2⟩, ⟨v1, v2, v3⟩, q7⟩ := Q
    obtain ⟨S1, p1, p2⟩ := i_track q2 q3
    have p5 : ey S S1 (fun b _ => b < S.1) := p2.2.2.2.1
    have s1 : S1.1 = S.1 + 4 := p2.1.1
    have g2 : ey S (sR S1 (7 + 14 * n) t (some S.1)) (fun b j => b < S.1 ∧ (b ≠ 7 + 14 * n ∨ j ≠ t)) := (p5.mono (fun b j h => h.1)).R (fun h => by omega)
    have Q' : QT (sR S1 (7 + 14 * n) t (some S.1)) n (t + 1) := by
      refine ⟨⟨by show S1.1 = _; omega, wf_R p2.1.2.2.1 (by omega), p2.zs⟩, ⟨g2.o a1, g2.r a1 ⟨by omega, by omega⟩ a2, g2.o a3, g2.zz a3 a4⟩, CA.ey q6 a3 g2 (fun k hk => ⟨by omega, by omega⟩) (fun b j h1 h2 => ⟨by omega, by omega⟩), ⟨g2.r a1 ⟨by omega, by omega⟩ u1, u2.ey g2 (fun b j h1 h2 => ⟨by omega, by omega⟩)⟩, ⟨g2.r a1 ⟨by omega, by omega⟩ v1, g2.o v2, g2.zz v2 v3⟩, fun k hk => ?_⟩
      by_cases e : k = t
      · subst e
        refine ⟨?_, ?_⟩
        · show up2 (hr S1) (7 + 14 * n) k (some S.1) (7 + 14 * n) k = _
          rw [up2_same, q1]
        · have r1 := p2.track (G0 := T0.2.2 k)
          rw [q1] at r1
          have w : ey S1 (sR S1 (7 + 14 * n) k (some S.1)) (fun b _ => b ≠ 7 + 14 * n) := ey.rf.R (fun h => h rfl)
          exact r1.ey w (fun b j h1 h2 => by omega)
      · obtain ⟨w1, w2⟩ := q7 k (by omega)
        exact ⟨g2.r v2 ⟨by omega, Or.inr e⟩ w1, w2.ey g2 (fun b j h1 h2 => ⟨by omega, by omega⟩)⟩
    obtain ⟨S2, t1, t2⟩ := ih (t + 1) _ (by omega) Q'
    refine ⟨S2, t1, fun Post h => ?_⟩
    obtain ⟨w, hw⟩ := t2 Post h
    refine ⟨w + 1, ?_⟩
    have c0 : ¬ nI 6 ≤ nI t := nI_ge (by omega) (by omega)
    have kr : (nI t).toNatClampNeg = t := nI_clamp (by omega)
    unfold PX6_init_73
    refine ⟨a1, 7 + 14 * n, v1, v2, fun z => absurd (by rw [v3] at z; exact z) c0, fun _ => ⟨a1, 7 + 14 * n, v1, ⟨by omega, by show S.1 - 1 + 1 ≤ 216; omega, by decide⟩, q2, by omega, by omega, ?_⟩⟩
    rintro _ rfl
    refine ⟨⟨by show 1 ≤ S.1 + 1; omega, by show S.1 + 1 - 1 + 3 ≤ 216; omega, by decide⟩, by show 0 < S.1 + 1; omega, by show S.1 < S.1 + 1; omega, by show 7 + 14 * n < S.1 + 1; omega, p1 _ ⟨s1, ?_, p2.1.2.2.2, ?_⟩⟩
    · exact ix_n (p5.o v2) (p5.zz v2 v3) (by omega) (by omega)
    · rintro _ rfl
      rintro _ rfl
      rw [kr, nI_1]
      exact hw
end
