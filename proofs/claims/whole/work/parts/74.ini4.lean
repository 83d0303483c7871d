/-! the reference at its beginning; the law from there -/
section
variable {S S' : hs} {n : Nat}
/-- the reference's first state, its first i areas open -/
def QM (S : hs) (Z n i : Nat) : Prop := (Md S Z ∧ S.1 = Z + 21 ∧ wfS S) ∧ hi S Z 1 = nI n ∧ (∀ j, j < i → hi S (Z + 5) j = 1) ∧ ∀ b j, Z ≤ b → hj S b j = 0 ∧ (b ≠ Z + 5 → (b = Z → j ≠ 1) → hi S b j = 0)
theorem i_open {Z n : Nat} {S0 : hs} : ∀ (d i : Nat) (S : hs), i + d = 12 → QM S Z n i → ey S0 S (fun b _ => b < Z) → ∃ S', QM S' Z n 12 ∧ ey S0 S' (fun b _ => b < Z) ∧ ∀ Post : hs → Prop, Post S' → ∃ w, PX7_init_202 Post (Z + 1) w Z (nI i) S := by
  intro d
  induction d with
  | zero =>
    intro i S hi1 Q g
    have e : i = 12 := by omega
    subst e
    refine ⟨S, Q, g, fun Post h => ⟨1, ?_⟩⟩
    have q1 := Q.1.2.1
    have c0 : (12 : Int32) ≤ nI 12 := by decide
    simp only [PX7_init_202, eq_true c0, true_implies, not_true_eq_false, false_implies, and_true]
    exact ⟨⟨by omega, by show S.1 - (Z + 1) ≤ 20; omega, by decide⟩, h⟩
  | succ d ih =>
    intro i S hi1 Q g
    obtain ⟨⟨m1, m2, m3⟩, q1, q2, q3⟩ := Q
    have Q' : QM (sI S (Z + 5) i 1) Z n (i + 1) := by
      refine ⟨⟨m1, m2, m3⟩, by rw [rdI (Or.inl (by omega))]; exact q1, fun j hj0 => ?_, fun b j hb => ⟨(q3 b j hb).1, fun h1 h2 => by rw [rdI (Or.inl h1)]; exact (q3 b j hb).2 h1 h2⟩⟩
      by_cases e : j = i
      · subst e; exact up2_same _ _ _ _
      · rw [rdI (Or.inr e)]; exact q2 j (by omega)
    obtain ⟨S2, t1, t2, t3⟩ := ih (i + 1) _ (by omega) Q' (g.I (fun h => by omega))
    refine ⟨S2, t1, t2, fun Post h => ?_⟩
    obtain ⟨w, hw⟩ := t3 Post h
    refine ⟨w + 1, ?_⟩
    have c0 : ¬ (12 : Int32) ≤ nI i := nI_ge (b := 12) (by omega) (by omega)
    simp only [PX7_init_202, c0, false_implies, not_false_eq_true, true_implies, true_and, eq_true m1.1, m1.r6, Option.some.injEq, exists_eq_left', eq_true (m1.x5 (show i < 12 by omega)), nI_clamp (show i < 2 ^ 31 by omega), forall_eq, nI_1]
    exact hw
theorem i_ref (v : Int32) (wf : wfS S) (hz0 : zS S) : ∃ S', (∀ Post : hs → Prop, Post S' → PX7_init S.1 v (S.1 + 1) (nw S 7 0) Post) ∧ QM S' S.1 (nc v) 12 ∧ ey S S' (fun b _ => b < S.1) := by
  have g0 := Gm.new (k0 := 7) wf hz0
  obtain ⟨Sa, hSa⟩ : ∃ Sa, Sa = nw S 7 0 := ⟨_, rfl⟩
  rw [← hSa] at g0 ⊢
  clear hSa
  generalize hZ : S.1 = Z at g0 ⊢
  have go : ∀ {S1 : hs} {c : Nat} {l : List (Nat × Nat × Nat × Nat)}, Gm S 7 S1 Z c l → c ≤ 20 → rmA mX7_init S1 (Z + 1) ∧ wfS S1 ∧ Z < S1.1 := fun G hc => ⟨rm_ok (by decide) G hc, G.1.2.2.1, G.lt⟩
  have gi : ∀ {S1 : hs} {c k z : Nat} {l : List (Nat × Nat × Nat × Nat)}, Gm S 7 S1 Z c l → is (nw S1 k z) 7 Z := fun G => ey.n.o (p := fun _ _ => True) G.1.2.2.2
  obtain ⟨S1, e1, g1⟩ : ∃ S1, S1 = sR (nw Sa 9 576) Z 2 (some Sa.1) ∧ Gm S 7 S1 Z 2 _ := ⟨_, rfl, g0.st (p := 2) (k := 9) (z := 576) (fun t ht => by (cases ht))⟩
  obtain ⟨S2, e2, g2⟩ : ∃ S2, S2 = sR (nw S1 9 576) Z 3 (some S1.1) ∧ Gm S 7 S2 Z 3 _ := ⟨_, rfl, g1.st (p := 3) (k := 9) (z := 576) (by decide)⟩
  obtain ⟨S3, e3, g3⟩ : ∃ S3, S3 = sR (nw S2 8 48) Z 4 (some S2.1) ∧ Gm S 7 S3 Z 4 _ := ⟨_, rfl, g2.st (p := 4) (k := 8) (z := 48) (by decide)⟩
  obtain ⟨S4, e4, g4⟩ : ∃ S4, S4 = sR (nw S3 8 12) Z 5 (some S3.1) ∧ Gm S 7 S4 Z 5 _ := ⟨_, rfl, g3.st (p := 5) (k := 8) (z := 12) (by decide)⟩
  obtain ⟨S5, e5, g5⟩ : ∃ S5, S5 = sR (nw S4 10 12) Z 6 (some S4.1) ∧ Gm S 7 S5 Z 6 _ := ⟨_, rfl, g4.st (p := 6) (k := 10) (z := 12) (by decide)⟩
  obtain ⟨S6, e6, g6⟩ : ∃ S6, S6 = sR (nw S5 9 12) Z 7 (some S5.1) ∧ Gm S 7 S6 Z 7 _ := ⟨_, rfl, g5.st (p := 7) (k := 9) (z := 12) (by decide)⟩
  obtain ⟨S7, e7, g7⟩ : ∃ S7, S7 = sR (nw S6 8 40) Z 9 (some S6.1) ∧ Gm S 7 S7 Z 8 _ := ⟨_, rfl, g6.st (p := 9) (k := 8) (z := 40) (by decide)⟩
  obtain ⟨S8, e8, g8⟩ : ∃ S8, S8 = sR (nw S7 8 40) Z 10 (some S7.1) ∧ Gm S 7 S8 Z 9 _ := ⟨_, rfl, g7.st (p := 10) (k := 8) (z := 40) (by decide)⟩
  obtain ⟨S9, e9, g9⟩ : ∃ S9, S9 = sR (nw S8 8 40) Z 11 (some S8.1) ∧ Gm S 7 S9 Z 10 _ := ⟨_, rfl, g8.st (p := 11) (k := 8) (z := 40) (by decide)⟩
  obtain ⟨S10, e10, g10⟩ : ∃ S10, S10 = sR (nw S9 8 40) Z 12 (some S9.1) ∧ Gm S 7 S10 Z 11 _ := ⟨_, rfl, g9.st (p := 12) (k := 8) (z := 40) (by decide)⟩
  obtain ⟨S11, e11, g11⟩ : ∃ S11, S11 = sR (nw S10 8 6) Z 14 (some S10.1) ∧ Gm S 7 S11 Z 12 _ := ⟨_, rfl, g10.st (p := 14) (k := 8) (z := 6) (by decide)⟩
  obtain ⟨S12, e12, g12⟩ : ∃ S12, S12 = sR (nw S11 9 180) Z 15 (some S11.1) ∧ Gm S 7 S12 Z 13 _ := ⟨_, rfl, g11.st (p := 15) (k := 9) (z := 180) (by decide)⟩
  obtain ⟨S13, e13, g13⟩ : ∃ S13, S13 = sR (nw S12 9 180) Z 16 (some S12.1) ∧ Gm S 7 S13 Z 14 _ := ⟨_, rfl, g12.st (p := 16) (k := 9) (z := 180) (by decide)⟩
  obtain ⟨S14, e14, g14⟩ : ∃ S14, S14 = sR (nw S13 9 180) Z 17 (some S13.1) ∧ Gm S 7 S14 Z 15 _ := ⟨_, rfl, g13.st (p := 17) (k := 9) (z := 180) (by decide)⟩
  obtain ⟨S15, e15, g15⟩ : ∃ S15, S15 = sR (nw S14 9 1500) Z 19 (some S14.1) ∧ Gm S 7 S15 Z 16 _ := ⟨_, rfl, g14.st (p := 19) (k := 9) (z := 1500) (by decide)⟩
  obtain ⟨S16, e16, g16⟩ : ∃ S16, S16 = sR (nw S15 9 1500) Z 21 (some S15.1) ∧ Gm S 7 S16 Z 17 _ := ⟨_, rfl, g15.st (p := 21) (k := 9) (z := 1500) (by decide)⟩
  obtain ⟨S17, e17, g17⟩ : ∃ S17, S17 = sR (nw S16 9 128) Z 23 (some S16.1) ∧ Gm S 7 S17 Z 18 _ := ⟨_, rfl, g16.st (p := 23) (k := 9) (z := 128) (by decide)⟩
  obtain ⟨S18, e18, g18⟩ : ∃ S18, S18 = sR (nw S17 9 128) Z 24 (some S17.1) ∧ Gm S 7 S18 Z 19 _ := ⟨_, rfl, g17.st (p := 24) (k := 9) (z := 128) (by decide)⟩
  obtain ⟨S19, e19, g19⟩ : ∃ S19, S19 = sR (nw S18 8 128) Z 26 (some S18.1) ∧ Gm S 7 S19 Z 20 _ := ⟨_, rfl, g18.st (p := 26) (k := 8) (z := 128) (by decide)⟩
  obtain ⟨S20, e20, g20⟩ : ∃ S20, S20 = sR (nw S19 8 128) Z 27 (some S19.1) ∧ Gm S 7 S20 Z 21 _ := ⟨_, rfl, g19.st (p := 27) (k := 8) (z := 128) (by decide)⟩
  obtain ⟨⟨b1, b1', b2, b3⟩, b4, b5, b6, b7⟩ := g20
  have hMd : Md S20 Z := by
    refine ⟨b3, fun t ht => ?_⟩
    refine b4 t ?_
    revert t
    decide
  have Q0 : QM (sI S20 Z 1 (nI (nc v))) Z (nc v) 0 := by
    refine ⟨⟨hMd, b1, b2⟩, up2_same _ _ _ _, fun j hj0 => absurd hj0 (Nat.not_lt_zero j), fun b j hb => ⟨(b5 b j hb).2, fun h1 h2 => ?_⟩⟩
    rw [rdI (by omega)]
    exact (b5 b j hb).1
  obtain ⟨S', t1, t2, t3⟩ := i_open 12 0 _ (by omega) Q0 (b6.I (fun h => by omega))
  refine ⟨S', fun Post h => ?_, t1, t2⟩
  have hh := t3 Post h
  unfold PX7_init
  obtain ⟨x1, x2, x3⟩ := go g0 (by decide)
  refine ⟨x1, x2, x3, ?_⟩
  rintro _ rfl
  refine ⟨gi g0, ?_⟩
  rintro _ rfl
  rw [← e1]
  obtain ⟨x1, x2, x3⟩ := go g1 (by decide)
  refine ⟨x1, x2, x3, ?_⟩
  rintro _ rfl
  refine ⟨gi g1, ?_⟩
  rintro _ rfl
  rw [← e2]
  obtain ⟨x1, x2, x3⟩ := go g2 (by decide)
  refine ⟨x1, x2, x3, ?_⟩
  rintro _ rfl
  refine ⟨gi g2, ?_⟩
  rintro _ rfl
  rw [← e3]
  obtain ⟨x1, x2, x3⟩ := go g3 (by decide)
  refine ⟨x1, x2, x3, ?_⟩
  rintro _ rfl
  refine ⟨gi g3, ?_⟩
  rintro _ rfl
  rw [← e4]
  obtain ⟨x1, x2, x3⟩ := go g4 (by decide)
  refine ⟨x1, x2, x3, ?_⟩
  rintro _ rfl
  refine ⟨gi g4, ?_⟩
  rintro _ rfl
  rw [← e5]
  obtain ⟨x1, x2, x3⟩ := go g5 (by decide)
  refine ⟨x1, x2, x3, ?_⟩
  rintro _ rfl
  refine ⟨gi g5, ?_⟩
  rintro _ rfl
  rw [← e6]
  obtain ⟨x1, x2, x3⟩ := go g6 (by decide)
  refine ⟨x1, x2, x3, ?_⟩
  rintro _ rfl
  refine ⟨gi g6, ?_⟩
  rintro _ rfl
  rw [← e7]
  obtain ⟨x1, x2, x3⟩ := go g7 (by decide)
  refine ⟨x1, x2, x3, ?_⟩
  rintro _ rfl
  refine ⟨gi g7, ?_⟩
  rintro _ rfl
  rw [← e8]
  obtain ⟨x1, x2, x3⟩ := go g8 (by decide)
  refine ⟨x1, x2, x3, ?_⟩
  rintro _ rfl
  refine ⟨gi g8, ?_⟩
  rintro _ rfl
  rw [← e9]
  obtain ⟨x1, x2, x3⟩ := go g9 (by decide)
  refine ⟨x1, x2, x3, ?_⟩
  rintro _ rfl
  refine ⟨gi g9, ?_⟩
  rintro _ rfl
  rw [← e10]
  obtain ⟨x1, x2, x3⟩ := go g10 (by decide)
  refine ⟨x1, x2, x3, ?_⟩
  rintro _ rfl
  refine ⟨gi g10, ?_⟩
  rintro _ rfl
  rw [← e11]
  obtain ⟨x1, x2, x3⟩ := go g11 (by decide)
  refine ⟨x1, x2, x3, ?_⟩
  rintro _ rfl
  refine ⟨gi g11, ?_⟩
  rintro _ rfl
  rw [← e12]
  obtain ⟨x1, x2, x3⟩ := go g12 (by decide)
  refine ⟨x1, x2, x3, ?_⟩
  rintro _ rfl
  refine ⟨gi g12, ?_⟩
  rintro _ rfl
  rw [← e13]
  obtain ⟨x1, x2, x3⟩ := go g13 (by decide)
  refine ⟨x1, x2, x3, ?_⟩
  rintro _ rfl
  refine ⟨gi g13, ?_⟩
  rintro _ rfl
  rw [← e14]
  obtain ⟨x1, x2, x3⟩ := go g14 (by decide)
  refine ⟨x1, x2, x3, ?_⟩
  rintro _ rfl
  refine ⟨gi g14, ?_⟩
  rintro _ rfl
  rw [← e15]
  obtain ⟨x1, x2, x3⟩ := go g15 (by decide)
  refine ⟨x1, x2, x3, ?_⟩
  rintro _ rfl
  refine ⟨gi g15, ?_⟩
  rintro _ rfl
  rw [← e16]
  obtain ⟨x1, x2, x3⟩ := go g16 (by decide)
  refine ⟨x1, x2, x3, ?_⟩
  rintro _ rfl
  refine ⟨gi g16, ?_⟩
  rintro _ rfl
  rw [← e17]
  obtain ⟨x1, x2, x3⟩ := go g17 (by decide)
  refine ⟨x1, x2, x3, ?_⟩
  rintro _ rfl
  refine ⟨gi g17, ?_⟩
  rintro _ rfl
  rw [← e18]
  obtain ⟨x1, x2, x3⟩ := go g18 (by decide)
  refine ⟨x1, x2, x3, ?_⟩
  rintro _ rfl
  refine ⟨gi g18, ?_⟩
  rintro _ rfl
  rw [← e19]
  obtain ⟨x1, x2, x3⟩ := go g19 (by decide)
  refine ⟨x1, x2, x3, ?_⟩
  rintro _ rfl
  refine ⟨gi g19, ?_⟩
  rintro _ rfl
  rw [← e20]
  have k197 : ∀ w : Int32, w = nI (nc v) → PX7_init_197 Post (Z + 1) Z Z w S20 := by
    rintro _ rfl
    unfold PX7_init_197
    refine ⟨b3, ?_⟩
    rintro _ rfl
    rw [← nI_0]
    exact hh
  obtain ⟨ev, bv⟩ := cI_of v
  have q12 : (v ≤ (12 : Int32)) = (v.toInt ≤ 12) := by rw [Int32.le_iff_toInt_le]; rfl
  have q1 : ((1 : Int32) ≤ v) = (1 ≤ v.toInt) := by rw [Int32.le_iff_toInt_le]; rfl
  rw [q1, q12]
  refine ⟨fun y1 => ⟨fun y2 => k197 v ?_, fun y2 => k197 12 ?_⟩, fun y1 => k197 1 ?_⟩
  · unfold nc
    rw [if_neg (by omega), if_neg (by omega), nI_c]
    refine ev.trans ?_
    congr 1
    omega
  · unfold nc
    rw [if_neg (by omega), if_pos (by omega)]
    rfl
  · unfold nc
    rw [if_pos (by omega)]
    rfl
/-- the reference's first state -/
theorem QM.ms (hn : n ≤ 12) (Q : QM S (49 + 14 * n) n 12) : MS (nw S 9 1) n A0 R0 T0 E0 := by
  obtain ⟨⟨m1, m2, m3⟩, q1, q2, q3⟩ := Q
  have g : ey S (nw S 9 1) (fun _ _ => True) := ey.n
  have hM : Md (nw S 9 1) (49 + 14 * n) := ⟨g.o m1.1, fun t ht => ⟨g.r m1.1 trivial (m1.2 t ht).1, g.o (m1.2 t ht).2.1, g.zz (m1.2 t ht).2.1 (m1.2 t ht).2.2⟩⟩
  have zi : ∀ b j, 49 + 14 * n ≤ b → b < S.1 → b ≠ 49 + 14 * n + 5 → (b = 49 + 14 * n → j ≠ 1) → hi (nw S 9 1) b j = 0 := fun b j h1 h2 h3 h4 => (g.2 b j h2 trivial).1.trans ((q3 b j h1).2 h3 h4)
  have zj : ∀ b j, 49 + 14 * n ≤ b → b < S.1 → hj (nw S 9 1) b j = 0 := fun b j h1 h2 => (g.2 b j h2 trivial).2.1.trans (q3 b j h1).1
  refine ⟨⟨hM, (g.2 _ 1 (by omega) trivial).1.trans q1, fun i hi0 => ?_⟩, ⟨⟨hM, zi _ _ (by omega) (by omega) (by omega) (by omega), by show 0 ≤ 40; omega⟩, fun k hk => absurd hk (Nat.not_lt_zero k)⟩, ⟨hM, zi _ _ (by omega) (by omega) (by omega) (by omega), by show 0 ≤ 6; omega, fun t ht => ⟨⟨hM, ht, zi _ _ (by omega) (by omega) (by omega) (by omega), by show 0 ≤ 30; omega⟩, fun k hk => absurd hk (Nat.not_lt_zero k)⟩⟩, ⟨hM, zi _ _ (by omega) (by omega) (by omega) (by omega), by show 0 ≤ 300; omega, fun k hk => absurd hk (Nat.not_lt_zero k)⟩⟩
  refine ⟨⟨hM, by omega, zi _ _ (by omega) (by omega) (by omega) (by omega), (g.2 _ i (by omega) trivial).1.trans (q2 i (by omega)), zj _ _ (by omega) (by omega), by show 0 ≤ 4; omega⟩, fun r hr1 => ⟨⟨hM, by omega, zi _ _ (by omega) (by omega) (by omega) (by omega), by show 0 ≤ 12; omega⟩, fun k hk => absurd hk (Nat.not_lt_zero k)⟩⟩
theorem pure_law {L : Nat} {xs : Nat → Int32} (hL : L ≤ 4097) : PL_law L xs := by
  unfold PL_law
  generalize (if 0 < L then xs 0 else 0) = v
  have hb := nc_b v
  obtain ⟨S2, h6, C2, s2, wf2, z2⟩ := i_class v
  obtain ⟨S4, h7, Q, g⟩ := i_ref (S := S2) v wf2 z2
  refine h6 _ ⟨⟨wf2, by omega, by omega⟩, h7 _ ?_⟩
  have s4 : S4.1 = S2.1 + 21 := Q.1.2.1
  refine ⟨⟨Q.1.2.2, by omega, by omega⟩, ?_⟩
  rw [s2] at Q
  have e4 : S4.1 = 70 + 14 * nc v := by omega
  have M := Q.ms hb.2
  have g5 : ey S2 (nw S4 9 1) (fun b _ => b < S2.1) := g.tr ey.n
  have C5 := C2.ey g5 (fun b j h => by omega)
  rw [s2, e4]
  have w1 : (1 : Int32) = nI (1 + 8 * 0) := rfl
  rw [w1]
  refine law_loop hL 600 0 (nw S4 9 1) (by omega) (by omega) ⟨A0, R0, T0, E0, C5, M, fun i hi0 => ⟨⟨by show (0 : Int) ≤ 0; omega, by show (0 : Int) ≤ 100000; omega⟩, fun _ => by show 0 < 4; omega, fun r hr1 => absurd hr1 (Nat.not_lt_zero r)⟩, fun t ht => ⟨fun _ => rfl, fun k hk => absurd hk (Nat.not_lt_zero _)⟩⟩ ⟨is_n_at e4, hz_n_at e4⟩
end
