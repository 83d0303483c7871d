/-! the law's loop -/
section
variable {S : hs} {n : Nat}
theorem Jo.go {α : Type} {P6 P7 : hs → (α → hs → Prop) → Prop} (h : Jo n P6 P7 S) (hO : is S 6 0) (hZ : is S 7 (49 + 14 * n)) {Q : hs → Prop} (hq : ∀ S2, Inv n S2 → shp S S2 → Q S2) : is S 6 0 ∧ P6 S (fun x S1 => is S1 7 (49 + 14 * n) ∧ P7 S1 (fun x' S2 => (x = x' → Q S2) ∧ (¬ x = x' → False))) := by
  obtain ⟨r, S1, S2, h6, h7, I, s1, s2⟩ := h
  have hZ1 : is S1 7 (49 + 14 * n) := by
    show 49 + 14 * n < S1.1 ∧ hk S1 (49 + 14 * n) = 7
    rw [s1.1, s1.2.1]
    exact hZ
  exact ⟨hO, h6 _ ⟨hZ1, h7 _ ⟨fun _ => hq S2 I s2, fun z => absurd rfl z⟩⟩⟩
theorem w_told {v : Int32} {w : Int64} (I : Inv n S) : Jo n (PX6_told 0 v w) (PX7_told (49 + 14 * n) v w) S := by
  obtain ⟨A, R, T, X, C, M, hA, hT⟩ := I
  rw [(cJ_of w).1]
  exact op_told C M hA hT (cJ_of w).2
theorem w_buffer {v : Int32} {w : Int64} (I : Inv n S) : Jo n (PX6_buffer 0 v w) (PX7_buffer (49 + 14 * n) v w) S := by
  obtain ⟨A, R, T, X, C, M, hA, hT⟩ := I
  rw [(cJ_of w).1]
  exact op_buffer C M hA hT (cJ_of w).2
theorem w_speed {v : Int32} {w : Int64} (I : Inv n S) : Jo n (PX6_speed 0 v w) (PX7_speed (49 + 14 * n) v w) S := by
  obtain ⟨A, R, T, X, C, M, hA, hT⟩ := I
  rw [(cJ_of w).1]
  exact op_speed C M hA hT (cJ_of w).2
theorem w_maybe {v w : Int32} (I : Inv n S) : Jo n (PX6_maybe 0 v w) (PX7_maybe (49 + 14 * n) v w) S := by
  obtain ⟨A, R, T, X, C, M, hA, hT⟩ := I
  rw [(cI_of w).1]
  exact op_maybe C M hA hT (cI_of w).2
theorem w_bars {v w f t : Int32} (I : Inv n S) : Jo n (PX6_bars 0 v w f t) (PX7_bars (49 + 14 * n) v w f t) S := by
  obtain ⟨A, R, T, X, C, M, hA, hT⟩ := I
  rw [(cI_of f).1, (cI_of t).1]
  exact op_bars (cI_of f).2 (cI_of t).2 C M hA hT
theorem w_place {v : Int32} {s x y : Int64} (I : Inv n S) : Jo n (PX6_place 0 v s x y) (PX7_place (49 + 14 * n) v s x y) S := by
  obtain ⟨A, R, T, X, C, M, hA, hT⟩ := I
  rw [(cJ_of s).1, (cJ_of x).1, (cJ_of y).1]
  exact op_place C M hA hT (cJ_of s).2 (cJ_of x).2 (cJ_of y).2
theorem w_cell {x y : Int32} {d : Int64} (I : Inv n S) : Jo n (PX6_cell 0 x y d) (PX7_cell (49 + 14 * n) x y d) S := by
  obtain ⟨A, R, T, X, C, M, hA, hT⟩ := I
  rw [(cI_of x).1, (cI_of y).1, (cJ_of d).1]
  exact op_cell C M hA hT (cI_of x).2 (cI_of y).2 (cJ_of d).2
theorem w_report {x y d : Int64} {s : Int32} (I : Inv n S) : Jo n (PX6_report 0 x y d s) (PX7_report (49 + 14 * n) x y d s) S := by
  obtain ⟨A, R, T, X, C, M, hA, hT⟩ := I
  rw [(cJ_of x).1, (cJ_of y).1, (cJ_of d).1, (cI_of s).1]
  exact op_report C M hA hT (cJ_of x).2 (cJ_of y).2 (cJ_of d).2 (cI_of s).2
theorem w_overlap {v w : Int32} (I : Inv n S) : Jo n (PX6_overlap 0 v w) (PX7_overlap (49 + 14 * n) v w) S := by
  obtain ⟨A, R, T, X, C, M, hA, hT⟩ := I
  exact op_overlap C M hA hT
theorem w_side {v : Int32} (I : Inv n S) : Jo n (PX6_side 0 v) (PX7_side (49 + 14 * n) v) S := by
  obtain ⟨A, R, T, X, C, M, hA, hT⟩ := I
  exact op_side C M hA hT
theorem w_entry {v w : Int32} (I : Inv n S) : Jo n (PX6_entry 0 v w) (PX7_entry (49 + 14 * n) v w) S := by
  obtain ⟨A, R, T, X, C, M, hA, hT⟩ := I
  exact op_entry C M hA hT
theorem w_hole {v : Int32} (I : Inv n S) : Jo n (PX6_hole 0 v) (PX7_hole (49 + 14 * n) v) S := by
  obtain ⟨A, R, T, X, C, M, hA, hT⟩ := I
  exact op_hole C M hA hT
theorem w_ring {v : Int32} (I : Inv n S) : Jo n (PX6_ring 0 v) (PX7_ring (49 + 14 * n) v) S := by
  obtain ⟨A, R, T, X, C, M, hA, hT⟩ := I
  exact op_ring C M hA hT
theorem w_track (I : Inv n S) : Jo n (PX6_track 0) (PX7_track (49 + 14 * n)) S := by
  obtain ⟨A, R, T, X, C, M, hA, hT⟩ := I
  exact op_track C M hA hT
theorem w_run {v w : Int32} (I : Inv n S) : Jo n (PX6_run 0 v w) (PX7_run (49 + 14 * n) v w) S := by
  obtain ⟨A, R, T, X, C, M, hA, hT⟩ := I
  exact op_run C M hA hT
theorem w_inside {v w z : Int32} (I : Inv n S) : Jo n (PX6_inside 0 v w z) (PX7_inside (49 + 14 * n) v w z) S := by
  obtain ⟨A, R, T, X, C, M, hA, hT⟩ := I
  exact op_inside C M hA hT
theorem w_corner {v : Int32} {x y : Int64} (I : Inv n S) (ho : is S 9 (70 + 14 * n) ∧ hz S (70 + 14 * n) = 1) : ∃ (k : Int32) (b : Bool) (S1 S2 : hs), (∀ Post, Post k S1 → PL_corner 0 v x y (70 + 14 * n) S Post) ∧ (∀ Post, Post (zb b) S2 → PX7_corner (49 + 14 * n) v x y S1 Post) ∧ Inv n S2 ∧ (hi S2 (49 + 14 * n) 0 = k ∧ (k = 0 → hj S2 (70 + 14 * n) 0 = (if b = true then 1 else 0))) ∧ shp S S1 ∧ shp S S2 := by
  obtain ⟨A, R, T, X, C, M, hA, hT⟩ := I
  have := op_corner (v := v) C M hA hT ho (cJ_of x).2 (cJ_of y).2
  unfold Jc at this
  rw [← (cJ_of x).1, ← (cJ_of y).1] at this
  exact this
theorem Inv.o (I : Inv n S) : is S 6 0 ∧ is S 7 (49 + 14 * n) := by
  obtain ⟨A, R, T, X, C, M, hA, hT⟩ := I
  exact ⟨C.1.o, M.1.1.1⟩
set_option maxHeartbeats 4000000 in
theorem law_loop {L : Nat} {xs : Nat → Int32} (hL : L ≤ 4097) : ∀ (fuel t : Nat) (S : hs), fuel + t = 600 → t ≤ 512 → Inv n S → (is S 9 (70 + 14 * n) ∧ hz S (70 + 14 * n) = 1) → PL_law_33 L xs fuel 0 (49 + 14 * n) (70 + 14 * n) (nI (1 + 8 * t)) S := by
  intro fuel
  induction fuel with
  | zero => intro t S h1 h2; omega
  | succ fuel ih =>
    intro t S h1 h2 I ho
    have lc : (nI L - 8 < nI (1 + 8 * t)) = ((L : Int) - 8 < 1 + 8 * t) := by
      rw [nI_c, nI_c, show (8 : Int32) = cI 8 from rfl, cI_sub, cI_lt ⟨by omega, by omega⟩ ⟨by omega, by omega⟩]
      apply propext
      omega
    simp only [PL_law_33, lc]
    refine ⟨fun _ => trivial, fun hlt => ?_⟩
    have hb : 1 + 8 * t + 8 ≤ L := by omega
    have hL2 : L < 2 ^ 31 := by omega
    have v0 : vp_in (nI (1 + 8 * t)) L := vp_in_nI (by omega) hL2
    have v1 : vp_in (nI (1 + 8 * t) + 1) L := by rw [nI_1]; exact vp_in_nI (by omega) hL2
    have v2 : vp_in (nI (1 + 8 * t) + 2) L := by rw [show (2 : Int32) = nI 2 from rfl, nI_addk]; exact vp_in_nI (by omega) hL2
    have v3 : vp_in (nI (1 + 8 * t) + 3) L := by rw [show (3 : Int32) = nI 3 from rfl, nI_addk]; exact vp_in_nI (by omega) hL2
    have v4 : vp_in (nI (1 + 8 * t) + 4) L := by rw [show (4 : Int32) = nI 4 from rfl, nI_addk]; exact vp_in_nI (by omega) hL2
    have v5 : vp_in (nI (1 + 8 * t) + 5) L := by rw [show (5 : Int32) = nI 5 from rfl, nI_addk]; exact vp_in_nI (by omega) hL2
    have v6 : vp_in (nI (1 + 8 * t) + 6) L := by rw [show (6 : Int32) = nI 6 from rfl, nI_addk]; exact vp_in_nI (by omega) hL2
    have v7 : vp_in (nI (1 + 8 * t) + 7) L := by rw [show (7 : Int32) = nI 7 from rfl, nI_addk]; exact vp_in_nI (by omega) hL2
    obtain ⟨hO, hZ⟩ := I.o
    have K : ∀ S2, Inv n S2 → shp S S2 → PL_law_1241 L xs (PL_law_33 L xs fuel) 0 (49 + 14 * n) (70 + 14 * n) (nI (1 + 8 * t)) S2 := by
      intro S2 I2 s
      unfold PL_law_1241
      rintro _ rfl
      rw [show (8 : Int32) = nI 8 from rfl, nI_addk, show 1 + 8 * t + 8 = 1 + 8 * (t + 1) by omega]
      refine ih (t + 1) S2 (by omega) (by omega) I2 ⟨?_, by rw [s.2.2]; exact ho.2⟩
      show 70 + 14 * n < S2.1 ∧ hk S2 (70 + 14 * n) = 9
      rw [s.1, s.2.1]
      exact ho.1
    have K0 : PL_law_1241 L xs (PL_law_33 L xs fuel) 0 (49 + 14 * n) (70 + 14 * n) (nI (1 + 8 * t)) S := K S I ⟨rfl, rfl, rfl⟩
    refine ⟨v0, fun _ => ?_, fun _ => ?_, fun _ => ?_, fun _ => ?_, fun _ => ?_, fun _ => ?_, fun _ => ?_, fun _ => ?_, fun _ => ?_, fun _ => ?_, fun _ => ?_, fun _ => ?_, fun _ => ?_, fun _ => ?_, fun _ => ?_, fun _ => ?_, fun _ => ?_, fun _ => K0⟩
    · refine ⟨v1, v2, v3, v4, v5, ?_⟩
      obtain ⟨k, b, S1, S2, h6, h7, I2, ⟨hk0, hb0⟩, s1, s2⟩ := w_corner (v := xs (Int32.toNatClampNeg (nI (1 + 8 * t) + 1))) (x := ((Int32.toInt64 (xs (Int32.toNatClampNeg (nI (1 + 8 * t) + 2)))) <<< (Int32.toInt64 32 &&& 63)) ||| ((Int32.toInt64 (xs (Int32.toNatClampNeg (nI (1 + 8 * t) + 3)))) &&& 4294967295)) (y := ((Int32.toInt64 (xs (Int32.toNatClampNeg (nI (1 + 8 * t) + 4)))) <<< (Int32.toInt64 32 &&& 63)) ||| ((Int32.toInt64 (xs (Int32.toNatClampNeg (nI (1 + 8 * t) + 5)))) &&& 4294967295)) I ho
      have hZ1 : is S1 7 (49 + 14 * n) := by
        show 49 + 14 * n < S1.1 ∧ hk S1 (49 + 14 * n) = 7
        rw [s1.1, s1.2.1]
        exact hZ
      have hZ2 := I2.o.2
      have ix0 : ix S2 9 (70 + 14 * n) 0 := ix_n (n := 1) (i := 0) (by
        show 70 + 14 * n < S2.1 ∧ hk S2 (70 + 14 * n) = 9
        rw [s2.1, s2.2.1]
        exact ho.1) (by rw [s2.2.2]; exact ho.2) (by omega) (by omega)
      have c0 : Int32.toNatClampNeg 0 = 0 := rfl
      refine h6 _ ⟨v1, v2, v3, v4, v5, hZ1, h7 _ ⟨hZ2, ?_⟩⟩
      unfold PX7_thrown
      refine ⟨hZ2, fun _ => ⟨fun kz => ⟨ix0, ?_, ?_⟩, fun _ => K S2 I2 s2⟩, fun z => absurd hk0 z⟩
      · intro hz0
        have hbf : b = false := (zb_0 b).mp hz0
        unfold PL_law_274
        rw [c0, hb0 kz, hbf]
        exact ⟨fun _ => K S2 I2 s2, fun z => absurd rfl z⟩
      · intro hz0
        have hbt : b = true := by
          cases b with
          | true => rfl
          | false => exact absurd rfl hz0
        unfold PL_law_274
        rw [c0, hb0 kz, hbt]
        exact ⟨fun _ => K S2 I2 s2, fun z => absurd rfl z⟩
    · simp only [PL_law_283, eq_true v1, true_and]
      exact Jo.go (w_ring I) hO hZ K
    · simp only [PL_law_308, eq_true v1, true_and]
      exact Jo.go (w_hole I) hO hZ K
    · simp only [PL_law_333, eq_true v1, eq_true v2, eq_true v3, eq_true v4, true_and]
      exact Jo.go (w_bars I) hO hZ K
    · simp only [PL_law_394, eq_true v1, eq_true v2, eq_true v3, true_and]
      exact Jo.go (w_speed I) hO hZ K
    · simp only [PL_law_463, eq_true v1, eq_true v2, eq_true v3, eq_true v4, eq_true v5, eq_true v6, eq_true v7, true_and]
      exact Jo.go (w_report I) hO hZ K
    · exact Jo.go (w_track I) hO hZ K
    · simp only [PL_law_637, eq_true v1, eq_true v2, eq_true v3, eq_true v4, eq_true v5, eq_true v6, eq_true v7, true_and]
      exact Jo.go (w_place I) hO hZ K
    · simp only [PL_law_798, eq_true v1, eq_true v2, true_and]
      exact Jo.go (w_run I) hO hZ K
    · simp only [PL_law_835, eq_true v1, eq_true v2, true_and]
      exact Jo.go (w_entry I) hO hZ K
    · simp only [PL_law_873, eq_true v1, true_and]
      exact Jo.go (w_side I) hO hZ K
    · simp only [PL_law_898, eq_true v1, eq_true v2, eq_true v3, true_and]
      exact Jo.go (w_inside I) hO hZ K
    · simp only [PL_law_948, eq_true v1, eq_true v2, true_and]
      exact Jo.go (w_maybe I) hO hZ K
    · simp only [PL_law_985, eq_true v1, eq_true v2, eq_true v3, true_and]
      exact Jo.go (w_buffer I) hO hZ K
    · simp only [PL_law_1054, eq_true v1, eq_true v2, eq_true v3, true_and]
      exact Jo.go (w_told I) hO hZ K
    · simp only [PL_law_1123, eq_true v1, eq_true v2, true_and]
      exact Jo.go (w_overlap I) hO hZ K
    · simp only [PL_law_1160, eq_true v1, eq_true v2, eq_true v3, eq_true v4, true_and]
      exact Jo.go (w_cell I) hO hZ K
end
