/-! both objects at their beginning; the law -/
section
variable {S S' : hs} {p : Nat → Nat → Prop} {n : Nat}
theorem is_n_at {k z a : Nat} (h : S.1 = a) : is (nw S k z) k a := by rw [← h]; exact is_n
theorem hz_n_at {k z a : Nat} (h : S.1 = a) : hz (nw S k z) a = z := by rw [← h]; exact hz_n
/-- the class's first state -/
theorem CS.ey (C : CS S n A0 R0 T0 E0) (g : ey S S' p) (hp : ∀ b j, b < 49 + 14 * n → p b j) : CS S' n A0 R0 T0 E0 := by
  obtain ⟨⟨⟨a1, a2, a3, a4, a5⟩, a6⟩, ⟨u1, u2⟩, ⟨⟨v1, v2, v3, v4, v5⟩, v6⟩, ⟨w1, w2⟩, l, l', ⟨x1, x2, x3⟩, ⟨y1, ⟨y2, y3⟩, y4⟩, z1⟩ := C
  have h0 : ∀ j, p 0 j := fun j => hp _ _ (by omega)
  have n12 := a5
  refine ⟨⟨⟨g.o a1, g.r a1 (h0 _) a2, g.o a3, g.zz a3 a4, a5⟩, CA.ey a6 a3 g (fun k hk => hp _ _ (by omega)) (fun b j h1 h2 => hp _ _ (by omega))⟩, ⟨g.r a1 (h0 _) u1, u2.ey g (fun b j h1 h2 => hp _ _ (by omega))⟩, ⟨⟨g.r a1 (h0 _) v1, g.o v2, g.zz v2 v3, g.i a1 (h0 _) v4, v5⟩, fun t ht => ⟨g.r v2 (hp _ _ (by omega)) (v6 t ht).1, ?_⟩⟩, ⟨g.r a1 (h0 _) w1, w2.ey g (fun j => hp _ _ (by omega))⟩, l, l', ⟨x1, g.r a1 (h0 _) x2, g.r a1 (h0 _) x3⟩, ⟨y1.ey g (fun j => hp _ _ (by omega)), ⟨g.i y1.1 (hp _ _ (by omega)) y2, y3⟩, fun k hk => absurd hk (Nat.not_lt_zero k)⟩, z1.ey g (fun j => hp _ _ (by omega))⟩
  have w : TrC S (8 + 14 * n + 4 * t) 0 (T0.2.2 t) := (v6 t ht).2
  have w' : TrC S' (8 + 14 * n + 4 * t) 0 (T0.2.2 t) := w.ey g (fun b j h1 h2 => hp _ _ (by omega))
  exact w'
theorem i_end (h1 : 1 ≤ n ∧ n ≤ 12) (Q : QT S n 6) : ∃ S', (∀ Post : hs → Prop, Post S' → ∃ w, PX6_init_73 Post 1 w 0 (nI 6) S) ∧ CS S' n A0 R0 T0 E0 ∧ (S'.1 = 49 + 14 * n ∧ wfS S' ∧ zS S') := by
  obtain ⟨⟨q1, q2, q3⟩, ⟨a1, a2, a3, a4⟩, q6, ⟨u1, u2⟩, ⟨v1, v2, v3⟩, q7⟩ := Q
  have za : zS (sI S 0 3 0) := fun b j hb => by
    refine ⟨?_, (q3 b j hb).2⟩
    show up2 (hi S) 0 3 0 b j = 0
    have hb' : S.1 ≤ b := hb
    rw [up2_ne _ _ (Or.inl (by omega))]
    exact (q3 b j hb').1
  obtain ⟨S1, p1, p2⟩ := i_cut (S := sI S 0 3 0) q2 za
  have s1 : S1.1 = S.1 + 5 := p2.1.1
  have e1 : ey (sI S 0 3 0) S1 (fun b _ => b < S.1) := p2.2.2.2.1
  have z1 := p2.cut
  obtain ⟨S2, p3, p4⟩ := i_cross (S := sR S1 0 4 (some S.1)) (wf_R p2.1.2.2.1 (by omega)) p2.zs
  have s2 : S2.1 = S1.1 + 6 := p4.1.1
  have e2 : ey (sR S1 0 4 (some S.1)) S2 (fun b _ => b < S1.1) := p4.2.2.2.1
  have z2 := p4.cross
  obtain ⟨S3, p5, p6⟩ := i_cross (S := sR S2 0 5 (some S1.1)) (wf_R p4.1.2.2.1 (by omega)) p4.zs
  have s3 : S3.1 = S2.1 + 6 := p6.1.1
  have e3 : ey (sR S2 0 5 (some S1.1)) S3 (fun b _ => b < S2.1) := p6.2.2.2.1
  have z3 := p6.cross
  -- from each state to the last
  have f3 : ey S3 (sR S3 0 6 (some S2.1)) (fun b j => b ≠ 0 ∨ j ≠ 6) := ey.rf.R (fun h => by omega)
  have f2 : ey S2 (sR S3 0 6 (some S2.1)) (fun b j => b < S2.1 ∧ (b ≠ 0 ∨ (j ≠ 5 ∧ j ≠ 6))) := ((ey.rf.R (fun h => by omega)).tr (e3.mono (fun b j h => h.1))).R (fun h => by omega)
  have f1 : ey S1 (sR S3 0 6 (some S2.1)) (fun b j => b < S1.1 ∧ (b ≠ 0 ∨ (j ≠ 4 ∧ j ≠ 5 ∧ j ≠ 6))) := ((ey.rf.R (fun h => by omega)).tr (e2.mono (fun b j h => h.1))).tr (f2.mono (fun b j h => ⟨by omega, by omega⟩))
  have f0 : ey S (sR S3 0 6 (some S2.1)) (fun b j => b < S.1 ∧ (b ≠ 0 ∨ j < 3)) := ((ey.rf.I (fun h => by omega)).tr (e1.mono (fun b j h => h.1))).tr (f1.mono (fun b j h => ⟨by omega, by omega⟩))
  have o1 : is S1 6 0 := e1.o a1
  have o2 : is S2 6 0 := e2.o o1
  have o3 : is S3 6 0 := e3.o o2
  have r4 : hr S2 0 4 = some S.1 := by
    refine e2.r o1 (show 0 < S1.1 by omega) ?_
    show up2 (hr S1) 0 4 (some S.1) 0 4 = some S.1
    rw [up2_same]
  have r5 : hr S3 0 5 = some S1.1 := by
    refine e3.r o2 (show 0 < S2.1 by omega) ?_
    show up2 (hr S2) 0 5 (some S1.1) 0 5 = some S1.1
    rw [up2_same]
  have i3 : hi S1 0 3 = 0 := by
    refine e1.i a1 (show 0 < S.1 by omega) ?_
    show up2 (hi S) 0 3 0 0 3 = 0
    rw [up2_same]
  have zc : CZ S1 (32 + 14 * n) := by
    have := z1
    rw [show (sI S 0 3 0).1 = 32 + 14 * n by show S.1 = _; omega] at this
    exact this
  have zd : CO S2 (37 + 14 * n) ∧ hi S2 (37 + 14 * n) 5 = nI 0 := by
    have := z2
    rw [show (sR S1 0 4 (some S.1)).1 = 37 + 14 * n by show S1.1 = _; omega] at this
    exact this
  have ze : CO S3 (43 + 14 * n) := by
    have := z3.1
    rw [show (sR S2 0 5 (some S1.1)).1 = 43 + 14 * n by show S2.1 = _; omega] at this
    exact this
  refine ⟨sR S3 0 6 (some S2.1), fun Post h => ⟨1, ?_⟩, ?_, ⟨by show S3.1 = _; omega, wf_R p6.1.2.2.1 (by omega), p6.zs⟩⟩
  · have c0 : nI 6 ≤ nI 6 := nI_le (Nat.le_refl _) (by omega)
    unfold PX6_init_73
    refine ⟨a1, 7 + 14 * n, v1, v2, fun _ => ⟨a1, ?_⟩, fun z => absurd (by rw [v3]; exact c0) z⟩
    rintro _ rfl
    refine ⟨⟨by show 1 ≤ S.1; omega, by show S.1 - 1 + 1 ≤ 216; omega, by decide⟩, q2, by show 0 < S.1; omega, ?_⟩
    rintro _ rfl
    refine ⟨⟨by show 1 ≤ S.1 + 1; omega, by show S.1 + 1 - 1 + 4 ≤ 216; omega, by decide⟩, by show 0 < S.1 + 1; omega, by show S.1 < S.1 + 1; omega, p1 _ ⟨s1, o1, ?_⟩⟩
    rintro _ rfl
    refine ⟨⟨by show 1 ≤ S1.1; omega, by show S1.1 - 1 + 1 ≤ 216; omega, by decide⟩, wf_R p2.1.2.2.1 (by show S.1 < S1.1; omega), by show 0 < S1.1; omega, ?_⟩
    rintro _ rfl
    refine ⟨⟨by show 1 ≤ S1.1 + 1; omega, by show S1.1 + 1 - 1 + 5 ≤ 216; omega, by decide⟩, by show 0 < S1.1 + 1; omega, by show S1.1 < S1.1 + 1; omega, p3 _ ⟨s2, o2, ?_⟩⟩
    rintro _ rfl
    refine ⟨⟨by show 1 ≤ S2.1; omega, by show S2.1 - 1 + 1 ≤ 216; omega, by decide⟩, wf_R p4.1.2.2.1 (by show S1.1 < S2.1; omega), by show 0 < S2.1; omega, ?_⟩
    rintro _ rfl
    refine ⟨⟨by show 1 ≤ S2.1 + 1; omega, by show S2.1 + 1 - 1 + 5 ≤ 216; omega, by decide⟩, by show 0 < S2.1 + 1; omega, by show S2.1 < S2.1 + 1; omega, p5 _ ⟨s3, o3, ?_⟩⟩
    rintro _ rfl
    exact ⟨⟨by show 1 ≤ S3.1; omega, by show S3.1 - 1 ≤ 216; omega, by decide⟩, h⟩
  · have a0 : is S 6 0 := a1
    refine ⟨⟨⟨f0.o a1, f0.r a1 ⟨by omega, by omega⟩ a2, f0.o a3, f0.zz a3 a4, h1⟩, CA.ey q6 a3 f0 (fun k hk => ⟨by omega, by omega⟩) (fun b j h1 h2 => ⟨by omega, by omega⟩)⟩, ⟨f0.r a1 ⟨by omega, by omega⟩ u1, u2.ey f0 (fun b j h1 h2 => ⟨by omega, by omega⟩)⟩, ⟨⟨f0.r a1 ⟨by omega, by omega⟩ v1, f0.o v2, f0.zz v2 v3, f1.i o1 ⟨by omega, by omega⟩ i3, by show 0 ≤ 6; omega⟩, fun t ht => ⟨f0.r v2 ⟨by omega, by omega⟩ (q7 t ht).1, ?_⟩⟩, ⟨?_, zc.ey f1 (fun j => ⟨by omega, by omega⟩)⟩, 37 + 14 * n, 43 + 14 * n, ⟨Or.inl ⟨rfl, rfl⟩, ?_, ?_⟩, ⟨zd.1.ey f2 (fun j => ⟨by omega, by omega⟩), ⟨f2.i zd.1.1 ⟨by omega, by omega⟩ zd.2, by show 0 ≤ 300; omega⟩, fun k hk => absurd hk (Nat.not_lt_zero k)⟩, ze.ey f3 (fun j => by omega)⟩
    · have w' : TrC (sR S3 0 6 (some S2.1)) (8 + 14 * n + 4 * t) 0 (T0.2.2 t) := (q7 t ht).2.ey f0 (fun b j h1 h2 => ⟨by omega, by omega⟩)
      exact w'
    · rw [f2.r o2 ⟨by omega, by omega⟩ r4]
      congr 1
      omega
    · rw [f3.r o3 (by omega) r5]
      congr 1
      omega
    · show up2 (hr S3) 0 6 (some S2.1) 0 6 = _
      rw [up2_same]
      congr 1
      omega
/-- how many areas -/
def nc (v : Int32) : Nat := if v.toInt < 1 then 1 else if 12 < v.toInt then 12 else v.toInt.toNat
theorem nc_b (v : Int32) : 1 ≤ nc v ∧ nc v ≤ 12 := by
  unfold nc
  split
  · omega
  · split
    · omega
    · omega
theorem i_class (v : Int32) : ∃ S', (∀ Post : hs → Prop, Post S' → PX6_init 0 v 1 (nw S00 6 0) Post) ∧ CS S' (nc v) A0 R0 T0 E0 ∧ (S'.1 = 49 + 14 * nc v ∧ wfS S' ∧ zS S') := by
  have hb := nc_b v
  have wf0 : wfS S00 := fun a j r h => by cases h
  have z0 : zS S00 := fun b j _ => ⟨rfl, rfl⟩
  have g0 := Gm.new (k0 := 6) wf0 z0
  have g1 := g0.st (p := 0) (k := 11) (z := nc v) (fun t ht => by (cases ht))
  have t1 := g1.2.1 (0, 1, 11, nc v) (by simp)
  have Q0 : QC (sR (nw (nw S00 6 0) 11 (nc v)) 0 0 (some 1)) (nc v) 0 := ⟨⟨rfl, g1.1.2.2.1, g1.zs⟩, ⟨g1.1.2.2.2, t1.1, t1.2.1, t1.2.2⟩, fun k hk => absurd hk (Nat.not_lt_zero k)⟩
  obtain ⟨S1, Q1, h1⟩ := i_areas hb.2 (nc v) 0 _ (by omega) Q0
  obtain ⟨⟨q1, q2, q3⟩, ⟨a1, a2, a3, a4⟩, q6⟩ := Q1
  generalize hnn : nc v = n at *
  obtain ⟨S2, p1, p2⟩ := i_rules q2 q3
  have s2 : S2.1 = S1.1 + 5 := p2.1.1
  have e1 : ey S1 S2 (fun b _ => b < S1.1) := p2.2.2.2.1
  have o2 : is S2 6 0 := e1.o a1
  have wfa : wfS (sR S2 0 1 (some S1.1)) := wf_R p2.1.2.2.1 (by omega)
  have wfb : wfS (sR (nw (sR S2 0 1 (some S1.1)) 13 6) 0 2 (some S2.1)) := wf_R (wf_n wfa) (by show S2.1 < S2.1 + 1; omega)
  have f1 : ey S1 (sR (nw (sR S2 0 1 (some S1.1)) 13 6) 0 2 (some S2.1)) (fun b j => b < S1.1 ∧ (b ≠ 0 ∨ j = 0)) := (((e1.mono (fun b j h => h.1)).R (fun h => by omega)).tr ey.n).R (fun h => by omega)
  have f2 : ey S2 (sR (nw (sR S2 0 1 (some S1.1)) 13 6) 0 2 (some S2.1)) (fun b j => b ≠ 0) := ((ey.rf.R (fun h => by omega)).tr ey.n).R (fun h => by omega)
  have f3 : ey (sR S2 0 1 (some S1.1)) (sR (nw (sR S2 0 1 (some S1.1)) 13 6) 0 2 (some S2.1)) (fun b j => b ≠ 0 ∨ j ≠ 2) := ey.n.R (fun h => by omega)
  have ru := p2.rules
  have QT0 : QT (sR (nw (sR S2 0 1 (some S1.1)) 13 6) 0 2 (some S2.1)) n 0 := by
    refine ⟨⟨by show S2.1 + 1 = _; omega, wfb, fun b j hb' => ?_⟩, ⟨f1.o a1, f1.r a1 ⟨by omega, Or.inr rfl⟩ a2, f1.o a3, f1.zz a3 a4⟩, CA.ey q6 a3 f1 (fun k hk => ⟨by omega, by omega⟩) (fun b j h1 h2 => ⟨by omega, by omega⟩), ⟨?_, ?_⟩, ⟨?_, ?_, ?_⟩, fun k hk => absurd hk (Nat.not_lt_zero k)⟩
    · have hb2 : S2.1 + 1 ≤ b := hb'
      have := hi_n0 (S := sR S2 0 1 (some S1.1)) (Z := S2.1) (k := 13) (z := 6) (b := b) (j := j) (fun b j h => p2.zs b j h) (by omega)
      exact this
    · refine (f3.r (k := 6) o2 (by omega) (v := some S1.1) ?_).trans ?_
      · show up2 (hr S2) 0 1 (some S1.1) 0 1 = some S1.1
        rw [up2_same]
      · congr 1
    · have ru' : RuC S2 (2 + 14 * n) R0.1 R0.2 := by rw [← q1]; exact ru
      exact RuC.ey (G := R0.2) ru' f2 (fun b j h1 h2 => by omega)
    · show up2 (hr (nw (sR S2 0 1 (some S1.1)) 13 6)) 0 2 (some S2.1) 0 2 = _
      rw [up2_same]
      congr 1
      omega
    · show is (nw (sR S2 0 1 (some S1.1)) 13 6) 13 (7 + 14 * n)
      exact is_n_at (by show S2.1 = _; omega)
    · exact hz_n_at (k := 13) (by show S2.1 = _; omega)
  obtain ⟨S3, Q3, h3⟩ := i_tracks hb.2 6 0 _ (by omega) QT0
  obtain ⟨S4, h4, c4, d4⟩ := i_end hb Q3
  refine ⟨S4, fun Post h => ?_, c4, d4⟩
  have hh := h3 Post (h4 Post h)
  have u12 : (if (1 : Int32) < (if v < 12 then v else 12) then (if v < 12 then v else 12) else 1) = nI n := by
    obtain ⟨ev, bv⟩ := cI_of v
    rw [← hnn]
    unfold nc
    generalize v.toInt = c at ev bv
    subst ev
    have e12 : (cI c < (12 : Int32)) = (c < 12) := by rw [show (12 : Int32) = cI 12 from rfl]; exact propext (cI_lt bv ⟨by omega, by omega⟩)
    have e1 : ((1 : Int32) < cI c) = (1 < c) := by rw [i1]; exact propext (cI_lt ⟨by omega, by omega⟩ bv)
    have e2 : (1 : Int32) < 12 := by decide
    simp only [e12]
    by_cases x1 : c < 12
    · simp only [x1, if_true, e1]
      by_cases x2 : 1 < c
      · rw [if_pos x2, if_neg (by omega), if_neg (by omega), nI_c]
        congr 1
        omega
      · rw [if_neg x2]
        by_cases x3 : c < 1
        · rw [if_pos x3]; rfl
        · rw [if_neg x3, if_neg (by omega), show c = 1 by omega]; rfl
    · simp only [x1, if_false, e2, if_true]
      rw [if_neg (by omega)]
      by_cases x3 : 12 < c
      · rw [if_pos x3]; rfl
      · rw [if_neg x3, show c = 12 by omega]; rfl
  have kn : (nI n).toNatClampNeg = n := nI_clamp (by omega)
  unfold PX6_init
  refine ⟨by decide, ?_⟩
  rintro _ rfl
  refine ⟨by decide, ?_⟩
  rintro _ rfl
  rw [u12, kn]
  refine ⟨⟨by decide, by decide, by decide⟩, g0.1.2.2.1, by decide, ⟨nI_pos (by omega), by omega⟩, ?_⟩
  rintro _ rfl
  refine ⟨ey.n.o (p := fun _ _ => True) g0.1.2.2.2, ?_⟩
  rintro _ rfl
  rw [← nI_0]
  refine h1 Post ?_
  obtain ⟨w, hw⟩ := hh
  refine ⟨1, ?_⟩
  have c0 : nI n ≤ nI n := nI_le (Nat.le_refl _) (by omega)
  unfold PX6_init_23
  refine ⟨a1, 1, a2, a3, fun _ => ⟨⟨by omega, by show S1.1 - 1 + 1 ≤ 216; omega, by decide⟩, q2, by omega, ?_⟩, fun z => absurd (by rw [a4]; exact c0) z⟩
  rintro _ rfl
  refine ⟨⟨by show 1 ≤ S1.1 + 1; omega, by show S1.1 + 1 - 1 + 4 ≤ 216; omega, by decide⟩, by show 0 < S1.1 + 1; omega, by show S1.1 < S1.1 + 1; omega, p1 _ ⟨s2, o2, ?_⟩⟩
  rintro _ rfl
  refine ⟨⟨by show 1 ≤ S2.1; omega, by show S2.1 - 1 + 1 ≤ 216; omega, by decide⟩, wfa, by show 0 < S2.1; omega, ?_⟩
  rintro _ rfl
  refine ⟨ey.n.o (p := fun _ _ => True) o2, ?_⟩
  rintro _ rfl
  rw [← nI_0]
  exact ⟨w, hw⟩
end
