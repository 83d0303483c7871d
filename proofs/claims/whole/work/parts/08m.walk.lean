set_option maxRecDepth 100000 in
set_option maxHeartbeats 4000000 in
theorem xX7_runPiece_111 {E : en} {ad : Nat → Nat} {Post : hs → Prop} (hQ : isQ E ad (pV Post)) {K43 : Nat → Int32 → Int32 → Int32 → Int32 → hs → Prop} (hK43 : ∀ (v0 : Nat) (v2 : Int32) (v3 : Int32) (v6 : Int32) (v7 : Int32) (S : hs), K43 v0 v2 v3 v6 v7 S → X E mX7_runPiece 0 0 ad S 43 [(0, aA v0), (2, aI v2), (3, aI v3), (6, aI v6), (7, aI v7)] []) (v0 : Nat) (v2 : Int32) (v3 : Int32) (v6 : Int32) (v7 : Int32) (S : hs) (h : PX7_runPiece_111 Post K43 v0 v2 v3 v6 v7 S) : X E mX7_runPiece 0 0 ad S 111 [(0, aA v0), (2, aI v2), (3, aI v3), (6, aI v6), (7, aI v7)] [] := by
  unfold PX7_runPiece_111 at h
  obtain ⟨v7_111, hv7_111⟩ : ∃ y : Int32, y = v7 + 1 := ⟨_, rfl⟩
  replace h := h v7_111 hv7_111
  refine x_iinc (v := v7_111) dX7_runPiece_111 rfl (by rw [hv7_111]; rfl) (by decide) rfl ?_
  refine x_goto (tgt := 43) dX7_runPiece_114 (by decide) ?_
  refine x_lv (lv' := [(0, aA v0), (2, aI v2), (3, aI v3), (6, aI v6), (7, aI v7_111)]) ⟨rfl, rfl, rfl, rfl, rfl, trivial⟩ ?_
  exact hK43 _ _ _ _ _ _ h
set_option maxRecDepth 100000 in
set_option maxHeartbeats 4000000 in
theorem xX7_runPiece_81 {E : en} {ad : Nat → Nat} {Post : hs → Prop} (hQ : isQ E ad (pV Post)) {K43 : Nat → Int32 → Int32 → Int32 → Int32 → hs → Prop} (hK43 : ∀ (v0 : Nat) (v2 : Int32) (v3 : Int32) (v6 : Int32) (v7 : Int32) (S : hs), K43 v0 v2 v3 v6 v7 S → X E mX7_runPiece 0 0 ad S 43 [(0, aA v0), (2, aI v2), (3, aI v3), (6, aI v6), (7, aI v7)] []) (v0 : Nat) (v2 : Int32) (v3 : Int32) (v6 : Int32) (v7 : Int32) (S : hs) (h : PX7_runPiece_81 Post K43 v0 v2 v3 v6 v7 S) : X E mX7_runPiece 0 0 ad S 81 [(0, aA v0), (2, aI v2), (3, aI v3), (6, aI v6), (7, aI v7)] [] := by
  unfold PX7_runPiece_81 at h
  refine x_aload_n dX7_runPiece_81 rfl ?_
  obtain ⟨h1, r_82, hr_82, h⟩ := h
  refine x_g7_27 rfl dX7_runPiece_82 h1 (x_un hr_82 ?_)
  refine x_iload dX7_runPiece_85 rfl ?_
  refine x_iald dX7_runPiece_87 h.1 ?_
  replace h := h.2
  refine x_aload_n dX7_runPiece_88 rfl ?_
  refine x_g7_22 rfl dX7_runPiece_89 h.1 ?_
  replace h := h.2
  refine x_iconst (v := 1) dX7_runPiece_92 (by decide) ?_
  refine x_isub dX7_runPiece_93 ?_
  refine x_icmp_ge (tgt := 111) dX7_runPiece_94 (by decide) (fun c => ?_) (fun c => ?_)
  · replace h := h.1 c
    refine x_lv (lv' := [(0, aA v0), (2, aI v2), (3, aI v3), (6, aI v6), (7, aI v7)]) ⟨rfl, rfl, rfl, rfl, rfl, trivial⟩ ?_
    exact xX7_runPiece_111 hQ hK43 _ _ _ _ _ _ h
  · replace h := h.2 c
    refine x_aload_n dX7_runPiece_97 rfl ?_
    refine x_iload_n dX7_runPiece_98 rfl ?_
    refine x_aload_n dX7_runPiece_99 rfl ?_
    obtain ⟨h1, r_100, hr_100, h⟩ := h
    refine x_g7_27 rfl dX7_runPiece_100 h1 (x_un hr_100 ?_)
    refine x_iload dX7_runPiece_103 rfl ?_
    refine x_iald dX7_runPiece_105 h.1 ?_
    replace h := h.2
    refine x_iload_n dX7_runPiece_106 rfl ?_
    refine x_iconst (v := 0) dX7_runPiece_107 (by decide) ?_
    obtain ⟨h1, h⟩ := h
    refine x_callVV (As := [aI v2, aI (hi S r_100 (Int32.toNatClampNeg v7)), aI v3, aI 0]) (st := []) kX7_213 rfl ⟨rfl, rfl, by decide, by decide⟩ dX7_runPiece_108 rfl (Nat.le_of_ble_eq_true rfl) ⟨Nat.zero_le _, Nat.zero_le _⟩ h1 (ctX7_add h) (fun S_108 h => ?_)
    refine x_lv (lv' := [(0, aA v0), (2, aI v2), (3, aI v3), (6, aI v6), (7, aI v7)]) ⟨rfl, rfl, rfl, rfl, rfl, trivial⟩ ?_
    exact xX7_runPiece_111 hQ hK43 _ _ _ _ _ _ h
set_option maxRecDepth 100000 in
set_option maxHeartbeats 4000000 in
theorem xX7_runPiece_67 {E : en} {ad : Nat → Nat} {Post : hs → Prop} (hQ : isQ E ad (pV Post)) {K43 : Nat → Int32 → Int32 → Int32 → Int32 → hs → Prop} (hK43 : ∀ (v0 : Nat) (v2 : Int32) (v3 : Int32) (v6 : Int32) (v7 : Int32) (S : hs), K43 v0 v2 v3 v6 v7 S → X E mX7_runPiece 0 0 ad S 43 [(0, aA v0), (2, aI v2), (3, aI v3), (6, aI v6), (7, aI v7)] []) (v0 : Nat) (v2 : Int32) (v3 : Int32) (v6 : Int32) (v7 : Int32) (S : hs) (h : PX7_runPiece_67 Post K43 v0 v2 v3 v6 v7 S) : X E mX7_runPiece 0 0 ad S 67 [(0, aA v0), (2, aI v2), (3, aI v3), (6, aI v6), (7, aI v7)] [] := by
  unfold PX7_runPiece_67 at h
  refine x_aload_n dX7_runPiece_67 rfl ?_
  refine x_iload_n dX7_runPiece_68 rfl ?_
  refine x_aload_n dX7_runPiece_69 rfl ?_
  obtain ⟨h1, r_70, hr_70, h⟩ := h
  refine x_g7_26 rfl dX7_runPiece_70 h1 (x_un hr_70 ?_)
  refine x_iload dX7_runPiece_73 rfl ?_
  refine x_iald dX7_runPiece_75 h.1 ?_
  replace h := h.2
  refine x_iload_n dX7_runPiece_76 rfl ?_
  refine x_iconst (v := 1) dX7_runPiece_77 (by decide) ?_
  obtain ⟨h1, h⟩ := h
  refine x_callVV (As := [aI v2, aI (hi S r_70 (Int32.toNatClampNeg v7)), aI v3, aI 1]) (st := []) kX7_213 rfl ⟨rfl, rfl, by decide, by decide⟩ dX7_runPiece_78 rfl (Nat.le_of_ble_eq_true rfl) ⟨Nat.zero_le _, Nat.zero_le _⟩ h1 (ctX7_add h) (fun S_78 h => ?_)
  refine x_lv (lv' := [(0, aA v0), (2, aI v2), (3, aI v3), (6, aI v6), (7, aI v7)]) ⟨rfl, rfl, rfl, rfl, rfl, trivial⟩ ?_
  exact xX7_runPiece_81 hQ hK43 _ _ _ _ _ _ h
set_option maxRecDepth 100000 in
set_option maxHeartbeats 4000000 in
theorem xX7_runPiece_43 {E : en} {ad : Nat → Nat} {Post : hs → Prop} (hQ : isQ E ad (pV Post))   : ∀ (n : Nat) (v0 : Nat) (v2 : Int32) (v3 : Int32) (v6 : Int32) (v7 : Int32) (S : hs) (_ : PX7_runPiece_43 Post  n v0 v2 v3 v6 v7 S), X E mX7_runPiece 0 0 ad S 43 [(0, aA v0), (2, aI v2), (3, aI v3), (6, aI v6), (7, aI v7)] [] := by
  intro n
  induction n with
  | zero => intro v0 v2 v3 v6 v7 S h; exact h.elim
  | succ n ih =>
    intro v0 v2 v3 v6 v7 S h
    have hK43 := ih
    simp only [PX7_runPiece_43] at h
    refine x_iload dX7_runPiece_43 rfl ?_
    refine x_aload_n dX7_runPiece_45 rfl ?_
    refine x_g7_25 rfl dX7_runPiece_46 h.1 ?_
    replace h := h.2
    refine x_icmp_ge (tgt := 117) dX7_runPiece_49 (by decide) (fun c => ?_) (fun c => ?_)
    · replace h := h.1 c
      exact x_vret hQ rfl dX7_runPiece_117 ⟨rfl, h⟩
    · replace h := h.2 c
      refine x_aload_n dX7_runPiece_52 rfl ?_
      obtain ⟨h1, r_53, hr_53, h⟩ := h
      refine x_g7_26 rfl dX7_runPiece_53 h1 (x_un hr_53 ?_)
      refine x_iload dX7_runPiece_56 rfl ?_
      refine x_iald dX7_runPiece_58 h.1 ?_
      replace h := h.2
      refine x_if_gt (tgt := 67) dX7_runPiece_59 (by decide) (fun c => ?_) (fun c => ?_)
      · replace h := h.1 c
        refine x_lv (lv' := [(0, aA v0), (2, aI v2), (3, aI v3), (6, aI v6), (7, aI v7)]) ⟨rfl, rfl, rfl, rfl, rfl, trivial⟩ ?_
        exact xX7_runPiece_67 hQ hK43 _ _ _ _ _ _ h
      · replace h := h.2 c
        refine x_iload dX7_runPiece_62 rfl ?_
        refine x_if_ne (tgt := 81) dX7_runPiece_64 (by decide) (fun c => ?_) (fun c => ?_)
        · replace h := h.2 c
          refine x_lv (lv' := [(0, aA v0), (2, aI v2), (3, aI v3), (6, aI v6), (7, aI v7)]) ⟨rfl, rfl, rfl, rfl, rfl, trivial⟩ ?_
          exact xX7_runPiece_81 hQ hK43 _ _ _ _ _ _ h
        · replace h := h.1 c
          refine x_lv (lv' := [(0, aA v0), (2, aI v2), (3, aI v3), (6, aI v6), (7, aI v7)]) ⟨rfl, rfl, rfl, rfl, rfl, trivial⟩ ?_
          exact xX7_runPiece_67 hQ hK43 _ _ _ _ _ _ h
set_option maxRecDepth 100000 in
set_option maxHeartbeats 4000000 in
theorem xX7_runPiece_31 {E : en} {ad : Nat → Nat} {Post : hs → Prop} (hQ : isQ E ad (pV Post))   (v0 : Nat) (v2 : Int32) (v3 : Int32) (v5 : Int32) (s0 : Int32) (S : hs) (h : PX7_runPiece_31 Post  v0 v2 v3 v5 s0 S) : X E mX7_runPiece 0 0 ad S 31 [(0, aA v0), (2, aI v2), (3, aI v3), (5, aI v5)] [aI s0] := by
  unfold PX7_runPiece_31 at h
  refine x_istore dX7_runPiece_31 (by decide) rfl ?_
  refine x_aload_n dX7_runPiece_33 rfl ?_
  refine x_iload_n dX7_runPiece_34 rfl ?_
  refine x_iload dX7_runPiece_35 rfl ?_
  obtain ⟨h1, h⟩ := h
  refine x_callVV (As := [aI v3, aI v5]) (st := []) kX7_209 rfl ⟨rfl, rfl, by decide, by decide⟩ dX7_runPiece_37 rfl (Nat.le_of_ble_eq_true rfl) ⟨Nat.zero_le _, Nat.zero_le _⟩ h1 (ctX7_stretch h) (fun S_37 h => ?_)
  refine x_iconst (v := 0) dX7_runPiece_40 (by decide) ?_
  refine x_istore dX7_runPiece_41 (by decide) rfl ?_
  refine x_lv (lv' := [(0, aA v0), (2, aI v2), (3, aI v3), (6, aI s0), (7, aI 0)]) ⟨rfl, rfl, rfl, rfl, rfl, trivial⟩ ?_
  obtain ⟨n, h⟩ := h
  exact xX7_runPiece_43 hQ  n _ _ _ _ _ _ h
set_option maxRecDepth 100000 in
set_option maxHeartbeats 4000000 in
theorem xX7_runPiece_30 {E : en} {ad : Nat → Nat} {Post : hs → Prop} (hQ : isQ E ad (pV Post))   (v0 : Nat) (v2 : Int32) (v3 : Int32) (v5 : Int32) (S : hs) (h : PX7_runPiece_30 Post  v0 v2 v3 v5 S) : X E mX7_runPiece 0 0 ad S 30 [(0, aA v0), (2, aI v2), (3, aI v3), (5, aI v5)] [] := by
  unfold PX7_runPiece_30 at h
  refine x_iconst (v := 0) dX7_runPiece_30 (by decide) ?_
  refine x_lv (lv' := [(0, aA v0), (2, aI v2), (3, aI v3), (5, aI v5)]) ⟨rfl, rfl, rfl, rfl, trivial⟩ ?_
  exact xX7_runPiece_31 hQ  _ _ _ _ _ _ h
set_option maxRecDepth 100000 in
set_option maxHeartbeats 4000000 in
theorem ctX7_runPiece {G : Launch × va_G × (Nat → ClassId) × Nat} {v0 : Nat} {v1 : Int32} {v2 : Int32} {v3 : Int32} {v4 : Int32} {S : hs} {Post : hs → Prop} (h : PX7_runPiece v0 v1 v2 v3 v4 S Post) : ctN G mX7_runPiece [aA v0, aI v1, aI v2, aI v3, aI v4] S (pV Post) := by
  refine ctN.of (by decide) (Nat.le_of_ble_eq_true rfl) (fun E ad hG hQ => ?_)
  subst hG
  unfold PX7_runPiece at h
  refine x_bipush (v := 30) dX7_runPiece_0 (by decide) ?_
  refine x_iload_n dX7_runPiece_2 rfl ?_
  refine x_imul dX7_runPiece_3 ?_
  refine x_iload_n dX7_runPiece_4 rfl ?_
  refine x_iadd dX7_runPiece_5 ?_
  refine x_nI (fun v5_6 hv5_6 => ?_)
  replace h := h v5_6 hv5_6
  refine x_istore dX7_runPiece_6 (by decide) rfl ?_
  refine x_iload_n dX7_runPiece_8 rfl ?_
  refine x_if_le (tgt := 30) dX7_runPiece_9 (by decide) (fun c => ?_) (fun c => ?_)
  · replace h := h.1 c
    refine x_lv (lv' := [(0, aA v0), (2, aI v2), (3, aI v3), (5, aI v5_6)]) ⟨rfl, rfl, rfl, rfl, trivial⟩ ?_
    exact xX7_runPiece_30 hQ  _ _ _ _ _ h
  · replace h := h.2 c
    refine x_aload_n dX7_runPiece_12 rfl ?_
    refine x_iload dX7_runPiece_13 rfl ?_
    refine x_iconst (v := 1) dX7_runPiece_15 (by decide) ?_
    refine x_isub dX7_runPiece_16 ?_
    refine x_iload_n dX7_runPiece_17 rfl ?_
    refine x_iload dX7_runPiece_18 rfl ?_
    obtain ⟨h1, h⟩ := h
    refine x_callVI (As := [aI (v5_6 - 1), aI v3, aI v4]) (st := []) kX7_206 rfl ⟨rfl, rfl, by decide, by decide⟩ dX7_runPiece_20 rfl (Nat.le_of_ble_eq_true rfl) ⟨Nat.zero_le _, Nat.zero_le _⟩ h1 (ctX7_counts h) (fun x_20 S_20 h => ?_)
    refine x_if_eq (tgt := 30) dX7_runPiece_23 (by decide) (fun c => ?_) (fun c => ?_)
    · replace h := h.1 c
      refine x_lv (lv' := [(0, aA v0), (2, aI v2), (3, aI v3), (5, aI v5_6)]) ⟨rfl, rfl, rfl, rfl, trivial⟩ ?_
      exact xX7_runPiece_30 hQ  _ _ _ _ _ h
    · replace h := h.2 c
      refine x_iconst (v := 1) dX7_runPiece_26 (by decide) ?_
      refine x_goto (tgt := 31) dX7_runPiece_27 (by decide) ?_
      refine x_lv (lv' := [(0, aA v0), (2, aI v2), (3, aI v3), (5, aI v5_6)]) ⟨rfl, rfl, rfl, rfl, trivial⟩ ?_
      exact xX7_runPiece_31 hQ  _ _ _ _ _ _ h
set_option maxRecDepth 100000 in
set_option maxHeartbeats 4000000 in
theorem xX7_run_121 {E : en} {ad : Nat → Nat} {Post : Int32 → hs → Prop} (hQ : isQ E ad (pI Post))   : ∀ (n : Nat) (v0 : Nat) (v3 : Int32) (S : hs) (_ : PX7_run_121 Post  n v0 v3 S), X E mX7_run 0 0 ad S 121 [(0, aA v0), (3, aI v3)] [] := by
  intro n
  induction n with
  | zero => intro v0 v3 S h; exact h.elim
  | succ n ih =>
    intro v0 v3 S h
    have hK121 := ih
    simp only [PX7_run_121] at h
    refine x_iload_n dX7_run_121 rfl ?_
    refine x_iconst (v := 5) dX7_run_122 (by decide) ?_
    refine x_aload_n dX7_run_123 rfl ?_
    refine x_g7_18 rfl dX7_run_124 h.1 ?_
    replace h := h.2
    refine x_imul dX7_run_127 ?_
    refine x_icmp_ge (tgt := 149) dX7_run_128 (by decide) (fun c => ?_) (fun c => ?_)
    · replace h := h.1 c
      refine x_aload_n dX7_run_149 rfl ?_
      refine x_g7_18 rfl dX7_run_150 h.1 ?_
      replace h := h.2
      exact x_iret hQ rfl dX7_run_153 ⟨_, rfl, h⟩
    · replace h := h.2 c
      refine x_aload_n dX7_run_131 rfl ?_
      obtain ⟨h1, r_132, hr_132, h⟩ := h
      refine x_g7_19 rfl dX7_run_132 h1 (x_un hr_132 ?_)
      refine x_iload_n dX7_run_135 rfl ?_
      refine x_aload_n dX7_run_136 rfl ?_
      obtain ⟨h1, r_137, hr_137, h⟩ := h
      refine x_g7_21 rfl dX7_run_137 h1 (x_un hr_137 ?_)
      refine x_iload_n dX7_run_140 rfl ?_
      refine x_lald dX7_run_141 h.1 ?_
      replace h := h.2
      obtain ⟨h1, h⟩ := h
      refine x_last dX7_run_142 h1 (x_nS (fun S_142 hS_142 => ?_))
      replace h := h S_142 hS_142
      obtain ⟨v3_143, hv3_143⟩ : ∃ y : Int32, y = v3 + 1 := ⟨_, rfl⟩
      replace h := h v3_143 hv3_143
      refine x_iinc (v := v3_143) dX7_run_143 rfl (by rw [hv3_143]; rfl) (by decide) rfl ?_
      refine x_goto (tgt := 121) dX7_run_146 (by decide) ?_
      refine x_lv (lv' := [(0, aA v0), (3, aI v3_143)]) ⟨rfl, rfl, trivial⟩ ?_
      exact hK121 _ _ _ h
set_option maxRecDepth 100000 in
set_option maxHeartbeats 4000000 in
theorem xX7_run_86 {E : en} {ad : Nat → Nat} {Post : Int32 → hs → Prop} (hQ : isQ E ad (pI Post)) {K37 : Nat → Int32 → Int32 → Int32 → hs → Prop} {K52 : Nat → Int32 → Int32 → Int32 → Int32 → hs → Prop} (hK37 : ∀ (v0 : Nat) (v1 : Int32) (v2 : Int32) (v3 : Int32) (S : hs), K37 v0 v1 v2 v3 S → X E mX7_run 0 0 ad S 37 [(0, aA v0), (1, aI v1), (2, aI v2), (3, aI v3)] []) (hK52 : ∀ (v0 : Nat) (v1 : Int32) (v2 : Int32) (v3 : Int32) (v4 : Int32) (S : hs), K52 v0 v1 v2 v3 v4 S → X E mX7_run 0 0 ad S 52 [(0, aA v0), (1, aI v1), (2, aI v2), (3, aI v3), (4, aI v4)] []) (v0 : Nat) (v1 : Int32) (v2 : Int32) (v3 : Int32) (v4 : Int32) (S : hs) (h : PX7_run_86 Post K37 K52 v0 v1 v2 v3 v4 S) : X E mX7_run 0 0 ad S 86 [(0, aA v0), (1, aI v1), (2, aI v2), (3, aI v3), (4, aI v4)] [] := by
  unfold PX7_run_86 at h
  obtain ⟨v4_86, hv4_86⟩ : ∃ y : Int32, y = v4 + 1 := ⟨_, rfl⟩
  replace h := h v4_86 hv4_86
  refine x_iinc (v := v4_86) dX7_run_86 rfl (by rw [hv4_86]; rfl) (by decide) rfl ?_
  refine x_goto (tgt := 52) dX7_run_89 (by decide) ?_
  refine x_lv (lv' := [(0, aA v0), (1, aI v1), (2, aI v2), (3, aI v3), (4, aI v4_86)]) ⟨rfl, rfl, rfl, rfl, rfl, trivial⟩ ?_
  exact hK52 _ _ _ _ _ _ h
set_option maxRecDepth 100000 in
set_option maxHeartbeats 4000000 in
theorem xX7_run_52 {E : en} {ad : Nat → Nat} {Post : Int32 → hs → Prop} (hQ : isQ E ad (pI Post)) {K37 : Nat → Int32 → Int32 → Int32 → hs → Prop} (hK37 : ∀ (v0 : Nat) (v1 : Int32) (v2 : Int32) (v3 : Int32) (S : hs), K37 v0 v1 v2 v3 S → X E mX7_run 0 0 ad S 37 [(0, aA v0), (1, aI v1), (2, aI v2), (3, aI v3)] []) : ∀ (n : Nat) (v0 : Nat) (v1 : Int32) (v2 : Int32) (v3 : Int32) (v4 : Int32) (S : hs) (_ : PX7_run_52 Post K37 n v0 v1 v2 v3 v4 S), X E mX7_run 0 0 ad S 52 [(0, aA v0), (1, aI v1), (2, aI v2), (3, aI v3), (4, aI v4)] [] := by
  intro n
  induction n with
  | zero => intro v0 v1 v2 v3 v4 S h; exact h.elim
  | succ n ih =>
    intro v0 v1 v2 v3 v4 S h
    have hK52 := ih
    simp only [PX7_run_52] at h
    refine x_iload dX7_run_52 rfl ?_
    refine x_aload_n dX7_run_54 rfl ?_
    refine x_g7_1 rfl dX7_run_55 h.1 ?_
    replace h := h.2
    refine x_icmp_ge (tgt := 92) dX7_run_58 (by decide) (fun c => ?_) (fun c => ?_)
    · replace h := h.1 c
      obtain ⟨v3_92, hv3_92⟩ : ∃ y : Int32, y = v3 + 1 := ⟨_, rfl⟩
      replace h := h v3_92 hv3_92
      refine x_iinc (v := v3_92) dX7_run_92 rfl (by rw [hv3_92]; rfl) (by decide) rfl ?_
      refine x_goto (tgt := 37) dX7_run_95 (by decide) ?_
      refine x_lv (lv' := [(0, aA v0), (1, aI v1), (2, aI v2), (3, aI v3_92)]) ⟨rfl, rfl, rfl, rfl, trivial⟩ ?_
      exact hK37 _ _ _ _ _ h
    · replace h := h.2 c
      refine x_aload_n dX7_run_61 rfl ?_
      refine x_bipush (v := 30) dX7_run_62 (by decide) ?_
      refine x_iload_n dX7_run_64 rfl ?_
      refine x_imul dX7_run_65 ?_
      refine x_iload_n dX7_run_66 rfl ?_
      refine x_iadd dX7_run_67 ?_
      refine x_iload dX7_run_68 rfl ?_
      refine x_iload_n dX7_run_70 rfl ?_
      obtain ⟨h1, h⟩ := h
      refine x_callVI (As := [aI ((30 * v1) + v3), aI v4, aI v2]) (st := []) kX7_206 rfl ⟨rfl, rfl, by decide, by decide⟩ dX7_run_71 rfl (Nat.le_of_ble_eq_true rfl) ⟨Nat.zero_le _, Nat.zero_le _⟩ h1 (ctX7_counts h) (fun x_71 S_71 h => ?_)
      refine x_if_eq (tgt := 86) dX7_run_74 (by decide) (fun c => ?_) (fun c => ?_)
      · replace h := h.1 c
        refine x_lv (lv' := [(0, aA v0), (1, aI v1), (2, aI v2), (3, aI v3), (4, aI v4)]) ⟨rfl, rfl, rfl, rfl, rfl, trivial⟩ ?_
        exact xX7_run_86 hQ hK37 hK52 _ _ _ _ _ _ h
      · replace h := h.2 c
        refine x_aload_n dX7_run_77 rfl ?_
        refine x_iload_n dX7_run_78 rfl ?_
        refine x_iload_n dX7_run_79 rfl ?_
        refine x_iload dX7_run_80 rfl ?_
        refine x_iload_n dX7_run_82 rfl ?_
        obtain ⟨h1, h⟩ := h
        refine x_callVV (As := [aI v1, aI v3, aI v4, aI v2]) (st := []) kX7_216 rfl ⟨rfl, rfl, by decide, by decide⟩ dX7_run_83 rfl (Nat.le_of_ble_eq_true rfl) ⟨Nat.zero_le _, Nat.zero_le _⟩ h1 (ctX7_runPiece h) (fun S_83 h => ?_)
        refine x_lv (lv' := [(0, aA v0), (1, aI v1), (2, aI v2), (3, aI v3), (4, aI v4)]) ⟨rfl, rfl, rfl, rfl, rfl, trivial⟩ ?_
        exact xX7_run_86 hQ hK37 hK52 _ _ _ _ _ _ h
set_option maxRecDepth 100000 in
set_option maxHeartbeats 4000000 in
theorem xX7_run_37 {E : en} {ad : Nat → Nat} {Post : Int32 → hs → Prop} (hQ : isQ E ad (pI Post))   : ∀ (n : Nat) (v0 : Nat) (v1 : Int32) (v2 : Int32) (v3 : Int32) (S : hs) (_ : PX7_run_37 Post  n v0 v1 v2 v3 S), X E mX7_run 0 0 ad S 37 [(0, aA v0), (1, aI v1), (2, aI v2), (3, aI v3)] [] := by
  intro n
  induction n with
  | zero => intro v0 v1 v2 v3 S h; exact h.elim
  | succ n ih =>
    intro v0 v1 v2 v3 S h
    have hK37 := ih
    simp only [PX7_run_37] at h
    refine x_iload_n dX7_run_37 rfl ?_
    refine x_iconst (v := 1) dX7_run_38 (by decide) ?_
    refine x_iadd dX7_run_39 ?_
    refine x_aload_n dX7_run_40 rfl ?_
    obtain ⟨h1, r_41, hr_41, h⟩ := h
    refine x_g7_14 rfl dX7_run_41 h1 (x_un hr_41 ?_)
    refine x_iload_n dX7_run_44 rfl ?_
    refine x_iald dX7_run_45 h.1 ?_
    replace h := h.2
    refine x_icmp_ge (tgt := 98) dX7_run_46 (by decide) (fun c => ?_) (fun c => ?_)
    · replace h := h.1 c
      refine x_aload_n dX7_run_98 rfl ?_
      refine x_g7_20 rfl dX7_run_99 h.1 ?_
      replace h := h.2
      refine x_sipush (v := 300) dX7_run_102 (by decide) ?_
      refine x_icmp_le (tgt := 111) dX7_run_105 (by decide) (fun c => ?_) (fun c => ?_)
      · replace h := h.1 c
        refine x_aload_n dX7_run_111 rfl ?_
        refine x_aload_n dX7_run_112 rfl ?_
        refine x_g7_20 rfl dX7_run_113 h.1 ?_
        replace h := h.2
        obtain ⟨h1, h⟩ := h
        refine x_p7_18 rfl dX7_run_116 h1 (x_nS (fun S_116 hS_116 => ?_))
        replace h := h S_116 hS_116
        refine x_iconst (v := 0) dX7_run_119 (by decide) ?_
        refine x_istore_n dX7_run_120 (by decide) rfl ?_
        refine x_lv (lv' := [(0, aA v0), (3, aI 0)]) ⟨rfl, rfl, trivial⟩ ?_
        obtain ⟨n, h⟩ := h
        exact xX7_run_121 hQ  n _ _ _ h
      · replace h := h.2 c
        refine x_bipush (v := (-4)) dX7_run_108 (by decide) ?_
        exact x_iret hQ rfl dX7_run_110 ⟨_, rfl, h⟩
    · replace h := h.2 c
      refine x_iconst (v := 0) dX7_run_49 (by decide) ?_
      refine x_istore dX7_run_50 (by decide) rfl ?_
      refine x_lv (lv' := [(0, aA v0), (1, aI v1), (2, aI v2), (3, aI v3), (4, aI 0)]) ⟨rfl, rfl, rfl, rfl, rfl, trivial⟩ ?_
      obtain ⟨n, h⟩ := h
      exact xX7_run_52 hQ hK37 n _ _ _ _ _ _ h
set_option maxRecDepth 100000 in
set_option maxHeartbeats 4000000 in
theorem ctX7_run {G : Launch × va_G × (Nat → ClassId) × Nat} {v0 : Nat} {v1 : Int32} {v2 : Int32} {S : hs} {Post : Int32 → hs → Prop} (h : PX7_run v0 v1 v2 S Post) : ctN G mX7_run [aA v0, aI v1, aI v2] S (pI Post) := by
  refine ctN.of (by decide) (Nat.le_of_ble_eq_true rfl) (fun E ad hG hQ => ?_)
  subst hG
  unfold PX7_run at h
  refine x_aload_n dX7_run_0 rfl ?_
  refine x_iconst (v := 0) dX7_run_1 (by decide) ?_
  obtain ⟨h1, h⟩ := h
  refine x_p7_0 rfl dX7_run_2 h1 (x_nS (fun S_2 hS_2 => ?_))
  replace h := h S_2 hS_2
  refine x_aload_n dX7_run_5 rfl ?_
  refine x_iload_n dX7_run_6 rfl ?_
  obtain ⟨h1, h⟩ := h
  refine x_callVI (As := [aI v1]) (st := []) kX7_164 rfl ⟨rfl, rfl, by decide, by decide⟩ dX7_run_7 rfl (Nat.le_of_ble_eq_true rfl) ⟨Nat.zero_le _, Nat.zero_le _⟩ h1 (ctX7_isTrack h) (fun x_7 S_7 h => ?_)
  refine x_if_ne (tgt := 15) dX7_run_10 (by decide) (fun c => ?_) (fun c => ?_)
  · replace h := h.2 c
    refine x_iload_n dX7_run_15 rfl ?_
    refine x_i2l dX7_run_16 ?_
    refine x_lconst (v := 0) dX7_run_17 (by decide) ?_
    refine x_ldc2 (v := 7) dX7_run_18 kcX7_143 ?_
    refine x_callSI (As := [aJ (Int32.toInt64 v2), aJ 0, aJ 7]) (st := []) kX7_122 rfl ⟨rfl, rfl, by decide, by decide⟩ dX7_run_21 rfl (Nat.le_of_ble_eq_true rfl) ⟨Nat.zero_le _, Nat.zero_le _⟩ (ctX7_isIn h) (fun x_21 S_21 h => ?_)
    refine x_if_ne (tgt := 30) dX7_run_24 (by decide) (fun c => ?_) (fun c => ?_)
    · replace h := h.2 c
      refine x_aload_n dX7_run_30 rfl ?_
      refine x_iconst (v := 0) dX7_run_31 (by decide) ?_
      obtain ⟨h1, h⟩ := h
      refine x_p7_20 rfl dX7_run_32 h1 (x_nS (fun S_32 hS_32 => ?_))
      replace h := h S_32 hS_32
      refine x_iconst (v := 0) dX7_run_35 (by decide) ?_
      refine x_istore_n dX7_run_36 (by decide) rfl ?_
      refine x_lv (lv' := [(0, aA v0), (1, aI v1), (2, aI v2), (3, aI 0)]) ⟨rfl, rfl, rfl, rfl, trivial⟩ ?_
      obtain ⟨n, h⟩ := h
      exact xX7_run_37 hQ  n _ _ _ _ _ h
    · replace h := h.1 c
      refine x_bipush (v := (-2)) dX7_run_27 (by decide) ?_
      exact x_iret hQ rfl dX7_run_29 ⟨_, rfl, h⟩
  · replace h := h.1 c
    refine x_iconst (v := (-1)) dX7_run_13 (by decide) ?_
    exact x_iret hQ rfl dX7_run_14 ⟨_, rfl, h⟩
set_option maxRecDepth 100000 in
set_option maxHeartbeats 4000000 in
theorem xX7_entry_51 {E : en} {ad : Nat → Nat} {Post : Int64 → hs → Prop} (hQ : isQ E ad (pJ Post))   (s0 : Int64) (S : hs) (h : PX7_entry_51 Post  s0 S) : X E mX7_entry 0 0 ad S 51 [] [aJ s0] := by
  unfold PX7_entry_51 at h
  exact x_lret hQ rfl dX7_entry_51 ⟨_, rfl, h⟩
set_option maxRecDepth 100000 in
set_option maxHeartbeats 4000000 in
theorem xX7_entry_17 {E : en} {ad : Nat → Nat} {Post : Int64 → hs → Prop} (hQ : isQ E ad (pJ Post))    (S : hs) (h : PX7_entry_17 Post   S) : X E mX7_entry 0 0 ad S 17 [] [] := by
  unfold PX7_entry_17 at h
  refine x_ldc2 (v := (-1)) dX7_entry_17 kcX7_222 ?_
  refine x_goto (tgt := 51) dX7_entry_20 (by decide) ?_
  refine x_lv (lv' := []) trivial ?_
  exact xX7_entry_51 hQ  _ _ h
set_option maxRecDepth 100000 in
set_option maxHeartbeats 4000000 in
theorem ctX7_entry {G : Launch × va_G × (Nat → ClassId) × Nat} {v0 : Nat} {v1 : Int32} {v2 : Int32} {S : hs} {Post : Int64 → hs → Prop} (h : PX7_entry v0 v1 v2 S Post) : ctN G mX7_entry [aA v0, aI v1, aI v2] S (pJ Post) := by
  refine ctN.of (by decide) (Nat.le_of_ble_eq_true rfl) (fun E ad hG hQ => ?_)
  subst hG
  unfold PX7_entry at h
  refine x_aload_n dX7_entry_0 rfl ?_
  refine x_iconst (v := 0) dX7_entry_1 (by decide) ?_
  obtain ⟨h1, h⟩ := h
  refine x_p7_0 rfl dX7_entry_2 h1 (x_nS (fun S_2 hS_2 => ?_))
  replace h := h S_2 hS_2
  refine x_iload_n dX7_entry_5 rfl ?_
  refine x_if_lt (tgt := 17) dX7_entry_6 (by decide) (fun c => ?_) (fun c => ?_)
  · replace h := h.1 c
    refine x_lv (lv' := []) trivial ?_
    exact xX7_entry_17 hQ   _ h
  · replace h := h.2 c
    refine x_iload_n dX7_entry_9 rfl ?_
    refine x_aload_n dX7_entry_10 rfl ?_
    refine x_g7_18 rfl dX7_entry_11 h.1 ?_
    replace h := h.2
    refine x_icmp_lt (tgt := 23) dX7_entry_14 (by decide) (fun c => ?_) (fun c => ?_)
    · replace h := h.1 c
      refine x_iload_n dX7_entry_23 rfl ?_
      refine x_i2l dX7_entry_24 ?_
      refine x_lconst (v := 0) dX7_entry_25 (by decide) ?_
      refine x_ldc2 (v := 3) dX7_entry_26 kcX7_224 ?_
      refine x_callSI (As := [aJ (Int32.toInt64 v2), aJ 0, aJ 3]) (st := []) kX7_122 rfl ⟨rfl, rfl, by decide, by decide⟩ dX7_entry_29 rfl (Nat.le_of_ble_eq_true rfl) ⟨Nat.zero_le _, Nat.zero_le _⟩ (ctX7_isIn h) (fun x_29 S_29 h => ?_)
      refine x_if_ne (tgt := 41) dX7_entry_32 (by decide) (fun c => ?_) (fun c => ?_)
      · replace h := h.2 c
        refine x_aload_n dX7_entry_41 rfl ?_
        obtain ⟨h1, r_42, hr_42, h⟩ := h
        refine x_g7_19 rfl dX7_entry_42 h1 (x_un hr_42 ?_)
        refine x_iconst (v := 5) dX7_entry_45 (by decide) ?_
        refine x_iload_n dX7_entry_46 rfl ?_
        refine x_imul dX7_entry_47 ?_
        refine x_iload_n dX7_entry_48 rfl ?_
        refine x_iadd dX7_entry_49 ?_
        refine x_lald dX7_entry_50 h.1 ?_
        replace h := h.2
        refine x_lv (lv' := []) trivial ?_
        exact xX7_entry_51 hQ  _ _ h
      · replace h := h.1 c
        refine x_ldc2 (v := (-2)) dX7_entry_35 kcX7_226 ?_
        refine x_goto (tgt := 51) dX7_entry_38 (by decide) ?_
        refine x_lv (lv' := []) trivial ?_
        exact xX7_entry_51 hQ  _ _ h
    · replace h := h.2 c
      refine x_lv (lv' := []) trivial ?_
      exact xX7_entry_17 hQ   _ h
set_option maxRecDepth 100000 in
set_option maxHeartbeats 4000000 in
theorem xX7_side_32 {E : en} {ad : Nat → Nat} {Post : Int32 → hs → Prop} (hQ : isQ E ad (pI Post))   (s0 : Int32) (S : hs) (h : PX7_side_32 Post  s0 S) : X E mX7_side 0 0 ad S 32 [] [aI s0] := by
  unfold PX7_side_32 at h
  exact x_iret hQ rfl dX7_side_32 ⟨_, rfl, h⟩
set_option maxRecDepth 100000 in
set_option maxHeartbeats 4000000 in
theorem xX7_side_17 {E : en} {ad : Nat → Nat} {Post : Int32 → hs → Prop} (hQ : isQ E ad (pI Post))    (S : hs) (h : PX7_side_17 Post   S) : X E mX7_side 0 0 ad S 17 [] [] := by
  unfold PX7_side_17 at h
  refine x_iconst (v := (-1)) dX7_side_17 (by decide) ?_
  refine x_goto (tgt := 32) dX7_side_18 (by decide) ?_
  refine x_lv (lv' := []) trivial ?_
  exact xX7_side_32 hQ  _ _ h
set_option maxRecDepth 100000 in
set_option maxHeartbeats 4000000 in
theorem ctX7_side {G : Launch × va_G × (Nat → ClassId) × Nat} {v0 : Nat} {v1 : Int32} {S : hs} {Post : Int32 → hs → Prop} (h : PX7_side v0 v1 S Post) : ctN G mX7_side [aA v0, aI v1] S (pI Post) := by
  refine ctN.of (by decide) (Nat.le_of_ble_eq_true rfl) (fun E ad hG hQ => ?_)
  subst hG
  unfold PX7_side at h
  refine x_aload_n dX7_side_0 rfl ?_
  refine x_iconst (v := 0) dX7_side_1 (by decide) ?_
  obtain ⟨h1, h⟩ := h
  refine x_p7_0 rfl dX7_side_2 h1 (x_nS (fun S_2 hS_2 => ?_))
  replace h := h S_2 hS_2
  refine x_iload_n dX7_side_5 rfl ?_
  refine x_if_lt (tgt := 17) dX7_side_6 (by decide) (fun c => ?_) (fun c => ?_)
  · replace h := h.1 c
    refine x_lv (lv' := []) trivial ?_
    exact xX7_side_17 hQ   _ h
  · replace h := h.2 c
    refine x_iload_n dX7_side_9 rfl ?_
    refine x_aload_n dX7_side_10 rfl ?_
    refine x_g7_18 rfl dX7_side_11 h.1 ?_
    replace h := h.2
    refine x_icmp_lt (tgt := 21) dX7_side_14 (by decide) (fun c => ?_) (fun c => ?_)
    · replace h := h.1 c
      refine x_aload_n dX7_side_21 rfl ?_
      obtain ⟨h1, r_22, hr_22, h⟩ := h
      refine x_g7_19 rfl dX7_side_22 h1 (x_un hr_22 ?_)
      refine x_iconst (v := 5) dX7_side_25 (by decide) ?_
      refine x_iload_n dX7_side_26 rfl ?_
      refine x_imul dX7_side_27 ?_
      refine x_iconst (v := 4) dX7_side_28 (by decide) ?_
      refine x_iadd dX7_side_29 ?_
      refine x_lald dX7_side_30 h.1 ?_
      replace h := h.2
      refine x_l2i dX7_side_31 ?_
      refine x_lv (lv' := []) trivial ?_
      exact xX7_side_32 hQ  _ _ h
    · replace h := h.2 c
      refine x_lv (lv' := []) trivial ?_
      exact xX7_side_17 hQ   _ h
set_option maxRecDepth 100000 in
set_option maxHeartbeats 4000000 in
theorem xX7_within_21 {E : en} {ad : Nat → Nat} {Post : Int64 → hs → Prop} (hQ : isQ E ad (pJ Post))   : ∀ (n : Nat) (v0 : Nat) (v2 : Int32) (v3 : Int64) (v5 : Int32) (S : hs) (_ : PX7_within_21 Post  n v0 v2 v3 v5 S), X E mX7_within 0 0 ad S 21 [(0, aA v0), (2, aI v2), (3, aJ v3), (5, aI v5)] [] := by
  intro n
  induction n with
  | zero => intro v0 v2 v3 v5 S h; exact h.elim
  | succ n ih =>
    intro v0 v2 v3 v5 S h
    have hK21 := ih
    simp only [PX7_within_21] at h
    refine x_iload dX7_within_21 rfl ?_
    refine x_aload_n dX7_within_23 rfl ?_
    refine x_g7_25 rfl dX7_within_24 h.1 ?_
    replace h := h.2
    refine x_icmp_ge (tgt := 114) dX7_within_27 (by decide) (fun c => ?_) (fun c => ?_)
    · replace h := h.1 c
      refine x_lload_n dX7_within_114 rfl ?_
      exact x_lret hQ rfl dX7_within_115 ⟨_, rfl, h⟩
    · replace h := h.2 c
      refine x_aload_n dX7_within_30 rfl ?_
      obtain ⟨h1, r_31, hr_31, h⟩ := h
      refine x_g7_26 rfl dX7_within_31 h1 (x_un hr_31 ?_)
      refine x_iload dX7_within_34 rfl ?_
      refine x_iald dX7_within_36 h.1 ?_
      replace h := h.2
      refine x_nI (fun v6_37 hv6_37 => ?_)
      replace h := h v6_37 hv6_37
      refine x_istore dX7_within_37 (by decide) rfl ?_
      refine x_aload_n dX7_within_39 rfl ?_
      obtain ⟨h1, r_40, hr_40, h⟩ := h
      refine x_g7_27 rfl dX7_within_40 h1 (x_un hr_40 ?_)
      refine x_iload dX7_within_43 rfl ?_
      refine x_iald dX7_within_45 h.1 ?_
      replace h := h.2
      refine x_nI (fun v7_46 hv7_46 => ?_)
      replace h := h v7_46 hv7_46
      refine x_istore dX7_within_46 (by decide) rfl ?_
      refine x_lload_n dX7_within_48 rfl ?_
      refine x_aload_n dX7_within_49 rfl ?_
      obtain ⟨h1, r_50, hr_50, h⟩ := h
      refine x_g7_23 rfl dX7_within_50 h1 (x_un hr_50 ?_)
      refine x_iload dX7_within_53 rfl ?_
      refine x_lald dX7_within_55 h.1 ?_
      replace h := h.2
      refine x_aload_n dX7_within_56 rfl ?_
      obtain ⟨h1, r_57, hr_57, h⟩ := h
      refine x_g7_24 rfl dX7_within_57 h1 (x_un hr_57 ?_)
      refine x_iload dX7_within_60 rfl ?_
      refine x_lald dX7_within_62 h.1 ?_
      replace h := h.2
      refine x_lmul dX7_within_63 ?_
      refine x_aload_n dX7_within_64 rfl ?_
      obtain ⟨h1, r_65, hr_65, h⟩ := h
      refine x_g7_23 rfl dX7_within_65 h1 (x_un hr_65 ?_)
      refine x_iload dX7_within_68 rfl ?_
      refine x_lald dX7_within_70 h.1 ?_
      replace h := h.2
      refine x_aload_n dX7_within_71 rfl ?_
      obtain ⟨h1, r_72, hr_72, h⟩ := h
      refine x_g7_24 rfl dX7_within_72 h1 (x_un hr_72 ?_)
      refine x_iload dX7_within_75 rfl ?_
      refine x_lald dX7_within_77 h.1 ?_
      replace h := h.2
      refine x_lmul dX7_within_78 ?_
      refine x_lsub dX7_within_79 ?_
      refine x_ldc2 (v := 1000) dX7_within_80 kcX7_228 ?_
      refine x_aload_n dX7_within_83 rfl ?_
      refine x_iload_n dX7_within_84 rfl ?_
      obtain ⟨h1, h⟩ := h
      refine x_callVJ (As := [aI v2]) (st := [aJ 1000, aJ (((hj S r_50 (Int32.toNatClampNeg v7_46)) * (hj S r_57 (Int32.toNatClampNeg v6_37))) - ((hj S r_65 (Int32.toNatClampNeg v6_37)) * (hj S r_72 (Int32.toNatClampNeg v7_46)))), aJ v3]) kX7_169 rfl ⟨rfl, rfl, by decide, by decide⟩ dX7_within_85 rfl (Nat.le_of_ble_eq_true rfl) ⟨Nat.zero_le _, Nat.zero_le _⟩ h1 (ctX7_lasts h) (fun x_85 S_85 h => ?_)
      refine x_lmul dX7_within_88 ?_
      refine x_lmul dX7_within_89 ?_
      refine x_aload_n dX7_within_90 rfl ?_
      obtain ⟨h1, r_91, hr_91, h⟩ := h
      refine x_g7_24 rfl dX7_within_91 h1 (x_un hr_91 ?_)
      refine x_iload dX7_within_94 rfl ?_
      refine x_lald dX7_within_96 h.1 ?_
      replace h := h.2
      refine x_aload_n dX7_within_97 rfl ?_
      obtain ⟨h1, r_98, hr_98, h⟩ := h
      refine x_g7_24 rfl dX7_within_98 h1 (x_un hr_98 ?_)
      refine x_iload dX7_within_101 rfl ?_
      refine x_lald dX7_within_103 h.1 ?_
      replace h := h.2
      refine x_lmul dX7_within_104 ?_
      refine x_ldiv dX7_within_105 h.1 ?_
      replace h := h.2
      refine x_ladd dX7_within_106 ?_
      refine x_nJ (fun v3_107 hv3_107 => ?_)
      replace h := h v3_107 hv3_107
      refine x_lstore_n dX7_within_107 (by decide) rfl ?_
      obtain ⟨v5_108, hv5_108⟩ : ∃ y : Int32, y = v5 + 1 := ⟨_, rfl⟩
      replace h := h v5_108 hv5_108
      refine x_iinc (v := v5_108) dX7_within_108 rfl (by rw [hv5_108]; rfl) (by decide) rfl ?_
      refine x_goto (tgt := 21) dX7_within_111 (by decide) ?_
      refine x_lv (lv' := [(0, aA v0), (2, aI v2), (3, aJ v3_107), (5, aI v5_108)]) ⟨rfl, rfl, rfl, rfl, trivial⟩ ?_
      exact hK21 _ _ _ _ _ h
set_option maxRecDepth 100000 in
set_option maxHeartbeats 4000000 in
theorem ctX7_within {G : Launch × va_G × (Nat → ClassId) × Nat} {v0 : Nat} {v1 : Int32} {v2 : Int32} {S : hs} {Post : Int64 → hs → Prop} (h : PX7_within v0 v1 v2 S Post) : ctN G mX7_within [aA v0, aI v1, aI v2] S (pJ Post) := by
  refine ctN.of (by decide) (Nat.le_of_ble_eq_true rfl) (fun E ad hG hQ => ?_)
  subst hG
  unfold PX7_within at h
  refine x_aload_n dX7_within_0 rfl ?_
  refine x_iload_n dX7_within_1 rfl ?_
  obtain ⟨h1, h⟩ := h
  refine x_callVI (As := [aI v2]) (st := []) kX7_175 rfl ⟨rfl, rfl, by decide, by decide⟩ dX7_within_2 rfl (Nat.le_of_ble_eq_true rfl) ⟨Nat.zero_le _, Nat.zero_le _⟩ h1 (ctX7_isGap h) (fun x_2 S_2 h => ?_)
  refine x_if_eq (tgt := 10) dX7_within_5 (by decide) (fun c => ?_) (fun c => ?_)
  · replace h := h.1 c
    refine x_aload_n dX7_within_10 rfl ?_
    refine x_iload_n dX7_within_11 rfl ?_
    refine x_iload_n dX7_within_12 rfl ?_
    obtain ⟨h1, h⟩ := h
    refine x_callVV (As := [aI v1, aI v2]) (st := []) kX7_209 rfl ⟨rfl, rfl, by decide, by decide⟩ dX7_within_13 rfl (Nat.le_of_ble_eq_true rfl) ⟨Nat.zero_le _, Nat.zero_le _⟩ h1 (ctX7_stretch h) (fun S_13 h => ?_)
    refine x_lconst (v := 0) dX7_within_16 (by decide) ?_
    refine x_lstore_n dX7_within_17 (by decide) rfl ?_
    refine x_iconst (v := 0) dX7_within_18 (by decide) ?_
    refine x_istore dX7_within_19 (by decide) rfl ?_
    refine x_lv (lv' := [(0, aA v0), (2, aI v2), (3, aJ 0), (5, aI 0)]) ⟨rfl, rfl, rfl, rfl, trivial⟩ ?_
    obtain ⟨n, h⟩ := h
    exact xX7_within_21 hQ  n _ _ _ _ _ h
  · replace h := h.2 c
    refine x_lconst (v := 0) dX7_within_8 (by decide) ?_
    exact x_lret hQ rfl dX7_within_9 ⟨_, rfl, h⟩
set_option maxRecDepth 100000 in
set_option maxHeartbeats 4000000 in
theorem xX7_inside_93 {E : en} {ad : Nat → Nat} {Post : Int64 → hs → Prop} (hQ : isQ E ad (pJ Post)) {K52 : Nat → Int32 → Int32 → Int32 → Int64 → Int32 → hs → Prop} (hK52 : ∀ (v0 : Nat) (v1 : Int32) (v2 : Int32) (v3 : Int32) (v4 : Int64) (v6 : Int32) (S : hs), K52 v0 v1 v2 v3 v4 v6 S → X E mX7_inside 0 0 ad S 52 [(0, aA v0), (1, aI v1), (2, aI v2), (3, aI v3), (4, aJ v4), (6, aI v6)] []) (v0 : Nat) (v1 : Int32) (v2 : Int32) (v3 : Int32) (v6 : Int32) (s0 : Int64) (s1 : Int64) (S : hs) (h : PX7_inside_93 Post K52 v0 v1 v2 v3 v6 s0 s1 S) : X E mX7_inside 0 0 ad S 93 [(0, aA v0), (1, aI v1), (2, aI v2), (3, aI v3), (6, aI v6)] [aJ s1, aJ s0] := by
  unfold PX7_inside_93 at h
  refine x_ladd dX7_inside_93 ?_
  refine x_nJ (fun v4_94 hv4_94 => ?_)
  replace h := h v4_94 hv4_94
  refine x_lstore dX7_inside_94 (by decide) rfl ?_
  obtain ⟨v6_96, hv6_96⟩ : ∃ y : Int32, y = v6 + 1 := ⟨_, rfl⟩
  replace h := h v6_96 hv6_96
  refine x_iinc (v := v6_96) dX7_inside_96 rfl (by rw [hv6_96]; rfl) (by decide) rfl ?_
  refine x_goto (tgt := 52) dX7_inside_99 (by decide) ?_
  refine x_lv (lv' := [(0, aA v0), (1, aI v1), (2, aI v2), (3, aI v3), (4, aJ v4_94), (6, aI v6_96)]) ⟨rfl, rfl, rfl, rfl, rfl, rfl, trivial⟩ ?_
  exact hK52 _ _ _ _ _ _ _ h
set_option maxRecDepth 100000 in
set_option maxHeartbeats 4000000 in
theorem xX7_inside_77 {E : en} {ad : Nat → Nat} {Post : Int64 → hs → Prop} (hQ : isQ E ad (pJ Post)) {K52 : Nat → Int32 → Int32 → Int32 → Int64 → Int32 → hs → Prop} (hK52 : ∀ (v0 : Nat) (v1 : Int32) (v2 : Int32) (v3 : Int32) (v4 : Int64) (v6 : Int32) (S : hs), K52 v0 v1 v2 v3 v4 v6 S → X E mX7_inside 0 0 ad S 52 [(0, aA v0), (1, aI v1), (2, aI v2), (3, aI v3), (4, aJ v4), (6, aI v6)] []) (v0 : Nat) (v1 : Int32) (v2 : Int32) (v3 : Int32) (v6 : Int32) (s0 : Int64) (S : hs) (h : PX7_inside_77 Post K52 v0 v1 v2 v3 v6 s0 S) : X E mX7_inside 0 0 ad S 77 [(0, aA v0), (1, aI v1), (2, aI v2), (3, aI v3), (6, aI v6)] [aJ s0] := by
  unfold PX7_inside_77 at h
  refine x_aload_n dX7_inside_77 rfl ?_
  refine x_iload_n dX7_inside_78 rfl ?_
  refine x_bipush (v := 30) dX7_inside_79 (by decide) ?_
  refine x_iload_n dX7_inside_81 rfl ?_
  refine x_imul dX7_inside_82 ?_
  refine x_iload dX7_inside_83 rfl ?_
  refine x_iadd dX7_inside_85 ?_
  obtain ⟨h1, h⟩ := h
  refine x_callVJ (As := [aI v1, aI ((30 * v2) + v6)]) (st := [aJ s0]) kX7_230 rfl ⟨rfl, rfl, by decide, by decide⟩ dX7_inside_86 rfl (Nat.le_of_ble_eq_true rfl) ⟨Nat.zero_le _, Nat.zero_le _⟩ h1 (ctX7_within h) (fun x_86 S_86 h => ?_)
  refine x_goto (tgt := 93) dX7_inside_89 (by decide) ?_
  refine x_lv (lv' := [(0, aA v0), (1, aI v1), (2, aI v2), (3, aI v3), (6, aI v6)]) ⟨rfl, rfl, rfl, rfl, rfl, trivial⟩ ?_
  exact xX7_inside_93 hQ hK52 _ _ _ _ _ _ _ _ h
set_option maxRecDepth 100000 in
set_option maxHeartbeats 4000000 in
theorem xX7_inside_52 {E : en} {ad : Nat → Nat} {Post : Int64 → hs → Prop} (hQ : isQ E ad (pJ Post))   : ∀ (n : Nat) (v0 : Nat) (v1 : Int32) (v2 : Int32) (v3 : Int32) (v4 : Int64) (v6 : Int32) (S : hs) (_ : PX7_inside_52 Post  n v0 v1 v2 v3 v4 v6 S), X E mX7_inside 0 0 ad S 52 [(0, aA v0), (1, aI v1), (2, aI v2), (3, aI v3), (4, aJ v4), (6, aI v6)] [] := by
  intro n
  induction n with
  | zero => intro v0 v1 v2 v3 v4 v6 S h; exact h.elim
  | succ n ih =>
    intro v0 v1 v2 v3 v4 v6 S h
    have hK52 := ih
    simp only [PX7_inside_52] at h
    refine x_iload dX7_inside_52 rfl ?_
    refine x_iconst (v := 1) dX7_inside_54 (by decide) ?_
    refine x_iadd dX7_inside_55 ?_
    refine x_aload_n dX7_inside_56 rfl ?_
    obtain ⟨h1, r_57, hr_57, h⟩ := h
    refine x_g7_14 rfl dX7_inside_57 h1 (x_un hr_57 ?_)
    refine x_iload_n dX7_inside_60 rfl ?_
    refine x_iald dX7_inside_61 h.1 ?_
    replace h := h.2
    refine x_icmp_ge (tgt := 102) dX7_inside_62 (by decide) (fun c => ?_) (fun c => ?_)
    · replace h := h.1 c
      refine x_lload dX7_inside_102 rfl ?_
      exact x_lret hQ rfl dX7_inside_104 ⟨_, rfl, h⟩
    · replace h := h.2 c
      refine x_lload dX7_inside_65 rfl ?_
      refine x_iload_n dX7_inside_67 rfl ?_
      refine x_if_lt (tgt := 77) dX7_inside_68 (by decide) (fun c => ?_) (fun c => ?_)
      · replace h := h.1 c
        refine x_lv (lv' := [(0, aA v0), (1, aI v1), (2, aI v2), (3, aI v3), (6, aI v6)]) ⟨rfl, rfl, rfl, rfl, rfl, trivial⟩ ?_
        exact xX7_inside_77 hQ hK52 _ _ _ _ _ _ _ h
      · replace h := h.2 c
        refine x_iload_n dX7_inside_71 rfl ?_
        refine x_iload dX7_inside_72 rfl ?_
        refine x_icmp_ne (tgt := 92) dX7_inside_74 (by decide) (fun c => ?_) (fun c => ?_)
        · replace h := h.2 c
          refine x_lconst (v := 0) dX7_inside_92 (by decide) ?_
          refine x_lv (lv' := [(0, aA v0), (1, aI v1), (2, aI v2), (3, aI v3), (6, aI v6)]) ⟨rfl, rfl, rfl, rfl, rfl, trivial⟩ ?_
          exact xX7_inside_93 hQ hK52 _ _ _ _ _ _ _ _ h
        · replace h := h.1 c
          refine x_lv (lv' := [(0, aA v0), (1, aI v1), (2, aI v2), (3, aI v3), (6, aI v6)]) ⟨rfl, rfl, rfl, rfl, rfl, trivial⟩ ?_
          exact xX7_inside_77 hQ hK52 _ _ _ _ _ _ _ h
set_option maxRecDepth 100000 in
set_option maxHeartbeats 4000000 in
theorem xX7_inside_46 {E : en} {ad : Nat → Nat} {Post : Int64 → hs → Prop} (hQ : isQ E ad (pJ Post))   (v0 : Nat) (v1 : Int32) (v2 : Int32) (v3 : Int32) (S : hs) (h : PX7_inside_46 Post  v0 v1 v2 v3 S) : X E mX7_inside 0 0 ad S 46 [(0, aA v0), (1, aI v1), (2, aI v2), (3, aI v3)] [] := by
  unfold PX7_inside_46 at h
  refine x_lconst (v := 0) dX7_inside_46 (by decide) ?_
  refine x_lstore dX7_inside_47 (by decide) rfl ?_
  refine x_iconst (v := 0) dX7_inside_49 (by decide) ?_
  refine x_istore dX7_inside_50 (by decide) rfl ?_
  refine x_lv (lv' := [(0, aA v0), (1, aI v1), (2, aI v2), (3, aI v3), (4, aJ 0), (6, aI 0)]) ⟨rfl, rfl, rfl, rfl, rfl, rfl, trivial⟩ ?_
  obtain ⟨n, h⟩ := h
  exact xX7_inside_52 hQ  n _ _ _ _ _ _ _ h
set_option maxRecDepth 100000 in
set_option maxHeartbeats 4000000 in
theorem xX7_inside_42 {E : en} {ad : Nat → Nat} {Post : Int64 → hs → Prop} (hQ : isQ E ad (pJ Post))    (S : hs) (h : PX7_inside_42 Post   S) : X E mX7_inside 0 0 ad S 42 [] [] := by
  unfold PX7_inside_42 at h
  refine x_ldc2 (v := (-1)) dX7_inside_42 kcX7_222 ?_
  exact x_lret hQ rfl dX7_inside_45 ⟨_, rfl, h⟩
set_option maxRecDepth 100000 in
set_option maxHeartbeats 4000000 in
theorem ctX7_inside {G : Launch × va_G × (Nat → ClassId) × Nat} {v0 : Nat} {v1 : Int32} {v2 : Int32} {v3 : Int32} {S : hs} {Post : Int64 → hs → Prop} (h : PX7_inside v0 v1 v2 v3 S Post) : ctN G mX7_inside [aA v0, aI v1, aI v2, aI v3] S (pJ Post) := by
  refine ctN.of (by decide) (Nat.le_of_ble_eq_true rfl) (fun E ad hG hQ => ?_)
  subst hG
  unfold PX7_inside at h
  refine x_aload_n dX7_inside_0 rfl ?_
  refine x_iconst (v := 0) dX7_inside_1 (by decide) ?_
  obtain ⟨h1, h⟩ := h
  refine x_p7_0 rfl dX7_inside_2 h1 (x_nS (fun S_2 hS_2 => ?_))
  replace h := h S_2 hS_2
  refine x_aload_n dX7_inside_5 rfl ?_
  refine x_iload_n dX7_inside_6 rfl ?_
  obtain ⟨h1, h⟩ := h
  refine x_callVI (As := [aI v1]) (st := []) kX7_137 rfl ⟨rfl, rfl, by decide, by decide⟩ dX7_inside_7 rfl (Nat.le_of_ble_eq_true rfl) ⟨Nat.zero_le _, Nat.zero_le _⟩ h1 (ctX7_isThere h) (fun x_7 S_7 h => ?_)
  refine x_if_eq (tgt := 42) dX7_inside_10 (by decide) (fun c => ?_) (fun c => ?_)
  · replace h := h.1 c
    refine x_lv (lv' := []) trivial ?_
    exact xX7_inside_42 hQ   _ h
  · replace h := h.2 c
    refine x_aload_n dX7_inside_13 rfl ?_
    refine x_iload_n dX7_inside_14 rfl ?_
    obtain ⟨h1, h⟩ := h
    refine x_callVI (As := [aI v2]) (st := []) kX7_164 rfl ⟨rfl, rfl, by decide, by decide⟩ dX7_inside_15 rfl (Nat.le_of_ble_eq_true rfl) ⟨Nat.zero_le _, Nat.zero_le _⟩ h1 (ctX7_isTrack h) (fun x_15 S_15 h => ?_)
    refine x_if_eq (tgt := 42) dX7_inside_18 (by decide) (fun c => ?_) (fun c => ?_)
    · replace h := h.1 c
      refine x_lv (lv' := []) trivial ?_
      exact xX7_inside_42 hQ   _ h
    · replace h := h.2 c
      refine x_iload_n dX7_inside_21 rfl ?_
      refine x_iconst (v := (-1)) dX7_inside_22 (by decide) ?_
      refine x_icmp_lt (tgt := 42) dX7_inside_23 (by decide) (fun c => ?_) (fun c => ?_)
      · replace h := h.1 c
        refine x_lv (lv' := []) trivial ?_
        exact xX7_inside_42 hQ   _ h
      · replace h := h.2 c
        refine x_iload_n dX7_inside_26 rfl ?_
        refine x_if_lt (tgt := 46) dX7_inside_27 (by decide) (fun c => ?_) (fun c => ?_)
        · replace h := h.1 c
          refine x_lv (lv' := [(0, aA v0), (1, aI v1), (2, aI v2), (3, aI v3)]) ⟨rfl, rfl, rfl, rfl, trivial⟩ ?_
          exact xX7_inside_46 hQ  _ _ _ _ _ h
        · replace h := h.2 c
          refine x_iload_n dX7_inside_30 rfl ?_
          refine x_aload_n dX7_inside_31 rfl ?_
          obtain ⟨h1, r_32, hr_32, h⟩ := h
          refine x_g7_14 rfl dX7_inside_32 h1 (x_un hr_32 ?_)
          refine x_iload_n dX7_inside_35 rfl ?_
          refine x_iald dX7_inside_36 h.1 ?_
          replace h := h.2
          refine x_iconst (v := 1) dX7_inside_37 (by decide) ?_
          refine x_isub dX7_inside_38 ?_
          refine x_icmp_lt (tgt := 46) dX7_inside_39 (by decide) (fun c => ?_) (fun c => ?_)
          · replace h := h.1 c
            refine x_lv (lv' := [(0, aA v0), (1, aI v1), (2, aI v2), (3, aI v3)]) ⟨rfl, rfl, rfl, rfl, trivial⟩ ?_
            exact xX7_inside_46 hQ  _ _ _ _ _ h
          · replace h := h.2 c
            refine x_lv (lv' := []) trivial ?_
            exact xX7_inside_42 hQ   _ h
