set_option maxRecDepth 100000 in
set_option maxHeartbeats 4000000 in
theorem xX2_isSideNear_215 {E : en} {ad : Nat → Nat} {Post : Int32 → hs → Prop} (hQ : isQ E ad (pI Post))   (s0 : Int32) (S : hs) (h : PX2_isSideNear_215 Post  s0 S) : X E mX2_isSideNear 0 0 ad S 215 [] [aI s0] := by
  unfold PX2_isSideNear_215 at h
  exact x_zret hQ rfl dX2_isSideNear_215 ⟨h.1, _, rfl, h.2⟩
set_option maxRecDepth 100000 in
set_option maxHeartbeats 4000000 in
theorem xX2_isSideNear_181 {E : en} {ad : Nat → Nat} {Post : Int32 → hs → Prop} (hQ : isQ E ad (pI Post))   (s0 : Int32) (S : hs) (h : PX2_isSideNear_181 Post  s0 S) : X E mX2_isSideNear 0 0 ad S 181 [] [aI s0] := by
  unfold PX2_isSideNear_181 at h
  exact x_zret hQ rfl dX2_isSideNear_181 ⟨h.1, _, rfl, h.2⟩
set_option maxRecDepth 100000 in
set_option maxHeartbeats 4000000 in
theorem xX2_isSideNear_122 {E : en} {ad : Nat → Nat} {Post : Int32 → hs → Prop} (hQ : isQ E ad (pI Post))   (s0 : Int32) (S : hs) (h : PX2_isSideNear_122 Post  s0 S) : X E mX2_isSideNear 0 0 ad S 122 [] [aI s0] := by
  unfold PX2_isSideNear_122 at h
  exact x_zret hQ rfl dX2_isSideNear_122 ⟨h.1, _, rfl, h.2⟩
set_option maxRecDepth 100000 in
set_option maxHeartbeats 4000000 in
theorem ctX2_isSideNear {G : Launch × va_G × (Nat → ClassId) × Nat} {v0 : Nat} {v1 : Int32} {v2 : Int64} {v4 : Int64} {v6 : Int64} {S : hs} {Post : Int32 → hs → Prop} (h : PX2_isSideNear v0 v1 v2 v4 v6 S Post) : ctN G mX2_isSideNear [aA v0, aI v1, aJ v2, aJ v4, aJ v6] S (pI Post) := by
  refine ctN.of (by decide) (Nat.le_of_ble_eq_true rfl) (fun E ad hG hQ => ?_)
  subst hG
  unfold PX2_isSideNear at h
  refine x_aload_n dX2_isSideNear_0 rfl ?_
  refine x_iload_n dX2_isSideNear_1 rfl ?_
  obtain ⟨h1, h⟩ := h
  refine x_callVI (As := [aI v1]) (st := []) kX2_20 rfl ⟨rfl, rfl, by decide, by decide⟩ dX2_isSideNear_2 rfl (Nat.le_of_ble_eq_true rfl) ⟨Nat.zero_le _, Nat.zero_le _⟩ h1 (ctX2_next h) (fun x_2 S_2 h => ?_)
  refine x_istore dX2_isSideNear_5 (by decide) rfl ?_
  refine x_aload_n dX2_isSideNear_7 rfl ?_
  obtain ⟨h1, r_8, hr_8, h⟩ := h
  refine x_g2_0 rfl dX2_isSideNear_8 h1 (x_un hr_8 ?_)
  refine x_iload dX2_isSideNear_11 rfl ?_
  refine x_iald dX2_isSideNear_13 h.1 ?_
  replace h := h.2
  refine x_aload_n dX2_isSideNear_14 rfl ?_
  obtain ⟨h1, r_15, hr_15, h⟩ := h
  refine x_g2_0 rfl dX2_isSideNear_15 h1 (x_un hr_15 ?_)
  refine x_iload_n dX2_isSideNear_18 rfl ?_
  refine x_iald dX2_isSideNear_19 h.1 ?_
  replace h := h.2
  refine x_isub dX2_isSideNear_20 ?_
  refine x_i2l dX2_isSideNear_21 ?_
  refine x_nJ (fun v9_22 hv9_22 => ?_)
  replace h := h v9_22 hv9_22
  refine x_lstore dX2_isSideNear_22 (by decide) rfl ?_
  refine x_aload_n dX2_isSideNear_24 rfl ?_
  obtain ⟨h1, r_25, hr_25, h⟩ := h
  refine x_g2_1 rfl dX2_isSideNear_25 h1 (x_un hr_25 ?_)
  refine x_iload dX2_isSideNear_28 rfl ?_
  refine x_iald dX2_isSideNear_30 h.1 ?_
  replace h := h.2
  refine x_aload_n dX2_isSideNear_31 rfl ?_
  obtain ⟨h1, r_32, hr_32, h⟩ := h
  refine x_g2_1 rfl dX2_isSideNear_32 h1 (x_un hr_32 ?_)
  refine x_iload_n dX2_isSideNear_35 rfl ?_
  refine x_iald dX2_isSideNear_36 h.1 ?_
  replace h := h.2
  refine x_isub dX2_isSideNear_37 ?_
  refine x_i2l dX2_isSideNear_38 ?_
  refine x_nJ (fun v11_39 hv11_39 => ?_)
  replace h := h v11_39 hv11_39
  refine x_lstore dX2_isSideNear_39 (by decide) rfl ?_
  refine x_lload_n dX2_isSideNear_41 rfl ?_
  refine x_aload_n dX2_isSideNear_42 rfl ?_
  obtain ⟨h1, r_43, hr_43, h⟩ := h
  refine x_g2_0 rfl dX2_isSideNear_43 h1 (x_un hr_43 ?_)
  refine x_iload_n dX2_isSideNear_46 rfl ?_
  refine x_iald dX2_isSideNear_47 h.1 ?_
  replace h := h.2
  refine x_i2l dX2_isSideNear_48 ?_
  refine x_lsub dX2_isSideNear_49 ?_
  refine x_nJ (fun v13_50 hv13_50 => ?_)
  replace h := h v13_50 hv13_50
  refine x_lstore dX2_isSideNear_50 (by decide) rfl ?_
  refine x_lload dX2_isSideNear_52 rfl ?_
  refine x_aload_n dX2_isSideNear_54 rfl ?_
  obtain ⟨h1, r_55, hr_55, h⟩ := h
  refine x_g2_1 rfl dX2_isSideNear_55 h1 (x_un hr_55 ?_)
  refine x_iload_n dX2_isSideNear_58 rfl ?_
  refine x_iald dX2_isSideNear_59 h.1 ?_
  replace h := h.2
  refine x_i2l dX2_isSideNear_60 ?_
  refine x_lsub dX2_isSideNear_61 ?_
  refine x_nJ (fun v15_62 hv15_62 => ?_)
  replace h := h v15_62 hv15_62
  refine x_lstore dX2_isSideNear_62 (by decide) rfl ?_
  refine x_lload dX2_isSideNear_64 rfl ?_
  refine x_lload dX2_isSideNear_66 rfl ?_
  refine x_lmul dX2_isSideNear_68 ?_
  refine x_lload dX2_isSideNear_69 rfl ?_
  refine x_lload dX2_isSideNear_71 rfl ?_
  refine x_lmul dX2_isSideNear_73 ?_
  refine x_ladd dX2_isSideNear_74 ?_
  refine x_nJ (fun v17_75 hv17_75 => ?_)
  replace h := h v17_75 hv17_75
  refine x_lstore dX2_isSideNear_75 (by decide) rfl ?_
  refine x_lload dX2_isSideNear_77 rfl ?_
  refine x_lload dX2_isSideNear_79 rfl ?_
  refine x_lmul dX2_isSideNear_81 ?_
  refine x_lload dX2_isSideNear_82 rfl ?_
  refine x_lload dX2_isSideNear_84 rfl ?_
  refine x_lmul dX2_isSideNear_86 ?_
  refine x_ladd dX2_isSideNear_87 ?_
  refine x_nJ (fun v19_88 hv19_88 => ?_)
  replace h := h v19_88 hv19_88
  refine x_lstore dX2_isSideNear_88 (by decide) rfl ?_
  refine x_lload dX2_isSideNear_90 rfl ?_
  refine x_lconst (v := 0) dX2_isSideNear_92 (by decide) ?_
  refine x_lcmp_gt (tgt := 123) dX2_isSideNear_93 dX2_isSideNear_94 (by decide) (fun c => ?_) (fun c => ?_)
  · replace h := h.1 c
    refine x_lload dX2_isSideNear_123 rfl ?_
    refine x_lload dX2_isSideNear_125 rfl ?_
    refine x_lcmp_lt (tgt := 182) dX2_isSideNear_127 dX2_isSideNear_128 (by decide) (fun c => ?_) (fun c => ?_)
    · replace h := h.1 c
      refine x_aload_n dX2_isSideNear_182 rfl ?_
      refine x_iload_n dX2_isSideNear_183 rfl ?_
      refine x_lload_n dX2_isSideNear_184 rfl ?_
      refine x_lload dX2_isSideNear_185 rfl ?_
      refine x_lconst (v := 1) dX2_isSideNear_187 (by decide) ?_
      obtain ⟨h1, h⟩ := h
      refine x_callVJ (As := [aI v1, aJ v2, aJ v4, aJ 1]) (st := []) kX2_32 rfl ⟨rfl, rfl, by decide, by decide⟩ dX2_isSideNear_188 rfl (Nat.le_of_ble_eq_true rfl) ⟨Nat.zero_le _, Nat.zero_le _⟩ h1 (ctX2_turn h) (fun x_188 S_188 h => ?_)
      refine x_lstore dX2_isSideNear_191 (by decide) rfl ?_
      refine x_lload dX2_isSideNear_193 rfl ?_
      refine x_lload dX2_isSideNear_195 rfl ?_
      refine x_lmul dX2_isSideNear_197 ?_
      refine x_lload dX2_isSideNear_198 rfl ?_
      refine x_lload dX2_isSideNear_200 rfl ?_
      refine x_lmul dX2_isSideNear_202 ?_
      refine x_lload dX2_isSideNear_203 rfl ?_
      refine x_lmul dX2_isSideNear_205 ?_
      refine x_lcmp_gt (tgt := 214) dX2_isSideNear_206 dX2_isSideNear_207 (by decide) (fun c => ?_) (fun c => ?_)
      · replace h := h.1 c
        refine x_iconst (v := 0) dX2_isSideNear_214 (by decide) ?_
        refine x_lv (lv' := []) trivial ?_
        exact xX2_isSideNear_215 hQ  _ _ h
      · replace h := h.2 c
        refine x_iconst (v := 1) dX2_isSideNear_210 (by decide) ?_
        refine x_goto (tgt := 215) dX2_isSideNear_211 (by decide) ?_
        refine x_lv (lv' := []) trivial ?_
        exact xX2_isSideNear_215 hQ  _ _ h
    · replace h := h.2 c
      refine x_lload_n dX2_isSideNear_131 rfl ?_
      refine x_aload_n dX2_isSideNear_132 rfl ?_
      obtain ⟨h1, r_133, hr_133, h⟩ := h
      refine x_g2_0 rfl dX2_isSideNear_133 h1 (x_un hr_133 ?_)
      refine x_iload dX2_isSideNear_136 rfl ?_
      refine x_iald dX2_isSideNear_138 h.1 ?_
      replace h := h.2
      refine x_i2l dX2_isSideNear_139 ?_
      refine x_lsub dX2_isSideNear_140 ?_
      refine x_nJ (fun v21_141 hv21_141 => ?_)
      replace h := h v21_141 hv21_141
      refine x_lstore dX2_isSideNear_141 (by decide) rfl ?_
      refine x_lload dX2_isSideNear_143 rfl ?_
      refine x_aload_n dX2_isSideNear_145 rfl ?_
      obtain ⟨h1, r_146, hr_146, h⟩ := h
      refine x_g2_1 rfl dX2_isSideNear_146 h1 (x_un hr_146 ?_)
      refine x_iload dX2_isSideNear_149 rfl ?_
      refine x_iald dX2_isSideNear_151 h.1 ?_
      replace h := h.2
      refine x_i2l dX2_isSideNear_152 ?_
      refine x_lsub dX2_isSideNear_153 ?_
      refine x_nJ (fun v23_154 hv23_154 => ?_)
      replace h := h v23_154 hv23_154
      refine x_lstore dX2_isSideNear_154 (by decide) rfl ?_
      refine x_lload dX2_isSideNear_156 rfl ?_
      refine x_lload dX2_isSideNear_158 rfl ?_
      refine x_lmul dX2_isSideNear_160 ?_
      refine x_lload dX2_isSideNear_161 rfl ?_
      refine x_lload dX2_isSideNear_163 rfl ?_
      refine x_lmul dX2_isSideNear_165 ?_
      refine x_ladd dX2_isSideNear_166 ?_
      refine x_lload dX2_isSideNear_167 rfl ?_
      refine x_lload dX2_isSideNear_169 rfl ?_
      refine x_lmul dX2_isSideNear_171 ?_
      refine x_lcmp_gt (tgt := 180) dX2_isSideNear_172 dX2_isSideNear_173 (by decide) (fun c => ?_) (fun c => ?_)
      · replace h := h.1 c
        refine x_iconst (v := 0) dX2_isSideNear_180 (by decide) ?_
        refine x_lv (lv' := []) trivial ?_
        exact xX2_isSideNear_181 hQ  _ _ h
      · replace h := h.2 c
        refine x_iconst (v := 1) dX2_isSideNear_176 (by decide) ?_
        refine x_goto (tgt := 181) dX2_isSideNear_177 (by decide) ?_
        refine x_lv (lv' := []) trivial ?_
        exact xX2_isSideNear_181 hQ  _ _ h
  · replace h := h.2 c
    refine x_lload dX2_isSideNear_97 rfl ?_
    refine x_lload dX2_isSideNear_99 rfl ?_
    refine x_lmul dX2_isSideNear_101 ?_
    refine x_lload dX2_isSideNear_102 rfl ?_
    refine x_lload dX2_isSideNear_104 rfl ?_
    refine x_lmul dX2_isSideNear_106 ?_
    refine x_ladd dX2_isSideNear_107 ?_
    refine x_lload dX2_isSideNear_108 rfl ?_
    refine x_lload dX2_isSideNear_110 rfl ?_
    refine x_lmul dX2_isSideNear_112 ?_
    refine x_lcmp_gt (tgt := 121) dX2_isSideNear_113 dX2_isSideNear_114 (by decide) (fun c => ?_) (fun c => ?_)
    · replace h := h.1 c
      refine x_iconst (v := 0) dX2_isSideNear_121 (by decide) ?_
      refine x_lv (lv' := []) trivial ?_
      exact xX2_isSideNear_122 hQ  _ _ h
    · replace h := h.2 c
      refine x_iconst (v := 1) dX2_isSideNear_117 (by decide) ?_
      refine x_goto (tgt := 122) dX2_isSideNear_118 (by decide) ?_
      refine x_lv (lv' := []) trivial ?_
      exact xX2_isSideNear_122 hQ  _ _ h
set_option maxRecDepth 100000 in
set_option maxHeartbeats 4000000 in
theorem xX2_isNear_3 {E : en} {ad : Nat → Nat} {Post : Int32 → hs → Prop} (hQ : isQ E ad (pI Post))   : ∀ (n : Nat) (v0 : Nat) (v1 : Int64) (v3 : Int64) (v5 : Int64) (v7 : Int32) (S : hs) (_ : PX2_isNear_3 Post  n v0 v1 v3 v5 v7 S), X E mX2_isNear 0 0 ad S 3 [(0, aA v0), (1, aJ v1), (3, aJ v3), (5, aJ v5), (7, aI v7)] [] := by
  intro n
  induction n with
  | zero => intro v0 v1 v3 v5 v7 S h; exact h.elim
  | succ n ih =>
    intro v0 v1 v3 v5 v7 S h
    have hK3 := ih
    simp only [PX2_isNear_3] at h
    refine x_iload dX2_isNear_3 rfl ?_
    refine x_aload_n dX2_isNear_5 rfl ?_
    refine x_g2_2 rfl dX2_isNear_6 h.1 ?_
    replace h := h.2
    refine x_icmp_ge (tgt := 33) dX2_isNear_9 (by decide) (fun c => ?_) (fun c => ?_)
    · replace h := h.1 c
      refine x_iconst (v := 0) dX2_isNear_33 (by decide) ?_
      exact x_zret hQ rfl dX2_isNear_34 ⟨Or.inl rfl, _, rfl, h⟩
    · replace h := h.2 c
      refine x_aload_n dX2_isNear_12 rfl ?_
      refine x_iload dX2_isNear_13 rfl ?_
      refine x_lload_n dX2_isNear_15 rfl ?_
      refine x_lload_n dX2_isNear_16 rfl ?_
      refine x_lload dX2_isNear_17 rfl ?_
      obtain ⟨h1, h⟩ := h
      refine x_callVI (As := [aI v7, aJ v1, aJ v3, aJ v5]) (st := []) kX2_63 rfl ⟨rfl, rfl, by decide, by decide⟩ dX2_isNear_19 rfl (Nat.le_of_ble_eq_true rfl) ⟨Nat.zero_le _, Nat.zero_le _⟩ h1 (ctX2_isSideNear h) (fun x_19 S_19 h => ?_)
      refine x_if_eq (tgt := 27) dX2_isNear_22 (by decide) (fun c => ?_) (fun c => ?_)
      · replace h := h.1 c
        obtain ⟨v7_27, hv7_27⟩ : ∃ y : Int32, y = v7 + 1 := ⟨_, rfl⟩
        replace h := h v7_27 hv7_27
        refine x_iinc (v := v7_27) dX2_isNear_27 rfl (by rw [hv7_27]; rfl) (by decide) rfl ?_
        refine x_goto (tgt := 3) dX2_isNear_30 (by decide) ?_
        refine x_lv (lv' := [(0, aA v0), (1, aJ v1), (3, aJ v3), (5, aJ v5), (7, aI v7_27)]) ⟨rfl, rfl, rfl, rfl, rfl, trivial⟩ ?_
        exact hK3 _ _ _ _ _ _ h
      · replace h := h.2 c
        refine x_iconst (v := 1) dX2_isNear_25 (by decide) ?_
        exact x_zret hQ rfl dX2_isNear_26 ⟨Or.inr rfl, _, rfl, h⟩
set_option maxRecDepth 100000 in
set_option maxHeartbeats 4000000 in
theorem ctX2_isNear {G : Launch × va_G × (Nat → ClassId) × Nat} {v0 : Nat} {v1 : Int64} {v3 : Int64} {v5 : Int64} {S : hs} {Post : Int32 → hs → Prop} (h : PX2_isNear v0 v1 v3 v5 S Post) : ctN G mX2_isNear [aA v0, aJ v1, aJ v3, aJ v5] S (pI Post) := by
  refine ctN.of (by decide) (Nat.le_of_ble_eq_true rfl) (fun E ad hG hQ => ?_)
  subst hG
  unfold PX2_isNear at h
  refine x_iconst (v := 0) dX2_isNear_0 (by decide) ?_
  refine x_istore dX2_isNear_1 (by decide) rfl ?_
  refine x_lv (lv' := [(0, aA v0), (1, aJ v1), (3, aJ v3), (5, aJ v5), (7, aI 0)]) ⟨rfl, rfl, rfl, rfl, rfl, trivial⟩ ?_
  obtain ⟨n, h⟩ := h
  exact xX2_isNear_3 hQ  n _ _ _ _ _ _ h
set_option maxRecDepth 100000 in
set_option maxHeartbeats 4000000 in
theorem xX0_isInOrNear_3 {E : en} {ad : Nat → Nat} {Post : Int32 → hs → Prop} (hQ : isQ E ad (pI Post))   : ∀ (n : Nat) (v0 : Nat) (v1 : Int64) (v3 : Int64) (v5 : Int64) (v7 : Int32) (S : hs) (_ : PX0_isInOrNear_3 Post  n v0 v1 v3 v5 v7 S), X E mX0_isInOrNear 0 0 ad S 3 [(0, aA v0), (1, aJ v1), (3, aJ v3), (5, aJ v5), (7, aI v7)] [] := by
  intro n
  induction n with
  | zero => intro v0 v1 v3 v5 v7 S h; exact h.elim
  | succ n ih =>
    intro v0 v1 v3 v5 v7 S h
    have hK3 := ih
    simp only [PX0_isInOrNear_3] at h
    refine x_iload dX0_isInOrNear_3 rfl ?_
    refine x_aload_n dX0_isInOrNear_5 rfl ?_
    refine x_g0_1 rfl dX0_isInOrNear_6 h.1 ?_
    replace h := h.2
    refine x_icmp_ge (tgt := 36) dX0_isInOrNear_9 (by decide) (fun c => ?_) (fun c => ?_)
    · replace h := h.1 c
      refine x_aload_n dX0_isInOrNear_36 rfl ?_
      refine x_lload_n dX0_isInOrNear_37 rfl ?_
      refine x_lload_n dX0_isInOrNear_38 rfl ?_
      refine x_lconst (v := 1) dX0_isInOrNear_39 (by decide) ?_
      obtain ⟨h1, h⟩ := h
      refine x_callVI (As := [aJ v1, aJ v3, aJ 1]) (st := []) kX0_68 rfl ⟨rfl, rfl, by decide, by decide⟩ dX0_isInOrNear_40 rfl (Nat.le_of_ble_eq_true rfl) ⟨Nat.zero_le _, Nat.zero_le _⟩ h1 (ctX0_contains h) (fun x_40 S_40 h => ?_)
      exact x_zret hQ rfl dX0_isInOrNear_43 ⟨h.1, _, rfl, h.2⟩
    · replace h := h.2 c
      refine x_aload_n dX0_isInOrNear_12 rfl ?_
      refine x_iload dX0_isInOrNear_13 rfl ?_
      obtain ⟨h1, h⟩ := h
      refine x_callVR (As := [aI v7]) (st := []) kX0_54 rfl ⟨rfl, rfl, by decide, by decide⟩ dX0_isInOrNear_15 rfl (Nat.le_of_ble_eq_true rfl) ⟨Nat.zero_le _, Nat.zero_le _⟩ h1 (ctX0_ringOf h) (fun x_15 S_15 h => ?_)
      obtain ⟨r_15, hr_15, h⟩ := h
      refine x_un hr_15 ?_
      refine x_lload_n dX0_isInOrNear_18 rfl ?_
      refine x_lload_n dX0_isInOrNear_19 rfl ?_
      refine x_lload dX0_isInOrNear_20 rfl ?_
      obtain ⟨h1, h⟩ := h
      refine x_callVI (As := [aJ v1, aJ v3, aJ v5]) (st := []) kX0_79 rfl ⟨rfl, rfl, by decide, by decide⟩ dX0_isInOrNear_22 rfl (Nat.le_of_ble_eq_true rfl) ⟨Nat.zero_le _, Nat.zero_le _⟩ h1 (ctX2_isNear h) (fun x_22 S_22 h => ?_)
      refine x_if_eq (tgt := 30) dX0_isInOrNear_25 (by decide) (fun c => ?_) (fun c => ?_)
      · replace h := h.1 c
        obtain ⟨v7_30, hv7_30⟩ : ∃ y : Int32, y = v7 + 1 := ⟨_, rfl⟩
        replace h := h v7_30 hv7_30
        refine x_iinc (v := v7_30) dX0_isInOrNear_30 rfl (by rw [hv7_30]; rfl) (by decide) rfl ?_
        refine x_goto (tgt := 3) dX0_isInOrNear_33 (by decide) ?_
        refine x_lv (lv' := [(0, aA v0), (1, aJ v1), (3, aJ v3), (5, aJ v5), (7, aI v7_30)]) ⟨rfl, rfl, rfl, rfl, rfl, trivial⟩ ?_
        exact hK3 _ _ _ _ _ _ h
      · replace h := h.2 c
        refine x_iconst (v := 1) dX0_isInOrNear_28 (by decide) ?_
        exact x_zret hQ rfl dX0_isInOrNear_29 ⟨Or.inr rfl, _, rfl, h⟩
set_option maxRecDepth 100000 in
set_option maxHeartbeats 4000000 in
theorem ctX0_isInOrNear {G : Launch × va_G × (Nat → ClassId) × Nat} {v0 : Nat} {v1 : Int64} {v3 : Int64} {v5 : Int64} {S : hs} {Post : Int32 → hs → Prop} (h : PX0_isInOrNear v0 v1 v3 v5 S Post) : ctN G mX0_isInOrNear [aA v0, aJ v1, aJ v3, aJ v5] S (pI Post) := by
  refine ctN.of (by decide) (Nat.le_of_ble_eq_true rfl) (fun E ad hG hQ => ?_)
  subst hG
  unfold PX0_isInOrNear at h
  refine x_iconst (v := 0) dX0_isInOrNear_0 (by decide) ?_
  refine x_istore dX0_isInOrNear_1 (by decide) rfl ?_
  refine x_lv (lv' := [(0, aA v0), (1, aJ v1), (3, aJ v3), (5, aJ v5), (7, aI 0)]) ⟨rfl, rfl, rfl, rfl, rfl, trivial⟩ ?_
  obtain ⟨n, h⟩ := h
  exact xX0_isInOrNear_3 hQ  n _ _ _ _ _ _ h
set_option maxRecDepth 100000 in
set_option maxHeartbeats 4000000 in
theorem ctX1_clear {G : Launch × va_G × (Nat → ClassId) × Nat} {v0 : Nat} {S : hs} {Post : hs → Prop} (h : PX1_clear v0 S Post) : ctN G mX1_clear [aA v0] S (pV Post) := by
  refine ctN.of (by decide) (Nat.le_of_ble_eq_true rfl) (fun E ad hG hQ => ?_)
  subst hG
  unfold PX1_clear at h
  refine x_aload_n dX1_clear_0 rfl ?_
  refine x_iconst (v := 0) dX1_clear_1 (by decide) ?_
  obtain ⟨h1, h⟩ := h
  refine x_p1_5 rfl dX1_clear_2 h1 (x_nS (fun S_2 hS_2 => ?_))
  replace h := h S_2 hS_2
  exact x_vret hQ rfl dX1_clear_5 ⟨rfl, h⟩
set_option maxRecDepth 100000 in
set_option maxHeartbeats 4000000 in
theorem ctX1_size {G : Launch × va_G × (Nat → ClassId) × Nat} {v0 : Nat} {S : hs} {Post : Int32 → hs → Prop} (h : PX1_size v0 S Post) : ctN G mX1_size [aA v0] S (pI Post) := by
  refine ctN.of (by decide) (Nat.le_of_ble_eq_true rfl) (fun E ad hG hQ => ?_)
  subst hG
  unfold PX1_size at h
  refine x_aload_n dX1_size_0 rfl ?_
  refine x_g1_5 rfl dX1_size_1 h.1 ?_
  replace h := h.2
  exact x_iret hQ rfl dX1_size_4 ⟨_, rfl, h⟩
set_option maxRecDepth 100000 in
set_option maxHeartbeats 4000000 in
theorem xX1_has_17 {E : en} {ad : Nat → Nat} {Post : Int32 → hs → Prop} (hQ : isQ E ad (pI Post))   (s0 : Int32) (S : hs) (h : PX1_has_17 Post  s0 S) : X E mX1_has 0 0 ad S 17 [] [aI s0] := by
  unfold PX1_has_17 at h
  exact x_zret hQ rfl dX1_has_17 ⟨h.1, _, rfl, h.2⟩
set_option maxRecDepth 100000 in
set_option maxHeartbeats 4000000 in
theorem xX1_has_16 {E : en} {ad : Nat → Nat} {Post : Int32 → hs → Prop} (hQ : isQ E ad (pI Post))    (S : hs) (h : PX1_has_16 Post   S) : X E mX1_has 0 0 ad S 16 [] [] := by
  unfold PX1_has_16 at h
  refine x_iconst (v := 0) dX1_has_16 (by decide) ?_
  refine x_lv (lv' := []) trivial ?_
  exact xX1_has_17 hQ  _ _ h
set_option maxRecDepth 100000 in
set_option maxHeartbeats 4000000 in
theorem ctX1_has {G : Launch × va_G × (Nat → ClassId) × Nat} {v0 : Nat} {v1 : Int32} {S : hs} {Post : Int32 → hs → Prop} (h : PX1_has v0 v1 S Post) : ctN G mX1_has [aA v0, aI v1] S (pI Post) := by
  refine ctN.of (by decide) (Nat.le_of_ble_eq_true rfl) (fun E ad hG hQ => ?_)
  subst hG
  unfold PX1_has at h
  refine x_iload_n dX1_has_0 rfl ?_
  refine x_if_lt (tgt := 16) dX1_has_1 (by decide) (fun c => ?_) (fun c => ?_)
  · replace h := h.1 c
    refine x_lv (lv' := []) trivial ?_
    exact xX1_has_16 hQ   _ h
  · replace h := h.2 c
    refine x_iload_n dX1_has_4 rfl ?_
    refine x_aload_n dX1_has_5 rfl ?_
    refine x_g1_5 rfl dX1_has_6 h.1 ?_
    replace h := h.2
    refine x_icmp_ge (tgt := 16) dX1_has_9 (by decide) (fun c => ?_) (fun c => ?_)
    · replace h := h.1 c
      refine x_lv (lv' := []) trivial ?_
      exact xX1_has_16 hQ   _ h
    · replace h := h.2 c
      refine x_iconst (v := 1) dX1_has_12 (by decide) ?_
      refine x_goto (tgt := 17) dX1_has_13 (by decide) ?_
      refine x_lv (lv' := []) trivial ?_
      exact xX1_has_17 hQ  _ _ h
set_option maxRecDepth 100000 in
set_option maxHeartbeats 4000000 in
theorem ctX1_add {G : Launch × va_G × (Nat → ClassId) × Nat} {v0 : Nat} {v1 : Int32} {v2 : Int32} {v3 : Int32} {v4 : Int64} {v6 : Int64} {S : hs} {Post : Int32 → hs → Prop} (h : PX1_add v0 v1 v2 v3 v4 v6 S Post) : ctN G mX1_add [aA v0, aI v1, aI v2, aI v3, aJ v4, aJ v6] S (pI Post) := by
  refine ctN.of (by decide) (Nat.le_of_ble_eq_true rfl) (fun E ad hG hQ => ?_)
  subst hG
  unfold PX1_add at h
  refine x_aload_n dX1_add_0 rfl ?_
  refine x_g1_5 rfl dX1_add_1 h.1 ?_
  replace h := h.2
  refine x_sipush (v := 300) dX1_add_4 (by decide) ?_
  refine x_icmp_lt (tgt := 12) dX1_add_7 (by decide) (fun c => ?_) (fun c => ?_)
  · replace h := h.1 c
    refine x_aload_n dX1_add_12 rfl ?_
    obtain ⟨h1, r_13, hr_13, h⟩ := h
    refine x_g1_0 rfl dX1_add_13 h1 (x_un hr_13 ?_)
    refine x_aload_n dX1_add_16 rfl ?_
    refine x_g1_5 rfl dX1_add_17 h.1 ?_
    replace h := h.2
    refine x_iload_n dX1_add_20 rfl ?_
    obtain ⟨h1, h⟩ := h
    refine x_iast dX1_add_21 h1 (x_nS (fun S_21 hS_21 => ?_))
    replace h := h S_21 hS_21
    refine x_aload_n dX1_add_22 rfl ?_
    obtain ⟨h1, r_23, hr_23, h⟩ := h
    refine x_g1_1 rfl dX1_add_23 h1 (x_un hr_23 ?_)
    refine x_aload_n dX1_add_26 rfl ?_
    refine x_g1_5 rfl dX1_add_27 h.1 ?_
    replace h := h.2
    refine x_iload_n dX1_add_30 rfl ?_
    obtain ⟨h1, h⟩ := h
    refine x_iast dX1_add_31 h1 (x_nS (fun S_31 hS_31 => ?_))
    replace h := h S_31 hS_31
    refine x_aload_n dX1_add_32 rfl ?_
    obtain ⟨h1, r_33, hr_33, h⟩ := h
    refine x_g1_2 rfl dX1_add_33 h1 (x_un hr_33 ?_)
    refine x_aload_n dX1_add_36 rfl ?_
    refine x_g1_5 rfl dX1_add_37 h.1 ?_
    replace h := h.2
    refine x_iload_n dX1_add_40 rfl ?_
    obtain ⟨h1, h2, h⟩ := h
    refine x_zast dX1_add_41 h1 h2 (x_nS (fun S_41 hS_41 => ?_))
    replace h := h S_41 hS_41
    refine x_aload_n dX1_add_42 rfl ?_
    obtain ⟨h1, r_43, hr_43, h⟩ := h
    refine x_g1_3 rfl dX1_add_43 h1 (x_un hr_43 ?_)
    refine x_aload_n dX1_add_46 rfl ?_
    refine x_g1_5 rfl dX1_add_47 h.1 ?_
    replace h := h.2
    refine x_lload dX1_add_50 rfl ?_
    obtain ⟨h1, h⟩ := h
    refine x_last dX1_add_52 h1 (x_nS (fun S_52 hS_52 => ?_))
    replace h := h S_52 hS_52
    refine x_aload_n dX1_add_53 rfl ?_
    obtain ⟨h1, r_54, hr_54, h⟩ := h
    refine x_g1_4 rfl dX1_add_54 h1 (x_un hr_54 ?_)
    refine x_aload_n dX1_add_57 rfl ?_
    refine x_g1_5 rfl dX1_add_58 h.1 ?_
    replace h := h.2
    refine x_lload dX1_add_61 rfl ?_
    obtain ⟨h1, h⟩ := h
    refine x_last dX1_add_63 h1 (x_nS (fun S_63 hS_63 => ?_))
    replace h := h S_63 hS_63
    refine x_aload_n dX1_add_64 rfl ?_
    refine x_dupR dX1_add_65 ?_
    refine x_g1_5 rfl dX1_add_66 h.1 ?_
    replace h := h.2
    refine x_iconst (v := 1) dX1_add_69 (by decide) ?_
    refine x_iadd dX1_add_70 ?_
    obtain ⟨h1, h⟩ := h
    refine x_p1_5 rfl dX1_add_71 h1 (x_nS (fun S_71 hS_71 => ?_))
    replace h := h S_71 hS_71
    refine x_iconst (v := 1) dX1_add_74 (by decide) ?_
    exact x_zret hQ rfl dX1_add_75 ⟨Or.inr rfl, _, rfl, h⟩
  · replace h := h.2 c
    refine x_iconst (v := 0) dX1_add_10 (by decide) ?_
    exact x_zret hQ rfl dX1_add_11 ⟨Or.inl rfl, _, rfl, h⟩
set_option maxRecDepth 100000 in
set_option maxHeartbeats 4000000 in
theorem xX1_pieceOf_18 {E : en} {ad : Nat → Nat} {Post : Int32 → hs → Prop} (hQ : isQ E ad (pI Post))   (s0 : Int32) (S : hs) (h : PX1_pieceOf_18 Post  s0 S) : X E mX1_pieceOf 0 0 ad S 18 [] [aI s0] := by
  unfold PX1_pieceOf_18 at h
  exact x_iret hQ rfl dX1_pieceOf_18 ⟨_, rfl, h⟩
set_option maxRecDepth 100000 in
set_option maxHeartbeats 4000000 in
theorem ctX1_pieceOf {G : Launch × va_G × (Nat → ClassId) × Nat} {v0 : Nat} {v1 : Int32} {S : hs} {Post : Int32 → hs → Prop} (h : PX1_pieceOf v0 v1 S Post) : ctN G mX1_pieceOf [aA v0, aI v1] S (pI Post) := by
  refine ctN.of (by decide) (Nat.le_of_ble_eq_true rfl) (fun E ad hG hQ => ?_)
  subst hG
  unfold PX1_pieceOf at h
  refine x_aload_n dX1_pieceOf_0 rfl ?_
  refine x_iload_n dX1_pieceOf_1 rfl ?_
  obtain ⟨h1, h⟩ := h
  refine x_callVI (As := [aI v1]) (st := []) kX1_31 rfl ⟨rfl, rfl, by decide, by decide⟩ dX1_pieceOf_2 rfl (Nat.le_of_ble_eq_true rfl) ⟨Nat.zero_le _, Nat.zero_le _⟩ h1 (ctX1_has h) (fun x_2 S_2 h => ?_)
  refine x_if_eq (tgt := 17) dX1_pieceOf_5 (by decide) (fun c => ?_) (fun c => ?_)
  · replace h := h.1 c
    refine x_iconst (v := (-1)) dX1_pieceOf_17 (by decide) ?_
    refine x_lv (lv' := []) trivial ?_
    exact xX1_pieceOf_18 hQ  _ _ h
  · replace h := h.2 c
    refine x_aload_n dX1_pieceOf_8 rfl ?_
    obtain ⟨h1, r_9, hr_9, h⟩ := h
    refine x_g1_0 rfl dX1_pieceOf_9 h1 (x_un hr_9 ?_)
    refine x_iload_n dX1_pieceOf_12 rfl ?_
    refine x_iald dX1_pieceOf_13 h.1 ?_
    replace h := h.2
    refine x_goto (tgt := 18) dX1_pieceOf_14 (by decide) ?_
    refine x_lv (lv' := []) trivial ?_
    exact xX1_pieceOf_18 hQ  _ _ h
set_option maxRecDepth 100000 in
set_option maxHeartbeats 4000000 in
theorem xX1_areaOf_18 {E : en} {ad : Nat → Nat} {Post : Int32 → hs → Prop} (hQ : isQ E ad (pI Post))   (s0 : Int32) (S : hs) (h : PX1_areaOf_18 Post  s0 S) : X E mX1_areaOf 0 0 ad S 18 [] [aI s0] := by
  unfold PX1_areaOf_18 at h
  exact x_iret hQ rfl dX1_areaOf_18 ⟨_, rfl, h⟩
set_option maxRecDepth 100000 in
set_option maxHeartbeats 4000000 in
theorem ctX1_areaOf {G : Launch × va_G × (Nat → ClassId) × Nat} {v0 : Nat} {v1 : Int32} {S : hs} {Post : Int32 → hs → Prop} (h : PX1_areaOf v0 v1 S Post) : ctN G mX1_areaOf [aA v0, aI v1] S (pI Post) := by
  refine ctN.of (by decide) (Nat.le_of_ble_eq_true rfl) (fun E ad hG hQ => ?_)
  subst hG
  unfold PX1_areaOf at h
  refine x_aload_n dX1_areaOf_0 rfl ?_
  refine x_iload_n dX1_areaOf_1 rfl ?_
  obtain ⟨h1, h⟩ := h
  refine x_callVI (As := [aI v1]) (st := []) kX1_31 rfl ⟨rfl, rfl, by decide, by decide⟩ dX1_areaOf_2 rfl (Nat.le_of_ble_eq_true rfl) ⟨Nat.zero_le _, Nat.zero_le _⟩ h1 (ctX1_has h) (fun x_2 S_2 h => ?_)
  refine x_if_eq (tgt := 17) dX1_areaOf_5 (by decide) (fun c => ?_) (fun c => ?_)
  · replace h := h.1 c
    refine x_iconst (v := (-1)) dX1_areaOf_17 (by decide) ?_
    refine x_lv (lv' := []) trivial ?_
    exact xX1_areaOf_18 hQ  _ _ h
  · replace h := h.2 c
    refine x_aload_n dX1_areaOf_8 rfl ?_
    obtain ⟨h1, r_9, hr_9, h⟩ := h
    refine x_g1_1 rfl dX1_areaOf_9 h1 (x_un hr_9 ?_)
    refine x_iload_n dX1_areaOf_12 rfl ?_
    refine x_iald dX1_areaOf_13 h.1 ?_
    replace h := h.2
    refine x_goto (tgt := 18) dX1_areaOf_14 (by decide) ?_
    refine x_lv (lv' := []) trivial ?_
    exact xX1_areaOf_18 hQ  _ _ h
set_option maxRecDepth 100000 in
set_option maxHeartbeats 4000000 in
theorem xX1_isEntering_22 {E : en} {ad : Nat → Nat} {Post : Int32 → hs → Prop} (hQ : isQ E ad (pI Post))   (s0 : Int32) (S : hs) (h : PX1_isEntering_22 Post  s0 S) : X E mX1_isEntering 0 0 ad S 22 [] [aI s0] := by
  unfold PX1_isEntering_22 at h
  exact x_zret hQ rfl dX1_isEntering_22 ⟨h.1, _, rfl, h.2⟩
set_option maxRecDepth 100000 in
set_option maxHeartbeats 4000000 in
theorem xX1_isEntering_21 {E : en} {ad : Nat → Nat} {Post : Int32 → hs → Prop} (hQ : isQ E ad (pI Post))    (S : hs) (h : PX1_isEntering_21 Post   S) : X E mX1_isEntering 0 0 ad S 21 [] [] := by
  unfold PX1_isEntering_21 at h
  refine x_iconst (v := 0) dX1_isEntering_21 (by decide) ?_
  refine x_lv (lv' := []) trivial ?_
  exact xX1_isEntering_22 hQ  _ _ h
set_option maxRecDepth 100000 in
set_option maxHeartbeats 4000000 in
theorem ctX1_isEntering {G : Launch × va_G × (Nat → ClassId) × Nat} {v0 : Nat} {v1 : Int32} {S : hs} {Post : Int32 → hs → Prop} (h : PX1_isEntering v0 v1 S Post) : ctN G mX1_isEntering [aA v0, aI v1] S (pI Post) := by
  refine ctN.of (by decide) (Nat.le_of_ble_eq_true rfl) (fun E ad hG hQ => ?_)
  subst hG
  unfold PX1_isEntering at h
  refine x_aload_n dX1_isEntering_0 rfl ?_
  refine x_iload_n dX1_isEntering_1 rfl ?_
  obtain ⟨h1, h⟩ := h
  refine x_callVI (As := [aI v1]) (st := []) kX1_31 rfl ⟨rfl, rfl, by decide, by decide⟩ dX1_isEntering_2 rfl (Nat.le_of_ble_eq_true rfl) ⟨Nat.zero_le _, Nat.zero_le _⟩ h1 (ctX1_has h) (fun x_2 S_2 h => ?_)
  refine x_if_eq (tgt := 21) dX1_isEntering_5 (by decide) (fun c => ?_) (fun c => ?_)
  · replace h := h.1 c
    refine x_lv (lv' := []) trivial ?_
    exact xX1_isEntering_21 hQ   _ h
  · replace h := h.2 c
    refine x_aload_n dX1_isEntering_8 rfl ?_
    obtain ⟨h1, r_9, hr_9, h⟩ := h
    refine x_g1_2 rfl dX1_isEntering_9 h1 (x_un hr_9 ?_)
    refine x_iload_n dX1_isEntering_12 rfl ?_
    refine x_zald dX1_isEntering_13 h.1 ?_
    replace h := h.2
    refine x_if_eq (tgt := 21) dX1_isEntering_14 (by decide) (fun c => ?_) (fun c => ?_)
    · replace h := h.1 c
      refine x_lv (lv' := []) trivial ?_
      exact xX1_isEntering_21 hQ   _ h
    · replace h := h.2 c
      refine x_iconst (v := 1) dX1_isEntering_17 (by decide) ?_
      refine x_goto (tgt := 22) dX1_isEntering_18 (by decide) ?_
      refine x_lv (lv' := []) trivial ?_
      exact xX1_isEntering_22 hQ  _ _ h
set_option maxRecDepth 100000 in
set_option maxHeartbeats 4000000 in
theorem xX1_overOf_20 {E : en} {ad : Nat → Nat} {Post : Int64 → hs → Prop} (hQ : isQ E ad (pJ Post))   (s0 : Int64) (S : hs) (h : PX1_overOf_20 Post  s0 S) : X E mX1_overOf 0 0 ad S 20 [] [aJ s0] := by
  unfold PX1_overOf_20 at h
  exact x_lret hQ rfl dX1_overOf_20 ⟨_, rfl, h⟩
set_option maxRecDepth 100000 in
set_option maxHeartbeats 4000000 in
theorem ctX1_overOf {G : Launch × va_G × (Nat → ClassId) × Nat} {v0 : Nat} {v1 : Int32} {S : hs} {Post : Int64 → hs → Prop} (h : PX1_overOf v0 v1 S Post) : ctN G mX1_overOf [aA v0, aI v1] S (pJ Post) := by
  refine ctN.of (by decide) (Nat.le_of_ble_eq_true rfl) (fun E ad hG hQ => ?_)
  subst hG
  unfold PX1_overOf at h
  refine x_aload_n dX1_overOf_0 rfl ?_
  refine x_iload_n dX1_overOf_1 rfl ?_
  obtain ⟨h1, h⟩ := h
  refine x_callVI (As := [aI v1]) (st := []) kX1_31 rfl ⟨rfl, rfl, by decide, by decide⟩ dX1_overOf_2 rfl (Nat.le_of_ble_eq_true rfl) ⟨Nat.zero_le _, Nat.zero_le _⟩ h1 (ctX1_has h) (fun x_2 S_2 h => ?_)
  refine x_if_eq (tgt := 17) dX1_overOf_5 (by decide) (fun c => ?_) (fun c => ?_)
  · replace h := h.1 c
    refine x_ldc2 (v := (-1)) dX1_overOf_17 kcX1_35 ?_
    refine x_lv (lv' := []) trivial ?_
    exact xX1_overOf_20 hQ  _ _ h
  · replace h := h.2 c
    refine x_aload_n dX1_overOf_8 rfl ?_
    obtain ⟨h1, r_9, hr_9, h⟩ := h
    refine x_g1_3 rfl dX1_overOf_9 h1 (x_un hr_9 ?_)
    refine x_iload_n dX1_overOf_12 rfl ?_
    refine x_lald dX1_overOf_13 h.1 ?_
    replace h := h.2
    refine x_goto (tgt := 20) dX1_overOf_14 (by decide) ?_
    refine x_lv (lv' := []) trivial ?_
    exact xX1_overOf_20 hQ  _ _ h
set_option maxRecDepth 100000 in
set_option maxHeartbeats 4000000 in
theorem xX1_underOf_20 {E : en} {ad : Nat → Nat} {Post : Int64 → hs → Prop} (hQ : isQ E ad (pJ Post))   (s0 : Int64) (S : hs) (h : PX1_underOf_20 Post  s0 S) : X E mX1_underOf 0 0 ad S 20 [] [aJ s0] := by
  unfold PX1_underOf_20 at h
  exact x_lret hQ rfl dX1_underOf_20 ⟨_, rfl, h⟩
set_option maxRecDepth 100000 in
set_option maxHeartbeats 4000000 in
theorem ctX1_underOf {G : Launch × va_G × (Nat → ClassId) × Nat} {v0 : Nat} {v1 : Int32} {S : hs} {Post : Int64 → hs → Prop} (h : PX1_underOf v0 v1 S Post) : ctN G mX1_underOf [aA v0, aI v1] S (pJ Post) := by
  refine ctN.of (by decide) (Nat.le_of_ble_eq_true rfl) (fun E ad hG hQ => ?_)
  subst hG
  unfold PX1_underOf at h
  refine x_aload_n dX1_underOf_0 rfl ?_
  refine x_iload_n dX1_underOf_1 rfl ?_
  obtain ⟨h1, h⟩ := h
  refine x_callVI (As := [aI v1]) (st := []) kX1_31 rfl ⟨rfl, rfl, by decide, by decide⟩ dX1_underOf_2 rfl (Nat.le_of_ble_eq_true rfl) ⟨Nat.zero_le _, Nat.zero_le _⟩ h1 (ctX1_has h) (fun x_2 S_2 h => ?_)
  refine x_if_eq (tgt := 17) dX1_underOf_5 (by decide) (fun c => ?_) (fun c => ?_)
  · replace h := h.1 c
    refine x_ldc2 (v := (-1)) dX1_underOf_17 kcX1_35 ?_
    refine x_lv (lv' := []) trivial ?_
    exact xX1_underOf_20 hQ  _ _ h
  · replace h := h.2 c
    refine x_aload_n dX1_underOf_8 rfl ?_
    obtain ⟨h1, r_9, hr_9, h⟩ := h
    refine x_g1_4 rfl dX1_underOf_9 h1 (x_un hr_9 ?_)
    refine x_iload_n dX1_underOf_12 rfl ?_
    refine x_lald dX1_underOf_13 h.1 ?_
    replace h := h.2
    refine x_goto (tgt := 20) dX1_underOf_14 (by decide) ?_
    refine x_lv (lv' := []) trivial ?_
    exact xX1_underOf_20 hQ  _ _ h
set_option maxRecDepth 100000 in
set_option maxHeartbeats 4000000 in
theorem xX2_holdsFirstCornerOf_26 {E : en} {ad : Nat → Nat} {Post : Int32 → hs → Prop} (hQ : isQ E ad (pI Post))   (s0 : Int32) (S : hs) (h : PX2_holdsFirstCornerOf_26 Post  s0 S) : X E mX2_holdsFirstCornerOf 0 0 ad S 26 [] [aI s0] := by
  unfold PX2_holdsFirstCornerOf_26 at h
  exact x_zret hQ rfl dX2_holdsFirstCornerOf_26 ⟨h.1, _, rfl, h.2⟩
set_option maxRecDepth 100000 in
set_option maxHeartbeats 4000000 in
theorem ctX2_holdsFirstCornerOf {G : Launch × va_G × (Nat → ClassId) × Nat} {v0 : Nat} {v1 : Nat} {S : hs} {Post : Int32 → hs → Prop} (h : PX2_holdsFirstCornerOf v0 v1 S Post) : ctN G mX2_holdsFirstCornerOf [aA v0, aA v1] S (pI Post) := by
  refine ctN.of (by decide) (Nat.le_of_ble_eq_true rfl) (fun E ad hG hQ => ?_)
  subst hG
  unfold PX2_holdsFirstCornerOf at h
  refine x_aload_n dX2_holdsFirstCornerOf_0 rfl ?_
  refine x_aload_n dX2_holdsFirstCornerOf_1 rfl ?_
  refine x_iconst (v := 0) dX2_holdsFirstCornerOf_2 (by decide) ?_
  obtain ⟨h1, h⟩ := h
  refine x_callVI (As := [aI 0]) (st := [aA v0]) kX2_53 rfl ⟨rfl, rfl, by decide, by decide⟩ dX2_holdsFirstCornerOf_3 rfl (Nat.le_of_ble_eq_true rfl) ⟨Nat.zero_le _, Nat.zero_le _⟩ h1 (ctX2_xOf h) (fun x_3 S_3 h => ?_)
  refine x_i2l dX2_holdsFirstCornerOf_6 ?_
  refine x_aload_n dX2_holdsFirstCornerOf_7 rfl ?_
  refine x_iconst (v := 0) dX2_holdsFirstCornerOf_8 (by decide) ?_
  obtain ⟨h1, h⟩ := h
  refine x_callVI (As := [aI 0]) (st := [aJ (Int32.toInt64 x_3), aA v0]) kX2_56 rfl ⟨rfl, rfl, by decide, by decide⟩ dX2_holdsFirstCornerOf_9 rfl (Nat.le_of_ble_eq_true rfl) ⟨Nat.zero_le _, Nat.zero_le _⟩ h1 (ctX2_yOf h) (fun x_9 S_9 h => ?_)
  refine x_i2l dX2_holdsFirstCornerOf_12 ?_
  refine x_lconst (v := 1) dX2_holdsFirstCornerOf_13 (by decide) ?_
  obtain ⟨h1, h⟩ := h
  refine x_callVI (As := [aJ (Int32.toInt64 x_3), aJ (Int32.toInt64 x_9), aJ 1]) (st := []) kX2_59 rfl ⟨rfl, rfl, by decide, by decide⟩ dX2_holdsFirstCornerOf_14 rfl (Nat.le_of_ble_eq_true rfl) ⟨Nat.zero_le _, Nat.zero_le _⟩ h1 (ctX2_locate h) (fun x_14 S_14 h => ?_)
  refine x_iconst (v := 1) dX2_holdsFirstCornerOf_17 (by decide) ?_
  refine x_icmp_ne (tgt := 25) dX2_holdsFirstCornerOf_18 (by decide) (fun c => ?_) (fun c => ?_)
  · replace h := h.2 c
    refine x_iconst (v := 0) dX2_holdsFirstCornerOf_25 (by decide) ?_
    refine x_lv (lv' := []) trivial ?_
    exact xX2_holdsFirstCornerOf_26 hQ  _ _ h
  · replace h := h.1 c
    refine x_iconst (v := 1) dX2_holdsFirstCornerOf_21 (by decide) ?_
    refine x_goto (tgt := 26) dX2_holdsFirstCornerOf_22 (by decide) ?_
    refine x_lv (lv' := []) trivial ?_
    exact xX2_holdsFirstCornerOf_26 hQ  _ _ h
set_option maxRecDepth 100000 in
set_option maxHeartbeats 4000000 in
theorem xX2_reaches_91 {E : en} {ad : Nat → Nat} {Post : Int32 → hs → Prop} (hQ : isQ E ad (pI Post))   (s0 : Int32) (S : hs) (h : PX2_reaches_91 Post  s0 S) : X E mX2_reaches 0 0 ad S 91 [] [aI s0] := by
  unfold PX2_reaches_91 at h
  exact x_zret hQ rfl dX2_reaches_91 ⟨h.1, _, rfl, h.2⟩
set_option maxRecDepth 100000 in
set_option maxHeartbeats 4000000 in
theorem xX2_reaches_90 {E : en} {ad : Nat → Nat} {Post : Int32 → hs → Prop} (hQ : isQ E ad (pI Post))    (S : hs) (h : PX2_reaches_90 Post   S) : X E mX2_reaches 0 0 ad S 90 [] [] := by
  unfold PX2_reaches_90 at h
  refine x_iconst (v := 0) dX2_reaches_90 (by decide) ?_
  refine x_lv (lv' := []) trivial ?_
  exact xX2_reaches_91 hQ  _ _ h
set_option maxRecDepth 100000 in
set_option maxHeartbeats 4000000 in
theorem xX2_reaches_76 {E : en} {ad : Nat → Nat} {Post : Int32 → hs → Prop} (hQ : isQ E ad (pI Post))   (v6 : Int32) (v7 : Int32) (S : hs) (h : PX2_reaches_76 Post  v6 v7 S) : X E mX2_reaches 0 0 ad S 76 [(6, aI v6), (7, aI v7)] [] := by
  unfold PX2_reaches_76 at h
  refine x_iload dX2_reaches_76 rfl ?_
  refine x_if_eq (tgt := 90) dX2_reaches_78 (by decide) (fun c => ?_) (fun c => ?_)
  · replace h := h.1 c
    refine x_lv (lv' := []) trivial ?_
    exact xX2_reaches_90 hQ   _ h
  · replace h := h.2 c
    refine x_iload dX2_reaches_81 rfl ?_
    refine x_if_eq (tgt := 90) dX2_reaches_83 (by decide) (fun c => ?_) (fun c => ?_)
    · replace h := h.1 c
      refine x_lv (lv' := []) trivial ?_
      exact xX2_reaches_90 hQ   _ h
    · replace h := h.2 c
      refine x_iconst (v := 1) dX2_reaches_86 (by decide) ?_
      refine x_goto (tgt := 91) dX2_reaches_87 (by decide) ?_
      refine x_lv (lv' := []) trivial ?_
      exact xX2_reaches_91 hQ  _ _ h
set_option maxRecDepth 100000 in
set_option maxHeartbeats 4000000 in
theorem xX2_reaches_68 {E : en} {ad : Nat → Nat} {Post : Int32 → hs → Prop} (hQ : isQ E ad (pI Post)) {K9 : Nat → Nat → Int64 → Int64 → Int32 → Int32 → Int32 → hs → Prop} (hK9 : ∀ (v0 : Nat) (v1 : Nat) (v2 : Int64) (v4 : Int64) (v6 : Int32) (v7 : Int32) (v8 : Int32) (S : hs), K9 v0 v1 v2 v4 v6 v7 v8 S → X E mX2_reaches 0 0 ad S 9 [(0, aA v0), (1, aA v1), (2, aJ v2), (4, aJ v4), (6, aI v6), (7, aI v7), (8, aI v8)] []) (v0 : Nat) (v1 : Nat) (v2 : Int64) (v4 : Int64) (v6 : Int32) (v8 : Int32) (s0 : Int32) (S : hs) (h : PX2_reaches_68 Post K9 v0 v1 v2 v4 v6 v8 s0 S) : X E mX2_reaches 0 0 ad S 68 [(0, aA v0), (1, aA v1), (2, aJ v2), (4, aJ v4), (6, aI v6), (8, aI v8)] [aI s0] := by
  unfold PX2_reaches_68 at h
  refine x_istore dX2_reaches_68 (by decide) rfl ?_
  obtain ⟨v8_70, hv8_70⟩ : ∃ y : Int32, y = v8 + 1 := ⟨_, rfl⟩
  replace h := h v8_70 hv8_70
  refine x_iinc (v := v8_70) dX2_reaches_70 rfl (by rw [hv8_70]; rfl) (by decide) rfl ?_
  refine x_goto (tgt := 9) dX2_reaches_73 (by decide) ?_
  refine x_lv (lv' := [(0, aA v0), (1, aA v1), (2, aJ v2), (4, aJ v4), (6, aI v6), (7, aI s0), (8, aI v8_70)]) ⟨rfl, rfl, rfl, rfl, rfl, rfl, rfl, trivial⟩ ?_
  exact hK9 _ _ _ _ _ _ _ _ h
set_option maxRecDepth 100000 in
set_option maxHeartbeats 4000000 in
theorem xX2_reaches_63 {E : en} {ad : Nat → Nat} {Post : Int32 → hs → Prop} (hQ : isQ E ad (pI Post)) {K9 : Nat → Nat → Int64 → Int64 → Int32 → Int32 → Int32 → hs → Prop} (hK9 : ∀ (v0 : Nat) (v1 : Nat) (v2 : Int64) (v4 : Int64) (v6 : Int32) (v7 : Int32) (v8 : Int32) (S : hs), K9 v0 v1 v2 v4 v6 v7 v8 S → X E mX2_reaches 0 0 ad S 9 [(0, aA v0), (1, aA v1), (2, aJ v2), (4, aJ v4), (6, aI v6), (7, aI v7), (8, aI v8)] []) (v0 : Nat) (v1 : Nat) (v2 : Int64) (v4 : Int64) (v6 : Int32) (v8 : Int32) (S : hs) (h : PX2_reaches_63 Post K9 v0 v1 v2 v4 v6 v8 S) : X E mX2_reaches 0 0 ad S 63 [(0, aA v0), (1, aA v1), (2, aJ v2), (4, aJ v4), (6, aI v6), (8, aI v8)] [] := by
  unfold PX2_reaches_63 at h
  refine x_iconst (v := 1) dX2_reaches_63 (by decide) ?_
  refine x_goto (tgt := 68) dX2_reaches_64 (by decide) ?_
  refine x_lv (lv' := [(0, aA v0), (1, aA v1), (2, aJ v2), (4, aJ v4), (6, aI v6), (8, aI v8)]) ⟨rfl, rfl, rfl, rfl, rfl, rfl, trivial⟩ ?_
  exact xX2_reaches_68 hQ hK9 _ _ _ _ _ _ _ _ h
set_option maxRecDepth 100000 in
set_option maxHeartbeats 4000000 in
theorem xX2_reaches_46 {E : en} {ad : Nat → Nat} {Post : Int32 → hs → Prop} (hQ : isQ E ad (pI Post)) {K9 : Nat → Nat → Int64 → Int64 → Int32 → Int32 → Int32 → hs → Prop} (hK9 : ∀ (v0 : Nat) (v1 : Nat) (v2 : Int64) (v4 : Int64) (v6 : Int32) (v7 : Int32) (v8 : Int32) (S : hs), K9 v0 v1 v2 v4 v6 v7 v8 S → X E mX2_reaches 0 0 ad S 9 [(0, aA v0), (1, aA v1), (2, aJ v2), (4, aJ v4), (6, aI v6), (7, aI v7), (8, aI v8)] []) (v0 : Nat) (v1 : Nat) (v2 : Int64) (v4 : Int64) (v7 : Int32) (v8 : Int32) (s0 : Int32) (S : hs) (h : PX2_reaches_46 Post K9 v0 v1 v2 v4 v7 v8 s0 S) : X E mX2_reaches 0 0 ad S 46 [(0, aA v0), (1, aA v1), (2, aJ v2), (4, aJ v4), (7, aI v7), (8, aI v8)] [aI s0] := by
  unfold PX2_reaches_46 at h
  refine x_istore dX2_reaches_46 (by decide) rfl ?_
  refine x_iload dX2_reaches_48 rfl ?_
  refine x_if_ne (tgt := 63) dX2_reaches_50 (by decide) (fun c => ?_) (fun c => ?_)
  · replace h := h.2 c
    refine x_lv (lv' := [(0, aA v0), (1, aA v1), (2, aJ v2), (4, aJ v4), (6, aI s0), (8, aI v8)]) ⟨rfl, rfl, rfl, rfl, rfl, rfl, trivial⟩ ?_
    exact xX2_reaches_63 hQ hK9 _ _ _ _ _ _ _ h
  · replace h := h.1 c
    refine x_aload_n dX2_reaches_53 rfl ?_
    refine x_iload dX2_reaches_54 rfl ?_
    refine x_iald dX2_reaches_56 h.1 ?_
    replace h := h.2
    refine x_i2l dX2_reaches_57 ?_
    refine x_lload_n dX2_reaches_58 rfl ?_
    refine x_lcmp_lt (tgt := 67) dX2_reaches_59 dX2_reaches_60 (by decide) (fun c => ?_) (fun c => ?_)
    · replace h := h.1 c
      refine x_iconst (v := 0) dX2_reaches_67 (by decide) ?_
      refine x_lv (lv' := [(0, aA v0), (1, aA v1), (2, aJ v2), (4, aJ v4), (6, aI s0), (8, aI v8)]) ⟨rfl, rfl, rfl, rfl, rfl, rfl, trivial⟩ ?_
      exact xX2_reaches_68 hQ hK9 _ _ _ _ _ _ _ _ h
    · replace h := h.2 c
      refine x_lv (lv' := [(0, aA v0), (1, aA v1), (2, aJ v2), (4, aJ v4), (6, aI s0), (8, aI v8)]) ⟨rfl, rfl, rfl, rfl, rfl, rfl, trivial⟩ ?_
      exact xX2_reaches_63 hQ hK9 _ _ _ _ _ _ _ h
set_option maxRecDepth 100000 in
set_option maxHeartbeats 4000000 in
theorem xX2_reaches_41 {E : en} {ad : Nat → Nat} {Post : Int32 → hs → Prop} (hQ : isQ E ad (pI Post)) {K9 : Nat → Nat → Int64 → Int64 → Int32 → Int32 → Int32 → hs → Prop} (hK9 : ∀ (v0 : Nat) (v1 : Nat) (v2 : Int64) (v4 : Int64) (v6 : Int32) (v7 : Int32) (v8 : Int32) (S : hs), K9 v0 v1 v2 v4 v6 v7 v8 S → X E mX2_reaches 0 0 ad S 9 [(0, aA v0), (1, aA v1), (2, aJ v2), (4, aJ v4), (6, aI v6), (7, aI v7), (8, aI v8)] []) (v0 : Nat) (v1 : Nat) (v2 : Int64) (v4 : Int64) (v7 : Int32) (v8 : Int32) (S : hs) (h : PX2_reaches_41 Post K9 v0 v1 v2 v4 v7 v8 S) : X E mX2_reaches 0 0 ad S 41 [(0, aA v0), (1, aA v1), (2, aJ v2), (4, aJ v4), (7, aI v7), (8, aI v8)] [] := by
  unfold PX2_reaches_41 at h
  refine x_iconst (v := 1) dX2_reaches_41 (by decide) ?_
  refine x_goto (tgt := 46) dX2_reaches_42 (by decide) ?_
  refine x_lv (lv' := [(0, aA v0), (1, aA v1), (2, aJ v2), (4, aJ v4), (7, aI v7), (8, aI v8)]) ⟨rfl, rfl, rfl, rfl, rfl, rfl, trivial⟩ ?_
  exact xX2_reaches_46 hQ hK9 _ _ _ _ _ _ _ _ h
set_option maxRecDepth 100000 in
set_option maxHeartbeats 4000000 in
theorem xX2_reaches_9 {E : en} {ad : Nat → Nat} {Post : Int32 → hs → Prop} (hQ : isQ E ad (pI Post))   : ∀ (n : Nat) (v0 : Nat) (v1 : Nat) (v2 : Int64) (v4 : Int64) (v6 : Int32) (v7 : Int32) (v8 : Int32) (S : hs) (_ : PX2_reaches_9 Post  n v0 v1 v2 v4 v6 v7 v8 S), X E mX2_reaches 0 0 ad S 9 [(0, aA v0), (1, aA v1), (2, aJ v2), (4, aJ v4), (6, aI v6), (7, aI v7), (8, aI v8)] [] := by
  intro n
  induction n with
  | zero => intro v0 v1 v2 v4 v6 v7 v8 S h; exact h.elim
  | succ n ih =>
    intro v0 v1 v2 v4 v6 v7 v8 S h
    have hK9 := ih
    simp only [PX2_reaches_9] at h
    refine x_iload dX2_reaches_9 rfl ?_
    refine x_aload_n dX2_reaches_11 rfl ?_
    refine x_g2_2 rfl dX2_reaches_12 h.1 ?_
    replace h := h.2
    refine x_icmp_ge (tgt := 76) dX2_reaches_15 (by decide) (fun c => ?_) (fun c => ?_)
    · replace h := h.1 c
      refine x_lv (lv' := [(6, aI v6), (7, aI v7)]) ⟨rfl, rfl, trivial⟩ ?_
      exact xX2_reaches_76 hQ  _ _ _ h
    · replace h := h.2 c
      refine x_iload dX2_reaches_18 rfl ?_
      refine x_aload_n dX2_reaches_20 rfl ?_
      refine x_alen8 dX2_reaches_21 h.1 ?_
      replace h := h.2
      refine x_icmp_ge (tgt := 76) dX2_reaches_22 (by decide) (fun c => ?_) (fun c => ?_)
      · replace h := h.1 c
        refine x_lv (lv' := [(6, aI v6), (7, aI v7)]) ⟨rfl, rfl, trivial⟩ ?_
        exact xX2_reaches_76 hQ  _ _ _ h
      · replace h := h.2 c
        refine x_iload dX2_reaches_25 rfl ?_
        refine x_if_ne (tgt := 41) dX2_reaches_27 (by decide) (fun c => ?_) (fun c => ?_)
        · replace h := h.2 c
          refine x_lv (lv' := [(0, aA v0), (1, aA v1), (2, aJ v2), (4, aJ v4), (7, aI v7), (8, aI v8)]) ⟨rfl, rfl, rfl, rfl, rfl, rfl, trivial⟩ ?_
          exact xX2_reaches_41 hQ hK9 _ _ _ _ _ _ _ h
        · replace h := h.1 c
          refine x_aload_n dX2_reaches_30 rfl ?_
          refine x_iload dX2_reaches_31 rfl ?_
          refine x_iald dX2_reaches_33 h.1 ?_
          replace h := h.2
          refine x_i2l dX2_reaches_34 ?_
          refine x_lload dX2_reaches_35 rfl ?_
          refine x_lcmp_gt (tgt := 45) dX2_reaches_37 dX2_reaches_38 (by decide) (fun c => ?_) (fun c => ?_)
          · replace h := h.1 c
            refine x_iconst (v := 0) dX2_reaches_45 (by decide) ?_
            refine x_lv (lv' := [(0, aA v0), (1, aA v1), (2, aJ v2), (4, aJ v4), (7, aI v7), (8, aI v8)]) ⟨rfl, rfl, rfl, rfl, rfl, rfl, trivial⟩ ?_
            exact xX2_reaches_46 hQ hK9 _ _ _ _ _ _ _ _ h
          · replace h := h.2 c
            refine x_lv (lv' := [(0, aA v0), (1, aA v1), (2, aJ v2), (4, aJ v4), (7, aI v7), (8, aI v8)]) ⟨rfl, rfl, rfl, rfl, rfl, rfl, trivial⟩ ?_
            exact xX2_reaches_41 hQ hK9 _ _ _ _ _ _ _ h
set_option maxRecDepth 100000 in
set_option maxHeartbeats 4000000 in
theorem ctX2_reaches {G : Launch × va_G × (Nat → ClassId) × Nat} {v0 : Nat} {v1 : Nat} {v2 : Int64} {v4 : Int64} {S : hs} {Post : Int32 → hs → Prop} (h : PX2_reaches v0 v1 v2 v4 S Post) : ctN G mX2_reaches [aA v0, aA v1, aJ v2, aJ v4] S (pI Post) := by
  refine ctN.of (by decide) (Nat.le_of_ble_eq_true rfl) (fun E ad hG hQ => ?_)
  subst hG
  unfold PX2_reaches at h
  refine x_iconst (v := 0) dX2_reaches_0 (by decide) ?_
  refine x_istore dX2_reaches_1 (by decide) rfl ?_
  refine x_iconst (v := 0) dX2_reaches_3 (by decide) ?_
  refine x_istore dX2_reaches_4 (by decide) rfl ?_
  refine x_iconst (v := 0) dX2_reaches_6 (by decide) ?_
  refine x_istore dX2_reaches_7 (by decide) rfl ?_
  refine x_lv (lv' := [(0, aA v0), (1, aA v1), (2, aJ v2), (4, aJ v4), (6, aI 0), (7, aI 0), (8, aI 0)]) ⟨rfl, rfl, rfl, rfl, rfl, rfl, rfl, trivial⟩ ?_
  obtain ⟨n, h⟩ := h
  exact xX2_reaches_9 hQ  n _ _ _ _ _ _ _ _ h
set_option maxRecDepth 100000 in
set_option maxHeartbeats 4000000 in
theorem ctX2_reachesX {G : Launch × va_G × (Nat → ClassId) × Nat} {v0 : Nat} {v1 : Int64} {v3 : Int64} {S : hs} {Post : Int32 → hs → Prop} (h : PX2_reachesX v0 v1 v3 S Post) : ctN G mX2_reachesX [aA v0, aJ v1, aJ v3] S (pI Post) := by
  refine ctN.of (by decide) (Nat.le_of_ble_eq_true rfl) (fun E ad hG hQ => ?_)
  subst hG
  unfold PX2_reachesX at h
  refine x_aload_n dX2_reachesX_0 rfl ?_
  refine x_aload_n dX2_reachesX_1 rfl ?_
  obtain ⟨h1, r_2, hr_2, h⟩ := h
  refine x_g2_0 rfl dX2_reachesX_2 h1 (x_un hr_2 ?_)
  refine x_lload_n dX2_reachesX_5 rfl ?_
  refine x_lload_n dX2_reachesX_6 rfl ?_
  obtain ⟨h1, h⟩ := h
  refine x_callVI (As := [aA r_2, aJ v1, aJ v3]) (st := []) kX2_66 rfl ⟨rfl, rfl, by decide, by decide⟩ dX2_reachesX_7 rfl (Nat.le_of_ble_eq_true rfl) ⟨Nat.zero_le _, Nat.zero_le _⟩ h1 (ctX2_reaches h) (fun x_7 S_7 h => ?_)
  exact x_zret hQ rfl dX2_reachesX_10 ⟨h.1, _, rfl, h.2⟩
set_option maxRecDepth 100000 in
set_option maxHeartbeats 4000000 in
theorem ctX2_reachesY {G : Launch × va_G × (Nat → ClassId) × Nat} {v0 : Nat} {v1 : Int64} {v3 : Int64} {S : hs} {Post : Int32 → hs → Prop} (h : PX2_reachesY v0 v1 v3 S Post) : ctN G mX2_reachesY [aA v0, aJ v1, aJ v3] S (pI Post) := by
  refine ctN.of (by decide) (Nat.le_of_ble_eq_true rfl) (fun E ad hG hQ => ?_)
  subst hG
  unfold PX2_reachesY at h
  refine x_aload_n dX2_reachesY_0 rfl ?_
  refine x_aload_n dX2_reachesY_1 rfl ?_
  obtain ⟨h1, r_2, hr_2, h⟩ := h
  refine x_g2_1 rfl dX2_reachesY_2 h1 (x_un hr_2 ?_)
  refine x_lload_n dX2_reachesY_5 rfl ?_
  refine x_lload_n dX2_reachesY_6 rfl ?_
  obtain ⟨h1, h⟩ := h
  refine x_callVI (As := [aA r_2, aJ v1, aJ v3]) (st := []) kX2_66 rfl ⟨rfl, rfl, by decide, by decide⟩ dX2_reachesY_7 rfl (Nat.le_of_ble_eq_true rfl) ⟨Nat.zero_le _, Nat.zero_le _⟩ h1 (ctX2_reaches h) (fun x_7 S_7 h => ?_)
  exact x_zret hQ rfl dX2_reachesY_10 ⟨h.1, _, rfl, h.2⟩
set_option maxRecDepth 100000 in
set_option maxHeartbeats 4000000 in
theorem ctX3_room {G : Launch × va_G × (Nat → ClassId) × Nat} {v0 : Nat} {S : hs} {Post : Int32 → hs → Prop} (h : PX3_room v0 S Post) : ctN G mX3_room [aA v0] S (pI Post) := by
  refine ctN.of (by decide) (Nat.le_of_ble_eq_true rfl) (fun E ad hG hQ => ?_)
  subst hG
  unfold PX3_room at h
  refine x_bipush (v := 40) dX3_room_0 (by decide) ?_
  refine x_aload_n dX3_room_2 rfl ?_
  refine x_g3_4 rfl dX3_room_3 h.1 ?_
  replace h := h.2
  refine x_isub dX3_room_6 ?_
  exact x_iret hQ rfl dX3_room_7 ⟨_, rfl, h⟩
set_option maxRecDepth 100000 in
set_option maxHeartbeats 4000000 in
theorem ctX3_add {G : Launch × va_G × (Nat → ClassId) × Nat} {v0 : Nat} {v1 : Int32} {v2 : Int32} {v3 : Int32} {v4 : Int32} {S : hs} {Post : Int32 → hs → Prop} (h : PX3_add v0 v1 v2 v3 v4 S Post) : ctN G mX3_add [aA v0, aI v1, aI v2, aI v3, aI v4] S (pI Post) := by
  refine ctN.of (by decide) (Nat.le_of_ble_eq_true rfl) (fun E ad hG hQ => ?_)
  subst hG
  unfold PX3_add at h
  refine x_aload_n dX3_add_0 rfl ?_
  refine x_g3_4 rfl dX3_add_1 h.1 ?_
  replace h := h.2
  refine x_bipush (v := 40) dX3_add_4 (by decide) ?_
  refine x_icmp_lt (tgt := 11) dX3_add_6 (by decide) (fun c => ?_) (fun c => ?_)
  · replace h := h.1 c
    refine x_aload_n dX3_add_11 rfl ?_
    obtain ⟨h1, r_12, hr_12, h⟩ := h
    refine x_g3_0 rfl dX3_add_12 h1 (x_un hr_12 ?_)
    refine x_aload_n dX3_add_15 rfl ?_
    refine x_g3_4 rfl dX3_add_16 h.1 ?_
    replace h := h.2
    refine x_iload_n dX3_add_19 rfl ?_
    obtain ⟨h1, h⟩ := h
    refine x_iast dX3_add_20 h1 (x_nS (fun S_20 hS_20 => ?_))
    replace h := h S_20 hS_20
    refine x_aload_n dX3_add_21 rfl ?_
    obtain ⟨h1, r_22, hr_22, h⟩ := h
    refine x_g3_1 rfl dX3_add_22 h1 (x_un hr_22 ?_)
    refine x_aload_n dX3_add_25 rfl ?_
    refine x_g3_4 rfl dX3_add_26 h.1 ?_
    replace h := h.2
    refine x_iload_n dX3_add_29 rfl ?_
    obtain ⟨h1, h⟩ := h
    refine x_iast dX3_add_30 h1 (x_nS (fun S_30 hS_30 => ?_))
    replace h := h S_30 hS_30
    refine x_aload_n dX3_add_31 rfl ?_
    obtain ⟨h1, r_32, hr_32, h⟩ := h
    refine x_g3_2 rfl dX3_add_32 h1 (x_un hr_32 ?_)
    refine x_aload_n dX3_add_35 rfl ?_
    refine x_g3_4 rfl dX3_add_36 h.1 ?_
    replace h := h.2
    refine x_iload_n dX3_add_39 rfl ?_
    obtain ⟨h1, h⟩ := h
    refine x_iast dX3_add_40 h1 (x_nS (fun S_40 hS_40 => ?_))
    replace h := h S_40 hS_40
    refine x_aload_n dX3_add_41 rfl ?_
    obtain ⟨h1, r_42, hr_42, h⟩ := h
    refine x_g3_3 rfl dX3_add_42 h1 (x_un hr_42 ?_)
    refine x_aload_n dX3_add_45 rfl ?_
    refine x_g3_4 rfl dX3_add_46 h.1 ?_
    replace h := h.2
    refine x_iload dX3_add_49 rfl ?_
    obtain ⟨h1, h⟩ := h
    refine x_iast dX3_add_51 h1 (x_nS (fun S_51 hS_51 => ?_))
    replace h := h S_51 hS_51
    refine x_aload_n dX3_add_52 rfl ?_
    refine x_dupR dX3_add_53 ?_
    refine x_g3_4 rfl dX3_add_54 h.1 ?_
    replace h := h.2
    refine x_iconst (v := 1) dX3_add_57 (by decide) ?_
    refine x_iadd dX3_add_58 ?_
    obtain ⟨h1, h⟩ := h
    refine x_p3_4 rfl dX3_add_59 h1 (x_nS (fun S_59 hS_59 => ?_))
    replace h := h S_59 hS_59
    refine x_iconst (v := 1) dX3_add_62 (by decide) ?_
    exact x_zret hQ rfl dX3_add_63 ⟨Or.inr rfl, _, rfl, h⟩
  · replace h := h.2 c
    refine x_iconst (v := 0) dX3_add_9 (by decide) ?_
    exact x_zret hQ rfl dX3_add_10 ⟨Or.inl rfl, _, rfl, h⟩
set_option maxRecDepth 100000 in
set_option maxHeartbeats 4000000 in
theorem xX3_applies_39 {E : en} {ad : Nat → Nat} {Post : Int32 → hs → Prop} (hQ : isQ E ad (pI Post))   (s0 : Int32) (S : hs) (h : PX3_applies_39 Post  s0 S) : X E mX3_applies 0 0 ad S 39 [] [aI s0] := by
  unfold PX3_applies_39 at h
  exact x_zret hQ rfl dX3_applies_39 ⟨h.1, _, rfl, h.2⟩
set_option maxRecDepth 100000 in
set_option maxHeartbeats 4000000 in
theorem xX3_applies_38 {E : en} {ad : Nat → Nat} {Post : Int32 → hs → Prop} (hQ : isQ E ad (pI Post))    (S : hs) (h : PX3_applies_38 Post   S) : X E mX3_applies 0 0 ad S 38 [] [] := by
  unfold PX3_applies_38 at h
  refine x_iconst (v := 0) dX3_applies_38 (by decide) ?_
  refine x_lv (lv' := []) trivial ?_
  exact xX3_applies_39 hQ  _ _ h
set_option maxRecDepth 100000 in
set_option maxHeartbeats 4000000 in
theorem ctX3_applies {G : Launch × va_G × (Nat → ClassId) × Nat} {v0 : Nat} {v1 : Int32} {v2 : Int32} {v3 : Int64} {S : hs} {Post : Int32 → hs → Prop} (h : PX3_applies v0 v1 v2 v3 S Post) : ctN G mX3_applies [aA v0, aI v1, aI v2, aJ v3] S (pI Post) := by
  refine ctN.of (by decide) (Nat.le_of_ble_eq_true rfl) (fun E ad hG hQ => ?_)
  subst hG
  unfold PX3_applies at h
  refine x_aload_n dX3_applies_0 rfl ?_
  obtain ⟨h1, r_1, hr_1, h⟩ := h
  refine x_g3_0 rfl dX3_applies_1 h1 (x_un hr_1 ?_)
  refine x_iload_n dX3_applies_4 rfl ?_
  refine x_iald dX3_applies_5 h.1 ?_
  replace h := h.2
  refine x_iload_n dX3_applies_6 rfl ?_
  refine x_icmp_ne (tgt := 38) dX3_applies_7 (by decide) (fun c => ?_) (fun c => ?_)
  · replace h := h.2 c
    refine x_lv (lv' := []) trivial ?_
    exact xX3_applies_38 hQ   _ h
  · replace h := h.1 c
    refine x_aload_n dX3_applies_10 rfl ?_
    obtain ⟨h1, r_11, hr_11, h⟩ := h
    refine x_g3_2 rfl dX3_applies_11 h1 (x_un hr_11 ?_)
    refine x_iload_n dX3_applies_14 rfl ?_
    refine x_iald dX3_applies_15 h.1 ?_
    replace h := h.2
    refine x_i2l dX3_applies_16 ?_
    refine x_lload_n dX3_applies_17 rfl ?_
    refine x_lcmp_gt (tgt := 38) dX3_applies_18 dX3_applies_19 (by decide) (fun c => ?_) (fun c => ?_)
    · replace h := h.1 c
      refine x_lv (lv' := []) trivial ?_
      exact xX3_applies_38 hQ   _ h
    · replace h := h.2 c
      refine x_lload_n dX3_applies_22 rfl ?_
      refine x_aload_n dX3_applies_23 rfl ?_
      obtain ⟨h1, r_24, hr_24, h⟩ := h
      refine x_g3_3 rfl dX3_applies_24 h1 (x_un hr_24 ?_)
      refine x_iload_n dX3_applies_27 rfl ?_
      refine x_iald dX3_applies_28 h.1 ?_
      replace h := h.2
      refine x_i2l dX3_applies_29 ?_
      refine x_lcmp_gt (tgt := 38) dX3_applies_30 dX3_applies_31 (by decide) (fun c => ?_) (fun c => ?_)
      · replace h := h.1 c
        refine x_lv (lv' := []) trivial ?_
        exact xX3_applies_38 hQ   _ h
      · replace h := h.2 c
        refine x_iconst (v := 1) dX3_applies_34 (by decide) ?_
        refine x_goto (tgt := 39) dX3_applies_35 (by decide) ?_
        refine x_lv (lv' := []) trivial ?_
        exact xX3_applies_39 hQ  _ _ h
set_option maxRecDepth 100000 in
set_option maxHeartbeats 4000000 in
theorem xX3_bar_36 {E : en} {ad : Nat → Nat} {Post : Int32 → hs → Prop} (hQ : isQ E ad (pI Post)) {K3 : Nat → Int32 → Int32 → Int64 → Int32 → hs → Prop} (hK3 : ∀ (v0 : Nat) (v1 : Int32) (v2 : Int32) (v3 : Int64) (v5 : Int32) (S : hs), K3 v0 v1 v2 v3 v5 S → X E mX3_bar 0 0 ad S 3 [(0, aA v0), (1, aI v1), (2, aI v2), (3, aJ v3), (5, aI v5)] []) (v0 : Nat) (v1 : Int32) (v2 : Int32) (v3 : Int64) (v5 : Int32) (S : hs) (h : PX3_bar_36 Post K3 v0 v1 v2 v3 v5 S) : X E mX3_bar 0 0 ad S 36 [(0, aA v0), (1, aI v1), (2, aI v2), (3, aJ v3), (5, aI v5)] [] := by
  unfold PX3_bar_36 at h
  obtain ⟨v5_36, hv5_36⟩ : ∃ y : Int32, y = v5 + 1 := ⟨_, rfl⟩
  replace h := h v5_36 hv5_36
  refine x_iinc (v := v5_36) dX3_bar_36 rfl (by rw [hv5_36]; rfl) (by decide) rfl ?_
  refine x_goto (tgt := 3) dX3_bar_39 (by decide) ?_
  refine x_lv (lv' := [(0, aA v0), (1, aI v1), (2, aI v2), (3, aJ v3), (5, aI v5_36)]) ⟨rfl, rfl, rfl, rfl, rfl, trivial⟩ ?_
  exact hK3 _ _ _ _ _ _ h
set_option maxRecDepth 100000 in
set_option maxHeartbeats 4000000 in
theorem xX3_bar_3 {E : en} {ad : Nat → Nat} {Post : Int32 → hs → Prop} (hQ : isQ E ad (pI Post))   : ∀ (n : Nat) (v0 : Nat) (v1 : Int32) (v2 : Int32) (v3 : Int64) (v5 : Int32) (S : hs) (_ : PX3_bar_3 Post  n v0 v1 v2 v3 v5 S), X E mX3_bar 0 0 ad S 3 [(0, aA v0), (1, aI v1), (2, aI v2), (3, aJ v3), (5, aI v5)] [] := by
  intro n
  induction n with
  | zero => intro v0 v1 v2 v3 v5 S h; exact h.elim
  | succ n ih =>
    intro v0 v1 v2 v3 v5 S h
    have hK3 := ih
    simp only [PX3_bar_3] at h
    refine x_iload dX3_bar_3 rfl ?_
    refine x_aload_n dX3_bar_5 rfl ?_
    refine x_g3_4 rfl dX3_bar_6 h.1 ?_
    replace h := h.2
    refine x_icmp_ge (tgt := 42) dX3_bar_9 (by decide) (fun c => ?_) (fun c => ?_)
    · replace h := h.1 c
      refine x_iconst (v := 0) dX3_bar_42 (by decide) ?_
      exact x_zret hQ rfl dX3_bar_43 ⟨Or.inl rfl, _, rfl, h⟩
    · replace h := h.2 c
      refine x_aload_n dX3_bar_12 rfl ?_
      obtain ⟨h1, r_13, hr_13, h⟩ := h
      refine x_g3_1 rfl dX3_bar_13 h1 (x_un hr_13 ?_)
      refine x_iload dX3_bar_16 rfl ?_
      refine x_iald dX3_bar_18 h.1 ?_
      replace h := h.2
      refine x_iload_n dX3_bar_19 rfl ?_
      refine x_icmp_ne (tgt := 36) dX3_bar_20 (by decide) (fun c => ?_) (fun c => ?_)
      · replace h := h.2 c
        refine x_lv (lv' := [(0, aA v0), (1, aI v1), (2, aI v2), (3, aJ v3), (5, aI v5)]) ⟨rfl, rfl, rfl, rfl, rfl, trivial⟩ ?_
        exact xX3_bar_36 hQ hK3 _ _ _ _ _ _ h
      · replace h := h.1 c
        refine x_aload_n dX3_bar_23 rfl ?_
        refine x_iload dX3_bar_24 rfl ?_
        refine x_iload_n dX3_bar_26 rfl ?_
        refine x_lload_n dX3_bar_27 rfl ?_
        obtain ⟨h1, h⟩ := h
        refine x_callVI (As := [aI v5, aI v1, aJ v3]) (st := []) kX3_26 rfl ⟨rfl, rfl, by decide, by decide⟩ dX3_bar_28 rfl (Nat.le_of_ble_eq_true rfl) ⟨Nat.zero_le _, Nat.zero_le _⟩ h1 (ctX3_applies h) (fun x_28 S_28 h => ?_)
        refine x_if_eq (tgt := 36) dX3_bar_31 (by decide) (fun c => ?_) (fun c => ?_)
        · replace h := h.1 c
          refine x_lv (lv' := [(0, aA v0), (1, aI v1), (2, aI v2), (3, aJ v3), (5, aI v5)]) ⟨rfl, rfl, rfl, rfl, rfl, trivial⟩ ?_
          exact xX3_bar_36 hQ hK3 _ _ _ _ _ _ h
        · replace h := h.2 c
          refine x_iconst (v := 1) dX3_bar_34 (by decide) ?_
          exact x_zret hQ rfl dX3_bar_35 ⟨Or.inr rfl, _, rfl, h⟩
set_option maxRecDepth 100000 in
set_option maxHeartbeats 4000000 in
theorem ctX3_bar {G : Launch × va_G × (Nat → ClassId) × Nat} {v0 : Nat} {v1 : Int32} {v2 : Int32} {v3 : Int64} {S : hs} {Post : Int32 → hs → Prop} (h : PX3_bar v0 v1 v2 v3 S Post) : ctN G mX3_bar [aA v0, aI v1, aI v2, aJ v3] S (pI Post) := by
  refine ctN.of (by decide) (Nat.le_of_ble_eq_true rfl) (fun E ad hG hQ => ?_)
  subst hG
  unfold PX3_bar at h
  refine x_iconst (v := 0) dX3_bar_0 (by decide) ?_
  refine x_istore dX3_bar_1 (by decide) rfl ?_
  refine x_lv (lv' := [(0, aA v0), (1, aI v1), (2, aI v2), (3, aJ v3), (5, aI 0)]) ⟨rfl, rfl, rfl, rfl, rfl, trivial⟩ ?_
  obtain ⟨n, h⟩ := h
  exact xX3_bar_3 hQ  n _ _ _ _ _ _ h
