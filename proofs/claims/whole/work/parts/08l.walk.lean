set_option maxRecDepth 100000 in
set_option maxHeartbeats 4000000 in
theorem xX7_cut_154 {E : en} {ad : Nat → Nat} {Post : hs → Prop} (hQ : isQ E ad (pV Post))   : ∀ (n : Nat) (v0 : Nat) (v5 : Int64) (v7 : Int64) (v11 : Int32) (v12 : Int32) (S : hs) (_ : PX7_cut_154 Post  n v0 v5 v7 v11 v12 S), X E mX7_cut 0 0 ad S 154 [(0, aA v0), (5, aJ v5), (7, aJ v7), (11, aI v11), (12, aI v12)] [] := by
  intro n
  induction n with
  | zero => intro v0 v5 v7 v11 v12 S h; exact h.elim
  | succ n ih =>
    intro v0 v5 v7 v11 v12 S h
    have hK154 := ih
    simp only [PX7_cut_154] at h
    refine x_iload dX7_cut_154 rfl ?_
    refine x_iload dX7_cut_156 rfl ?_
    refine x_icmp_le (tgt := 199) dX7_cut_158 (by decide) (fun c => ?_) (fun c => ?_)
    · replace h := h.1 c
      refine x_aload_n dX7_cut_199 rfl ?_
      obtain ⟨h1, r_200, hr_200, h⟩ := h
      refine x_g7_23 rfl dX7_cut_200 h1 (x_un hr_200 ?_)
      refine x_iload dX7_cut_203 rfl ?_
      refine x_lload dX7_cut_205 rfl ?_
      obtain ⟨h1, h⟩ := h
      refine x_last dX7_cut_207 h1 (x_nS (fun S_207 hS_207 => ?_))
      replace h := h S_207 hS_207
      refine x_aload_n dX7_cut_208 rfl ?_
      obtain ⟨h1, r_209, hr_209, h⟩ := h
      refine x_g7_24 rfl dX7_cut_209 h1 (x_un hr_209 ?_)
      refine x_iload dX7_cut_212 rfl ?_
      refine x_lload dX7_cut_214 rfl ?_
      obtain ⟨h1, h⟩ := h
      refine x_last dX7_cut_216 h1 (x_nS (fun S_216 hS_216 => ?_))
      replace h := h S_216 hS_216
      refine x_aload_n dX7_cut_217 rfl ?_
      refine x_dupR dX7_cut_218 ?_
      refine x_g7_22 rfl dX7_cut_219 h.1 ?_
      replace h := h.2
      refine x_iconst (v := 1) dX7_cut_222 (by decide) ?_
      refine x_iadd dX7_cut_223 ?_
      obtain ⟨h1, h⟩ := h
      refine x_p7_22 rfl dX7_cut_224 h1 (x_nS (fun S_224 hS_224 => ?_))
      replace h := h S_224 hS_224
      exact x_vret hQ rfl dX7_cut_227 ⟨rfl, h⟩
    · replace h := h.2 c
      refine x_aload_n dX7_cut_161 rfl ?_
      obtain ⟨h1, r_162, hr_162, h⟩ := h
      refine x_g7_23 rfl dX7_cut_162 h1 (x_un hr_162 ?_)
      refine x_iload dX7_cut_165 rfl ?_
      refine x_aload_n dX7_cut_167 rfl ?_
      obtain ⟨h1, r_168, hr_168, h⟩ := h
      refine x_g7_23 rfl dX7_cut_168 h1 (x_un hr_168 ?_)
      refine x_iload dX7_cut_171 rfl ?_
      refine x_iconst (v := 1) dX7_cut_173 (by decide) ?_
      refine x_isub dX7_cut_174 ?_
      refine x_lald dX7_cut_175 h.1 ?_
      replace h := h.2
      obtain ⟨h1, h⟩ := h
      refine x_last dX7_cut_176 h1 (x_nS (fun S_176 hS_176 => ?_))
      replace h := h S_176 hS_176
      refine x_aload_n dX7_cut_177 rfl ?_
      obtain ⟨h1, r_178, hr_178, h⟩ := h
      refine x_g7_24 rfl dX7_cut_178 h1 (x_un hr_178 ?_)
      refine x_iload dX7_cut_181 rfl ?_
      refine x_aload_n dX7_cut_183 rfl ?_
      obtain ⟨h1, r_184, hr_184, h⟩ := h
      refine x_g7_24 rfl dX7_cut_184 h1 (x_un hr_184 ?_)
      refine x_iload dX7_cut_187 rfl ?_
      refine x_iconst (v := 1) dX7_cut_189 (by decide) ?_
      refine x_isub dX7_cut_190 ?_
      refine x_lald dX7_cut_191 h.1 ?_
      replace h := h.2
      obtain ⟨h1, h⟩ := h
      refine x_last dX7_cut_192 h1 (x_nS (fun S_192 hS_192 => ?_))
      replace h := h S_192 hS_192
      obtain ⟨v12_193, hv12_193⟩ : ∃ y : Int32, y = v12 + (-1) := ⟨_, rfl⟩
      replace h := h v12_193 hv12_193
      refine x_iinc (v := v12_193) dX7_cut_193 rfl (by rw [hv12_193]; rfl) (by decide) rfl ?_
      refine x_goto (tgt := 154) dX7_cut_196 (by decide) ?_
      refine x_lv (lv' := [(0, aA v0), (5, aJ v5), (7, aJ v7), (11, aI v11), (12, aI v12_193)]) ⟨rfl, rfl, rfl, rfl, rfl, trivial⟩ ?_
      exact hK154 _ _ _ _ _ _ h
set_option maxRecDepth 100000 in
set_option maxHeartbeats 4000000 in
theorem xX7_cut_148 {E : en} {ad : Nat → Nat} {Post : hs → Prop} (hQ : isQ E ad (pV Post))   (v0 : Nat) (v5 : Int64) (v7 : Int64) (v11 : Int32) (S : hs) (h : PX7_cut_148 Post  v0 v5 v7 v11 S) : X E mX7_cut 0 0 ad S 148 [(0, aA v0), (5, aJ v5), (7, aJ v7), (11, aI v11)] [] := by
  unfold PX7_cut_148 at h
  refine x_aload_n dX7_cut_148 rfl ?_
  refine x_g7_22 rfl dX7_cut_149 h.1 ?_
  replace h := h.2
  refine x_nI (fun v12_152 hv12_152 => ?_)
  replace h := h v12_152 hv12_152
  refine x_istore dX7_cut_152 (by decide) rfl ?_
  refine x_lv (lv' := [(0, aA v0), (5, aJ v5), (7, aJ v7), (11, aI v11), (12, aI v12_152)]) ⟨rfl, rfl, rfl, rfl, rfl, trivial⟩ ?_
  obtain ⟨n, h⟩ := h
  exact xX7_cut_154 hQ  n _ _ _ _ _ _ h
set_option maxRecDepth 100000 in
set_option maxHeartbeats 4000000 in
theorem xX7_cut_112 {E : en} {ad : Nat → Nat} {Post : hs → Prop} (hQ : isQ E ad (pV Post))   (v0 : Nat) (v5 : Int64) (v7 : Int64) (v11 : Int32) (S : hs) (h : PX7_cut_112 Post  v0 v5 v7 v11 S) : X E mX7_cut 0 0 ad S 112 [(0, aA v0), (5, aJ v5), (7, aJ v7), (11, aI v11)] [] := by
  unfold PX7_cut_112 at h
  refine x_iload dX7_cut_112 rfl ?_
  refine x_if_le (tgt := 148) dX7_cut_114 (by decide) (fun c => ?_) (fun c => ?_)
  · replace h := h.1 c
    refine x_lv (lv' := [(0, aA v0), (5, aJ v5), (7, aJ v7), (11, aI v11)]) ⟨rfl, rfl, rfl, rfl, trivial⟩ ?_
    exact xX7_cut_148 hQ  _ _ _ _ _ h
  · replace h := h.2 c
    refine x_aload_n dX7_cut_117 rfl ?_
    obtain ⟨h1, r_118, hr_118, h⟩ := h
    refine x_g7_23 rfl dX7_cut_118 h1 (x_un hr_118 ?_)
    refine x_iload dX7_cut_121 rfl ?_
    refine x_iconst (v := 1) dX7_cut_123 (by decide) ?_
    refine x_isub dX7_cut_124 ?_
    refine x_lald dX7_cut_125 h.1 ?_
    replace h := h.2
    refine x_lload dX7_cut_126 rfl ?_
    refine x_lcmp_ne (tgt := 148) dX7_cut_128 dX7_cut_129 (by decide) (fun c => ?_) (fun c => ?_)
    · replace h := h.2 c
      refine x_lv (lv' := [(0, aA v0), (5, aJ v5), (7, aJ v7), (11, aI v11)]) ⟨rfl, rfl, rfl, rfl, trivial⟩ ?_
      exact xX7_cut_148 hQ  _ _ _ _ _ h
    · replace h := h.1 c
      refine x_aload_n dX7_cut_132 rfl ?_
      obtain ⟨h1, r_133, hr_133, h⟩ := h
      refine x_g7_24 rfl dX7_cut_133 h1 (x_un hr_133 ?_)
      refine x_iload dX7_cut_136 rfl ?_
      refine x_iconst (v := 1) dX7_cut_138 (by decide) ?_
      refine x_isub dX7_cut_139 ?_
      refine x_lald dX7_cut_140 h.1 ?_
      replace h := h.2
      refine x_lload dX7_cut_141 rfl ?_
      refine x_lcmp_ne (tgt := 148) dX7_cut_143 dX7_cut_144 (by decide) (fun c => ?_) (fun c => ?_)
      · replace h := h.2 c
        refine x_lv (lv' := [(0, aA v0), (5, aJ v5), (7, aJ v7), (11, aI v11)]) ⟨rfl, rfl, rfl, rfl, trivial⟩ ?_
        exact xX7_cut_148 hQ  _ _ _ _ _ h
      · replace h := h.1 c
        exact x_vret hQ rfl dX7_cut_147 ⟨rfl, h⟩
set_option maxRecDepth 100000 in
set_option maxHeartbeats 4000000 in
theorem xX7_cut_73 {E : en} {ad : Nat → Nat} {Post : hs → Prop} (hQ : isQ E ad (pV Post))   : ∀ (n : Nat) (v0 : Nat) (v5 : Int64) (v7 : Int64) (v11 : Int32) (S : hs) (_ : PX7_cut_73 Post  n v0 v5 v7 v11 S), X E mX7_cut 0 0 ad S 73 [(0, aA v0), (5, aJ v5), (7, aJ v7), (11, aI v11)] [] := by
  intro n
  induction n with
  | zero => intro v0 v5 v7 v11 S h; exact h.elim
  | succ n ih =>
    intro v0 v5 v7 v11 S h
    have hK73 := ih
    simp only [PX7_cut_73] at h
    refine x_iload dX7_cut_73 rfl ?_
    refine x_if_le (tgt := 112) dX7_cut_75 (by decide) (fun c => ?_) (fun c => ?_)
    · replace h := h.1 c
      refine x_lv (lv' := [(0, aA v0), (5, aJ v5), (7, aJ v7), (11, aI v11)]) ⟨rfl, rfl, rfl, rfl, trivial⟩ ?_
      exact xX7_cut_112 hQ  _ _ _ _ _ h
    · replace h := h.2 c
      refine x_aload_n dX7_cut_78 rfl ?_
      obtain ⟨h1, r_79, hr_79, h⟩ := h
      refine x_g7_23 rfl dX7_cut_79 h1 (x_un hr_79 ?_)
      refine x_iload dX7_cut_82 rfl ?_
      refine x_iconst (v := 1) dX7_cut_84 (by decide) ?_
      refine x_isub dX7_cut_85 ?_
      refine x_lald dX7_cut_86 h.1 ?_
      replace h := h.2
      refine x_lload dX7_cut_87 rfl ?_
      refine x_lmul dX7_cut_89 ?_
      refine x_lload dX7_cut_90 rfl ?_
      refine x_aload_n dX7_cut_92 rfl ?_
      obtain ⟨h1, r_93, hr_93, h⟩ := h
      refine x_g7_24 rfl dX7_cut_93 h1 (x_un hr_93 ?_)
      refine x_iload dX7_cut_96 rfl ?_
      refine x_iconst (v := 1) dX7_cut_98 (by decide) ?_
      refine x_isub dX7_cut_99 ?_
      refine x_lald dX7_cut_100 h.1 ?_
      replace h := h.2
      refine x_lmul dX7_cut_101 ?_
      refine x_lcmp_le (tgt := 112) dX7_cut_102 dX7_cut_103 (by decide) (fun c => ?_) (fun c => ?_)
      · replace h := h.1 c
        refine x_lv (lv' := [(0, aA v0), (5, aJ v5), (7, aJ v7), (11, aI v11)]) ⟨rfl, rfl, rfl, rfl, trivial⟩ ?_
        exact xX7_cut_112 hQ  _ _ _ _ _ h
      · replace h := h.2 c
        obtain ⟨v11_106, hv11_106⟩ : ∃ y : Int32, y = v11 + (-1) := ⟨_, rfl⟩
        replace h := h v11_106 hv11_106
        refine x_iinc (v := v11_106) dX7_cut_106 rfl (by rw [hv11_106]; rfl) (by decide) rfl ?_
        refine x_goto (tgt := 73) dX7_cut_109 (by decide) ?_
        refine x_lv (lv' := [(0, aA v0), (5, aJ v5), (7, aJ v7), (11, aI v11_106)]) ⟨rfl, rfl, rfl, rfl, trivial⟩ ?_
        exact hK73 _ _ _ _ _ h
set_option maxRecDepth 100000 in
set_option maxHeartbeats 4000000 in
theorem xX7_cut_43 {E : en} {ad : Nat → Nat} {Post : hs → Prop} (hQ : isQ E ad (pV Post))    (S : hs) (h : PX7_cut_43 Post   S) : X E mX7_cut 0 0 ad S 43 [] [] := by
  unfold PX7_cut_43 at h
  exact x_vret hQ rfl dX7_cut_43 ⟨rfl, h⟩
set_option maxRecDepth 100000 in
set_option maxHeartbeats 4000000 in
theorem xX7_cut_26 {E : en} {ad : Nat → Nat} {Post : hs → Prop} (hQ : isQ E ad (pV Post))   (v0 : Nat) (v5 : Int64) (s0 : Int64) (S : hs) (h : PX7_cut_26 Post  v0 v5 s0 S) : X E mX7_cut 0 0 ad S 26 [(0, aA v0), (5, aJ v5)] [aJ s0] := by
  unfold PX7_cut_26 at h
  refine x_lstore dX7_cut_26 (by decide) rfl ?_
  refine x_lload dX7_cut_28 rfl ?_
  refine x_lconst (v := 0) dX7_cut_30 (by decide) ?_
  refine x_lcmp_lt (tgt := 43) dX7_cut_31 dX7_cut_32 (by decide) (fun c => ?_) (fun c => ?_)
  · replace h := h.1 c
    refine x_lv (lv' := []) trivial ?_
    exact xX7_cut_43 hQ   _ h
  · replace h := h.2 c
    refine x_lload dX7_cut_35 rfl ?_
    refine x_lload dX7_cut_37 rfl ?_
    refine x_lcmp_le (tgt := 44) dX7_cut_39 dX7_cut_40 (by decide) (fun c => ?_) (fun c => ?_)
    · replace h := h.1 c
      refine x_lload dX7_cut_44 rfl ?_
      refine x_lload dX7_cut_46 rfl ?_
      refine x_callSJ (As := [aJ v5, aJ s0]) (st := []) kX7_180 rfl ⟨rfl, rfl, by decide, by decide⟩ dX7_cut_48 rfl (Nat.le_of_ble_eq_true rfl) ⟨Nat.zero_le _, Nat.zero_le _⟩ (ctX7_divisor h) (fun x_48 S_48 h => ?_)
      refine x_lstore dX7_cut_51 (by decide) rfl ?_
      refine x_lload dX7_cut_53 rfl ?_
      refine x_lload dX7_cut_55 rfl ?_
      refine x_ldiv dX7_cut_57 h.1 ?_
      replace h := h.2
      refine x_nJ (fun v5_58 hv5_58 => ?_)
      replace h := h v5_58 hv5_58
      refine x_lstore dX7_cut_58 (by decide) rfl ?_
      refine x_lload dX7_cut_60 rfl ?_
      refine x_lload dX7_cut_62 rfl ?_
      refine x_ldiv dX7_cut_64 h.1 ?_
      replace h := h.2
      refine x_nJ (fun v7_65 hv7_65 => ?_)
      replace h := h v7_65 hv7_65
      refine x_lstore dX7_cut_65 (by decide) rfl ?_
      refine x_aload_n dX7_cut_67 rfl ?_
      refine x_g7_22 rfl dX7_cut_68 h.1 ?_
      replace h := h.2
      refine x_nI (fun v11_71 hv11_71 => ?_)
      replace h := h v11_71 hv11_71
      refine x_istore dX7_cut_71 (by decide) rfl ?_
      refine x_lv (lv' := [(0, aA v0), (5, aJ v5_58), (7, aJ v7_65), (11, aI v11_71)]) ⟨rfl, rfl, rfl, rfl, trivial⟩ ?_
      obtain ⟨n, h⟩ := h
      exact xX7_cut_73 hQ  n _ _ _ _ _ h
    · replace h := h.2 c
      refine x_lv (lv' := []) trivial ?_
      exact xX7_cut_43 hQ   _ h
set_option maxRecDepth 100000 in
set_option maxHeartbeats 4000000 in
theorem xX7_cut_12 {E : en} {ad : Nat → Nat} {Post : hs → Prop} (hQ : isQ E ad (pV Post))   (v0 : Nat) (v3 : Int64) (s0 : Int64) (S : hs) (h : PX7_cut_12 Post  v0 v3 s0 S) : X E mX7_cut 0 0 ad S 12 [(0, aA v0), (3, aJ v3)] [aJ s0] := by
  unfold PX7_cut_12 at h
  refine x_lstore dX7_cut_12 (by decide) rfl ?_
  refine x_lload_n dX7_cut_14 rfl ?_
  refine x_lconst (v := 0) dX7_cut_15 (by decide) ?_
  refine x_lcmp_ge (tgt := 25) dX7_cut_16 dX7_cut_17 (by decide) (fun c => ?_) (fun c => ?_)
  · replace h := h.1 c
    refine x_lload_n dX7_cut_25 rfl ?_
    refine x_lv (lv' := [(0, aA v0), (5, aJ s0)]) ⟨rfl, rfl, trivial⟩ ?_
    exact xX7_cut_26 hQ  _ _ _ _ h
  · replace h := h.2 c
    refine x_lload_n dX7_cut_20 rfl ?_
    refine x_lneg dX7_cut_21 ?_
    refine x_goto (tgt := 26) dX7_cut_22 (by decide) ?_
    refine x_lv (lv' := [(0, aA v0), (5, aJ s0)]) ⟨rfl, rfl, trivial⟩ ?_
    exact xX7_cut_26 hQ  _ _ _ _ h
set_option maxRecDepth 100000 in
set_option maxHeartbeats 4000000 in
theorem ctX7_cut {G : Launch × va_G × (Nat → ClassId) × Nat} {v0 : Nat} {v1 : Int64} {v3 : Int64} {S : hs} {Post : hs → Prop} (h : PX7_cut v0 v1 v3 S Post) : ctN G mX7_cut [aA v0, aJ v1, aJ v3] S (pV Post) := by
  refine ctN.of (by decide) (Nat.le_of_ble_eq_true rfl) (fun E ad hG hQ => ?_)
  subst hG
  unfold PX7_cut at h
  refine x_lload_n dX7_cut_0 rfl ?_
  refine x_lconst (v := 0) dX7_cut_1 (by decide) ?_
  refine x_lcmp_ge (tgt := 11) dX7_cut_2 dX7_cut_3 (by decide) (fun c => ?_) (fun c => ?_)
  · replace h := h.1 c
    refine x_lload_n dX7_cut_11 rfl ?_
    refine x_lv (lv' := [(0, aA v0), (3, aJ v3)]) ⟨rfl, rfl, trivial⟩ ?_
    exact xX7_cut_12 hQ  _ _ _ _ h
  · replace h := h.2 c
    refine x_lload_n dX7_cut_6 rfl ?_
    refine x_lneg dX7_cut_7 ?_
    refine x_goto (tgt := 12) dX7_cut_8 (by decide) ?_
    refine x_lv (lv' := [(0, aA v0), (3, aJ v3)]) ⟨rfl, rfl, trivial⟩ ?_
    exact xX7_cut_12 hQ  _ _ _ _ h
set_option maxRecDepth 100000 in
set_option maxHeartbeats 4000000 in
theorem xX7_cutAt_287 {E : en} {ad : Nat → Nat} {Post : hs → Prop} (hQ : isQ E ad (pV Post))    (S : hs) (h : PX7_cutAt_287 Post   S) : X E mX7_cutAt 0 0 ad S 287 [] [] := by
  unfold PX7_cutAt_287 at h
  exact x_vret hQ rfl dX7_cutAt_287 ⟨rfl, h⟩
set_option maxRecDepth 100000 in
set_option maxHeartbeats 4000000 in
theorem xX7_cutAt_201 {E : en} {ad : Nat → Nat} {Post : hs → Prop} (hQ : isQ E ad (pV Post))    (S : hs) (h : PX7_cutAt_201 Post   S) : X E mX7_cutAt 0 0 ad S 201 [] [] := by
  unfold PX7_cutAt_201 at h
  refine x_goto (tgt := 287) dX7_cutAt_201 (by decide) ?_
  refine x_lv (lv' := []) trivial ?_
  exact xX7_cutAt_287 hQ   _ h
set_option maxRecDepth 100000 in
set_option maxHeartbeats 4000000 in
theorem xX7_cutAt_177 {E : en} {ad : Nat → Nat} {Post : hs → Prop} (hQ : isQ E ad (pV Post))   (v0 : Nat) (v8 : Int64) (v10 : Int64) (v12 : Int64) (v14 : Int64) (v16 : Int64) (s0 : Int32) (S : hs) (h : PX7_cutAt_177 Post  v0 v8 v10 v12 v14 v16 s0 S) : X E mX7_cutAt 0 0 ad S 177 [(0, aA v0), (8, aJ v8), (10, aJ v10), (12, aJ v12), (14, aJ v14), (16, aJ v16)] [aI s0] := by
  unfold PX7_cutAt_177 at h
  refine x_istore dX7_cutAt_177 (by decide) rfl ?_
  refine x_iload dX7_cutAt_179 rfl ?_
  refine x_if_eq (tgt := 201) dX7_cutAt_181 (by decide) (fun c => ?_) (fun c => ?_)
  · replace h := h.1 c
    refine x_lv (lv' := []) trivial ?_
    exact xX7_cutAt_201 hQ   _ h
  · replace h := h.2 c
    refine x_aload_n dX7_cutAt_184 rfl ?_
    refine x_lload dX7_cutAt_185 rfl ?_
    refine x_lload dX7_cutAt_187 rfl ?_
    refine x_lmul dX7_cutAt_189 ?_
    refine x_lload dX7_cutAt_190 rfl ?_
    refine x_lload dX7_cutAt_192 rfl ?_
    refine x_lmul dX7_cutAt_194 ?_
    refine x_lsub dX7_cutAt_195 ?_
    refine x_lload dX7_cutAt_196 rfl ?_
    obtain ⟨h1, h⟩ := h
    refine x_callVV (As := [aJ ((v12 * v10) - (v14 * v8)), aJ v16]) (st := []) kX7_186 rfl ⟨rfl, rfl, by decide, by decide⟩ dX7_cutAt_198 rfl (Nat.le_of_ble_eq_true rfl) ⟨Nat.zero_le _, Nat.zero_le _⟩ h1 (ctX7_cut h) (fun S_198 h => ?_)
    refine x_lv (lv' := []) trivial ?_
    exact xX7_cutAt_201 hQ   _ h
set_option maxRecDepth 100000 in
set_option maxHeartbeats 4000000 in
theorem xX7_cutAt_176 {E : en} {ad : Nat → Nat} {Post : hs → Prop} (hQ : isQ E ad (pV Post))   (v0 : Nat) (v8 : Int64) (v10 : Int64) (v12 : Int64) (v14 : Int64) (v16 : Int64) (S : hs) (h : PX7_cutAt_176 Post  v0 v8 v10 v12 v14 v16 S) : X E mX7_cutAt 0 0 ad S 176 [(0, aA v0), (8, aJ v8), (10, aJ v10), (12, aJ v12), (14, aJ v14), (16, aJ v16)] [] := by
  unfold PX7_cutAt_176 at h
  refine x_iconst (v := 0) dX7_cutAt_176 (by decide) ?_
  refine x_lv (lv' := [(0, aA v0), (8, aJ v8), (10, aJ v10), (12, aJ v12), (14, aJ v14), (16, aJ v16)]) ⟨rfl, rfl, rfl, rfl, rfl, rfl, trivial⟩ ?_
  exact xX7_cutAt_177 hQ  _ _ _ _ _ _ _ _ h
set_option maxRecDepth 100000 in
set_option maxHeartbeats 4000000 in
theorem xX7_cutAt_153 {E : en} {ad : Nat → Nat} {Post : hs → Prop} (hQ : isQ E ad (pV Post))   (v0 : Nat) (v8 : Int64) (v10 : Int64) (v12 : Int64) (v14 : Int64) (v16 : Int64) (S : hs) (h : PX7_cutAt_153 Post  v0 v8 v10 v12 v14 v16 S) : X E mX7_cutAt 0 0 ad S 153 [(0, aA v0), (8, aJ v8), (10, aJ v10), (12, aJ v12), (14, aJ v14), (16, aJ v16)] [] := by
  unfold PX7_cutAt_153 at h
  refine x_iconst (v := 0) dX7_cutAt_153 (by decide) ?_
  refine x_goto (tgt := 177) dX7_cutAt_154 (by decide) ?_
  refine x_lv (lv' := [(0, aA v0), (8, aJ v8), (10, aJ v10), (12, aJ v12), (14, aJ v14), (16, aJ v16)]) ⟨rfl, rfl, rfl, rfl, rfl, rfl, trivial⟩ ?_
  exact xX7_cutAt_177 hQ  _ _ _ _ _ _ _ _ h
set_option maxRecDepth 100000 in
set_option maxHeartbeats 4000000 in
theorem ctX7_cutAt {G : Launch × va_G × (Nat → ClassId) × Nat} {v0 : Nat} {v1 : Int32} {v2 : Int32} {v3 : Int32} {S : hs} {Post : hs → Prop} (h : PX7_cutAt v0 v1 v2 v3 S Post) : ctN G mX7_cutAt [aA v0, aI v1, aI v2, aI v3] S (pV Post) := by
  refine ctN.of (by decide) (Nat.le_of_ble_eq_true rfl) (fun E ad hG hQ => ?_)
  subst hG
  unfold PX7_cutAt at h
  refine x_aload_n dX7_cutAt_0 rfl ?_
  obtain ⟨h1, r_1, hr_1, h⟩ := h
  refine x_g7_16 rfl dX7_cutAt_1 h1 (x_un hr_1 ?_)
  refine x_iload_n dX7_cutAt_4 rfl ?_
  refine x_iconst (v := 1) dX7_cutAt_5 (by decide) ?_
  refine x_iadd dX7_cutAt_6 ?_
  refine x_lald dX7_cutAt_7 h.1 ?_
  replace h := h.2
  refine x_aload_n dX7_cutAt_8 rfl ?_
  obtain ⟨h1, r_9, hr_9, h⟩ := h
  refine x_g7_16 rfl dX7_cutAt_9 h1 (x_un hr_9 ?_)
  refine x_iload_n dX7_cutAt_12 rfl ?_
  refine x_lald dX7_cutAt_13 h.1 ?_
  replace h := h.2
  refine x_lsub dX7_cutAt_14 ?_
  refine x_nJ (fun v4_15 hv4_15 => ?_)
  replace h := h v4_15 hv4_15
  refine x_lstore dX7_cutAt_15 (by decide) rfl ?_
  refine x_aload_n dX7_cutAt_17 rfl ?_
  obtain ⟨h1, r_18, hr_18, h⟩ := h
  refine x_g7_17 rfl dX7_cutAt_18 h1 (x_un hr_18 ?_)
  refine x_iload_n dX7_cutAt_21 rfl ?_
  refine x_iconst (v := 1) dX7_cutAt_22 (by decide) ?_
  refine x_iadd dX7_cutAt_23 ?_
  refine x_lald dX7_cutAt_24 h.1 ?_
  replace h := h.2
  refine x_aload_n dX7_cutAt_25 rfl ?_
  obtain ⟨h1, r_26, hr_26, h⟩ := h
  refine x_g7_17 rfl dX7_cutAt_26 h1 (x_un hr_26 ?_)
  refine x_iload_n dX7_cutAt_29 rfl ?_
  refine x_lald dX7_cutAt_30 h.1 ?_
  replace h := h.2
  refine x_lsub dX7_cutAt_31 ?_
  refine x_nJ (fun v6_32 hv6_32 => ?_)
  replace h := h v6_32 hv6_32
  refine x_lstore dX7_cutAt_32 (by decide) rfl ?_
  refine x_aload_n dX7_cutAt_34 rfl ?_
  obtain ⟨h1, r_35, hr_35, h⟩ := h
  refine x_g7_2 rfl dX7_cutAt_35 h1 (x_un hr_35 ?_)
  refine x_iload_n dX7_cutAt_38 rfl ?_
  refine x_lald dX7_cutAt_39 h.1 ?_
  replace h := h.2
  refine x_aload_n dX7_cutAt_40 rfl ?_
  obtain ⟨h1, r_41, hr_41, h⟩ := h
  refine x_g7_2 rfl dX7_cutAt_41 h1 (x_un hr_41 ?_)
  refine x_iload_n dX7_cutAt_44 rfl ?_
  refine x_lald dX7_cutAt_45 h.1 ?_
  replace h := h.2
  refine x_lsub dX7_cutAt_46 ?_
  refine x_nJ (fun v8_47 hv8_47 => ?_)
  replace h := h v8_47 hv8_47
  refine x_lstore dX7_cutAt_47 (by decide) rfl ?_
  refine x_aload_n dX7_cutAt_49 rfl ?_
  obtain ⟨h1, r_50, hr_50, h⟩ := h
  refine x_g7_3 rfl dX7_cutAt_50 h1 (x_un hr_50 ?_)
  refine x_iload_n dX7_cutAt_53 rfl ?_
  refine x_lald dX7_cutAt_54 h.1 ?_
  replace h := h.2
  refine x_aload_n dX7_cutAt_55 rfl ?_
  obtain ⟨h1, r_56, hr_56, h⟩ := h
  refine x_g7_3 rfl dX7_cutAt_56 h1 (x_un hr_56 ?_)
  refine x_iload_n dX7_cutAt_59 rfl ?_
  refine x_lald dX7_cutAt_60 h.1 ?_
  replace h := h.2
  refine x_lsub dX7_cutAt_61 ?_
  refine x_nJ (fun v10_62 hv10_62 => ?_)
  replace h := h v10_62 hv10_62
  refine x_lstore dX7_cutAt_62 (by decide) rfl ?_
  refine x_aload_n dX7_cutAt_64 rfl ?_
  obtain ⟨h1, r_65, hr_65, h⟩ := h
  refine x_g7_2 rfl dX7_cutAt_65 h1 (x_un hr_65 ?_)
  refine x_iload_n dX7_cutAt_68 rfl ?_
  refine x_lald dX7_cutAt_69 h.1 ?_
  replace h := h.2
  refine x_aload_n dX7_cutAt_70 rfl ?_
  obtain ⟨h1, r_71, hr_71, h⟩ := h
  refine x_g7_16 rfl dX7_cutAt_71 h1 (x_un hr_71 ?_)
  refine x_iload_n dX7_cutAt_74 rfl ?_
  refine x_lald dX7_cutAt_75 h.1 ?_
  replace h := h.2
  refine x_lsub dX7_cutAt_76 ?_
  refine x_nJ (fun v12_77 hv12_77 => ?_)
  replace h := h v12_77 hv12_77
  refine x_lstore dX7_cutAt_77 (by decide) rfl ?_
  refine x_aload_n dX7_cutAt_79 rfl ?_
  obtain ⟨h1, r_80, hr_80, h⟩ := h
  refine x_g7_3 rfl dX7_cutAt_80 h1 (x_un hr_80 ?_)
  refine x_iload_n dX7_cutAt_83 rfl ?_
  refine x_lald dX7_cutAt_84 h.1 ?_
  replace h := h.2
  refine x_aload_n dX7_cutAt_85 rfl ?_
  obtain ⟨h1, r_86, hr_86, h⟩ := h
  refine x_g7_17 rfl dX7_cutAt_86 h1 (x_un hr_86 ?_)
  refine x_iload_n dX7_cutAt_89 rfl ?_
  refine x_lald dX7_cutAt_90 h.1 ?_
  replace h := h.2
  refine x_lsub dX7_cutAt_91 ?_
  refine x_nJ (fun v14_92 hv14_92 => ?_)
  replace h := h v14_92 hv14_92
  refine x_lstore dX7_cutAt_92 (by decide) rfl ?_
  refine x_lload dX7_cutAt_94 rfl ?_
  refine x_lload dX7_cutAt_96 rfl ?_
  refine x_lmul dX7_cutAt_98 ?_
  refine x_lload dX7_cutAt_99 rfl ?_
  refine x_lload dX7_cutAt_101 rfl ?_
  refine x_lmul dX7_cutAt_103 ?_
  refine x_lsub dX7_cutAt_104 ?_
  refine x_nJ (fun v16_105 hv16_105 => ?_)
  replace h := h v16_105 hv16_105
  refine x_lstore dX7_cutAt_105 (by decide) rfl ?_
  refine x_lload dX7_cutAt_107 rfl ?_
  refine x_lconst (v := 0) dX7_cutAt_109 (by decide) ?_
  refine x_lcmp_eq (tgt := 204) dX7_cutAt_110 dX7_cutAt_111 (by decide) (fun c => ?_) (fun c => ?_)
  · replace h := h.1 c
    refine x_lload dX7_cutAt_204 rfl ?_
    refine x_lload dX7_cutAt_206 rfl ?_
    refine x_lmul dX7_cutAt_208 ?_
    refine x_lload dX7_cutAt_209 rfl ?_
    refine x_lload dX7_cutAt_211 rfl ?_
    refine x_lmul dX7_cutAt_213 ?_
    refine x_lcmp_ne (tgt := 287) dX7_cutAt_214 dX7_cutAt_215 (by decide) (fun c => ?_) (fun c => ?_)
    · replace h := h.2 c
      refine x_lv (lv' := []) trivial ?_
      exact xX7_cutAt_287 hQ   _ h
    · replace h := h.1 c
      refine x_lload dX7_cutAt_218 rfl ?_
      refine x_lload dX7_cutAt_220 rfl ?_
      refine x_lmul dX7_cutAt_222 ?_
      refine x_lload dX7_cutAt_223 rfl ?_
      refine x_lload dX7_cutAt_225 rfl ?_
      refine x_lmul dX7_cutAt_227 ?_
      refine x_ladd dX7_cutAt_228 ?_
      refine x_lconst (v := 0) dX7_cutAt_229 (by decide) ?_
      refine x_lcmp_le (tgt := 287) dX7_cutAt_230 dX7_cutAt_231 (by decide) (fun c => ?_) (fun c => ?_)
      · replace h := h.1 c
        refine x_lv (lv' := []) trivial ?_
        exact xX7_cutAt_287 hQ   _ h
      · replace h := h.2 c
        refine x_lload dX7_cutAt_234 rfl ?_
        refine x_lload dX7_cutAt_236 rfl ?_
        refine x_lmul dX7_cutAt_238 ?_
        refine x_lload dX7_cutAt_239 rfl ?_
        refine x_lload dX7_cutAt_241 rfl ?_
        refine x_lmul dX7_cutAt_243 ?_
        refine x_ladd dX7_cutAt_244 ?_
        refine x_nJ (fun v18_245 hv18_245 => ?_)
        replace h := h v18_245 hv18_245
        refine x_lstore dX7_cutAt_245 (by decide) rfl ?_
        refine x_aload_n dX7_cutAt_247 rfl ?_
        refine x_lload dX7_cutAt_248 rfl ?_
        refine x_lload dX7_cutAt_250 rfl ?_
        refine x_lmul dX7_cutAt_252 ?_
        refine x_lload dX7_cutAt_253 rfl ?_
        refine x_lload dX7_cutAt_255 rfl ?_
        refine x_lmul dX7_cutAt_257 ?_
        refine x_ladd dX7_cutAt_258 ?_
        refine x_lload dX7_cutAt_259 rfl ?_
        obtain ⟨h1, h⟩ := h
        refine x_callVV (As := [aJ ((v12_77 * v4_15) + (v14_92 * v6_32)), aJ v18_245]) (st := []) kX7_186 rfl ⟨rfl, rfl, by decide, by decide⟩ dX7_cutAt_261 rfl (Nat.le_of_ble_eq_true rfl) ⟨Nat.zero_le _, Nat.zero_le _⟩ h1 (ctX7_cut h) (fun S_261 h => ?_)
        refine x_aload_n dX7_cutAt_264 rfl ?_
        refine x_lload dX7_cutAt_265 rfl ?_
        refine x_lload dX7_cutAt_267 rfl ?_
        refine x_ladd dX7_cutAt_269 ?_
        refine x_lload dX7_cutAt_270 rfl ?_
        refine x_lmul dX7_cutAt_272 ?_
        refine x_lload dX7_cutAt_273 rfl ?_
        refine x_lload dX7_cutAt_275 rfl ?_
        refine x_ladd dX7_cutAt_277 ?_
        refine x_lload dX7_cutAt_278 rfl ?_
        refine x_lmul dX7_cutAt_280 ?_
        refine x_ladd dX7_cutAt_281 ?_
        refine x_lload dX7_cutAt_282 rfl ?_
        obtain ⟨h1, h⟩ := h
        refine x_callVV (As := [aJ (((v12_77 + v8_47) * v4_15) + ((v14_92 + v10_62) * v6_32)), aJ v18_245]) (st := []) kX7_186 rfl ⟨rfl, rfl, by decide, by decide⟩ dX7_cutAt_284 rfl (Nat.le_of_ble_eq_true rfl) ⟨Nat.zero_le _, Nat.zero_le _⟩ h1 (ctX7_cut h) (fun S_284 h => ?_)
        refine x_lv (lv' := []) trivial ?_
        exact xX7_cutAt_287 hQ   _ h
  · replace h := h.2 c
    refine x_lload dX7_cutAt_114 rfl ?_
    refine x_lload dX7_cutAt_116 rfl ?_
    refine x_lmul dX7_cutAt_118 ?_
    refine x_lload dX7_cutAt_119 rfl ?_
    refine x_lload dX7_cutAt_121 rfl ?_
    refine x_lmul dX7_cutAt_123 ?_
    refine x_lsub dX7_cutAt_124 ?_
    refine x_nJ (fun v18_125 hv18_125 => ?_)
    replace h := h v18_125 hv18_125
    refine x_lstore dX7_cutAt_125 (by decide) rfl ?_
    refine x_lload dX7_cutAt_127 rfl ?_
    refine x_lconst (v := 0) dX7_cutAt_129 (by decide) ?_
    refine x_lcmp_le (tgt := 157) dX7_cutAt_130 dX7_cutAt_131 (by decide) (fun c => ?_) (fun c => ?_)
    · replace h := h.1 c
      refine x_lload dX7_cutAt_157 rfl ?_
      refine x_lconst (v := 0) dX7_cutAt_159 (by decide) ?_
      refine x_lcmp_gt (tgt := 176) dX7_cutAt_160 dX7_cutAt_161 (by decide) (fun c => ?_) (fun c => ?_)
      · replace h := h.1 c
        refine x_lv (lv' := [(0, aA v0), (8, aJ v8_47), (10, aJ v10_62), (12, aJ v12_77), (14, aJ v14_92), (16, aJ v16_105)]) ⟨rfl, rfl, rfl, rfl, rfl, rfl, trivial⟩ ?_
        exact xX7_cutAt_176 hQ  _ _ _ _ _ _ _ h
      · replace h := h.2 c
        refine x_lload dX7_cutAt_164 rfl ?_
        refine x_lload dX7_cutAt_166 rfl ?_
        refine x_lcmp_lt (tgt := 176) dX7_cutAt_168 dX7_cutAt_169 (by decide) (fun c => ?_) (fun c => ?_)
        · replace h := h.1 c
          refine x_lv (lv' := [(0, aA v0), (8, aJ v8_47), (10, aJ v10_62), (12, aJ v12_77), (14, aJ v14_92), (16, aJ v16_105)]) ⟨rfl, rfl, rfl, rfl, rfl, rfl, trivial⟩ ?_
          exact xX7_cutAt_176 hQ  _ _ _ _ _ _ _ h
        · replace h := h.2 c
          refine x_iconst (v := 1) dX7_cutAt_172 (by decide) ?_
          refine x_goto (tgt := 177) dX7_cutAt_173 (by decide) ?_
          refine x_lv (lv' := [(0, aA v0), (8, aJ v8_47), (10, aJ v10_62), (12, aJ v12_77), (14, aJ v14_92), (16, aJ v16_105)]) ⟨rfl, rfl, rfl, rfl, rfl, rfl, trivial⟩ ?_
          exact xX7_cutAt_177 hQ  _ _ _ _ _ _ _ _ h
    · replace h := h.2 c
      refine x_lload dX7_cutAt_134 rfl ?_
      refine x_lconst (v := 0) dX7_cutAt_136 (by decide) ?_
      refine x_lcmp_lt (tgt := 153) dX7_cutAt_137 dX7_cutAt_138 (by decide) (fun c => ?_) (fun c => ?_)
      · replace h := h.1 c
        refine x_lv (lv' := [(0, aA v0), (8, aJ v8_47), (10, aJ v10_62), (12, aJ v12_77), (14, aJ v14_92), (16, aJ v16_105)]) ⟨rfl, rfl, rfl, rfl, rfl, rfl, trivial⟩ ?_
        exact xX7_cutAt_153 hQ  _ _ _ _ _ _ _ h
      · replace h := h.2 c
        refine x_lload dX7_cutAt_141 rfl ?_
        refine x_lload dX7_cutAt_143 rfl ?_
        refine x_lcmp_gt (tgt := 153) dX7_cutAt_145 dX7_cutAt_146 (by decide) (fun c => ?_) (fun c => ?_)
        · replace h := h.1 c
          refine x_lv (lv' := [(0, aA v0), (8, aJ v8_47), (10, aJ v10_62), (12, aJ v12_77), (14, aJ v14_92), (16, aJ v16_105)]) ⟨rfl, rfl, rfl, rfl, rfl, rfl, trivial⟩ ?_
          exact xX7_cutAt_153 hQ  _ _ _ _ _ _ _ h
        · replace h := h.2 c
          refine x_iconst (v := 1) dX7_cutAt_149 (by decide) ?_
          refine x_goto (tgt := 177) dX7_cutAt_150 (by decide) ?_
          refine x_lv (lv' := [(0, aA v0), (8, aJ v8_47), (10, aJ v10_62), (12, aJ v12_77), (14, aJ v14_92), (16, aJ v16_105)]) ⟨rfl, rfl, rfl, rfl, rfl, rfl, trivial⟩ ?_
          exact xX7_cutAt_177 hQ  _ _ _ _ _ _ _ _ h
set_option maxRecDepth 100000 in
set_option maxHeartbeats 4000000 in
theorem ctX7_hasAt {G : Launch × va_G × (Nat → ClassId) × Nat} {v0 : Nat} {v1 : Int32} {v2 : Int32} {v3 : Int64} {v5 : Int64} {S : hs} {Post : Int32 → hs → Prop} (h : PX7_hasAt v0 v1 v2 v3 v5 S Post) : ctN G mX7_hasAt [aA v0, aI v1, aI v2, aJ v3, aJ v5] S (pI Post) := by
  refine ctN.of (by decide) (Nat.le_of_ble_eq_true rfl) (fun E ad hG hQ => ?_)
  subst hG
  unfold PX7_hasAt at h
  refine x_aload_n dX7_hasAt_0 rfl ?_
  refine x_iload_n dX7_hasAt_1 rfl ?_
  refine x_aload_n dX7_hasAt_2 rfl ?_
  obtain ⟨h1, r_3, hr_3, h⟩ := h
  refine x_g7_16 rfl dX7_hasAt_3 h1 (x_un hr_3 ?_)
  refine x_iload_n dX7_hasAt_6 rfl ?_
  refine x_lald dX7_hasAt_7 h.1 ?_
  replace h := h.2
  refine x_lload dX7_hasAt_8 rfl ?_
  refine x_lmul dX7_hasAt_10 ?_
  refine x_aload_n dX7_hasAt_11 rfl ?_
  obtain ⟨h1, r_12, hr_12, h⟩ := h
  refine x_g7_16 rfl dX7_hasAt_12 h1 (x_un hr_12 ?_)
  refine x_iload_n dX7_hasAt_15 rfl ?_
  refine x_iconst (v := 1) dX7_hasAt_16 (by decide) ?_
  refine x_iadd dX7_hasAt_17 ?_
  refine x_lald dX7_hasAt_18 h.1 ?_
  replace h := h.2
  refine x_aload_n dX7_hasAt_19 rfl ?_
  obtain ⟨h1, r_20, hr_20, h⟩ := h
  refine x_g7_16 rfl dX7_hasAt_20 h1 (x_un hr_20 ?_)
  refine x_iload_n dX7_hasAt_23 rfl ?_
  refine x_lald dX7_hasAt_24 h.1 ?_
  replace h := h.2
  refine x_lsub dX7_hasAt_25 ?_
  refine x_lload_n dX7_hasAt_26 rfl ?_
  refine x_lmul dX7_hasAt_27 ?_
  refine x_ladd dX7_hasAt_28 ?_
  refine x_aload_n dX7_hasAt_29 rfl ?_
  obtain ⟨h1, r_30, hr_30, h⟩ := h
  refine x_g7_17 rfl dX7_hasAt_30 h1 (x_un hr_30 ?_)
  refine x_iload_n dX7_hasAt_33 rfl ?_
  refine x_lald dX7_hasAt_34 h.1 ?_
  replace h := h.2
  refine x_lload dX7_hasAt_35 rfl ?_
  refine x_lmul dX7_hasAt_37 ?_
  refine x_aload_n dX7_hasAt_38 rfl ?_
  obtain ⟨h1, r_39, hr_39, h⟩ := h
  refine x_g7_17 rfl dX7_hasAt_39 h1 (x_un hr_39 ?_)
  refine x_iload_n dX7_hasAt_42 rfl ?_
  refine x_iconst (v := 1) dX7_hasAt_43 (by decide) ?_
  refine x_iadd dX7_hasAt_44 ?_
  refine x_lald dX7_hasAt_45 h.1 ?_
  replace h := h.2
  refine x_aload_n dX7_hasAt_46 rfl ?_
  obtain ⟨h1, r_47, hr_47, h⟩ := h
  refine x_g7_17 rfl dX7_hasAt_47 h1 (x_un hr_47 ?_)
  refine x_iload_n dX7_hasAt_50 rfl ?_
  refine x_lald dX7_hasAt_51 h.1 ?_
  replace h := h.2
  refine x_lsub dX7_hasAt_52 ?_
  refine x_lload_n dX7_hasAt_53 rfl ?_
  refine x_lmul dX7_hasAt_54 ?_
  refine x_ladd dX7_hasAt_55 ?_
  refine x_lload dX7_hasAt_56 rfl ?_
  obtain ⟨h1, h⟩ := h
  refine x_callVI (As := [aI v1, aJ (((hj S r_3 (Int32.toNatClampNeg v2)) * v5) + (((hj S r_12 (Int32.toNatClampNeg (v2 + 1))) - (hj S r_20 (Int32.toNatClampNeg v2))) * v3)), aJ (((hj S r_30 (Int32.toNatClampNeg v2)) * v5) + (((hj S r_39 (Int32.toNatClampNeg (v2 + 1))) - (hj S r_47 (Int32.toNatClampNeg v2))) * v3)), aJ v5]) (st := []) kX7_133 rfl ⟨rfl, rfl, by decide, by decide⟩ dX7_hasAt_58 rfl (Nat.le_of_ble_eq_true rfl) ⟨Nat.zero_le _, Nat.zero_le _⟩ h1 (ctX7_has h) (fun x_58 S_58 h => ?_)
  exact x_zret hQ rfl dX7_hasAt_61 ⟨h.1, _, rfl, h.2⟩
set_option maxRecDepth 100000 in
set_option maxHeartbeats 4000000 in
theorem xX7_stretch_261 {E : en} {ad : Nat → Nat} {Post : hs → Prop} (hQ : isQ E ad (pV Post)) {K96 : Nat → Int32 → Int32 → Int32 → Int32 → hs → Prop} (hK96 : ∀ (v0 : Nat) (v1 : Int32) (v2 : Int32) (v3 : Int32) (v4 : Int32) (S : hs), K96 v0 v1 v2 v3 v4 S → X E mX7_stretch 0 0 ad S 96 [(0, aA v0), (1, aI v1), (2, aI v2), (3, aI v3), (4, aI v4)] []) (v0 : Nat) (v1 : Int32) (v2 : Int32) (v4 : Int32) (s0 : Int32) (S : hs) (h : PX7_stretch_261 Post K96 v0 v1 v2 v4 s0 S) : X E mX7_stretch 0 0 ad S 261 [(0, aA v0), (1, aI v1), (2, aI v2), (4, aI v4)] [aI s0] := by
  unfold PX7_stretch_261 at h
  refine x_istore_n dX7_stretch_261 (by decide) rfl ?_
  obtain ⟨v4_262, hv4_262⟩ : ∃ y : Int32, y = v4 + 1 := ⟨_, rfl⟩
  replace h := h v4_262 hv4_262
  refine x_iinc (v := v4_262) dX7_stretch_262 rfl (by rw [hv4_262]; rfl) (by decide) rfl ?_
  refine x_goto (tgt := 96) dX7_stretch_265 (by decide) ?_
  refine x_lv (lv' := [(0, aA v0), (1, aI v1), (2, aI v2), (3, aI s0), (4, aI v4_262)]) ⟨rfl, rfl, rfl, rfl, rfl, trivial⟩ ?_
  exact hK96 _ _ _ _ _ _ h
set_option maxRecDepth 100000 in
set_option maxHeartbeats 4000000 in
theorem xX7_stretch_260 {E : en} {ad : Nat → Nat} {Post : hs → Prop} (hQ : isQ E ad (pV Post)) {K96 : Nat → Int32 → Int32 → Int32 → Int32 → hs → Prop} (hK96 : ∀ (v0 : Nat) (v1 : Int32) (v2 : Int32) (v3 : Int32) (v4 : Int32) (S : hs), K96 v0 v1 v2 v3 v4 S → X E mX7_stretch 0 0 ad S 96 [(0, aA v0), (1, aI v1), (2, aI v2), (3, aI v3), (4, aI v4)] []) (v0 : Nat) (v1 : Int32) (v2 : Int32) (v4 : Int32) (S : hs) (h : PX7_stretch_260 Post K96 v0 v1 v2 v4 S) : X E mX7_stretch 0 0 ad S 260 [(0, aA v0), (1, aI v1), (2, aI v2), (4, aI v4)] [] := by
  unfold PX7_stretch_260 at h
  refine x_iconst (v := 0) dX7_stretch_260 (by decide) ?_
  refine x_lv (lv' := [(0, aA v0), (1, aI v1), (2, aI v2), (4, aI v4)]) ⟨rfl, rfl, rfl, rfl, trivial⟩ ?_
  exact xX7_stretch_261 hQ hK96 _ _ _ _ _ _ h
set_option maxRecDepth 100000 in
set_option maxHeartbeats 4000000 in
theorem xX7_stretch_175 {E : en} {ad : Nat → Nat} {Post : hs → Prop} (hQ : isQ E ad (pV Post)) {K96 : Nat → Int32 → Int32 → Int32 → Int32 → hs → Prop} (hK96 : ∀ (v0 : Nat) (v1 : Int32) (v2 : Int32) (v3 : Int32) (v4 : Int32) (S : hs), K96 v0 v1 v2 v3 v4 S → X E mX7_stretch 0 0 ad S 96 [(0, aA v0), (1, aI v1), (2, aI v2), (3, aI v3), (4, aI v4)] []) (v0 : Nat) (v1 : Int32) (v2 : Int32) (v4 : Int32) (v5 : Int32) (S : hs) (h : PX7_stretch_175 Post K96 v0 v1 v2 v4 v5 S) : X E mX7_stretch 0 0 ad S 175 [(0, aA v0), (1, aI v1), (2, aI v2), (4, aI v4), (5, aI v5)] [] := by
  unfold PX7_stretch_175 at h
  refine x_iload dX7_stretch_175 rfl ?_
  refine x_if_eq (tgt := 260) dX7_stretch_177 (by decide) (fun c => ?_) (fun c => ?_)
  · replace h := h.1 c
    refine x_lv (lv' := [(0, aA v0), (1, aI v1), (2, aI v2), (4, aI v4)]) ⟨rfl, rfl, rfl, rfl, trivial⟩ ?_
    exact xX7_stretch_260 hQ hK96 _ _ _ _ _ h
  · replace h := h.2 c
    refine x_iload dX7_stretch_180 rfl ?_
    refine x_iconst (v := 1) dX7_stretch_182 (by decide) ?_
    refine x_iadd dX7_stretch_183 ?_
    refine x_aload_n dX7_stretch_184 rfl ?_
    refine x_g7_22 rfl dX7_stretch_185 h.1 ?_
    replace h := h.2
    refine x_icmp_ge (tgt := 260) dX7_stretch_188 (by decide) (fun c => ?_) (fun c => ?_)
    · replace h := h.1 c
      refine x_lv (lv' := [(0, aA v0), (1, aI v1), (2, aI v2), (4, aI v4)]) ⟨rfl, rfl, rfl, rfl, trivial⟩ ?_
      exact xX7_stretch_260 hQ hK96 _ _ _ _ _ h
    · replace h := h.2 c
      refine x_aload_n dX7_stretch_191 rfl ?_
      refine x_iload_n dX7_stretch_192 rfl ?_
      refine x_iload_n dX7_stretch_193 rfl ?_
      refine x_aload_n dX7_stretch_194 rfl ?_
      obtain ⟨h1, r_195, hr_195, h⟩ := h
      refine x_g7_23 rfl dX7_stretch_195 h1 (x_un hr_195 ?_)
      refine x_iload dX7_stretch_198 rfl ?_
      refine x_lald dX7_stretch_200 h.1 ?_
      replace h := h.2
      refine x_aload_n dX7_stretch_201 rfl ?_
      obtain ⟨h1, r_202, hr_202, h⟩ := h
      refine x_g7_24 rfl dX7_stretch_202 h1 (x_un hr_202 ?_)
      refine x_iload dX7_stretch_205 rfl ?_
      refine x_iconst (v := 1) dX7_stretch_207 (by decide) ?_
      refine x_iadd dX7_stretch_208 ?_
      refine x_lald dX7_stretch_209 h.1 ?_
      replace h := h.2
      refine x_lmul dX7_stretch_210 ?_
      refine x_aload_n dX7_stretch_211 rfl ?_
      obtain ⟨h1, r_212, hr_212, h⟩ := h
      refine x_g7_23 rfl dX7_stretch_212 h1 (x_un hr_212 ?_)
      refine x_iload dX7_stretch_215 rfl ?_
      refine x_iconst (v := 1) dX7_stretch_217 (by decide) ?_
      refine x_iadd dX7_stretch_218 ?_
      refine x_lald dX7_stretch_219 h.1 ?_
      replace h := h.2
      refine x_aload_n dX7_stretch_220 rfl ?_
      obtain ⟨h1, r_221, hr_221, h⟩ := h
      refine x_g7_24 rfl dX7_stretch_221 h1 (x_un hr_221 ?_)
      refine x_iload dX7_stretch_224 rfl ?_
      refine x_lald dX7_stretch_226 h.1 ?_
      replace h := h.2
      refine x_lmul dX7_stretch_227 ?_
      refine x_ladd dX7_stretch_228 ?_
      refine x_ldc2 (v := 2) dX7_stretch_229 kcX7_201 ?_
      refine x_aload_n dX7_stretch_232 rfl ?_
      obtain ⟨h1, r_233, hr_233, h⟩ := h
      refine x_g7_24 rfl dX7_stretch_233 h1 (x_un hr_233 ?_)
      refine x_iload dX7_stretch_236 rfl ?_
      refine x_lald dX7_stretch_238 h.1 ?_
      replace h := h.2
      refine x_lmul dX7_stretch_239 ?_
      refine x_aload_n dX7_stretch_240 rfl ?_
      obtain ⟨h1, r_241, hr_241, h⟩ := h
      refine x_g7_24 rfl dX7_stretch_241 h1 (x_un hr_241 ?_)
      refine x_iload dX7_stretch_244 rfl ?_
      refine x_iconst (v := 1) dX7_stretch_246 (by decide) ?_
      refine x_iadd dX7_stretch_247 ?_
      refine x_lald dX7_stretch_248 h.1 ?_
      replace h := h.2
      refine x_lmul dX7_stretch_249 ?_
      obtain ⟨h1, h⟩ := h
      refine x_callVI (As := [aI v1, aI v2, aJ (((hj S r_195 (Int32.toNatClampNeg v4)) * (hj S r_202 (Int32.toNatClampNeg (v4 + 1)))) + ((hj S r_212 (Int32.toNatClampNeg (v4 + 1))) * (hj S r_221 (Int32.toNatClampNeg v4)))), aJ ((2 * (hj S r_233 (Int32.toNatClampNeg v4))) * (hj S r_241 (Int32.toNatClampNeg (v4 + 1))))]) (st := []) kX7_197 rfl ⟨rfl, rfl, by decide, by decide⟩ dX7_stretch_250 rfl (Nat.le_of_ble_eq_true rfl) ⟨Nat.zero_le _, Nat.zero_le _⟩ h1 (ctX7_hasAt h) (fun x_250 S_250 h => ?_)
      refine x_if_eq (tgt := 260) dX7_stretch_253 (by decide) (fun c => ?_) (fun c => ?_)
      · replace h := h.1 c
        refine x_lv (lv' := [(0, aA v0), (1, aI v1), (2, aI v2), (4, aI v4)]) ⟨rfl, rfl, rfl, rfl, trivial⟩ ?_
        exact xX7_stretch_260 hQ hK96 _ _ _ _ _ h
      · replace h := h.2 c
        refine x_iconst (v := 1) dX7_stretch_256 (by decide) ?_
        refine x_goto (tgt := 261) dX7_stretch_257 (by decide) ?_
        refine x_lv (lv' := [(0, aA v0), (1, aI v1), (2, aI v2), (4, aI v4)]) ⟨rfl, rfl, rfl, rfl, trivial⟩ ?_
        exact xX7_stretch_261 hQ hK96 _ _ _ _ _ _ h
set_option maxRecDepth 100000 in
set_option maxHeartbeats 4000000 in
theorem xX7_stretch_157 {E : en} {ad : Nat → Nat} {Post : hs → Prop} (hQ : isQ E ad (pV Post)) {K96 : Nat → Int32 → Int32 → Int32 → Int32 → hs → Prop} (hK96 : ∀ (v0 : Nat) (v1 : Int32) (v2 : Int32) (v3 : Int32) (v4 : Int32) (S : hs), K96 v0 v1 v2 v3 v4 S → X E mX7_stretch 0 0 ad S 96 [(0, aA v0), (1, aI v1), (2, aI v2), (3, aI v3), (4, aI v4)] []) (v0 : Nat) (v1 : Int32) (v2 : Int32) (v4 : Int32) (v5 : Int32) (S : hs) (h : PX7_stretch_157 Post K96 v0 v1 v2 v4 v5 S) : X E mX7_stretch 0 0 ad S 157 [(0, aA v0), (1, aI v1), (2, aI v2), (4, aI v4), (5, aI v5)] [] := by
  unfold PX7_stretch_157 at h
  refine x_iload dX7_stretch_157 rfl ?_
  refine x_if_eq (tgt := 175) dX7_stretch_159 (by decide) (fun c => ?_) (fun c => ?_)
  · replace h := h.1 c
    refine x_lv (lv' := [(0, aA v0), (1, aI v1), (2, aI v2), (4, aI v4), (5, aI v5)]) ⟨rfl, rfl, rfl, rfl, rfl, trivial⟩ ?_
    exact xX7_stretch_175 hQ hK96 _ _ _ _ _ _ h
  · replace h := h.2 c
    refine x_aload_n dX7_stretch_162 rfl ?_
    obtain ⟨h1, r_163, hr_163, h⟩ := h
    refine x_g7_27 rfl dX7_stretch_163 h1 (x_un hr_163 ?_)
    refine x_aload_n dX7_stretch_166 rfl ?_
    refine x_g7_25 rfl dX7_stretch_167 h.1 ?_
    replace h := h.2
    refine x_iconst (v := 1) dX7_stretch_170 (by decide) ?_
    refine x_isub dX7_stretch_171 ?_
    refine x_iload dX7_stretch_172 rfl ?_
    obtain ⟨h1, h⟩ := h
    refine x_iast dX7_stretch_174 h1 (x_nS (fun S_174 hS_174 => ?_))
    replace h := h S_174 hS_174
    refine x_lv (lv' := [(0, aA v0), (1, aI v1), (2, aI v2), (4, aI v4), (5, aI v5)]) ⟨rfl, rfl, rfl, rfl, rfl, trivial⟩ ?_
    exact xX7_stretch_175 hQ hK96 _ _ _ _ _ _ h
set_option maxRecDepth 100000 in
set_option maxHeartbeats 4000000 in
theorem xX7_stretch_96 {E : en} {ad : Nat → Nat} {Post : hs → Prop} (hQ : isQ E ad (pV Post))   : ∀ (n : Nat) (v0 : Nat) (v1 : Int32) (v2 : Int32) (v3 : Int32) (v4 : Int32) (S : hs) (_ : PX7_stretch_96 Post  n v0 v1 v2 v3 v4 S), X E mX7_stretch 0 0 ad S 96 [(0, aA v0), (1, aI v1), (2, aI v2), (3, aI v3), (4, aI v4)] [] := by
  intro n
  induction n with
  | zero => intro v0 v1 v2 v3 v4 S h; exact h.elim
  | succ n ih =>
    intro v0 v1 v2 v3 v4 S h
    have hK96 := ih
    simp only [PX7_stretch_96] at h
    refine x_iload dX7_stretch_96 rfl ?_
    refine x_aload_n dX7_stretch_98 rfl ?_
    refine x_g7_22 rfl dX7_stretch_99 h.1 ?_
    replace h := h.2
    refine x_icmp_ge (tgt := 268) dX7_stretch_102 (by decide) (fun c => ?_) (fun c => ?_)
    · replace h := h.1 c
      exact x_vret hQ rfl dX7_stretch_268 ⟨rfl, h⟩
    · replace h := h.2 c
      refine x_aload_n dX7_stretch_105 rfl ?_
      refine x_iload_n dX7_stretch_106 rfl ?_
      refine x_iload_n dX7_stretch_107 rfl ?_
      refine x_aload_n dX7_stretch_108 rfl ?_
      obtain ⟨h1, r_109, hr_109, h⟩ := h
      refine x_g7_23 rfl dX7_stretch_109 h1 (x_un hr_109 ?_)
      refine x_iload dX7_stretch_112 rfl ?_
      refine x_lald dX7_stretch_114 h.1 ?_
      replace h := h.2
      refine x_aload_n dX7_stretch_115 rfl ?_
      obtain ⟨h1, r_116, hr_116, h⟩ := h
      refine x_g7_24 rfl dX7_stretch_116 h1 (x_un hr_116 ?_)
      refine x_iload dX7_stretch_119 rfl ?_
      refine x_lald dX7_stretch_121 h.1 ?_
      replace h := h.2
      obtain ⟨h1, h⟩ := h
      refine x_callVI (As := [aI v1, aI v2, aJ (hj S r_109 (Int32.toNatClampNeg v4)), aJ (hj S r_116 (Int32.toNatClampNeg v4))]) (st := []) kX7_197 rfl ⟨rfl, rfl, by decide, by decide⟩ dX7_stretch_122 rfl (Nat.le_of_ble_eq_true rfl) ⟨Nat.zero_le _, Nat.zero_le _⟩ h1 (ctX7_hasAt h) (fun x_122 S_122 h => ?_)
      refine x_istore dX7_stretch_125 (by decide) rfl ?_
      refine x_iload dX7_stretch_127 rfl ?_
      refine x_if_eq (tgt := 157) dX7_stretch_129 (by decide) (fun c => ?_) (fun c => ?_)
      · replace h := h.1 c
        refine x_lv (lv' := [(0, aA v0), (1, aI v1), (2, aI v2), (4, aI v4), (5, aI x_122)]) ⟨rfl, rfl, rfl, rfl, rfl, trivial⟩ ?_
        exact xX7_stretch_157 hQ hK96 _ _ _ _ _ _ h
      · replace h := h.2 c
        refine x_iload_n dX7_stretch_132 rfl ?_
        refine x_if_ne (tgt := 157) dX7_stretch_133 (by decide) (fun c => ?_) (fun c => ?_)
        · replace h := h.2 c
          refine x_lv (lv' := [(0, aA v0), (1, aI v1), (2, aI v2), (4, aI v4), (5, aI x_122)]) ⟨rfl, rfl, rfl, rfl, rfl, trivial⟩ ?_
          exact xX7_stretch_157 hQ hK96 _ _ _ _ _ _ h
        · replace h := h.1 c
          refine x_aload_n dX7_stretch_136 rfl ?_
          obtain ⟨h1, r_137, hr_137, h⟩ := h
          refine x_g7_26 rfl dX7_stretch_137 h1 (x_un hr_137 ?_)
          refine x_aload_n dX7_stretch_140 rfl ?_
          refine x_g7_25 rfl dX7_stretch_141 h.1 ?_
          replace h := h.2
          refine x_iload dX7_stretch_144 rfl ?_
          obtain ⟨h1, h⟩ := h
          refine x_iast dX7_stretch_146 h1 (x_nS (fun S_146 hS_146 => ?_))
          replace h := h S_146 hS_146
          refine x_aload_n dX7_stretch_147 rfl ?_
          refine x_dupR dX7_stretch_148 ?_
          refine x_g7_25 rfl dX7_stretch_149 h.1 ?_
          replace h := h.2
          refine x_iconst (v := 1) dX7_stretch_152 (by decide) ?_
          refine x_iadd dX7_stretch_153 ?_
          obtain ⟨h1, h⟩ := h
          refine x_p7_25 rfl dX7_stretch_154 h1 (x_nS (fun S_154 hS_154 => ?_))
          replace h := h S_154 hS_154
          refine x_lv (lv' := [(0, aA v0), (1, aI v1), (2, aI v2), (4, aI v4), (5, aI x_122)]) ⟨rfl, rfl, rfl, rfl, rfl, trivial⟩ ?_
          exact xX7_stretch_157 hQ hK96 _ _ _ _ _ _ h
set_option maxRecDepth 100000 in
set_option maxHeartbeats 4000000 in
theorem xX7_stretch_39 {E : en} {ad : Nat → Nat} {Post : hs → Prop} (hQ : isQ E ad (pV Post)) {K19 : Nat → Int32 → Int32 → Int32 → hs → Prop} (hK19 : ∀ (v0 : Nat) (v1 : Int32) (v2 : Int32) (v3 : Int32) (S : hs), K19 v0 v1 v2 v3 S → X E mX7_stretch 0 0 ad S 19 [(0, aA v0), (1, aI v1), (2, aI v2), (3, aI v3)] []) : ∀ (n : Nat) (v0 : Nat) (v1 : Int32) (v2 : Int32) (v3 : Int32) (v4 : Int32) (v5 : Int32) (S : hs) (_ : PX7_stretch_39 Post K19 n v0 v1 v2 v3 v4 v5 S), X E mX7_stretch 0 0 ad S 39 [(0, aA v0), (1, aI v1), (2, aI v2), (3, aI v3), (4, aI v4), (5, aI v5)] [] := by
  intro n
  induction n with
  | zero => intro v0 v1 v2 v3 v4 v5 S h; exact h.elim
  | succ n ih =>
    intro v0 v1 v2 v3 v4 v5 S h
    have hK39 := ih
    simp only [PX7_stretch_39] at h
    refine x_iload dX7_stretch_39 rfl ?_
    refine x_aload_n dX7_stretch_41 rfl ?_
    obtain ⟨h1, r_42, hr_42, h⟩ := h
    refine x_g7_4 rfl dX7_stretch_42 h1 (x_un hr_42 ?_)
    refine x_iload dX7_stretch_45 rfl ?_
    refine x_iald dX7_stretch_47 h.1 ?_
    replace h := h.2
    refine x_icmp_ge (tgt := 80) dX7_stretch_48 (by decide) (fun c => ?_) (fun c => ?_)
    · replace h := h.1 c
      obtain ⟨v3_80, hv3_80⟩ : ∃ y : Int32, y = v3 + 1 := ⟨_, rfl⟩
      replace h := h v3_80 hv3_80
      refine x_iinc (v := v3_80) dX7_stretch_80 rfl (by rw [hv3_80]; rfl) (by decide) rfl ?_
      refine x_goto (tgt := 19) dX7_stretch_83 (by decide) ?_
      refine x_lv (lv' := [(0, aA v0), (1, aI v1), (2, aI v2), (3, aI v3_80)]) ⟨rfl, rfl, rfl, rfl, trivial⟩ ?_
      exact hK19 _ _ _ _ _ h
    · replace h := h.2 c
      refine x_aload_n dX7_stretch_51 rfl ?_
      refine x_iload_n dX7_stretch_52 rfl ?_
      refine x_aload_n dX7_stretch_53 rfl ?_
      refine x_iload dX7_stretch_54 rfl ?_
      refine x_iload dX7_stretch_56 rfl ?_
      obtain ⟨h1, h⟩ := h
      refine x_callVI (As := [aI v4, aI v5]) (st := [aI v2, aA v0]) kX7_102 rfl ⟨rfl, rfl, by decide, by decide⟩ dX7_stretch_58 rfl (Nat.le_of_ble_eq_true rfl) ⟨Nat.zero_le _, Nat.zero_le _⟩ h1 (ctX7_at h) (fun x_58 S_58 h => ?_)
      refine x_aload_n dX7_stretch_61 rfl ?_
      refine x_iload dX7_stretch_62 rfl ?_
      refine x_iload dX7_stretch_64 rfl ?_
      refine x_iconst (v := 1) dX7_stretch_66 (by decide) ?_
      refine x_iadd dX7_stretch_67 ?_
      obtain ⟨h1, h⟩ := h
      refine x_callVI (As := [aI v4, aI (v5 + 1)]) (st := [aI x_58, aI v2, aA v0]) kX7_102 rfl ⟨rfl, rfl, by decide, by decide⟩ dX7_stretch_68 rfl (Nat.le_of_ble_eq_true rfl) ⟨Nat.zero_le _, Nat.zero_le _⟩ h1 (ctX7_at h) (fun x_68 S_68 h => ?_)
      obtain ⟨h1, h⟩ := h
      refine x_callVV (As := [aI v2, aI x_58, aI x_68]) (st := []) kX7_190 rfl ⟨rfl, rfl, by decide, by decide⟩ dX7_stretch_71 rfl (Nat.le_of_ble_eq_true rfl) ⟨Nat.zero_le _, Nat.zero_le _⟩ h1 (ctX7_cutAt h) (fun S_71 h => ?_)
      obtain ⟨v5_74, hv5_74⟩ : ∃ y : Int32, y = v5 + 1 := ⟨_, rfl⟩
      replace h := h v5_74 hv5_74
      refine x_iinc (v := v5_74) dX7_stretch_74 rfl (by rw [hv5_74]; rfl) (by decide) rfl ?_
      refine x_goto (tgt := 39) dX7_stretch_77 (by decide) ?_
      refine x_lv (lv' := [(0, aA v0), (1, aI v1), (2, aI v2), (3, aI v3), (4, aI v4), (5, aI v5_74)]) ⟨rfl, rfl, rfl, rfl, rfl, rfl, trivial⟩ ?_
      exact hK39 _ _ _ _ _ _ _ h
set_option maxRecDepth 100000 in
set_option maxHeartbeats 4000000 in
theorem xX7_stretch_19 {E : en} {ad : Nat → Nat} {Post : hs → Prop} (hQ : isQ E ad (pV Post))   : ∀ (n : Nat) (v0 : Nat) (v1 : Int32) (v2 : Int32) (v3 : Int32) (S : hs) (_ : PX7_stretch_19 Post  n v0 v1 v2 v3 S), X E mX7_stretch 0 0 ad S 19 [(0, aA v0), (1, aI v1), (2, aI v2), (3, aI v3)] [] := by
  intro n
  induction n with
  | zero => intro v0 v1 v2 v3 S h; exact h.elim
  | succ n ih =>
    intro v0 v1 v2 v3 S h
    have hK19 := ih
    simp only [PX7_stretch_19] at h
    refine x_iload_n dX7_stretch_19 rfl ?_
    refine x_aload_n dX7_stretch_20 rfl ?_
    obtain ⟨h1, r_21, hr_21, h⟩ := h
    refine x_g7_5 rfl dX7_stretch_21 h1 (x_un hr_21 ?_)
    refine x_iload_n dX7_stretch_24 rfl ?_
    refine x_iald dX7_stretch_25 h.1 ?_
    replace h := h.2
    refine x_icmp_ge (tgt := 86) dX7_stretch_26 (by decide) (fun c => ?_) (fun c => ?_)
    · replace h := h.1 c
      refine x_aload_n dX7_stretch_86 rfl ?_
      refine x_iconst (v := 0) dX7_stretch_87 (by decide) ?_
      obtain ⟨h1, h⟩ := h
      refine x_p7_25 rfl dX7_stretch_88 h1 (x_nS (fun S_88 hS_88 => ?_))
      replace h := h S_88 hS_88
      refine x_iconst (v := 0) dX7_stretch_91 (by decide) ?_
      refine x_istore_n dX7_stretch_92 (by decide) rfl ?_
      refine x_iconst (v := 0) dX7_stretch_93 (by decide) ?_
      refine x_istore dX7_stretch_94 (by decide) rfl ?_
      refine x_lv (lv' := [(0, aA v0), (1, aI v1), (2, aI v2), (3, aI 0), (4, aI 0)]) ⟨rfl, rfl, rfl, rfl, rfl, trivial⟩ ?_
      obtain ⟨n, h⟩ := h
      exact xX7_stretch_96 hQ  n _ _ _ _ _ _ h
    · replace h := h.2 c
      refine x_iconst (v := 4) dX7_stretch_29 (by decide) ?_
      refine x_iload_n dX7_stretch_30 rfl ?_
      refine x_imul dX7_stretch_31 ?_
      refine x_iload_n dX7_stretch_32 rfl ?_
      refine x_iadd dX7_stretch_33 ?_
      refine x_nI (fun v4_34 hv4_34 => ?_)
      replace h := h v4_34 hv4_34
      refine x_istore dX7_stretch_34 (by decide) rfl ?_
      refine x_iconst (v := 0) dX7_stretch_36 (by decide) ?_
      refine x_istore dX7_stretch_37 (by decide) rfl ?_
      refine x_lv (lv' := [(0, aA v0), (1, aI v1), (2, aI v2), (3, aI v3), (4, aI v4_34), (5, aI 0)]) ⟨rfl, rfl, rfl, rfl, rfl, rfl, trivial⟩ ?_
      obtain ⟨n, h⟩ := h
      exact xX7_stretch_39 hQ hK19 n _ _ _ _ _ _ _ h
set_option maxRecDepth 100000 in
set_option maxHeartbeats 4000000 in
theorem ctX7_stretch {G : Launch × va_G × (Nat → ClassId) × Nat} {v0 : Nat} {v1 : Int32} {v2 : Int32} {S : hs} {Post : hs → Prop} (h : PX7_stretch v0 v1 v2 S Post) : ctN G mX7_stretch [aA v0, aI v1, aI v2] S (pV Post) := by
  refine ctN.of (by decide) (Nat.le_of_ble_eq_true rfl) (fun E ad hG hQ => ?_)
  subst hG
  unfold PX7_stretch at h
  refine x_aload_n dX7_stretch_0 rfl ?_
  refine x_iconst (v := 0) dX7_stretch_1 (by decide) ?_
  obtain ⟨h1, h⟩ := h
  refine x_p7_22 rfl dX7_stretch_2 h1 (x_nS (fun S_2 hS_2 => ?_))
  replace h := h S_2 hS_2
  refine x_aload_n dX7_stretch_5 rfl ?_
  refine x_lconst (v := 0) dX7_stretch_6 (by decide) ?_
  refine x_lconst (v := 1) dX7_stretch_7 (by decide) ?_
  obtain ⟨h1, h⟩ := h
  refine x_callVV (As := [aJ 0, aJ 1]) (st := []) kX7_186 rfl ⟨rfl, rfl, by decide, by decide⟩ dX7_stretch_8 rfl (Nat.le_of_ble_eq_true rfl) ⟨Nat.zero_le _, Nat.zero_le _⟩ h1 (ctX7_cut h) (fun S_8 h => ?_)
  refine x_aload_n dX7_stretch_11 rfl ?_
  refine x_lconst (v := 1) dX7_stretch_12 (by decide) ?_
  refine x_lconst (v := 1) dX7_stretch_13 (by decide) ?_
  obtain ⟨h1, h⟩ := h
  refine x_callVV (As := [aJ 1, aJ 1]) (st := []) kX7_186 rfl ⟨rfl, rfl, by decide, by decide⟩ dX7_stretch_14 rfl (Nat.le_of_ble_eq_true rfl) ⟨Nat.zero_le _, Nat.zero_le _⟩ h1 (ctX7_cut h) (fun S_14 h => ?_)
  refine x_iconst (v := 0) dX7_stretch_17 (by decide) ?_
  refine x_istore_n dX7_stretch_18 (by decide) rfl ?_
  refine x_lv (lv' := [(0, aA v0), (1, aI v1), (2, aI v2), (3, aI 0)]) ⟨rfl, rfl, rfl, rfl, trivial⟩ ?_
  obtain ⟨n, h⟩ := h
  exact xX7_stretch_19 hQ  n _ _ _ _ _ h
set_option maxRecDepth 100000 in
set_option maxHeartbeats 4000000 in
theorem xX7_add_92 {E : en} {ad : Nat → Nat} {Post : hs → Prop} (hQ : isQ E ad (pV Post))   (v0 : Nat) (S : hs) (h : PX7_add_92 Post  v0 S) : X E mX7_add 0 0 ad S 92 [(0, aA v0)] [] := by
  unfold PX7_add_92 at h
  refine x_aload_n dX7_add_92 rfl ?_
  refine x_dupR dX7_add_93 ?_
  refine x_g7_20 rfl dX7_add_94 h.1 ?_
  replace h := h.2
  refine x_iconst (v := 1) dX7_add_97 (by decide) ?_
  refine x_iadd dX7_add_98 ?_
  obtain ⟨h1, h⟩ := h
  refine x_p7_20 rfl dX7_add_99 h1 (x_nS (fun S_99 hS_99 => ?_))
  replace h := h S_99 hS_99
  exact x_vret hQ rfl dX7_add_102 ⟨rfl, h⟩
set_option maxRecDepth 100000 in
set_option maxHeartbeats 4000000 in
theorem ctX7_add {G : Launch × va_G × (Nat → ClassId) × Nat} {v0 : Nat} {v1 : Int32} {v2 : Int32} {v3 : Int32} {v4 : Int32} {S : hs} {Post : hs → Prop} (h : PX7_add v0 v1 v2 v3 v4 S Post) : ctN G mX7_add [aA v0, aI v1, aI v2, aI v3, aI v4] S (pV Post) := by
  refine ctN.of (by decide) (Nat.le_of_ble_eq_true rfl) (fun E ad hG hQ => ?_)
  subst hG
  unfold PX7_add at h
  refine x_aload_n dX7_add_0 rfl ?_
  refine x_g7_20 rfl dX7_add_1 h.1 ?_
  replace h := h.2
  refine x_sipush (v := 300) dX7_add_4 (by decide) ?_
  refine x_icmp_ge (tgt := 92) dX7_add_7 (by decide) (fun c => ?_) (fun c => ?_)
  · replace h := h.1 c
    refine x_lv (lv' := [(0, aA v0)]) ⟨rfl, trivial⟩ ?_
    exact xX7_add_92 hQ  _ _ h
  · replace h := h.2 c
    refine x_aload_n dX7_add_10 rfl ?_
    obtain ⟨h1, r_11, hr_11, h⟩ := h
    refine x_g7_21 rfl dX7_add_11 h1 (x_un hr_11 ?_)
    refine x_iconst (v := 5) dX7_add_14 (by decide) ?_
    refine x_aload_n dX7_add_15 rfl ?_
    refine x_g7_20 rfl dX7_add_16 h.1 ?_
    replace h := h.2
    refine x_imul dX7_add_19 ?_
    refine x_iload_n dX7_add_20 rfl ?_
    refine x_i2l dX7_add_21 ?_
    obtain ⟨h1, h⟩ := h
    refine x_last dX7_add_22 h1 (x_nS (fun S_22 hS_22 => ?_))
    replace h := h S_22 hS_22
    refine x_aload_n dX7_add_23 rfl ?_
    obtain ⟨h1, r_24, hr_24, h⟩ := h
    refine x_g7_21 rfl dX7_add_24 h1 (x_un hr_24 ?_)
    refine x_iconst (v := 5) dX7_add_27 (by decide) ?_
    refine x_aload_n dX7_add_28 rfl ?_
    refine x_g7_20 rfl dX7_add_29 h.1 ?_
    replace h := h.2
    refine x_imul dX7_add_32 ?_
    refine x_iconst (v := 1) dX7_add_33 (by decide) ?_
    refine x_iadd dX7_add_34 ?_
    refine x_aload_n dX7_add_35 rfl ?_
    obtain ⟨h1, r_36, hr_36, h⟩ := h
    refine x_g7_23 rfl dX7_add_36 h1 (x_un hr_36 ?_)
    refine x_iload_n dX7_add_39 rfl ?_
    refine x_lald dX7_add_40 h.1 ?_
    replace h := h.2
    obtain ⟨h1, h⟩ := h
    refine x_last dX7_add_41 h1 (x_nS (fun S_41 hS_41 => ?_))
    replace h := h S_41 hS_41
    refine x_aload_n dX7_add_42 rfl ?_
    obtain ⟨h1, r_43, hr_43, h⟩ := h
    refine x_g7_21 rfl dX7_add_43 h1 (x_un hr_43 ?_)
    refine x_iconst (v := 5) dX7_add_46 (by decide) ?_
    refine x_aload_n dX7_add_47 rfl ?_
    refine x_g7_20 rfl dX7_add_48 h.1 ?_
    replace h := h.2
    refine x_imul dX7_add_51 ?_
    refine x_iconst (v := 2) dX7_add_52 (by decide) ?_
    refine x_iadd dX7_add_53 ?_
    refine x_aload_n dX7_add_54 rfl ?_
    obtain ⟨h1, r_55, hr_55, h⟩ := h
    refine x_g7_24 rfl dX7_add_55 h1 (x_un hr_55 ?_)
    refine x_iload_n dX7_add_58 rfl ?_
    refine x_lald dX7_add_59 h.1 ?_
    replace h := h.2
    obtain ⟨h1, h⟩ := h
    refine x_last dX7_add_60 h1 (x_nS (fun S_60 hS_60 => ?_))
    replace h := h S_60 hS_60
    refine x_aload_n dX7_add_61 rfl ?_
    obtain ⟨h1, r_62, hr_62, h⟩ := h
    refine x_g7_21 rfl dX7_add_62 h1 (x_un hr_62 ?_)
    refine x_iconst (v := 5) dX7_add_65 (by decide) ?_
    refine x_aload_n dX7_add_66 rfl ?_
    refine x_g7_20 rfl dX7_add_67 h.1 ?_
    replace h := h.2
    refine x_imul dX7_add_70 ?_
    refine x_iconst (v := 3) dX7_add_71 (by decide) ?_
    refine x_iadd dX7_add_72 ?_
    refine x_iload_n dX7_add_73 rfl ?_
    refine x_i2l dX7_add_74 ?_
    obtain ⟨h1, h⟩ := h
    refine x_last dX7_add_75 h1 (x_nS (fun S_75 hS_75 => ?_))
    replace h := h S_75 hS_75
    refine x_aload_n dX7_add_76 rfl ?_
    obtain ⟨h1, r_77, hr_77, h⟩ := h
    refine x_g7_21 rfl dX7_add_77 h1 (x_un hr_77 ?_)
    refine x_iconst (v := 5) dX7_add_80 (by decide) ?_
    refine x_aload_n dX7_add_81 rfl ?_
    refine x_g7_20 rfl dX7_add_82 h.1 ?_
    replace h := h.2
    refine x_imul dX7_add_85 ?_
    refine x_iconst (v := 4) dX7_add_86 (by decide) ?_
    refine x_iadd dX7_add_87 ?_
    refine x_iload dX7_add_88 rfl ?_
    refine x_i2l dX7_add_90 ?_
    obtain ⟨h1, h⟩ := h
    refine x_last dX7_add_91 h1 (x_nS (fun S_91 hS_91 => ?_))
    replace h := h S_91 hS_91
    refine x_lv (lv' := [(0, aA v0)]) ⟨rfl, trivial⟩ ?_
    exact xX7_add_92 hQ  _ _ h
