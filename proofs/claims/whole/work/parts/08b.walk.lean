set_option maxRecDepth 100000 in
set_option maxHeartbeats 4000000 in
theorem xX2_sidesMeet_257 {E : en} {ad : Nat → Nat} {Post : Int32 → hs → Prop} (hQ : isQ E ad (pI Post))   (s0 : Int32) (S : hs) (h : PX2_sidesMeet_257 Post  s0 S) : X E mX2_sidesMeet 0 0 ad S 257 [] [aI s0] := by
  unfold PX2_sidesMeet_257 at h
  exact x_zret hQ rfl dX2_sidesMeet_257 ⟨h.1, _, rfl, h.2⟩
set_option maxRecDepth 100000 in
set_option maxHeartbeats 4000000 in
theorem xX2_sidesMeet_256 {E : en} {ad : Nat → Nat} {Post : Int32 → hs → Prop} (hQ : isQ E ad (pI Post))    (S : hs) (h : PX2_sidesMeet_256 Post   S) : X E mX2_sidesMeet 0 0 ad S 256 [] [] := by
  unfold PX2_sidesMeet_256 at h
  refine x_iconst (v := 0) dX2_sidesMeet_256 (by decide) ?_
  refine x_lv (lv' := []) trivial ?_
  exact xX2_sidesMeet_257 hQ  _ _ h
set_option maxRecDepth 100000 in
set_option maxHeartbeats 4000000 in
theorem xX2_sidesMeet_252 {E : en} {ad : Nat → Nat} {Post : Int32 → hs → Prop} (hQ : isQ E ad (pI Post))    (S : hs) (h : PX2_sidesMeet_252 Post   S) : X E mX2_sidesMeet 0 0 ad S 252 [] [] := by
  unfold PX2_sidesMeet_252 at h
  refine x_iconst (v := 1) dX2_sidesMeet_252 (by decide) ?_
  refine x_goto (tgt := 257) dX2_sidesMeet_253 (by decide) ?_
  refine x_lv (lv' := []) trivial ?_
  exact xX2_sidesMeet_257 hQ  _ _ h
set_option maxRecDepth 100000 in
set_option maxHeartbeats 4000000 in
theorem xX2_sidesMeet_220 {E : en} {ad : Nat → Nat} {Post : Int32 → hs → Prop} (hQ : isQ E ad (pI Post))   (v0 : Nat) (v2 : Nat) (v3 : Int32) (v4 : Int32) (v12 : Int64) (S : hs) (h : PX2_sidesMeet_220 Post  v0 v2 v3 v4 v12 S) : X E mX2_sidesMeet 0 0 ad S 220 [(0, aA v0), (2, aA v2), (3, aI v3), (4, aI v4), (12, aJ v12)] [] := by
  unfold PX2_sidesMeet_220 at h
  refine x_lload dX2_sidesMeet_220 rfl ?_
  refine x_lconst (v := 0) dX2_sidesMeet_222 (by decide) ?_
  refine x_lcmp_ne (tgt := 256) dX2_sidesMeet_223 dX2_sidesMeet_224 (by decide) (fun c => ?_) (fun c => ?_)
  · replace h := h.2 c
    refine x_lv (lv' := []) trivial ?_
    exact xX2_sidesMeet_256 hQ   _ h
  · replace h := h.1 c
    refine x_aload_n dX2_sidesMeet_227 rfl ?_
    refine x_iload_n dX2_sidesMeet_228 rfl ?_
    refine x_aload_n dX2_sidesMeet_229 rfl ?_
    obtain ⟨h1, r_230, hr_230, h⟩ := h
    refine x_g2_0 rfl dX2_sidesMeet_230 h1 (x_un hr_230 ?_)
    refine x_iload dX2_sidesMeet_233 rfl ?_
    refine x_iald dX2_sidesMeet_235 h.1 ?_
    replace h := h.2
    refine x_i2l dX2_sidesMeet_236 ?_
    refine x_aload_n dX2_sidesMeet_237 rfl ?_
    obtain ⟨h1, r_238, hr_238, h⟩ := h
    refine x_g2_1 rfl dX2_sidesMeet_238 h1 (x_un hr_238 ?_)
    refine x_iload dX2_sidesMeet_241 rfl ?_
    refine x_iald dX2_sidesMeet_243 h.1 ?_
    replace h := h.2
    refine x_i2l dX2_sidesMeet_244 ?_
    refine x_lconst (v := 1) dX2_sidesMeet_245 (by decide) ?_
    obtain ⟨h1, h⟩ := h
    refine x_callVI (As := [aI v3, aJ (Int32.toInt64 (hi S r_230 (Int32.toNatClampNeg v4))), aJ (Int32.toInt64 (hi S r_238 (Int32.toNatClampNeg v4))), aJ 1]) (st := []) kX2_40 rfl ⟨rfl, rfl, by decide, by decide⟩ dX2_sidesMeet_246 rfl (Nat.le_of_ble_eq_true rfl) ⟨Nat.zero_le _, Nat.zero_le _⟩ h1 (ctX2_spans h) (fun x_246 S_246 h => ?_)
    refine x_if_eq (tgt := 256) dX2_sidesMeet_249 (by decide) (fun c => ?_) (fun c => ?_)
    · replace h := h.1 c
      refine x_lv (lv' := []) trivial ?_
      exact xX2_sidesMeet_256 hQ   _ h
    · replace h := h.2 c
      refine x_lv (lv' := []) trivial ?_
      exact xX2_sidesMeet_252 hQ   _ h
set_option maxRecDepth 100000 in
set_option maxHeartbeats 4000000 in
theorem xX2_sidesMeet_190 {E : en} {ad : Nat → Nat} {Post : Int32 → hs → Prop} (hQ : isQ E ad (pI Post))   (v0 : Nat) (v1 : Int32) (v2 : Nat) (v3 : Int32) (v4 : Int32) (v10 : Int64) (v12 : Int64) (S : hs) (h : PX2_sidesMeet_190 Post  v0 v1 v2 v3 v4 v10 v12 S) : X E mX2_sidesMeet 0 0 ad S 190 [(0, aA v0), (1, aI v1), (2, aA v2), (3, aI v3), (4, aI v4), (10, aJ v10), (12, aJ v12)] [] := by
  unfold PX2_sidesMeet_190 at h
  refine x_lload dX2_sidesMeet_190 rfl ?_
  refine x_lconst (v := 0) dX2_sidesMeet_192 (by decide) ?_
  refine x_lcmp_ne (tgt := 220) dX2_sidesMeet_193 dX2_sidesMeet_194 (by decide) (fun c => ?_) (fun c => ?_)
  · replace h := h.2 c
    refine x_lv (lv' := [(0, aA v0), (2, aA v2), (3, aI v3), (4, aI v4), (12, aJ v12)]) ⟨rfl, rfl, rfl, rfl, rfl, trivial⟩ ?_
    exact xX2_sidesMeet_220 hQ  _ _ _ _ _ _ h
  · replace h := h.1 c
    refine x_aload_n dX2_sidesMeet_197 rfl ?_
    refine x_iload_n dX2_sidesMeet_198 rfl ?_
    refine x_aload_n dX2_sidesMeet_199 rfl ?_
    obtain ⟨h1, r_200, hr_200, h⟩ := h
    refine x_g2_0 rfl dX2_sidesMeet_200 h1 (x_un hr_200 ?_)
    refine x_iload_n dX2_sidesMeet_203 rfl ?_
    refine x_iald dX2_sidesMeet_204 h.1 ?_
    replace h := h.2
    refine x_i2l dX2_sidesMeet_205 ?_
    refine x_aload_n dX2_sidesMeet_206 rfl ?_
    obtain ⟨h1, r_207, hr_207, h⟩ := h
    refine x_g2_1 rfl dX2_sidesMeet_207 h1 (x_un hr_207 ?_)
    refine x_iload_n dX2_sidesMeet_210 rfl ?_
    refine x_iald dX2_sidesMeet_211 h.1 ?_
    replace h := h.2
    refine x_i2l dX2_sidesMeet_212 ?_
    refine x_lconst (v := 1) dX2_sidesMeet_213 (by decide) ?_
    obtain ⟨h1, h⟩ := h
    refine x_callVI (As := [aI v3, aJ (Int32.toInt64 (hi S r_200 (Int32.toNatClampNeg v1))), aJ (Int32.toInt64 (hi S r_207 (Int32.toNatClampNeg v1))), aJ 1]) (st := []) kX2_40 rfl ⟨rfl, rfl, by decide, by decide⟩ dX2_sidesMeet_214 rfl (Nat.le_of_ble_eq_true rfl) ⟨Nat.zero_le _, Nat.zero_le _⟩ h1 (ctX2_spans h) (fun x_214 S_214 h => ?_)
    refine x_if_ne (tgt := 252) dX2_sidesMeet_217 (by decide) (fun c => ?_) (fun c => ?_)
    · replace h := h.2 c
      refine x_lv (lv' := []) trivial ?_
      exact xX2_sidesMeet_252 hQ   _ h
    · replace h := h.1 c
      refine x_lv (lv' := [(0, aA v0), (2, aA v2), (3, aI v3), (4, aI v4), (12, aJ v12)]) ⟨rfl, rfl, rfl, rfl, rfl, trivial⟩ ?_
      exact xX2_sidesMeet_220 hQ  _ _ _ _ _ _ h
set_option maxRecDepth 100000 in
set_option maxHeartbeats 4000000 in
theorem xX2_sidesMeet_158 {E : en} {ad : Nat → Nat} {Post : Int32 → hs → Prop} (hQ : isQ E ad (pI Post))   (v0 : Nat) (v1 : Int32) (v2 : Nat) (v3 : Int32) (v4 : Int32) (v5 : Int32) (v8 : Int64) (v10 : Int64) (v12 : Int64) (S : hs) (h : PX2_sidesMeet_158 Post  v0 v1 v2 v3 v4 v5 v8 v10 v12 S) : X E mX2_sidesMeet 0 0 ad S 158 [(0, aA v0), (1, aI v1), (2, aA v2), (3, aI v3), (4, aI v4), (5, aI v5), (8, aJ v8), (10, aJ v10), (12, aJ v12)] [] := by
  unfold PX2_sidesMeet_158 at h
  refine x_lload dX2_sidesMeet_158 rfl ?_
  refine x_lconst (v := 0) dX2_sidesMeet_160 (by decide) ?_
  refine x_lcmp_ne (tgt := 190) dX2_sidesMeet_161 dX2_sidesMeet_162 (by decide) (fun c => ?_) (fun c => ?_)
  · replace h := h.2 c
    refine x_lv (lv' := [(0, aA v0), (1, aI v1), (2, aA v2), (3, aI v3), (4, aI v4), (10, aJ v10), (12, aJ v12)]) ⟨rfl, rfl, rfl, rfl, rfl, rfl, rfl, trivial⟩ ?_
    exact xX2_sidesMeet_190 hQ  _ _ _ _ _ _ _ _ h
  · replace h := h.1 c
    refine x_aload_n dX2_sidesMeet_165 rfl ?_
    refine x_iload_n dX2_sidesMeet_166 rfl ?_
    refine x_aload_n dX2_sidesMeet_167 rfl ?_
    obtain ⟨h1, r_168, hr_168, h⟩ := h
    refine x_g2_0 rfl dX2_sidesMeet_168 h1 (x_un hr_168 ?_)
    refine x_iload dX2_sidesMeet_171 rfl ?_
    refine x_iald dX2_sidesMeet_173 h.1 ?_
    replace h := h.2
    refine x_i2l dX2_sidesMeet_174 ?_
    refine x_aload_n dX2_sidesMeet_175 rfl ?_
    obtain ⟨h1, r_176, hr_176, h⟩ := h
    refine x_g2_1 rfl dX2_sidesMeet_176 h1 (x_un hr_176 ?_)
    refine x_iload dX2_sidesMeet_179 rfl ?_
    refine x_iald dX2_sidesMeet_181 h.1 ?_
    replace h := h.2
    refine x_i2l dX2_sidesMeet_182 ?_
    refine x_lconst (v := 1) dX2_sidesMeet_183 (by decide) ?_
    obtain ⟨h1, h⟩ := h
    refine x_callVI (As := [aI v1, aJ (Int32.toInt64 (hi S r_168 (Int32.toNatClampNeg v5))), aJ (Int32.toInt64 (hi S r_176 (Int32.toNatClampNeg v5))), aJ 1]) (st := []) kX2_40 rfl ⟨rfl, rfl, by decide, by decide⟩ dX2_sidesMeet_184 rfl (Nat.le_of_ble_eq_true rfl) ⟨Nat.zero_le _, Nat.zero_le _⟩ h1 (ctX2_spans h) (fun x_184 S_184 h => ?_)
    refine x_if_ne (tgt := 252) dX2_sidesMeet_187 (by decide) (fun c => ?_) (fun c => ?_)
    · replace h := h.2 c
      refine x_lv (lv' := []) trivial ?_
      exact xX2_sidesMeet_252 hQ   _ h
    · replace h := h.1 c
      refine x_lv (lv' := [(0, aA v0), (1, aI v1), (2, aA v2), (3, aI v3), (4, aI v4), (10, aJ v10), (12, aJ v12)]) ⟨rfl, rfl, rfl, rfl, rfl, rfl, rfl, trivial⟩ ?_
      exact xX2_sidesMeet_190 hQ  _ _ _ _ _ _ _ _ h
set_option maxRecDepth 100000 in
set_option maxHeartbeats 4000000 in
theorem xX2_sidesMeet_128 {E : en} {ad : Nat → Nat} {Post : Int32 → hs → Prop} (hQ : isQ E ad (pI Post))   (v0 : Nat) (v1 : Int32) (v2 : Nat) (v3 : Int32) (v4 : Int32) (v5 : Int32) (v6 : Int64) (v8 : Int64) (v10 : Int64) (v12 : Int64) (S : hs) (h : PX2_sidesMeet_128 Post  v0 v1 v2 v3 v4 v5 v6 v8 v10 v12 S) : X E mX2_sidesMeet 0 0 ad S 128 [(0, aA v0), (1, aI v1), (2, aA v2), (3, aI v3), (4, aI v4), (5, aI v5), (6, aJ v6), (8, aJ v8), (10, aJ v10), (12, aJ v12)] [] := by
  unfold PX2_sidesMeet_128 at h
  refine x_lload dX2_sidesMeet_128 rfl ?_
  refine x_lconst (v := 0) dX2_sidesMeet_130 (by decide) ?_
  refine x_lcmp_ne (tgt := 158) dX2_sidesMeet_131 dX2_sidesMeet_132 (by decide) (fun c => ?_) (fun c => ?_)
  · replace h := h.2 c
    refine x_lv (lv' := [(0, aA v0), (1, aI v1), (2, aA v2), (3, aI v3), (4, aI v4), (5, aI v5), (8, aJ v8), (10, aJ v10), (12, aJ v12)]) ⟨rfl, rfl, rfl, rfl, rfl, rfl, rfl, rfl, rfl, trivial⟩ ?_
    exact xX2_sidesMeet_158 hQ  _ _ _ _ _ _ _ _ _ _ h
  · replace h := h.1 c
    refine x_aload_n dX2_sidesMeet_135 rfl ?_
    refine x_iload_n dX2_sidesMeet_136 rfl ?_
    refine x_aload_n dX2_sidesMeet_137 rfl ?_
    obtain ⟨h1, r_138, hr_138, h⟩ := h
    refine x_g2_0 rfl dX2_sidesMeet_138 h1 (x_un hr_138 ?_)
    refine x_iload_n dX2_sidesMeet_141 rfl ?_
    refine x_iald dX2_sidesMeet_142 h.1 ?_
    replace h := h.2
    refine x_i2l dX2_sidesMeet_143 ?_
    refine x_aload_n dX2_sidesMeet_144 rfl ?_
    obtain ⟨h1, r_145, hr_145, h⟩ := h
    refine x_g2_1 rfl dX2_sidesMeet_145 h1 (x_un hr_145 ?_)
    refine x_iload_n dX2_sidesMeet_148 rfl ?_
    refine x_iald dX2_sidesMeet_149 h.1 ?_
    replace h := h.2
    refine x_i2l dX2_sidesMeet_150 ?_
    refine x_lconst (v := 1) dX2_sidesMeet_151 (by decide) ?_
    obtain ⟨h1, h⟩ := h
    refine x_callVI (As := [aI v1, aJ (Int32.toInt64 (hi S r_138 (Int32.toNatClampNeg v3))), aJ (Int32.toInt64 (hi S r_145 (Int32.toNatClampNeg v3))), aJ 1]) (st := []) kX2_40 rfl ⟨rfl, rfl, by decide, by decide⟩ dX2_sidesMeet_152 rfl (Nat.le_of_ble_eq_true rfl) ⟨Nat.zero_le _, Nat.zero_le _⟩ h1 (ctX2_spans h) (fun x_152 S_152 h => ?_)
    refine x_if_ne (tgt := 252) dX2_sidesMeet_155 (by decide) (fun c => ?_) (fun c => ?_)
    · replace h := h.2 c
      refine x_lv (lv' := []) trivial ?_
      exact xX2_sidesMeet_252 hQ   _ h
    · replace h := h.1 c
      refine x_lv (lv' := [(0, aA v0), (1, aI v1), (2, aA v2), (3, aI v3), (4, aI v4), (5, aI v5), (8, aJ v8), (10, aJ v10), (12, aJ v12)]) ⟨rfl, rfl, rfl, rfl, rfl, rfl, rfl, rfl, rfl, trivial⟩ ?_
      exact xX2_sidesMeet_158 hQ  _ _ _ _ _ _ _ _ _ _ h
set_option maxRecDepth 100000 in
set_option maxHeartbeats 4000000 in
theorem ctX2_sidesMeet {G : Launch × va_G × (Nat → ClassId) × Nat} {v0 : Nat} {v1 : Int32} {v2 : Nat} {v3 : Int32} {S : hs} {Post : Int32 → hs → Prop} (h : PX2_sidesMeet v0 v1 v2 v3 S Post) : ctN G mX2_sidesMeet [aA v0, aI v1, aA v2, aI v3] S (pI Post) := by
  refine ctN.of (by decide) (Nat.le_of_ble_eq_true rfl) (fun E ad hG hQ => ?_)
  subst hG
  unfold PX2_sidesMeet at h
  refine x_aload_n dX2_sidesMeet_0 rfl ?_
  refine x_iload_n dX2_sidesMeet_1 rfl ?_
  obtain ⟨h1, h⟩ := h
  refine x_callVI (As := [aI v1]) (st := []) kX2_20 rfl ⟨rfl, rfl, by decide, by decide⟩ dX2_sidesMeet_2 rfl (Nat.le_of_ble_eq_true rfl) ⟨Nat.zero_le _, Nat.zero_le _⟩ h1 (ctX2_next h) (fun x_2 S_2 h => ?_)
  refine x_istore dX2_sidesMeet_5 (by decide) rfl ?_
  refine x_aload_n dX2_sidesMeet_7 rfl ?_
  refine x_iload_n dX2_sidesMeet_8 rfl ?_
  obtain ⟨h1, h⟩ := h
  refine x_callVI (As := [aI v3]) (st := []) kX2_20 rfl ⟨rfl, rfl, by decide, by decide⟩ dX2_sidesMeet_9 rfl (Nat.le_of_ble_eq_true rfl) ⟨Nat.zero_le _, Nat.zero_le _⟩ h1 (ctX2_next h) (fun x_9 S_9 h => ?_)
  refine x_istore dX2_sidesMeet_12 (by decide) rfl ?_
  refine x_aload_n dX2_sidesMeet_14 rfl ?_
  refine x_iload_n dX2_sidesMeet_15 rfl ?_
  refine x_aload_n dX2_sidesMeet_16 rfl ?_
  obtain ⟨h1, r_17, hr_17, h⟩ := h
  refine x_g2_0 rfl dX2_sidesMeet_17 h1 (x_un hr_17 ?_)
  refine x_iload_n dX2_sidesMeet_20 rfl ?_
  refine x_iald dX2_sidesMeet_21 h.1 ?_
  replace h := h.2
  refine x_i2l dX2_sidesMeet_22 ?_
  refine x_aload_n dX2_sidesMeet_23 rfl ?_
  obtain ⟨h1, r_24, hr_24, h⟩ := h
  refine x_g2_1 rfl dX2_sidesMeet_24 h1 (x_un hr_24 ?_)
  refine x_iload_n dX2_sidesMeet_27 rfl ?_
  refine x_iald dX2_sidesMeet_28 h.1 ?_
  replace h := h.2
  refine x_i2l dX2_sidesMeet_29 ?_
  refine x_lconst (v := 1) dX2_sidesMeet_30 (by decide) ?_
  obtain ⟨h1, h⟩ := h
  refine x_callVJ (As := [aI v1, aJ (Int32.toInt64 (hi S_9 r_17 (Int32.toNatClampNeg v3))), aJ (Int32.toInt64 (hi S_9 r_24 (Int32.toNatClampNeg v3))), aJ 1]) (st := []) kX2_32 rfl ⟨rfl, rfl, by decide, by decide⟩ dX2_sidesMeet_31 rfl (Nat.le_of_ble_eq_true rfl) ⟨Nat.zero_le _, Nat.zero_le _⟩ h1 (ctX2_turn h) (fun x_31 S_31 h => ?_)
  refine x_lstore dX2_sidesMeet_34 (by decide) rfl ?_
  refine x_aload_n dX2_sidesMeet_36 rfl ?_
  refine x_iload_n dX2_sidesMeet_37 rfl ?_
  refine x_aload_n dX2_sidesMeet_38 rfl ?_
  obtain ⟨h1, r_39, hr_39, h⟩ := h
  refine x_g2_0 rfl dX2_sidesMeet_39 h1 (x_un hr_39 ?_)
  refine x_iload dX2_sidesMeet_42 rfl ?_
  refine x_iald dX2_sidesMeet_44 h.1 ?_
  replace h := h.2
  refine x_i2l dX2_sidesMeet_45 ?_
  refine x_aload_n dX2_sidesMeet_46 rfl ?_
  obtain ⟨h1, r_47, hr_47, h⟩ := h
  refine x_g2_1 rfl dX2_sidesMeet_47 h1 (x_un hr_47 ?_)
  refine x_iload dX2_sidesMeet_50 rfl ?_
  refine x_iald dX2_sidesMeet_52 h.1 ?_
  replace h := h.2
  refine x_i2l dX2_sidesMeet_53 ?_
  refine x_lconst (v := 1) dX2_sidesMeet_54 (by decide) ?_
  obtain ⟨h1, h⟩ := h
  refine x_callVJ (As := [aI v1, aJ (Int32.toInt64 (hi S_31 r_39 (Int32.toNatClampNeg x_9))), aJ (Int32.toInt64 (hi S_31 r_47 (Int32.toNatClampNeg x_9))), aJ 1]) (st := []) kX2_32 rfl ⟨rfl, rfl, by decide, by decide⟩ dX2_sidesMeet_55 rfl (Nat.le_of_ble_eq_true rfl) ⟨Nat.zero_le _, Nat.zero_le _⟩ h1 (ctX2_turn h) (fun x_55 S_55 h => ?_)
  refine x_lstore dX2_sidesMeet_58 (by decide) rfl ?_
  refine x_aload_n dX2_sidesMeet_60 rfl ?_
  refine x_iload_n dX2_sidesMeet_61 rfl ?_
  refine x_aload_n dX2_sidesMeet_62 rfl ?_
  obtain ⟨h1, r_63, hr_63, h⟩ := h
  refine x_g2_0 rfl dX2_sidesMeet_63 h1 (x_un hr_63 ?_)
  refine x_iload_n dX2_sidesMeet_66 rfl ?_
  refine x_iald dX2_sidesMeet_67 h.1 ?_
  replace h := h.2
  refine x_i2l dX2_sidesMeet_68 ?_
  refine x_aload_n dX2_sidesMeet_69 rfl ?_
  obtain ⟨h1, r_70, hr_70, h⟩ := h
  refine x_g2_1 rfl dX2_sidesMeet_70 h1 (x_un hr_70 ?_)
  refine x_iload_n dX2_sidesMeet_73 rfl ?_
  refine x_iald dX2_sidesMeet_74 h.1 ?_
  replace h := h.2
  refine x_i2l dX2_sidesMeet_75 ?_
  refine x_lconst (v := 1) dX2_sidesMeet_76 (by decide) ?_
  obtain ⟨h1, h⟩ := h
  refine x_callVJ (As := [aI v3, aJ (Int32.toInt64 (hi S_55 r_63 (Int32.toNatClampNeg v1))), aJ (Int32.toInt64 (hi S_55 r_70 (Int32.toNatClampNeg v1))), aJ 1]) (st := []) kX2_32 rfl ⟨rfl, rfl, by decide, by decide⟩ dX2_sidesMeet_77 rfl (Nat.le_of_ble_eq_true rfl) ⟨Nat.zero_le _, Nat.zero_le _⟩ h1 (ctX2_turn h) (fun x_77 S_77 h => ?_)
  refine x_lstore dX2_sidesMeet_80 (by decide) rfl ?_
  refine x_aload_n dX2_sidesMeet_82 rfl ?_
  refine x_iload_n dX2_sidesMeet_83 rfl ?_
  refine x_aload_n dX2_sidesMeet_84 rfl ?_
  obtain ⟨h1, r_85, hr_85, h⟩ := h
  refine x_g2_0 rfl dX2_sidesMeet_85 h1 (x_un hr_85 ?_)
  refine x_iload dX2_sidesMeet_88 rfl ?_
  refine x_iald dX2_sidesMeet_90 h.1 ?_
  replace h := h.2
  refine x_i2l dX2_sidesMeet_91 ?_
  refine x_aload_n dX2_sidesMeet_92 rfl ?_
  obtain ⟨h1, r_93, hr_93, h⟩ := h
  refine x_g2_1 rfl dX2_sidesMeet_93 h1 (x_un hr_93 ?_)
  refine x_iload dX2_sidesMeet_96 rfl ?_
  refine x_iald dX2_sidesMeet_98 h.1 ?_
  replace h := h.2
  refine x_i2l dX2_sidesMeet_99 ?_
  refine x_lconst (v := 1) dX2_sidesMeet_100 (by decide) ?_
  obtain ⟨h1, h⟩ := h
  refine x_callVJ (As := [aI v3, aJ (Int32.toInt64 (hi S_77 r_85 (Int32.toNatClampNeg x_2))), aJ (Int32.toInt64 (hi S_77 r_93 (Int32.toNatClampNeg x_2))), aJ 1]) (st := []) kX2_32 rfl ⟨rfl, rfl, by decide, by decide⟩ dX2_sidesMeet_101 rfl (Nat.le_of_ble_eq_true rfl) ⟨Nat.zero_le _, Nat.zero_le _⟩ h1 (ctX2_turn h) (fun x_101 S_101 h => ?_)
  refine x_lstore dX2_sidesMeet_104 (by decide) rfl ?_
  refine x_lload dX2_sidesMeet_106 rfl ?_
  refine x_lload dX2_sidesMeet_108 rfl ?_
  refine x_callSI (As := [aJ x_31, aJ x_55]) (st := []) kX2_36 rfl ⟨rfl, rfl, by decide, by decide⟩ dX2_sidesMeet_110 rfl (Nat.le_of_ble_eq_true rfl) ⟨Nat.zero_le _, Nat.zero_le _⟩ (ctX2_areOpposite h) (fun x_110 S_110 h => ?_)
  refine x_if_eq (tgt := 128) dX2_sidesMeet_113 (by decide) (fun c => ?_) (fun c => ?_)
  · replace h := h.1 c
    refine x_lv (lv' := [(0, aA v0), (1, aI v1), (2, aA v2), (3, aI v3), (4, aI x_2), (5, aI x_9), (6, aJ x_31), (8, aJ x_55), (10, aJ x_77), (12, aJ x_101)]) ⟨rfl, rfl, rfl, rfl, rfl, rfl, rfl, rfl, rfl, rfl, trivial⟩ ?_
    exact xX2_sidesMeet_128 hQ  _ _ _ _ _ _ _ _ _ _ _ h
  · replace h := h.2 c
    refine x_lload dX2_sidesMeet_116 rfl ?_
    refine x_lload dX2_sidesMeet_118 rfl ?_
    refine x_callSI (As := [aJ x_77, aJ x_101]) (st := []) kX2_36 rfl ⟨rfl, rfl, by decide, by decide⟩ dX2_sidesMeet_120 rfl (Nat.le_of_ble_eq_true rfl) ⟨Nat.zero_le _, Nat.zero_le _⟩ (ctX2_areOpposite h) (fun x_120 S_120 h => ?_)
    refine x_if_eq (tgt := 128) dX2_sidesMeet_123 (by decide) (fun c => ?_) (fun c => ?_)
    · replace h := h.1 c
      refine x_lv (lv' := [(0, aA v0), (1, aI v1), (2, aA v2), (3, aI v3), (4, aI x_2), (5, aI x_9), (6, aJ x_31), (8, aJ x_55), (10, aJ x_77), (12, aJ x_101)]) ⟨rfl, rfl, rfl, rfl, rfl, rfl, rfl, rfl, rfl, rfl, trivial⟩ ?_
      exact xX2_sidesMeet_128 hQ  _ _ _ _ _ _ _ _ _ _ _ h
    · replace h := h.2 c
      refine x_iconst (v := 1) dX2_sidesMeet_126 (by decide) ?_
      exact x_zret hQ rfl dX2_sidesMeet_127 ⟨Or.inr rfl, _, rfl, h⟩
set_option maxRecDepth 100000 in
set_option maxHeartbeats 4000000 in
theorem xX2_meets_12 {E : en} {ad : Nat → Nat} {Post : Int32 → hs → Prop} (hQ : isQ E ad (pI Post)) {K2 : Nat → Nat → Int32 → hs → Prop} (hK2 : ∀ (v0 : Nat) (v1 : Nat) (v2 : Int32) (S : hs), K2 v0 v1 v2 S → X E mX2_meets 0 0 ad S 2 [(0, aA v0), (1, aA v1), (2, aI v2)] []) : ∀ (n : Nat) (v0 : Nat) (v1 : Nat) (v2 : Int32) (v3 : Int32) (S : hs) (_ : PX2_meets_12 Post K2 n v0 v1 v2 v3 S), X E mX2_meets 0 0 ad S 12 [(0, aA v0), (1, aA v1), (2, aI v2), (3, aI v3)] [] := by
  intro n
  induction n with
  | zero => intro v0 v1 v2 v3 S h; exact h.elim
  | succ n ih =>
    intro v0 v1 v2 v3 S h
    have hK12 := ih
    simp only [PX2_meets_12] at h
    refine x_iload_n dX2_meets_12 rfl ?_
    refine x_aload_n dX2_meets_13 rfl ?_
    refine x_g2_2 rfl dX2_meets_14 h.1 ?_
    replace h := h.2
    refine x_icmp_ge (tgt := 38) dX2_meets_17 (by decide) (fun c => ?_) (fun c => ?_)
    · replace h := h.1 c
      obtain ⟨v2_38, hv2_38⟩ : ∃ y : Int32, y = v2 + 1 := ⟨_, rfl⟩
      replace h := h v2_38 hv2_38
      refine x_iinc (v := v2_38) dX2_meets_38 rfl (by rw [hv2_38]; rfl) (by decide) rfl ?_
      refine x_goto (tgt := 2) dX2_meets_41 (by decide) ?_
      refine x_lv (lv' := [(0, aA v0), (1, aA v1), (2, aI v2_38)]) ⟨rfl, rfl, rfl, trivial⟩ ?_
      exact hK2 _ _ _ _ h
    · replace h := h.2 c
      refine x_aload_n dX2_meets_20 rfl ?_
      refine x_iload_n dX2_meets_21 rfl ?_
      refine x_aload_n dX2_meets_22 rfl ?_
      refine x_iload_n dX2_meets_23 rfl ?_
      obtain ⟨h1, h⟩ := h
      refine x_callVI (As := [aI v2, aA v1, aI v3]) (st := []) kX2_28 rfl ⟨rfl, rfl, by decide, by decide⟩ dX2_meets_24 rfl (Nat.le_of_ble_eq_true rfl) ⟨Nat.zero_le _, Nat.zero_le _⟩ h1 (ctX2_sidesMeet h) (fun x_24 S_24 h => ?_)
      refine x_if_eq (tgt := 32) dX2_meets_27 (by decide) (fun c => ?_) (fun c => ?_)
      · replace h := h.1 c
        obtain ⟨v3_32, hv3_32⟩ : ∃ y : Int32, y = v3 + 1 := ⟨_, rfl⟩
        replace h := h v3_32 hv3_32
        refine x_iinc (v := v3_32) dX2_meets_32 rfl (by rw [hv3_32]; rfl) (by decide) rfl ?_
        refine x_goto (tgt := 12) dX2_meets_35 (by decide) ?_
        refine x_lv (lv' := [(0, aA v0), (1, aA v1), (2, aI v2), (3, aI v3_32)]) ⟨rfl, rfl, rfl, rfl, trivial⟩ ?_
        exact hK12 _ _ _ _ _ h
      · replace h := h.2 c
        refine x_iconst (v := 1) dX2_meets_30 (by decide) ?_
        exact x_zret hQ rfl dX2_meets_31 ⟨Or.inr rfl, _, rfl, h⟩
set_option maxRecDepth 100000 in
set_option maxHeartbeats 4000000 in
theorem xX2_meets_2 {E : en} {ad : Nat → Nat} {Post : Int32 → hs → Prop} (hQ : isQ E ad (pI Post))   : ∀ (n : Nat) (v0 : Nat) (v1 : Nat) (v2 : Int32) (S : hs) (_ : PX2_meets_2 Post  n v0 v1 v2 S), X E mX2_meets 0 0 ad S 2 [(0, aA v0), (1, aA v1), (2, aI v2)] [] := by
  intro n
  induction n with
  | zero => intro v0 v1 v2 S h; exact h.elim
  | succ n ih =>
    intro v0 v1 v2 S h
    have hK2 := ih
    simp only [PX2_meets_2] at h
    refine x_iload_n dX2_meets_2 rfl ?_
    refine x_aload_n dX2_meets_3 rfl ?_
    refine x_g2_2 rfl dX2_meets_4 h.1 ?_
    replace h := h.2
    refine x_icmp_ge (tgt := 44) dX2_meets_7 (by decide) (fun c => ?_) (fun c => ?_)
    · replace h := h.1 c
      refine x_iconst (v := 0) dX2_meets_44 (by decide) ?_
      exact x_zret hQ rfl dX2_meets_45 ⟨Or.inl rfl, _, rfl, h⟩
    · replace h := h.2 c
      refine x_iconst (v := 0) dX2_meets_10 (by decide) ?_
      refine x_istore_n dX2_meets_11 (by decide) rfl ?_
      refine x_lv (lv' := [(0, aA v0), (1, aA v1), (2, aI v2), (3, aI 0)]) ⟨rfl, rfl, rfl, rfl, trivial⟩ ?_
      obtain ⟨n, h⟩ := h
      exact xX2_meets_12 hQ hK2 n _ _ _ _ _ h
set_option maxRecDepth 100000 in
set_option maxHeartbeats 4000000 in
theorem ctX2_meets {G : Launch × va_G × (Nat → ClassId) × Nat} {v0 : Nat} {v1 : Nat} {S : hs} {Post : Int32 → hs → Prop} (h : PX2_meets v0 v1 S Post) : ctN G mX2_meets [aA v0, aA v1] S (pI Post) := by
  refine ctN.of (by decide) (Nat.le_of_ble_eq_true rfl) (fun E ad hG hQ => ?_)
  subst hG
  unfold PX2_meets at h
  refine x_iconst (v := 0) dX2_meets_0 (by decide) ?_
  refine x_istore_n dX2_meets_1 (by decide) rfl ?_
  refine x_lv (lv' := [(0, aA v0), (1, aA v1), (2, aI 0)]) ⟨rfl, rfl, rfl, trivial⟩ ?_
  obtain ⟨n, h⟩ := h
  exact xX2_meets_2 hQ  n _ _ _ _ h
set_option maxRecDepth 100000 in
set_option maxHeartbeats 4000000 in
theorem xX2_xOf_22 {E : en} {ad : Nat → Nat} {Post : Int32 → hs → Prop} (hQ : isQ E ad (pI Post))   (s0 : Int32) (S : hs) (h : PX2_xOf_22 Post  s0 S) : X E mX2_xOf 0 0 ad S 22 [] [aI s0] := by
  unfold PX2_xOf_22 at h
  exact x_iret hQ rfl dX2_xOf_22 ⟨_, rfl, h⟩
set_option maxRecDepth 100000 in
set_option maxHeartbeats 4000000 in
theorem xX2_xOf_21 {E : en} {ad : Nat → Nat} {Post : Int32 → hs → Prop} (hQ : isQ E ad (pI Post))    (S : hs) (h : PX2_xOf_21 Post   S) : X E mX2_xOf 0 0 ad S 21 [] [] := by
  unfold PX2_xOf_21 at h
  refine x_iconst (v := 0) dX2_xOf_21 (by decide) ?_
  refine x_lv (lv' := []) trivial ?_
  exact xX2_xOf_22 hQ  _ _ h
set_option maxRecDepth 100000 in
set_option maxHeartbeats 4000000 in
theorem ctX2_xOf {G : Launch × va_G × (Nat → ClassId) × Nat} {v0 : Nat} {v1 : Int32} {S : hs} {Post : Int32 → hs → Prop} (h : PX2_xOf v0 v1 S Post) : ctN G mX2_xOf [aA v0, aI v1] S (pI Post) := by
  refine ctN.of (by decide) (Nat.le_of_ble_eq_true rfl) (fun E ad hG hQ => ?_)
  subst hG
  unfold PX2_xOf at h
  refine x_iload_n dX2_xOf_0 rfl ?_
  refine x_if_lt (tgt := 21) dX2_xOf_1 (by decide) (fun c => ?_) (fun c => ?_)
  · replace h := h.1 c
    refine x_lv (lv' := []) trivial ?_
    exact xX2_xOf_21 hQ   _ h
  · replace h := h.2 c
    refine x_iload_n dX2_xOf_4 rfl ?_
    refine x_aload_n dX2_xOf_5 rfl ?_
    refine x_g2_2 rfl dX2_xOf_6 h.1 ?_
    replace h := h.2
    refine x_icmp_ge (tgt := 21) dX2_xOf_9 (by decide) (fun c => ?_) (fun c => ?_)
    · replace h := h.1 c
      refine x_lv (lv' := []) trivial ?_
      exact xX2_xOf_21 hQ   _ h
    · replace h := h.2 c
      refine x_aload_n dX2_xOf_12 rfl ?_
      obtain ⟨h1, r_13, hr_13, h⟩ := h
      refine x_g2_0 rfl dX2_xOf_13 h1 (x_un hr_13 ?_)
      refine x_iload_n dX2_xOf_16 rfl ?_
      refine x_iald dX2_xOf_17 h.1 ?_
      replace h := h.2
      refine x_goto (tgt := 22) dX2_xOf_18 (by decide) ?_
      refine x_lv (lv' := []) trivial ?_
      exact xX2_xOf_22 hQ  _ _ h
set_option maxRecDepth 100000 in
set_option maxHeartbeats 4000000 in
theorem xX2_yOf_22 {E : en} {ad : Nat → Nat} {Post : Int32 → hs → Prop} (hQ : isQ E ad (pI Post))   (s0 : Int32) (S : hs) (h : PX2_yOf_22 Post  s0 S) : X E mX2_yOf 0 0 ad S 22 [] [aI s0] := by
  unfold PX2_yOf_22 at h
  exact x_iret hQ rfl dX2_yOf_22 ⟨_, rfl, h⟩
set_option maxRecDepth 100000 in
set_option maxHeartbeats 4000000 in
theorem xX2_yOf_21 {E : en} {ad : Nat → Nat} {Post : Int32 → hs → Prop} (hQ : isQ E ad (pI Post))    (S : hs) (h : PX2_yOf_21 Post   S) : X E mX2_yOf 0 0 ad S 21 [] [] := by
  unfold PX2_yOf_21 at h
  refine x_iconst (v := 0) dX2_yOf_21 (by decide) ?_
  refine x_lv (lv' := []) trivial ?_
  exact xX2_yOf_22 hQ  _ _ h
set_option maxRecDepth 100000 in
set_option maxHeartbeats 4000000 in
theorem ctX2_yOf {G : Launch × va_G × (Nat → ClassId) × Nat} {v0 : Nat} {v1 : Int32} {S : hs} {Post : Int32 → hs → Prop} (h : PX2_yOf v0 v1 S Post) : ctN G mX2_yOf [aA v0, aI v1] S (pI Post) := by
  refine ctN.of (by decide) (Nat.le_of_ble_eq_true rfl) (fun E ad hG hQ => ?_)
  subst hG
  unfold PX2_yOf at h
  refine x_iload_n dX2_yOf_0 rfl ?_
  refine x_if_lt (tgt := 21) dX2_yOf_1 (by decide) (fun c => ?_) (fun c => ?_)
  · replace h := h.1 c
    refine x_lv (lv' := []) trivial ?_
    exact xX2_yOf_21 hQ   _ h
  · replace h := h.2 c
    refine x_iload_n dX2_yOf_4 rfl ?_
    refine x_aload_n dX2_yOf_5 rfl ?_
    refine x_g2_2 rfl dX2_yOf_6 h.1 ?_
    replace h := h.2
    refine x_icmp_ge (tgt := 21) dX2_yOf_9 (by decide) (fun c => ?_) (fun c => ?_)
    · replace h := h.1 c
      refine x_lv (lv' := []) trivial ?_
      exact xX2_yOf_21 hQ   _ h
    · replace h := h.2 c
      refine x_aload_n dX2_yOf_12 rfl ?_
      obtain ⟨h1, r_13, hr_13, h⟩ := h
      refine x_g2_1 rfl dX2_yOf_13 h1 (x_un hr_13 ?_)
      refine x_iload_n dX2_yOf_16 rfl ?_
      refine x_iald dX2_yOf_17 h.1 ?_
      replace h := h.2
      refine x_goto (tgt := 22) dX2_yOf_18 (by decide) ?_
      refine x_lv (lv' := []) trivial ?_
      exact xX2_yOf_22 hQ  _ _ h
set_option maxRecDepth 100000 in
set_option maxHeartbeats 4000000 in
theorem xX0_fitsAsHole_2 {E : en} {ad : Nat → Nat} {Post : Int32 → hs → Prop} (hQ : isQ E ad (pI Post))   : ∀ (n : Nat) (v0 : Nat) (v1 : Nat) (v2 : Int32) (S : hs) (_ : PX0_fitsAsHole_2 Post  n v0 v1 v2 S), X E mX0_fitsAsHole 0 0 ad S 2 [(0, aA v0), (1, aA v1), (2, aI v2)] [] := by
  intro n
  induction n with
  | zero => intro v0 v1 v2 S h; exact h.elim
  | succ n ih =>
    intro v0 v1 v2 S h
    have hK2 := ih
    simp only [PX0_fitsAsHole_2] at h
    refine x_iload_n dX0_fitsAsHole_2 rfl ?_
    refine x_aload_n dX0_fitsAsHole_3 rfl ?_
    refine x_g0_1 rfl dX0_fitsAsHole_4 h.1 ?_
    replace h := h.2
    refine x_icmp_ge (tgt := 30) dX0_fitsAsHole_7 (by decide) (fun c => ?_) (fun c => ?_)
    · replace h := h.1 c
      refine x_aload_n dX0_fitsAsHole_30 rfl ?_
      refine x_aload_n dX0_fitsAsHole_31 rfl ?_
      refine x_iconst (v := 0) dX0_fitsAsHole_32 (by decide) ?_
      obtain ⟨h1, h⟩ := h
      refine x_callVI (As := [aI 0]) (st := [aA v0]) kX0_61 rfl ⟨rfl, rfl, by decide, by decide⟩ dX0_fitsAsHole_33 rfl (Nat.le_of_ble_eq_true rfl) ⟨Nat.zero_le _, Nat.zero_le _⟩ h1 (ctX2_xOf h) (fun x_33 S_33 h => ?_)
      refine x_i2l dX0_fitsAsHole_36 ?_
      refine x_aload_n dX0_fitsAsHole_37 rfl ?_
      refine x_iconst (v := 0) dX0_fitsAsHole_38 (by decide) ?_
      obtain ⟨h1, h⟩ := h
      refine x_callVI (As := [aI 0]) (st := [aJ (Int32.toInt64 x_33), aA v0]) kX0_65 rfl ⟨rfl, rfl, by decide, by decide⟩ dX0_fitsAsHole_39 rfl (Nat.le_of_ble_eq_true rfl) ⟨Nat.zero_le _, Nat.zero_le _⟩ h1 (ctX2_yOf h) (fun x_39 S_39 h => ?_)
      refine x_i2l dX0_fitsAsHole_42 ?_
      refine x_lconst (v := 1) dX0_fitsAsHole_43 (by decide) ?_
      obtain ⟨h1, h⟩ := h
      refine x_callVI (As := [aJ (Int32.toInt64 x_33), aJ (Int32.toInt64 x_39), aJ 1]) (st := []) kX0_68 rfl ⟨rfl, rfl, by decide, by decide⟩ dX0_fitsAsHole_44 rfl (Nat.le_of_ble_eq_true rfl) ⟨Nat.zero_le _, Nat.zero_le _⟩ h1 (ctX0_contains h) (fun x_44 S_44 h => ?_)
      exact x_zret hQ rfl dX0_fitsAsHole_47 ⟨h.1, _, rfl, h.2⟩
    · replace h := h.2 c
      refine x_aload_n dX0_fitsAsHole_10 rfl ?_
      refine x_aload_n dX0_fitsAsHole_11 rfl ?_
      refine x_iload_n dX0_fitsAsHole_12 rfl ?_
      obtain ⟨h1, h⟩ := h
      refine x_callVR (As := [aI v2]) (st := [aA v1]) kX0_54 rfl ⟨rfl, rfl, by decide, by decide⟩ dX0_fitsAsHole_13 rfl (Nat.le_of_ble_eq_true rfl) ⟨Nat.zero_le _, Nat.zero_le _⟩ h1 (ctX0_ringOf h) (fun x_13 S_13 h => ?_)
      obtain ⟨r_13, hr_13, h⟩ := h
      refine x_un hr_13 ?_
      obtain ⟨h1, h⟩ := h
      refine x_callVI (As := [aA r_13]) (st := []) kX0_58 rfl ⟨rfl, rfl, by decide, by decide⟩ dX0_fitsAsHole_16 rfl (Nat.le_of_ble_eq_true rfl) ⟨Nat.zero_le _, Nat.zero_le _⟩ h1 (ctX2_meets h) (fun x_16 S_16 h => ?_)
      refine x_if_eq (tgt := 24) dX0_fitsAsHole_19 (by decide) (fun c => ?_) (fun c => ?_)
      · replace h := h.1 c
        obtain ⟨v2_24, hv2_24⟩ : ∃ y : Int32, y = v2 + 1 := ⟨_, rfl⟩
        replace h := h v2_24 hv2_24
        refine x_iinc (v := v2_24) dX0_fitsAsHole_24 rfl (by rw [hv2_24]; rfl) (by decide) rfl ?_
        refine x_goto (tgt := 2) dX0_fitsAsHole_27 (by decide) ?_
        refine x_lv (lv' := [(0, aA v0), (1, aA v1), (2, aI v2_24)]) ⟨rfl, rfl, rfl, trivial⟩ ?_
        exact hK2 _ _ _ _ h
      · replace h := h.2 c
        refine x_iconst (v := 0) dX0_fitsAsHole_22 (by decide) ?_
        exact x_zret hQ rfl dX0_fitsAsHole_23 ⟨Or.inl rfl, _, rfl, h⟩
set_option maxRecDepth 100000 in
set_option maxHeartbeats 4000000 in
theorem ctX0_fitsAsHole {G : Launch × va_G × (Nat → ClassId) × Nat} {v0 : Nat} {v1 : Nat} {S : hs} {Post : Int32 → hs → Prop} (h : PX0_fitsAsHole v0 v1 S Post) : ctN G mX0_fitsAsHole [aA v0, aA v1] S (pI Post) := by
  refine ctN.of (by decide) (Nat.le_of_ble_eq_true rfl) (fun E ad hG hQ => ?_)
  subst hG
  unfold PX0_fitsAsHole at h
  refine x_iconst (v := 0) dX0_fitsAsHole_0 (by decide) ?_
  refine x_istore_n dX0_fitsAsHole_1 (by decide) rfl ?_
  refine x_lv (lv' := [(0, aA v0), (1, aA v1), (2, aI 0)]) ⟨rfl, rfl, rfl, trivial⟩ ?_
  obtain ⟨n, h⟩ := h
  exact xX0_fitsAsHole_2 hQ  n _ _ _ _ h
set_option maxRecDepth 100000 in
set_option maxHeartbeats 4000000 in
theorem xX2_foldsBackAt_92 {E : en} {ad : Nat → Nat} {Post : Int32 → hs → Prop} (hQ : isQ E ad (pI Post))   (s0 : Int32) (S : hs) (h : PX2_foldsBackAt_92 Post  s0 S) : X E mX2_foldsBackAt 0 0 ad S 92 [] [aI s0] := by
  unfold PX2_foldsBackAt_92 at h
  exact x_zret hQ rfl dX2_foldsBackAt_92 ⟨h.1, _, rfl, h.2⟩
set_option maxRecDepth 100000 in
set_option maxHeartbeats 4000000 in
theorem xX2_foldsBackAt_91 {E : en} {ad : Nat → Nat} {Post : Int32 → hs → Prop} (hQ : isQ E ad (pI Post))    (S : hs) (h : PX2_foldsBackAt_91 Post   S) : X E mX2_foldsBackAt 0 0 ad S 91 [] [] := by
  unfold PX2_foldsBackAt_91 at h
  refine x_iconst (v := 0) dX2_foldsBackAt_91 (by decide) ?_
  refine x_lv (lv' := []) trivial ?_
  exact xX2_foldsBackAt_92 hQ  _ _ h
set_option maxRecDepth 100000 in
set_option maxHeartbeats 4000000 in
theorem ctX2_foldsBackAt {G : Launch × va_G × (Nat → ClassId) × Nat} {v0 : Nat} {v1 : Int32} {v2 : Int32} {v3 : Int32} {S : hs} {Post : Int32 → hs → Prop} (h : PX2_foldsBackAt v0 v1 v2 v3 S Post) : ctN G mX2_foldsBackAt [aA v0, aI v1, aI v2, aI v3] S (pI Post) := by
  refine ctN.of (by decide) (Nat.le_of_ble_eq_true rfl) (fun E ad hG hQ => ?_)
  subst hG
  unfold PX2_foldsBackAt at h
  refine x_aload_n dX2_foldsBackAt_0 rfl ?_
  obtain ⟨h1, r_1, hr_1, h⟩ := h
  refine x_g2_0 rfl dX2_foldsBackAt_1 h1 (x_un hr_1 ?_)
  refine x_iload_n dX2_foldsBackAt_4 rfl ?_
  refine x_iald dX2_foldsBackAt_5 h.1 ?_
  replace h := h.2
  refine x_aload_n dX2_foldsBackAt_6 rfl ?_
  obtain ⟨h1, r_7, hr_7, h⟩ := h
  refine x_g2_0 rfl dX2_foldsBackAt_7 h1 (x_un hr_7 ?_)
  refine x_iload_n dX2_foldsBackAt_10 rfl ?_
  refine x_iald dX2_foldsBackAt_11 h.1 ?_
  replace h := h.2
  refine x_isub dX2_foldsBackAt_12 ?_
  refine x_nI (fun v4_13 hv4_13 => ?_)
  replace h := h v4_13 hv4_13
  refine x_istore dX2_foldsBackAt_13 (by decide) rfl ?_
  refine x_aload_n dX2_foldsBackAt_15 rfl ?_
  obtain ⟨h1, r_16, hr_16, h⟩ := h
  refine x_g2_1 rfl dX2_foldsBackAt_16 h1 (x_un hr_16 ?_)
  refine x_iload_n dX2_foldsBackAt_19 rfl ?_
  refine x_iald dX2_foldsBackAt_20 h.1 ?_
  replace h := h.2
  refine x_aload_n dX2_foldsBackAt_21 rfl ?_
  obtain ⟨h1, r_22, hr_22, h⟩ := h
  refine x_g2_1 rfl dX2_foldsBackAt_22 h1 (x_un hr_22 ?_)
  refine x_iload_n dX2_foldsBackAt_25 rfl ?_
  refine x_iald dX2_foldsBackAt_26 h.1 ?_
  replace h := h.2
  refine x_isub dX2_foldsBackAt_27 ?_
  refine x_nI (fun v5_28 hv5_28 => ?_)
  replace h := h v5_28 hv5_28
  refine x_istore dX2_foldsBackAt_28 (by decide) rfl ?_
  refine x_aload_n dX2_foldsBackAt_30 rfl ?_
  obtain ⟨h1, r_31, hr_31, h⟩ := h
  refine x_g2_0 rfl dX2_foldsBackAt_31 h1 (x_un hr_31 ?_)
  refine x_iload_n dX2_foldsBackAt_34 rfl ?_
  refine x_iald dX2_foldsBackAt_35 h.1 ?_
  replace h := h.2
  refine x_aload_n dX2_foldsBackAt_36 rfl ?_
  obtain ⟨h1, r_37, hr_37, h⟩ := h
  refine x_g2_0 rfl dX2_foldsBackAt_37 h1 (x_un hr_37 ?_)
  refine x_iload_n dX2_foldsBackAt_40 rfl ?_
  refine x_iald dX2_foldsBackAt_41 h.1 ?_
  replace h := h.2
  refine x_isub dX2_foldsBackAt_42 ?_
  refine x_nI (fun v6_43 hv6_43 => ?_)
  replace h := h v6_43 hv6_43
  refine x_istore dX2_foldsBackAt_43 (by decide) rfl ?_
  refine x_aload_n dX2_foldsBackAt_45 rfl ?_
  obtain ⟨h1, r_46, hr_46, h⟩ := h
  refine x_g2_1 rfl dX2_foldsBackAt_46 h1 (x_un hr_46 ?_)
  refine x_iload_n dX2_foldsBackAt_49 rfl ?_
  refine x_iald dX2_foldsBackAt_50 h.1 ?_
  replace h := h.2
  refine x_aload_n dX2_foldsBackAt_51 rfl ?_
  obtain ⟨h1, r_52, hr_52, h⟩ := h
  refine x_g2_1 rfl dX2_foldsBackAt_52 h1 (x_un hr_52 ?_)
  refine x_iload_n dX2_foldsBackAt_55 rfl ?_
  refine x_iald dX2_foldsBackAt_56 h.1 ?_
  replace h := h.2
  refine x_isub dX2_foldsBackAt_57 ?_
  refine x_nI (fun v7_58 hv7_58 => ?_)
  replace h := h v7_58 hv7_58
  refine x_istore dX2_foldsBackAt_58 (by decide) rfl ?_
  refine x_iload dX2_foldsBackAt_60 rfl ?_
  refine x_iload dX2_foldsBackAt_62 rfl ?_
  refine x_imul dX2_foldsBackAt_64 ?_
  refine x_iload dX2_foldsBackAt_65 rfl ?_
  refine x_iload dX2_foldsBackAt_67 rfl ?_
  refine x_imul dX2_foldsBackAt_69 ?_
  refine x_icmp_ne (tgt := 91) dX2_foldsBackAt_70 (by decide) (fun c => ?_) (fun c => ?_)
  · replace h := h.2 c
    refine x_lv (lv' := []) trivial ?_
    exact xX2_foldsBackAt_91 hQ   _ h
  · replace h := h.1 c
    refine x_iload dX2_foldsBackAt_73 rfl ?_
    refine x_iload dX2_foldsBackAt_75 rfl ?_
    refine x_imul dX2_foldsBackAt_77 ?_
    refine x_iload dX2_foldsBackAt_78 rfl ?_
    refine x_iload dX2_foldsBackAt_80 rfl ?_
    refine x_imul dX2_foldsBackAt_82 ?_
    refine x_iadd dX2_foldsBackAt_83 ?_
    refine x_if_le (tgt := 91) dX2_foldsBackAt_84 (by decide) (fun c => ?_) (fun c => ?_)
    · replace h := h.1 c
      refine x_lv (lv' := []) trivial ?_
      exact xX2_foldsBackAt_91 hQ   _ h
    · replace h := h.2 c
      refine x_iconst (v := 1) dX2_foldsBackAt_87 (by decide) ?_
      refine x_goto (tgt := 92) dX2_foldsBackAt_88 (by decide) ?_
      refine x_lv (lv' := []) trivial ?_
      exact xX2_foldsBackAt_92 hQ  _ _ h
set_option maxRecDepth 100000 in
set_option maxHeartbeats 4000000 in
theorem xX2_isSimple_128 {E : en} {ad : Nat → Nat} {Post : Int32 → hs → Prop} (hQ : isQ E ad (pI Post)) {K12 : Nat → Int32 → hs → Prop} {K48 : Nat → Int32 → Int32 → hs → Prop} (hK12 : ∀ (v0 : Nat) (v1 : Int32) (S : hs), K12 v0 v1 S → X E mX2_isSimple 0 0 ad S 12 [(0, aA v0), (1, aI v1)] []) (hK48 : ∀ (v0 : Nat) (v1 : Int32) (v2 : Int32) (S : hs), K48 v0 v1 v2 S → X E mX2_isSimple 0 0 ad S 48 [(0, aA v0), (1, aI v1), (2, aI v2)] []) (v0 : Nat) (v1 : Int32) (v2 : Int32) (S : hs) (h : PX2_isSimple_128 Post K12 K48 v0 v1 v2 S) : X E mX2_isSimple 0 0 ad S 128 [(0, aA v0), (1, aI v1), (2, aI v2)] [] := by
  unfold PX2_isSimple_128 at h
  obtain ⟨v2_128, hv2_128⟩ : ∃ y : Int32, y = v2 + 1 := ⟨_, rfl⟩
  replace h := h v2_128 hv2_128
  refine x_iinc (v := v2_128) dX2_isSimple_128 rfl (by rw [hv2_128]; rfl) (by decide) rfl ?_
  refine x_goto (tgt := 48) dX2_isSimple_131 (by decide) ?_
  refine x_lv (lv' := [(0, aA v0), (1, aI v1), (2, aI v2_128)]) ⟨rfl, rfl, rfl, trivial⟩ ?_
  exact hK48 _ _ _ _ h
set_option maxRecDepth 100000 in
set_option maxHeartbeats 4000000 in
theorem xX2_isSimple_111 {E : en} {ad : Nat → Nat} {Post : Int32 → hs → Prop} (hQ : isQ E ad (pI Post)) {K12 : Nat → Int32 → hs → Prop} {K48 : Nat → Int32 → Int32 → hs → Prop} (hK12 : ∀ (v0 : Nat) (v1 : Int32) (S : hs), K12 v0 v1 S → X E mX2_isSimple 0 0 ad S 12 [(0, aA v0), (1, aI v1)] []) (hK48 : ∀ (v0 : Nat) (v1 : Int32) (v2 : Int32) (S : hs), K48 v0 v1 v2 S → X E mX2_isSimple 0 0 ad S 48 [(0, aA v0), (1, aI v1), (2, aI v2)] []) (v0 : Nat) (v1 : Int32) (v2 : Int32) (s0 : Int32) (S : hs) (h : PX2_isSimple_111 Post K12 K48 v0 v1 v2 s0 S) : X E mX2_isSimple 0 0 ad S 111 [(0, aA v0), (1, aI v1), (2, aI v2)] [aI s0] := by
  unfold PX2_isSimple_111 at h
  refine x_istore_n dX2_isSimple_111 (by decide) rfl ?_
  refine x_iload_n dX2_isSimple_112 rfl ?_
  refine x_if_ne (tgt := 128) dX2_isSimple_113 (by decide) (fun c => ?_) (fun c => ?_)
  · replace h := h.2 c
    refine x_lv (lv' := [(0, aA v0), (1, aI v1), (2, aI v2)]) ⟨rfl, rfl, rfl, trivial⟩ ?_
    exact xX2_isSimple_128 hQ hK12 hK48 _ _ _ _ h
  · replace h := h.1 c
    refine x_aload_n dX2_isSimple_116 rfl ?_
    refine x_iload_n dX2_isSimple_117 rfl ?_
    refine x_aload_n dX2_isSimple_118 rfl ?_
    refine x_iload_n dX2_isSimple_119 rfl ?_
    obtain ⟨h1, h⟩ := h
    refine x_callVI (As := [aI v1, aA v0, aI v2]) (st := []) kX2_28 rfl ⟨rfl, rfl, by decide, by decide⟩ dX2_isSimple_120 rfl (Nat.le_of_ble_eq_true rfl) ⟨Nat.zero_le _, Nat.zero_le _⟩ h1 (ctX2_sidesMeet h) (fun x_120 S_120 h => ?_)
    refine x_if_eq (tgt := 128) dX2_isSimple_123 (by decide) (fun c => ?_) (fun c => ?_)
    · replace h := h.1 c
      refine x_lv (lv' := [(0, aA v0), (1, aI v1), (2, aI v2)]) ⟨rfl, rfl, rfl, trivial⟩ ?_
      exact xX2_isSimple_128 hQ hK12 hK48 _ _ _ _ h
    · replace h := h.2 c
      refine x_iconst (v := 0) dX2_isSimple_126 (by decide) ?_
      exact x_zret hQ rfl dX2_isSimple_127 ⟨Or.inl rfl, _, rfl, h⟩
set_option maxRecDepth 100000 in
set_option maxHeartbeats 4000000 in
theorem xX2_isSimple_106 {E : en} {ad : Nat → Nat} {Post : Int32 → hs → Prop} (hQ : isQ E ad (pI Post)) {K12 : Nat → Int32 → hs → Prop} {K48 : Nat → Int32 → Int32 → hs → Prop} (hK12 : ∀ (v0 : Nat) (v1 : Int32) (S : hs), K12 v0 v1 S → X E mX2_isSimple 0 0 ad S 12 [(0, aA v0), (1, aI v1)] []) (hK48 : ∀ (v0 : Nat) (v1 : Int32) (v2 : Int32) (S : hs), K48 v0 v1 v2 S → X E mX2_isSimple 0 0 ad S 48 [(0, aA v0), (1, aI v1), (2, aI v2)] []) (v0 : Nat) (v1 : Int32) (v2 : Int32) (S : hs) (h : PX2_isSimple_106 Post K12 K48 v0 v1 v2 S) : X E mX2_isSimple 0 0 ad S 106 [(0, aA v0), (1, aI v1), (2, aI v2)] [] := by
  unfold PX2_isSimple_106 at h
  refine x_iconst (v := 1) dX2_isSimple_106 (by decide) ?_
  refine x_goto (tgt := 111) dX2_isSimple_107 (by decide) ?_
  refine x_lv (lv' := [(0, aA v0), (1, aI v1), (2, aI v2)]) ⟨rfl, rfl, rfl, trivial⟩ ?_
  exact xX2_isSimple_111 hQ hK12 hK48 _ _ _ _ _ h
set_option maxRecDepth 100000 in
set_option maxHeartbeats 4000000 in
theorem xX2_isSimple_88 {E : en} {ad : Nat → Nat} {Post : Int32 → hs → Prop} (hQ : isQ E ad (pI Post)) {K12 : Nat → Int32 → hs → Prop} {K48 : Nat → Int32 → Int32 → hs → Prop} (hK12 : ∀ (v0 : Nat) (v1 : Int32) (S : hs), K12 v0 v1 S → X E mX2_isSimple 0 0 ad S 12 [(0, aA v0), (1, aI v1)] []) (hK48 : ∀ (v0 : Nat) (v1 : Int32) (v2 : Int32) (S : hs), K48 v0 v1 v2 S → X E mX2_isSimple 0 0 ad S 48 [(0, aA v0), (1, aI v1), (2, aI v2)] []) (v0 : Nat) (v1 : Int32) (v2 : Int32) (S : hs) (h : PX2_isSimple_88 Post K12 K48 v0 v1 v2 S) : X E mX2_isSimple 0 0 ad S 88 [(0, aA v0), (1, aI v1), (2, aI v2)] [] := by
  unfold PX2_isSimple_88 at h
  refine x_aload_n dX2_isSimple_88 rfl ?_
  refine x_iload_n dX2_isSimple_89 rfl ?_
  obtain ⟨h1, h⟩ := h
  refine x_callVI (As := [aI v1]) (st := []) kX2_20 rfl ⟨rfl, rfl, by decide, by decide⟩ dX2_isSimple_90 rfl (Nat.le_of_ble_eq_true rfl) ⟨Nat.zero_le _, Nat.zero_le _⟩ h1 (ctX2_next h) (fun x_90 S_90 h => ?_)
  refine x_iload_n dX2_isSimple_93 rfl ?_
  refine x_icmp_eq (tgt := 106) dX2_isSimple_94 (by decide) (fun c => ?_) (fun c => ?_)
  · replace h := h.1 c
    refine x_lv (lv' := [(0, aA v0), (1, aI v1), (2, aI v2)]) ⟨rfl, rfl, rfl, trivial⟩ ?_
    exact xX2_isSimple_106 hQ hK12 hK48 _ _ _ _ h
  · replace h := h.2 c
    refine x_aload_n dX2_isSimple_97 rfl ?_
    refine x_iload_n dX2_isSimple_98 rfl ?_
    obtain ⟨h1, h⟩ := h
    refine x_callVI (As := [aI v2]) (st := []) kX2_20 rfl ⟨rfl, rfl, by decide, by decide⟩ dX2_isSimple_99 rfl (Nat.le_of_ble_eq_true rfl) ⟨Nat.zero_le _, Nat.zero_le _⟩ h1 (ctX2_next h) (fun x_99 S_99 h => ?_)
    refine x_iload_n dX2_isSimple_102 rfl ?_
    refine x_icmp_ne (tgt := 110) dX2_isSimple_103 (by decide) (fun c => ?_) (fun c => ?_)
    · replace h := h.2 c
      refine x_iconst (v := 0) dX2_isSimple_110 (by decide) ?_
      refine x_lv (lv' := [(0, aA v0), (1, aI v1), (2, aI v2)]) ⟨rfl, rfl, rfl, trivial⟩ ?_
      exact xX2_isSimple_111 hQ hK12 hK48 _ _ _ _ _ h
    · replace h := h.1 c
      refine x_lv (lv' := [(0, aA v0), (1, aI v1), (2, aI v2)]) ⟨rfl, rfl, rfl, trivial⟩ ?_
      exact xX2_isSimple_106 hQ hK12 hK48 _ _ _ _ h
set_option maxRecDepth 100000 in
set_option maxHeartbeats 4000000 in
theorem xX2_isSimple_48 {E : en} {ad : Nat → Nat} {Post : Int32 → hs → Prop} (hQ : isQ E ad (pI Post)) {K12 : Nat → Int32 → hs → Prop} (hK12 : ∀ (v0 : Nat) (v1 : Int32) (S : hs), K12 v0 v1 S → X E mX2_isSimple 0 0 ad S 12 [(0, aA v0), (1, aI v1)] []) : ∀ (n : Nat) (v0 : Nat) (v1 : Int32) (v2 : Int32) (S : hs) (_ : PX2_isSimple_48 Post K12 n v0 v1 v2 S), X E mX2_isSimple 0 0 ad S 48 [(0, aA v0), (1, aI v1), (2, aI v2)] [] := by
  intro n
  induction n with
  | zero => intro v0 v1 v2 S h; exact h.elim
  | succ n ih =>
    intro v0 v1 v2 S h
    have hK48 := ih
    simp only [PX2_isSimple_48] at h
    refine x_iload_n dX2_isSimple_48 rfl ?_
    refine x_aload_n dX2_isSimple_49 rfl ?_
    refine x_g2_2 rfl dX2_isSimple_50 h.1 ?_
    replace h := h.2
    refine x_icmp_ge (tgt := 134) dX2_isSimple_53 (by decide) (fun c => ?_) (fun c => ?_)
    · replace h := h.1 c
      obtain ⟨v1_134, hv1_134⟩ : ∃ y : Int32, y = v1 + 1 := ⟨_, rfl⟩
      replace h := h v1_134 hv1_134
      refine x_iinc (v := v1_134) dX2_isSimple_134 rfl (by rw [hv1_134]; rfl) (by decide) rfl ?_
      refine x_goto (tgt := 12) dX2_isSimple_137 (by decide) ?_
      refine x_lv (lv' := [(0, aA v0), (1, aI v1_134)]) ⟨rfl, rfl, trivial⟩ ?_
      exact hK12 _ _ _ h
    · replace h := h.2 c
      refine x_aload_n dX2_isSimple_56 rfl ?_
      obtain ⟨h1, r_57, hr_57, h⟩ := h
      refine x_g2_0 rfl dX2_isSimple_57 h1 (x_un hr_57 ?_)
      refine x_iload_n dX2_isSimple_60 rfl ?_
      refine x_iald dX2_isSimple_61 h.1 ?_
      replace h := h.2
      refine x_aload_n dX2_isSimple_62 rfl ?_
      obtain ⟨h1, r_63, hr_63, h⟩ := h
      refine x_g2_0 rfl dX2_isSimple_63 h1 (x_un hr_63 ?_)
      refine x_iload_n dX2_isSimple_66 rfl ?_
      refine x_iald dX2_isSimple_67 h.1 ?_
      replace h := h.2
      refine x_icmp_ne (tgt := 88) dX2_isSimple_68 (by decide) (fun c => ?_) (fun c => ?_)
      · replace h := h.2 c
        refine x_lv (lv' := [(0, aA v0), (1, aI v1), (2, aI v2)]) ⟨rfl, rfl, rfl, trivial⟩ ?_
        exact xX2_isSimple_88 hQ hK12 hK48 _ _ _ _ h
      · replace h := h.1 c
        refine x_aload_n dX2_isSimple_71 rfl ?_
        obtain ⟨h1, r_72, hr_72, h⟩ := h
        refine x_g2_1 rfl dX2_isSimple_72 h1 (x_un hr_72 ?_)
        refine x_iload_n dX2_isSimple_75 rfl ?_
        refine x_iald dX2_isSimple_76 h.1 ?_
        replace h := h.2
        refine x_aload_n dX2_isSimple_77 rfl ?_
        obtain ⟨h1, r_78, hr_78, h⟩ := h
        refine x_g2_1 rfl dX2_isSimple_78 h1 (x_un hr_78 ?_)
        refine x_iload_n dX2_isSimple_81 rfl ?_
        refine x_iald dX2_isSimple_82 h.1 ?_
        replace h := h.2
        refine x_icmp_ne (tgt := 88) dX2_isSimple_83 (by decide) (fun c => ?_) (fun c => ?_)
        · replace h := h.2 c
          refine x_lv (lv' := [(0, aA v0), (1, aI v1), (2, aI v2)]) ⟨rfl, rfl, rfl, trivial⟩ ?_
          exact xX2_isSimple_88 hQ hK12 hK48 _ _ _ _ h
        · replace h := h.1 c
          refine x_iconst (v := 0) dX2_isSimple_86 (by decide) ?_
          exact x_zret hQ rfl dX2_isSimple_87 ⟨Or.inl rfl, _, rfl, h⟩
set_option maxRecDepth 100000 in
set_option maxHeartbeats 4000000 in
theorem xX2_isSimple_12 {E : en} {ad : Nat → Nat} {Post : Int32 → hs → Prop} (hQ : isQ E ad (pI Post))   : ∀ (n : Nat) (v0 : Nat) (v1 : Int32) (S : hs) (_ : PX2_isSimple_12 Post  n v0 v1 S), X E mX2_isSimple 0 0 ad S 12 [(0, aA v0), (1, aI v1)] [] := by
  intro n
  induction n with
  | zero => intro v0 v1 S h; exact h.elim
  | succ n ih =>
    intro v0 v1 S h
    have hK12 := ih
    simp only [PX2_isSimple_12] at h
    refine x_iload_n dX2_isSimple_12 rfl ?_
    refine x_aload_n dX2_isSimple_13 rfl ?_
    refine x_g2_2 rfl dX2_isSimple_14 h.1 ?_
    replace h := h.2
    refine x_icmp_ge (tgt := 140) dX2_isSimple_17 (by decide) (fun c => ?_) (fun c => ?_)
    · replace h := h.1 c
      refine x_iconst (v := 1) dX2_isSimple_140 (by decide) ?_
      exact x_zret hQ rfl dX2_isSimple_141 ⟨Or.inr rfl, _, rfl, h⟩
    · replace h := h.2 c
      refine x_aload_n dX2_isSimple_20 rfl ?_
      refine x_aload_n dX2_isSimple_21 rfl ?_
      refine x_iload_n dX2_isSimple_22 rfl ?_
      obtain ⟨h1, h⟩ := h
      refine x_callVI (As := [aI v1]) (st := [aA v0]) kX2_20 rfl ⟨rfl, rfl, by decide, by decide⟩ dX2_isSimple_23 rfl (Nat.le_of_ble_eq_true rfl) ⟨Nat.zero_le _, Nat.zero_le _⟩ h1 (ctX2_next h) (fun x_23 S_23 h => ?_)
      refine x_iload_n dX2_isSimple_26 rfl ?_
      refine x_aload_n dX2_isSimple_27 rfl ?_
      refine x_aload_n dX2_isSimple_28 rfl ?_
      refine x_iload_n dX2_isSimple_29 rfl ?_
      obtain ⟨h1, h⟩ := h
      refine x_callVI (As := [aI v1]) (st := [aA v0, aI v1, aI x_23, aA v0]) kX2_20 rfl ⟨rfl, rfl, by decide, by decide⟩ dX2_isSimple_30 rfl (Nat.le_of_ble_eq_true rfl) ⟨Nat.zero_le _, Nat.zero_le _⟩ h1 (ctX2_next h) (fun x_30 S_30 h => ?_)
      obtain ⟨h1, h⟩ := h
      refine x_callVI (As := [aI x_30]) (st := [aI v1, aI x_23, aA v0]) kX2_20 rfl ⟨rfl, rfl, by decide, by decide⟩ dX2_isSimple_33 rfl (Nat.le_of_ble_eq_true rfl) ⟨Nat.zero_le _, Nat.zero_le _⟩ h1 (ctX2_next h) (fun x_33 S_33 h => ?_)
      obtain ⟨h1, h⟩ := h
      refine x_callVI (As := [aI x_23, aI v1, aI x_33]) (st := []) kX2_24 rfl ⟨rfl, rfl, by decide, by decide⟩ dX2_isSimple_36 rfl (Nat.le_of_ble_eq_true rfl) ⟨Nat.zero_le _, Nat.zero_le _⟩ h1 (ctX2_foldsBackAt h) (fun x_36 S_36 h => ?_)
      refine x_if_eq (tgt := 44) dX2_isSimple_39 (by decide) (fun c => ?_) (fun c => ?_)
      · replace h := h.1 c
        refine x_iload_n dX2_isSimple_44 rfl ?_
        refine x_iconst (v := 1) dX2_isSimple_45 (by decide) ?_
        refine x_iadd dX2_isSimple_46 ?_
        refine x_nI (fun v2_47 hv2_47 => ?_)
        replace h := h v2_47 hv2_47
        refine x_istore_n dX2_isSimple_47 (by decide) rfl ?_
        refine x_lv (lv' := [(0, aA v0), (1, aI v1), (2, aI v2_47)]) ⟨rfl, rfl, rfl, trivial⟩ ?_
        obtain ⟨n, h⟩ := h
        exact xX2_isSimple_48 hQ hK12 n _ _ _ _ h
      · replace h := h.2 c
        refine x_iconst (v := 0) dX2_isSimple_42 (by decide) ?_
        exact x_zret hQ rfl dX2_isSimple_43 ⟨Or.inl rfl, _, rfl, h⟩
set_option maxRecDepth 100000 in
set_option maxHeartbeats 4000000 in
theorem ctX2_isSimple {G : Launch × va_G × (Nat → ClassId) × Nat} {v0 : Nat} {S : hs} {Post : Int32 → hs → Prop} (h : PX2_isSimple v0 S Post) : ctN G mX2_isSimple [aA v0] S (pI Post) := by
  refine ctN.of (by decide) (Nat.le_of_ble_eq_true rfl) (fun E ad hG hQ => ?_)
  subst hG
  unfold PX2_isSimple at h
  refine x_aload_n dX2_isSimple_0 rfl ?_
  refine x_g2_2 rfl dX2_isSimple_1 h.1 ?_
  replace h := h.2
  refine x_iconst (v := 3) dX2_isSimple_4 (by decide) ?_
  refine x_icmp_ge (tgt := 10) dX2_isSimple_5 (by decide) (fun c => ?_) (fun c => ?_)
  · replace h := h.1 c
    refine x_iconst (v := 0) dX2_isSimple_10 (by decide) ?_
    refine x_istore_n dX2_isSimple_11 (by decide) rfl ?_
    refine x_lv (lv' := [(0, aA v0), (1, aI 0)]) ⟨rfl, rfl, trivial⟩ ?_
    obtain ⟨n, h⟩ := h
    exact xX2_isSimple_12 hQ  n _ _ _ h
  · replace h := h.2 c
    refine x_iconst (v := 0) dX2_isSimple_8 (by decide) ?_
    exact x_zret hQ rfl dX2_isSimple_9 ⟨Or.inl rfl, _, rfl, h⟩
set_option maxRecDepth 100000 in
set_option maxHeartbeats 4000000 in
theorem xX0_closeRing_67 {E : en} {ad : Nat → Nat} {Post : Int32 → hs → Prop} (hQ : isQ E ad (pI Post))   (s0 : Nat) (s1 : Int32) (S : hs) (h : PX0_closeRing_67 Post  s0 s1 S) : X E mX0_closeRing 0 0 ad S 67 [] [aI s1, aA s0] := by
  unfold PX0_closeRing_67 at h
  obtain ⟨h1, h2, h⟩ := h
  refine x_p0_2 rfl dX0_closeRing_67 h1 h2 (x_nS (fun S_67 hS_67 => ?_))
  replace h := h S_67 hS_67
  refine x_iconst (v := 0) dX0_closeRing_70 (by decide) ?_
  exact x_zret hQ rfl dX0_closeRing_71 ⟨Or.inl rfl, _, rfl, h⟩
set_option maxRecDepth 100000 in
set_option maxHeartbeats 4000000 in
theorem xX0_closeRing_50 {E : en} {ad : Nat → Nat} {Post : Int32 → hs → Prop} (hQ : isQ E ad (pI Post))   (v0 : Nat) (v1 : Option Nat) (S : hs) (h : PX0_closeRing_50 Post  v0 v1 S) : X E mX0_closeRing 0 0 ad S 50 [(0, aA v0), (1, aR v1)] [] := by
  unfold PX0_closeRing_50 at h
  refine x_aloadq_n dX0_closeRing_50 rfl ?_
  obtain ⟨q_50, hq_50, h⟩ := h
  refine x_un hq_50 ?_
  obtain ⟨h1, h⟩ := h
  refine x_callVV (As := []) (st := []) kX0_43 rfl ⟨rfl, rfl, by decide, by decide⟩ dX0_closeRing_51 rfl (Nat.le_of_ble_eq_true rfl) ⟨Nat.zero_le _, Nat.zero_le _⟩ h1 (ctX2_clear h) (fun S_51 h => ?_)
  refine x_aload_n dX0_closeRing_54 rfl ?_
  refine x_aload_n dX0_closeRing_55 rfl ?_
  refine x_g0_1 rfl dX0_closeRing_56 h.1 ?_
  replace h := h.2
  refine x_if_ne (tgt := 66) dX0_closeRing_59 (by decide) (fun c => ?_) (fun c => ?_)
  · replace h := h.2 c
    refine x_iconst (v := 0) dX0_closeRing_66 (by decide) ?_
    refine x_lv (lv' := []) trivial ?_
    exact xX0_closeRing_67 hQ  _ _ _ h
  · replace h := h.1 c
    refine x_iconst (v := 1) dX0_closeRing_62 (by decide) ?_
    refine x_goto (tgt := 67) dX0_closeRing_63 (by decide) ?_
    refine x_lv (lv' := []) trivial ?_
    exact xX0_closeRing_67 hQ  _ _ _ h
set_option maxRecDepth 100000 in
set_option maxHeartbeats 4000000 in
theorem xX0_closeRing_33 {E : en} {ad : Nat → Nat} {Post : Int32 → hs → Prop} (hQ : isQ E ad (pI Post))   (v0 : Nat) (S : hs) (h : PX0_closeRing_33 Post  v0 S) : X E mX0_closeRing 0 0 ad S 33 [(0, aA v0)] [] := by
  unfold PX0_closeRing_33 at h
  refine x_aload_n dX0_closeRing_33 rfl ?_
  refine x_dupR dX0_closeRing_34 ?_
  refine x_g0_1 rfl dX0_closeRing_35 h.1 ?_
  replace h := h.2
  refine x_iconst (v := 1) dX0_closeRing_38 (by decide) ?_
  refine x_iadd dX0_closeRing_39 ?_
  obtain ⟨h1, h⟩ := h
  refine x_p0_1 rfl dX0_closeRing_40 h1 (x_nS (fun S_40 hS_40 => ?_))
  replace h := h S_40 hS_40
  refine x_aload_n dX0_closeRing_43 rfl ?_
  refine x_iconst (v := 0) dX0_closeRing_44 (by decide) ?_
  obtain ⟨h1, h⟩ := h
  refine x_p0_2 rfl dX0_closeRing_45 h1 (Or.inl rfl) (x_nS (fun S_45 hS_45 => ?_))
  replace h := h S_45 hS_45
  refine x_iconst (v := 1) dX0_closeRing_48 (by decide) ?_
  exact x_zret hQ rfl dX0_closeRing_49 ⟨Or.inr rfl, _, rfl, h⟩
set_option maxRecDepth 100000 in
set_option maxHeartbeats 4000000 in
theorem ctX0_closeRing {G : Launch × va_G × (Nat → ClassId) × Nat} {v0 : Nat} {S : hs} {Post : Int32 → hs → Prop} (h : PX0_closeRing v0 S Post) : ctN G mX0_closeRing [aA v0] S (pI Post) := by
  refine ctN.of (by decide) (Nat.le_of_ble_eq_true rfl) (fun E ad hG hQ => ?_)
  subst hG
  unfold PX0_closeRing at h
  refine x_aload_n dX0_closeRing_0 rfl ?_
  obtain ⟨h1, h⟩ := h
  refine x_callVR (As := []) (st := []) kX0_36 rfl ⟨rfl, rfl, by decide, by decide⟩ dX0_closeRing_1 rfl (Nat.le_of_ble_eq_true rfl) ⟨Nat.zero_le _, Nat.zero_le _⟩ h1 (ctX0_beingMade h) (fun x_1 S_1 h => ?_)
  refine x_astoreq_n dX0_closeRing_4 (by decide) rfl ?_
  refine x_aloadq_n dX0_closeRing_5 rfl ?_
  refine x_ifnonnull (tgt := 11) dX0_closeRing_6 (by decide) (fun a c => ?_) (fun c => ?_)
  · replace h := h.2 a c
    refine x_aloadq_n dX0_closeRing_11 rfl ?_
    obtain ⟨q_11, hq_11, h⟩ := h
    refine x_un hq_11 ?_
    obtain ⟨h1, h⟩ := h
    refine x_callVI (As := []) (st := []) kX0_46 rfl ⟨rfl, rfl, by decide, by decide⟩ dX0_closeRing_12 rfl (Nat.le_of_ble_eq_true rfl) ⟨Nat.zero_le _, Nat.zero_le _⟩ h1 (ctX2_isSimple h) (fun x_12 S_12 h => ?_)
    refine x_if_eq (tgt := 50) dX0_closeRing_15 (by decide) (fun c => ?_) (fun c => ?_)
    · replace h := h.1 c
      refine x_lv (lv' := [(0, aA v0), (1, aR x_1)]) ⟨rfl, rfl, trivial⟩ ?_
      exact xX0_closeRing_50 hQ  _ _ _ h
    · replace h := h.2 c
      refine x_aload_n dX0_closeRing_18 rfl ?_
      refine x_g0_1 rfl dX0_closeRing_19 h.1 ?_
      replace h := h.2
      refine x_if_eq (tgt := 33) dX0_closeRing_22 (by decide) (fun c => ?_) (fun c => ?_)
      · replace h := h.1 c
        refine x_lv (lv' := [(0, aA v0)]) ⟨rfl, trivial⟩ ?_
        exact xX0_closeRing_33 hQ  _ _ h
      · replace h := h.2 c
        refine x_aload_n dX0_closeRing_25 rfl ?_
        refine x_aloadq_n dX0_closeRing_26 rfl ?_
        obtain ⟨q_26, hq_26, h⟩ := h
        refine x_un hq_26 ?_
        obtain ⟨h1, h⟩ := h
        refine x_callVI (As := [aA q_26]) (st := []) kX0_50 rfl ⟨rfl, rfl, by decide, by decide⟩ dX0_closeRing_27 rfl (Nat.le_of_ble_eq_true rfl) ⟨Nat.zero_le _, Nat.zero_le _⟩ h1 (ctX0_fitsAsHole h) (fun x_27 S_27 h => ?_)
        refine x_if_eq (tgt := 50) dX0_closeRing_30 (by decide) (fun c => ?_) (fun c => ?_)
        · replace h := h.1 c
          refine x_lv (lv' := [(0, aA v0), (1, aR x_1)]) ⟨rfl, rfl, trivial⟩ ?_
          exact xX0_closeRing_50 hQ  _ _ _ h
        · replace h := h.2 c
          refine x_lv (lv' := [(0, aA v0)]) ⟨rfl, trivial⟩ ?_
          exact xX0_closeRing_33 hQ  _ _ h
  · replace h := h.1 c
    refine x_iconst (v := 0) dX0_closeRing_9 (by decide) ?_
    exact x_zret hQ rfl dX0_closeRing_10 ⟨Or.inl rfl, _, rfl, h⟩
set_option maxRecDepth 100000 in
set_option maxHeartbeats 4000000 in
theorem ctX0_becomeSquare {G : Launch × va_G × (Nat → ClassId) × Nat} {v0 : Nat} {v1 : Int32} {v2 : Int32} {v3 : Int32} {S : hs} {Post : hs → Prop} (h : PX0_becomeSquare v0 v1 v2 v3 S Post) : ctN G mX0_becomeSquare [aA v0, aI v1, aI v2, aI v3] S (pV Post) := by
  refine ctN.of (by decide) (Nat.le_of_ble_eq_true rfl) (fun E ad hG hQ => ?_)
  subst hG
  unfold PX0_becomeSquare at h
  refine x_aload_n dX0_becomeSquare_0 rfl ?_
  obtain ⟨h1, h⟩ := h
  refine x_callVR (As := []) (st := []) kX0_28 rfl ⟨rfl, rfl, by decide, by decide⟩ dX0_becomeSquare_1 rfl (Nat.le_of_ble_eq_true rfl) ⟨Nat.zero_le _, Nat.zero_le _⟩ h1 (ctX0_outer h) (fun x_1 S_1 h => ?_)
  obtain ⟨r_1, hr_1, h⟩ := h
  refine x_un hr_1 ?_
  refine x_astore dX0_becomeSquare_4 (by decide) rfl ?_
  refine x_aload dX0_becomeSquare_6 rfl ?_
  obtain ⟨h1, h⟩ := h
  refine x_callVV (As := []) (st := []) kX0_43 rfl ⟨rfl, rfl, by decide, by decide⟩ dX0_becomeSquare_8 rfl (Nat.le_of_ble_eq_true rfl) ⟨Nat.zero_le _, Nat.zero_le _⟩ h1 (ctX2_clear h) (fun S_8 h => ?_)
  refine x_aload dX0_becomeSquare_11 rfl ?_
  refine x_iload_n dX0_becomeSquare_13 rfl ?_
  refine x_iload_n dX0_becomeSquare_14 rfl ?_
  refine x_isub dX0_becomeSquare_15 ?_
  refine x_iload_n dX0_becomeSquare_16 rfl ?_
  refine x_iload_n dX0_becomeSquare_17 rfl ?_
  refine x_isub dX0_becomeSquare_18 ?_
  obtain ⟨h1, h⟩ := h
  refine x_callVI (As := [aI (v1 - v3), aI (v2 - v3)]) (st := []) kX0_39 rfl ⟨rfl, rfl, by decide, by decide⟩ dX0_becomeSquare_19 rfl (Nat.le_of_ble_eq_true rfl) ⟨Nat.zero_le _, Nat.zero_le _⟩ h1 (ctX2_add h) (fun x_19 S_19 h => ?_)
  refine x_pop dX0_becomeSquare_22 ?_
  refine x_aload dX0_becomeSquare_23 rfl ?_
  refine x_iload_n dX0_becomeSquare_25 rfl ?_
  refine x_iload_n dX0_becomeSquare_26 rfl ?_
  refine x_iadd dX0_becomeSquare_27 ?_
  refine x_iload_n dX0_becomeSquare_28 rfl ?_
  refine x_iload_n dX0_becomeSquare_29 rfl ?_
  refine x_isub dX0_becomeSquare_30 ?_
  obtain ⟨h1, h⟩ := h
  refine x_callVI (As := [aI (v1 + v3), aI (v2 - v3)]) (st := []) kX0_39 rfl ⟨rfl, rfl, by decide, by decide⟩ dX0_becomeSquare_31 rfl (Nat.le_of_ble_eq_true rfl) ⟨Nat.zero_le _, Nat.zero_le _⟩ h1 (ctX2_add h) (fun x_31 S_31 h => ?_)
  refine x_pop dX0_becomeSquare_34 ?_
  refine x_aload dX0_becomeSquare_35 rfl ?_
  refine x_iload_n dX0_becomeSquare_37 rfl ?_
  refine x_iload_n dX0_becomeSquare_38 rfl ?_
  refine x_iadd dX0_becomeSquare_39 ?_
  refine x_iload_n dX0_becomeSquare_40 rfl ?_
  refine x_iload_n dX0_becomeSquare_41 rfl ?_
  refine x_iadd dX0_becomeSquare_42 ?_
  obtain ⟨h1, h⟩ := h
  refine x_callVI (As := [aI (v1 + v3), aI (v2 + v3)]) (st := []) kX0_39 rfl ⟨rfl, rfl, by decide, by decide⟩ dX0_becomeSquare_43 rfl (Nat.le_of_ble_eq_true rfl) ⟨Nat.zero_le _, Nat.zero_le _⟩ h1 (ctX2_add h) (fun x_43 S_43 h => ?_)
  refine x_pop dX0_becomeSquare_46 ?_
  refine x_aload dX0_becomeSquare_47 rfl ?_
  refine x_iload_n dX0_becomeSquare_49 rfl ?_
  refine x_iload_n dX0_becomeSquare_50 rfl ?_
  refine x_isub dX0_becomeSquare_51 ?_
  refine x_iload_n dX0_becomeSquare_52 rfl ?_
  refine x_iload_n dX0_becomeSquare_53 rfl ?_
  refine x_iadd dX0_becomeSquare_54 ?_
  obtain ⟨h1, h⟩ := h
  refine x_callVI (As := [aI (v1 - v3), aI (v2 + v3)]) (st := []) kX0_39 rfl ⟨rfl, rfl, by decide, by decide⟩ dX0_becomeSquare_55 rfl (Nat.le_of_ble_eq_true rfl) ⟨Nat.zero_le _, Nat.zero_le _⟩ h1 (ctX2_add h) (fun x_55 S_55 h => ?_)
  refine x_pop dX0_becomeSquare_58 ?_
  refine x_aload_n dX0_becomeSquare_59 rfl ?_
  refine x_iconst (v := 1) dX0_becomeSquare_60 (by decide) ?_
  obtain ⟨h1, h⟩ := h
  refine x_p0_1 rfl dX0_becomeSquare_61 h1 (x_nS (fun S_61 hS_61 => ?_))
  replace h := h S_61 hS_61
  refine x_aload_n dX0_becomeSquare_64 rfl ?_
  refine x_iconst (v := 0) dX0_becomeSquare_65 (by decide) ?_
  obtain ⟨h1, h⟩ := h
  refine x_p0_2 rfl dX0_becomeSquare_66 h1 (Or.inl rfl) (x_nS (fun S_66 hS_66 => ?_))
  replace h := h S_66 hS_66
  exact x_vret hQ rfl dX0_becomeSquare_69 ⟨rfl, h⟩
