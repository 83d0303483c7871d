set_option maxRecDepth 100000 in
set_option maxHeartbeats 4000000 in
theorem xX7_report_290 {E : en} {ad : Nat → Nat} {Post : Int32 → hs → Prop} (hQ : isQ E ad (pI Post))   : ∀ (n : Nat) (v0 : Nat) (v5 : Int64) (v9 : Int32) (v11 : Int32) (S : hs) (_ : PX7_report_290 Post  n v0 v5 v9 v11 S), X E mX7_report 0 0 ad S 290 [(0, aA v0), (5, aJ v5), (9, aI v9), (11, aI v11)] [] := by
  intro n
  induction n with
  | zero => intro v0 v5 v9 v11 S h; exact h.elim
  | succ n ih =>
    intro v0 v5 v9 v11 S h
    have hK290 := ih
    simp only [PX7_report_290] at h
    refine x_iload dX7_report_290 rfl ?_
    refine x_bipush (v := 8) dX7_report_292 (by decide) ?_
    refine x_icmp_ge (tgt := 319) dX7_report_294 (by decide) (fun c => ?_) (fun c => ?_)
    · replace h := h.1 c
      refine x_iload dX7_report_319 rfl ?_
      exact x_iret hQ rfl dX7_report_321 ⟨_, rfl, h⟩
    · replace h := h.2 c
      refine x_aload_n dX7_report_297 rfl ?_
      refine x_iload dX7_report_298 rfl ?_
      refine x_iload dX7_report_300 rfl ?_
      refine x_lload dX7_report_302 rfl ?_
      refine x_l2i dX7_report_304 ?_
      refine x_lload dX7_report_305 rfl ?_
      refine x_l2i dX7_report_307 ?_
      refine x_iconst (v := 2) dX7_report_308 (by decide) ?_
      refine x_iadd dX7_report_309 ?_
      obtain ⟨h1, h⟩ := h
      refine x_callVV (As := [aI v9, aI v11, aI (Int64.toInt32 v5), aI ((Int64.toInt32 v5) + 2)]) (st := []) kX7_147 rfl ⟨rfl, rfl, by decide, by decide⟩ dX7_report_310 rfl (Nat.le_of_ble_eq_true rfl) ⟨Nat.zero_le _, Nat.zero_le _⟩ h1 (ctX7_rule h) (fun S_310 h => ?_)
      obtain ⟨v11_313, hv11_313⟩ : ∃ y : Int32, y = v11 + 1 := ⟨_, rfl⟩
      replace h := h v11_313 hv11_313
      refine x_iinc (v := v11_313) dX7_report_313 rfl (by rw [hv11_313]; rfl) (by decide) rfl ?_
      refine x_goto (tgt := 290) dX7_report_316 (by decide) ?_
      refine x_lv (lv' := [(0, aA v0), (5, aJ v5), (9, aI v9), (11, aI v11_313)]) ⟨rfl, rfl, rfl, rfl, trivial⟩ ?_
      exact hK290 _ _ _ _ _ h
set_option maxRecDepth 100000 in
set_option maxHeartbeats 4000000 in
theorem xX7_report_254 {E : en} {ad : Nat → Nat} {Post : Int32 → hs → Prop} (hQ : isQ E ad (pI Post)) {K186 : Nat → Int64 → Int64 → Int64 → Int32 → Int32 → Int32 → Int32 → hs → Prop} (hK186 : ∀ (v0 : Nat) (v1 : Int64) (v3 : Int64) (v5 : Int64) (v7 : Int32) (v9 : Int32) (v10 : Int32) (v11 : Int32) (S : hs), K186 v0 v1 v3 v5 v7 v9 v10 v11 S → X E mX7_report 0 0 ad S 186 [(0, aA v0), (1, aJ v1), (3, aJ v3), (5, aJ v5), (7, aI v7), (9, aI v9), (10, aI v10), (11, aI v11)] []) (v0 : Nat) (v1 : Int64) (v3 : Int64) (v5 : Int64) (v7 : Int32) (v9 : Int32) (v10 : Int32) (v11 : Int32) (s0 : Nat) (s1 : Int32) (s2 : Int64) (S : hs) (h : PX7_report_254 Post K186 v0 v1 v3 v5 v7 v9 v10 v11 s0 s1 s2 S) : X E mX7_report 0 0 ad S 254 [(0, aA v0), (1, aJ v1), (3, aJ v3), (5, aJ v5), (7, aI v7), (9, aI v9), (10, aI v10), (11, aI v11)] [aJ s2, aI s1, aA s0] := by
  unfold PX7_report_254 at h
  obtain ⟨h1, h⟩ := h
  refine x_last dX7_report_254 h1 (x_nS (fun S_254 hS_254 => ?_))
  replace h := h S_254 hS_254
  obtain ⟨v11_255, hv11_255⟩ : ∃ y : Int32, y = v11 + 1 := ⟨_, rfl⟩
  replace h := h v11_255 hv11_255
  refine x_iinc (v := v11_255) dX7_report_255 rfl (by rw [hv11_255]; rfl) (by decide) rfl ?_
  refine x_goto (tgt := 186) dX7_report_258 (by decide) ?_
  refine x_lv (lv' := [(0, aA v0), (1, aJ v1), (3, aJ v3), (5, aJ v5), (7, aI v7), (9, aI v9), (10, aI v10), (11, aI v11_255)]) ⟨rfl, rfl, rfl, rfl, rfl, rfl, rfl, rfl, trivial⟩ ?_
  exact hK186 _ _ _ _ _ _ _ _ _ h
set_option maxRecDepth 100000 in
set_option maxHeartbeats 4000000 in
theorem xX7_report_225 {E : en} {ad : Nat → Nat} {Post : Int32 → hs → Prop} (hQ : isQ E ad (pI Post)) {K186 : Nat → Int64 → Int64 → Int64 → Int32 → Int32 → Int32 → Int32 → hs → Prop} (hK186 : ∀ (v0 : Nat) (v1 : Int64) (v3 : Int64) (v5 : Int64) (v7 : Int32) (v9 : Int32) (v10 : Int32) (v11 : Int32) (S : hs), K186 v0 v1 v3 v5 v7 v9 v10 v11 S → X E mX7_report 0 0 ad S 186 [(0, aA v0), (1, aJ v1), (3, aJ v3), (5, aJ v5), (7, aI v7), (9, aI v9), (10, aI v10), (11, aI v11)] []) (v0 : Nat) (v1 : Int64) (v3 : Int64) (v5 : Int64) (v7 : Int32) (v9 : Int32) (v10 : Int32) (v11 : Int32) (s0 : Nat) (s1 : Int32) (s2 : Int64) (S : hs) (h : PX7_report_225 Post K186 v0 v1 v3 v5 v7 v9 v10 v11 s0 s1 s2 S) : X E mX7_report 0 0 ad S 225 [(0, aA v0), (1, aJ v1), (3, aJ v3), (5, aJ v5), (7, aI v7), (9, aI v9), (10, aI v10), (11, aI v11)] [aJ s2, aI s1, aA s0] := by
  unfold PX7_report_225 at h
  obtain ⟨h1, h⟩ := h
  refine x_last dX7_report_225 h1 (x_nS (fun S_225 hS_225 => ?_))
  replace h := h S_225 hS_225
  refine x_aload_n dX7_report_226 rfl ?_
  obtain ⟨h1, r_227, hr_227, h⟩ := h
  refine x_g7_3 rfl dX7_report_227 h1 (x_un hr_227 ?_)
  refine x_iload dX7_report_230 rfl ?_
  refine x_iload dX7_report_232 rfl ?_
  refine x_iadd dX7_report_234 ?_
  refine x_iload dX7_report_235 rfl ?_
  refine x_iconst (v := 2) dX7_report_237 (by decide) ?_
  refine x_icmp_ge (tgt := 249) dX7_report_238 (by decide) (fun c => ?_) (fun c => ?_)
  · replace h := h.1 c
    refine x_lload_n dX7_report_249 rfl ?_
    refine x_iload dX7_report_250 rfl ?_
    refine x_i2l dX7_report_252 ?_
    refine x_ladd dX7_report_253 ?_
    refine x_lv (lv' := [(0, aA v0), (1, aJ v1), (3, aJ v3), (5, aJ v5), (7, aI v7), (9, aI v9), (10, aI v10), (11, aI v11)]) ⟨rfl, rfl, rfl, rfl, rfl, rfl, rfl, rfl, trivial⟩ ?_
    exact xX7_report_254 hQ hK186 _ _ _ _ _ _ _ _ _ _ _ _ h
  · replace h := h.2 c
    refine x_lload_n dX7_report_241 rfl ?_
    refine x_iload dX7_report_242 rfl ?_
    refine x_i2l dX7_report_244 ?_
    refine x_lsub dX7_report_245 ?_
    refine x_goto (tgt := 254) dX7_report_246 (by decide) ?_
    refine x_lv (lv' := [(0, aA v0), (1, aJ v1), (3, aJ v3), (5, aJ v5), (7, aI v7), (9, aI v9), (10, aI v10), (11, aI v11)]) ⟨rfl, rfl, rfl, rfl, rfl, rfl, rfl, rfl, trivial⟩ ?_
    exact xX7_report_254 hQ hK186 _ _ _ _ _ _ _ _ _ _ _ _ h
set_option maxRecDepth 100000 in
set_option maxHeartbeats 4000000 in
theorem xX7_report_212 {E : en} {ad : Nat → Nat} {Post : Int32 → hs → Prop} (hQ : isQ E ad (pI Post)) {K186 : Nat → Int64 → Int64 → Int64 → Int32 → Int32 → Int32 → Int32 → hs → Prop} (hK186 : ∀ (v0 : Nat) (v1 : Int64) (v3 : Int64) (v5 : Int64) (v7 : Int32) (v9 : Int32) (v10 : Int32) (v11 : Int32) (S : hs), K186 v0 v1 v3 v5 v7 v9 v10 v11 S → X E mX7_report 0 0 ad S 186 [(0, aA v0), (1, aJ v1), (3, aJ v3), (5, aJ v5), (7, aI v7), (9, aI v9), (10, aI v10), (11, aI v11)] []) (v0 : Nat) (v1 : Int64) (v3 : Int64) (v5 : Int64) (v7 : Int32) (v9 : Int32) (v10 : Int32) (v11 : Int32) (s0 : Nat) (s1 : Int32) (S : hs) (h : PX7_report_212 Post K186 v0 v1 v3 v5 v7 v9 v10 v11 s0 s1 S) : X E mX7_report 0 0 ad S 212 [(0, aA v0), (1, aJ v1), (3, aJ v3), (5, aJ v5), (7, aI v7), (9, aI v9), (10, aI v10), (11, aI v11)] [aI s1, aA s0] := by
  unfold PX7_report_212 at h
  refine x_lload_n dX7_report_212 rfl ?_
  refine x_iload dX7_report_213 rfl ?_
  refine x_i2l dX7_report_215 ?_
  refine x_lsub dX7_report_216 ?_
  refine x_goto (tgt := 225) dX7_report_217 (by decide) ?_
  refine x_lv (lv' := [(0, aA v0), (1, aJ v1), (3, aJ v3), (5, aJ v5), (7, aI v7), (9, aI v9), (10, aI v10), (11, aI v11)]) ⟨rfl, rfl, rfl, rfl, rfl, rfl, rfl, rfl, trivial⟩ ?_
  exact xX7_report_225 hQ hK186 _ _ _ _ _ _ _ _ _ _ _ _ h
set_option maxRecDepth 100000 in
set_option maxHeartbeats 4000000 in
theorem xX7_report_186 {E : en} {ad : Nat → Nat} {Post : Int32 → hs → Prop} (hQ : isQ E ad (pI Post))   : ∀ (n : Nat) (v0 : Nat) (v1 : Int64) (v3 : Int64) (v5 : Int64) (v7 : Int32) (v9 : Int32) (v10 : Int32) (v11 : Int32) (S : hs) (_ : PX7_report_186 Post  n v0 v1 v3 v5 v7 v9 v10 v11 S), X E mX7_report 0 0 ad S 186 [(0, aA v0), (1, aJ v1), (3, aJ v3), (5, aJ v5), (7, aI v7), (9, aI v9), (10, aI v10), (11, aI v11)] [] := by
  intro n
  induction n with
  | zero => intro v0 v1 v3 v5 v7 v9 v10 v11 S h; exact h.elim
  | succ n ih =>
    intro v0 v1 v3 v5 v7 v9 v10 v11 S h
    have hK186 := ih
    simp only [PX7_report_186] at h
    refine x_iload dX7_report_186 rfl ?_
    refine x_iconst (v := 4) dX7_report_188 (by decide) ?_
    refine x_icmp_ge (tgt := 261) dX7_report_189 (by decide) (fun c => ?_) (fun c => ?_)
    · replace h := h.1 c
      refine x_aload_n dX7_report_261 rfl ?_
      obtain ⟨h1, r_262, hr_262, h⟩ := h
      refine x_g7_4 rfl dX7_report_262 h1 (x_un hr_262 ?_)
      refine x_iconst (v := 4) dX7_report_265 (by decide) ?_
      refine x_iload dX7_report_266 rfl ?_
      refine x_imul dX7_report_268 ?_
      refine x_iconst (v := 4) dX7_report_269 (by decide) ?_
      obtain ⟨h1, h⟩ := h
      refine x_iast dX7_report_270 h1 (x_nS (fun S_270 hS_270 => ?_))
      replace h := h S_270 hS_270
      refine x_aload_n dX7_report_271 rfl ?_
      obtain ⟨h1, r_272, hr_272, h⟩ := h
      refine x_g7_5 rfl dX7_report_272 h1 (x_un hr_272 ?_)
      refine x_iload dX7_report_275 rfl ?_
      refine x_iconst (v := 1) dX7_report_277 (by decide) ?_
      obtain ⟨h1, h⟩ := h
      refine x_iast dX7_report_278 h1 (x_nS (fun S_278 hS_278 => ?_))
      replace h := h S_278 hS_278
      refine x_aload_n dX7_report_279 rfl ?_
      obtain ⟨h1, r_280, hr_280, h⟩ := h
      refine x_g7_6 rfl dX7_report_280 h1 (x_un hr_280 ?_)
      refine x_iload dX7_report_283 rfl ?_
      refine x_iconst (v := 0) dX7_report_285 (by decide) ?_
      obtain ⟨h1, h⟩ := h
      refine x_zast dX7_report_286 h1 (Or.inl rfl) (x_nS (fun S_286 hS_286 => ?_))
      replace h := h S_286 hS_286
      refine x_iconst (v := 0) dX7_report_287 (by decide) ?_
      refine x_istore dX7_report_288 (by decide) rfl ?_
      refine x_lv (lv' := [(0, aA v0), (5, aJ v5), (9, aI v9), (11, aI 0)]) ⟨rfl, rfl, rfl, rfl, trivial⟩ ?_
      obtain ⟨n, h⟩ := h
      exact xX7_report_290 hQ  n _ _ _ _ _ h
    · replace h := h.2 c
      refine x_aload_n dX7_report_192 rfl ?_
      obtain ⟨h1, r_193, hr_193, h⟩ := h
      refine x_g7_2 rfl dX7_report_193 h1 (x_un hr_193 ?_)
      refine x_iload dX7_report_196 rfl ?_
      refine x_iload dX7_report_198 rfl ?_
      refine x_iadd dX7_report_200 ?_
      refine x_iload dX7_report_201 rfl ?_
      refine x_if_eq (tgt := 212) dX7_report_203 (by decide) (fun c => ?_) (fun c => ?_)
      · replace h := h.1 c
        refine x_lv (lv' := [(0, aA v0), (1, aJ v1), (3, aJ v3), (5, aJ v5), (7, aI v7), (9, aI v9), (10, aI v10), (11, aI v11)]) ⟨rfl, rfl, rfl, rfl, rfl, rfl, rfl, rfl, trivial⟩ ?_
        exact xX7_report_212 hQ hK186 _ _ _ _ _ _ _ _ _ _ _ h
      · replace h := h.2 c
        refine x_iload dX7_report_206 rfl ?_
        refine x_iconst (v := 3) dX7_report_208 (by decide) ?_
        refine x_icmp_ne (tgt := 220) dX7_report_209 (by decide) (fun c => ?_) (fun c => ?_)
        · replace h := h.2 c
          refine x_lload_n dX7_report_220 rfl ?_
          refine x_iload dX7_report_221 rfl ?_
          refine x_i2l dX7_report_223 ?_
          refine x_ladd dX7_report_224 ?_
          refine x_lv (lv' := [(0, aA v0), (1, aJ v1), (3, aJ v3), (5, aJ v5), (7, aI v7), (9, aI v9), (10, aI v10), (11, aI v11)]) ⟨rfl, rfl, rfl, rfl, rfl, rfl, rfl, rfl, trivial⟩ ?_
          exact xX7_report_225 hQ hK186 _ _ _ _ _ _ _ _ _ _ _ _ h
        · replace h := h.1 c
          refine x_lv (lv' := [(0, aA v0), (1, aJ v1), (3, aJ v3), (5, aJ v5), (7, aI v7), (9, aI v9), (10, aI v10), (11, aI v11)]) ⟨rfl, rfl, rfl, rfl, rfl, rfl, rfl, rfl, trivial⟩ ?_
          exact xX7_report_212 hQ hK186 _ _ _ _ _ _ _ _ _ _ _ h
set_option maxRecDepth 100000 in
set_option maxHeartbeats 4000000 in
theorem xX7_report_173 {E : en} {ad : Nat → Nat} {Post : Int32 → hs → Prop} (hQ : isQ E ad (pI Post))    (S : hs) (h : PX7_report_173 Post   S) : X E mX7_report 0 0 ad S 173 [] [] := by
  unfold PX7_report_173 at h
  refine x_bipush (v := (-4)) dX7_report_173 (by decide) ?_
  exact x_iret hQ rfl dX7_report_175 ⟨_, rfl, h⟩
set_option maxRecDepth 100000 in
set_option maxHeartbeats 4000000 in
theorem xX7_report_152 {E : en} {ad : Nat → Nat} {Post : Int32 → hs → Prop} (hQ : isQ E ad (pI Post))   (v0 : Nat) (v1 : Int64) (v3 : Int64) (v5 : Int64) (v7 : Int32) (v9 : Int32) (S : hs) (h : PX7_report_152 Post  v0 v1 v3 v5 v7 v9 S) : X E mX7_report 0 0 ad S 152 [(0, aA v0), (1, aJ v1), (3, aJ v3), (5, aJ v5), (7, aI v7), (9, aI v9)] [] := by
  unfold PX7_report_152 at h
  refine x_iload dX7_report_152 rfl ?_
  refine x_aload_n dX7_report_154 rfl ?_
  refine x_g7_1 rfl dX7_report_155 h.1 ?_
  replace h := h.2
  refine x_icmp_eq (tgt := 173) dX7_report_158 (by decide) (fun c => ?_) (fun c => ?_)
  · replace h := h.1 c
    refine x_lv (lv' := []) trivial ?_
    exact xX7_report_173 hQ   _ h
  · replace h := h.2 c
    refine x_aload_n dX7_report_161 rfl ?_
    refine x_g7_8 rfl dX7_report_162 h.1 ?_
    replace h := h.2
    refine x_bipush (v := 8) dX7_report_165 (by decide) ?_
    refine x_iadd dX7_report_167 ?_
    refine x_bipush (v := 40) dX7_report_168 (by decide) ?_
    refine x_icmp_le (tgt := 176) dX7_report_170 (by decide) (fun c => ?_) (fun c => ?_)
    · replace h := h.1 c
      refine x_bipush (v := 48) dX7_report_176 (by decide) ?_
      refine x_iload dX7_report_178 rfl ?_
      refine x_imul dX7_report_180 ?_
      refine x_nI (fun v10_181 hv10_181 => ?_)
      replace h := h v10_181 hv10_181
      refine x_istore dX7_report_181 (by decide) rfl ?_
      refine x_iconst (v := 0) dX7_report_183 (by decide) ?_
      refine x_istore dX7_report_184 (by decide) rfl ?_
      refine x_lv (lv' := [(0, aA v0), (1, aJ v1), (3, aJ v3), (5, aJ v5), (7, aI v7), (9, aI v9), (10, aI v10_181), (11, aI 0)]) ⟨rfl, rfl, rfl, rfl, rfl, rfl, rfl, rfl, trivial⟩ ?_
      obtain ⟨n, h⟩ := h
      exact xX7_report_186 hQ  n _ _ _ _ _ _ _ _ _ h
    · replace h := h.2 c
      refine x_lv (lv' := []) trivial ?_
      exact xX7_report_173 hQ   _ h
set_option maxRecDepth 100000 in
set_option maxHeartbeats 4000000 in
theorem xX7_report_146 {E : en} {ad : Nat → Nat} {Post : Int32 → hs → Prop} (hQ : isQ E ad (pI Post)) {K115 : Nat → Int64 → Int64 → Int64 → Int32 → Int32 → hs → Prop} (hK115 : ∀ (v0 : Nat) (v1 : Int64) (v3 : Int64) (v5 : Int64) (v7 : Int32) (v9 : Int32) (S : hs), K115 v0 v1 v3 v5 v7 v9 S → X E mX7_report 0 0 ad S 115 [(0, aA v0), (1, aJ v1), (3, aJ v3), (5, aJ v5), (7, aI v7), (9, aI v9)] []) (v0 : Nat) (v1 : Int64) (v3 : Int64) (v5 : Int64) (v7 : Int32) (v9 : Int32) (S : hs) (h : PX7_report_146 Post K115 v0 v1 v3 v5 v7 v9 S) : X E mX7_report 0 0 ad S 146 [(0, aA v0), (1, aJ v1), (3, aJ v3), (5, aJ v5), (7, aI v7), (9, aI v9)] [] := by
  unfold PX7_report_146 at h
  obtain ⟨v9_146, hv9_146⟩ : ∃ y : Int32, y = v9 + 1 := ⟨_, rfl⟩
  replace h := h v9_146 hv9_146
  refine x_iinc (v := v9_146) dX7_report_146 rfl (by rw [hv9_146]; rfl) (by decide) rfl ?_
  refine x_goto (tgt := 115) dX7_report_149 (by decide) ?_
  refine x_lv (lv' := [(0, aA v0), (1, aJ v1), (3, aJ v3), (5, aJ v5), (7, aI v7), (9, aI v9_146)]) ⟨rfl, rfl, rfl, rfl, rfl, rfl, trivial⟩ ?_
  exact hK115 _ _ _ _ _ _ _ h
set_option maxRecDepth 100000 in
set_option maxHeartbeats 4000000 in
theorem xX7_report_115 {E : en} {ad : Nat → Nat} {Post : Int32 → hs → Prop} (hQ : isQ E ad (pI Post))   : ∀ (n : Nat) (v0 : Nat) (v1 : Int64) (v3 : Int64) (v5 : Int64) (v7 : Int32) (v9 : Int32) (S : hs) (_ : PX7_report_115 Post  n v0 v1 v3 v5 v7 v9 S), X E mX7_report 0 0 ad S 115 [(0, aA v0), (1, aJ v1), (3, aJ v3), (5, aJ v5), (7, aI v7), (9, aI v9)] [] := by
  intro n
  induction n with
  | zero => intro v0 v1 v3 v5 v7 v9 S h; exact h.elim
  | succ n ih =>
    intro v0 v1 v3 v5 v7 v9 S h
    have hK115 := ih
    simp only [PX7_report_115] at h
    refine x_iload dX7_report_115 rfl ?_
    refine x_aload_n dX7_report_117 rfl ?_
    refine x_g7_1 rfl dX7_report_118 h.1 ?_
    replace h := h.2
    refine x_icmp_ge (tgt := 152) dX7_report_121 (by decide) (fun c => ?_) (fun c => ?_)
    · replace h := h.1 c
      refine x_lv (lv' := [(0, aA v0), (1, aJ v1), (3, aJ v3), (5, aJ v5), (7, aI v7), (9, aI v9)]) ⟨rfl, rfl, rfl, rfl, rfl, rfl, trivial⟩ ?_
      exact xX7_report_152 hQ  _ _ _ _ _ _ _ h
    · replace h := h.2 c
      refine x_aload_n dX7_report_124 rfl ?_
      obtain ⟨h1, r_125, hr_125, h⟩ := h
      refine x_g7_5 rfl dX7_report_125 h1 (x_un hr_125 ?_)
      refine x_iload dX7_report_128 rfl ?_
      refine x_iald dX7_report_130 h.1 ?_
      replace h := h.2
      refine x_if_gt (tgt := 146) dX7_report_131 (by decide) (fun c => ?_) (fun c => ?_)
      · replace h := h.1 c
        refine x_lv (lv' := [(0, aA v0), (1, aJ v1), (3, aJ v3), (5, aJ v5), (7, aI v7), (9, aI v9)]) ⟨rfl, rfl, rfl, rfl, rfl, rfl, trivial⟩ ?_
        exact xX7_report_146 hQ hK115 _ _ _ _ _ _ _ h
      · replace h := h.2 c
        refine x_aload_n dX7_report_134 rfl ?_
        obtain ⟨h1, r_135, hr_135, h⟩ := h
        refine x_g7_4 rfl dX7_report_135 h1 (x_un hr_135 ?_)
        refine x_iconst (v := 4) dX7_report_138 (by decide) ?_
        refine x_iload dX7_report_139 rfl ?_
        refine x_imul dX7_report_141 ?_
        refine x_iald dX7_report_142 h.1 ?_
        replace h := h.2
        refine x_if_le (tgt := 152) dX7_report_143 (by decide) (fun c => ?_) (fun c => ?_)
        · replace h := h.1 c
          refine x_lv (lv' := [(0, aA v0), (1, aJ v1), (3, aJ v3), (5, aJ v5), (7, aI v7), (9, aI v9)]) ⟨rfl, rfl, rfl, rfl, rfl, rfl, trivial⟩ ?_
          exact xX7_report_152 hQ  _ _ _ _ _ _ _ h
        · replace h := h.2 c
          refine x_lv (lv' := [(0, aA v0), (1, aJ v1), (3, aJ v3), (5, aJ v5), (7, aI v7), (9, aI v9)]) ⟨rfl, rfl, rfl, rfl, rfl, rfl, trivial⟩ ?_
          exact xX7_report_146 hQ hK115 _ _ _ _ _ _ _ h
set_option maxRecDepth 100000 in
set_option maxHeartbeats 4000000 in
theorem xX7_report_110 {E : en} {ad : Nat → Nat} {Post : Int32 → hs → Prop} (hQ : isQ E ad (pI Post))    (S : hs) (h : PX7_report_110 Post   S) : X E mX7_report 0 0 ad S 110 [] [] := by
  unfold PX7_report_110 at h
  refine x_iconst (v := (-1)) dX7_report_110 (by decide) ?_
  exact x_iret hQ rfl dX7_report_111 ⟨_, rfl, h⟩
set_option maxRecDepth 100000 in
set_option maxHeartbeats 4000000 in
theorem xX7_report_61 {E : en} {ad : Nat → Nat} {Post : Int32 → hs → Prop} (hQ : isQ E ad (pI Post))   (v0 : Nat) (v1 : Int64) (v3 : Int64) (v5 : Int64) (v7 : Int32) (s0 : Int32) (S : hs) (h : PX7_report_61 Post  v0 v1 v3 v5 v7 s0 S) : X E mX7_report 0 0 ad S 61 [(0, aA v0), (1, aJ v1), (3, aJ v3), (5, aJ v5), (7, aI v7)] [aI s0] := by
  unfold PX7_report_61 at h
  refine x_istore dX7_report_61 (by decide) rfl ?_
  refine x_iload dX7_report_63 rfl ?_
  refine x_if_eq (tgt := 110) dX7_report_65 (by decide) (fun c => ?_) (fun c => ?_)
  · replace h := h.1 c
    refine x_lv (lv' := []) trivial ?_
    exact xX7_report_110 hQ   _ h
  · replace h := h.2 c
    refine x_lload_n dX7_report_68 rfl ?_
    refine x_iload dX7_report_69 rfl ?_
    refine x_i2l dX7_report_71 ?_
    refine x_ldc2 (v := 200) dX7_report_72 kcX7_120 ?_
    refine x_lsub dX7_report_75 ?_
    refine x_ldc2 (v := 200) dX7_report_76 kcX7_120 ?_
    refine x_iload dX7_report_79 rfl ?_
    refine x_i2l dX7_report_81 ?_
    refine x_lsub dX7_report_82 ?_
    refine x_callSI (As := [aJ v1, aJ ((Int32.toInt64 v7) - 200), aJ (200 - (Int32.toInt64 v7))]) (st := []) kX7_122 rfl ⟨rfl, rfl, by decide, by decide⟩ dX7_report_83 rfl (Nat.le_of_ble_eq_true rfl) ⟨Nat.zero_le _, Nat.zero_le _⟩ (ctX7_isIn h) (fun x_83 S_83 h => ?_)
    refine x_if_eq (tgt := 110) dX7_report_86 (by decide) (fun c => ?_) (fun c => ?_)
    · replace h := h.1 c
      refine x_lv (lv' := []) trivial ?_
      exact xX7_report_110 hQ   _ h
    · replace h := h.2 c
      refine x_lload_n dX7_report_89 rfl ?_
      refine x_iload dX7_report_90 rfl ?_
      refine x_i2l dX7_report_92 ?_
      refine x_ldc2 (v := 200) dX7_report_93 kcX7_120 ?_
      refine x_lsub dX7_report_96 ?_
      refine x_ldc2 (v := 200) dX7_report_97 kcX7_120 ?_
      refine x_iload dX7_report_100 rfl ?_
      refine x_i2l dX7_report_102 ?_
      refine x_lsub dX7_report_103 ?_
      refine x_callSI (As := [aJ v3, aJ ((Int32.toInt64 v7) - 200), aJ (200 - (Int32.toInt64 v7))]) (st := []) kX7_122 rfl ⟨rfl, rfl, by decide, by decide⟩ dX7_report_104 rfl (Nat.le_of_ble_eq_true rfl) ⟨Nat.zero_le _, Nat.zero_le _⟩ (ctX7_isIn h) (fun x_104 S_104 h => ?_)
      refine x_if_ne (tgt := 112) dX7_report_107 (by decide) (fun c => ?_) (fun c => ?_)
      · replace h := h.2 c
        refine x_iconst (v := 0) dX7_report_112 (by decide) ?_
        refine x_istore dX7_report_113 (by decide) rfl ?_
        refine x_lv (lv' := [(0, aA v0), (1, aJ v1), (3, aJ v3), (5, aJ v5), (7, aI v7), (9, aI 0)]) ⟨rfl, rfl, rfl, rfl, rfl, rfl, trivial⟩ ?_
        obtain ⟨n, h⟩ := h
        exact xX7_report_115 hQ  n _ _ _ _ _ _ _ h
      · replace h := h.1 c
        refine x_lv (lv' := []) trivial ?_
        exact xX7_report_110 hQ   _ h
set_option maxRecDepth 100000 in
set_option maxHeartbeats 4000000 in
theorem xX7_report_60 {E : en} {ad : Nat → Nat} {Post : Int32 → hs → Prop} (hQ : isQ E ad (pI Post))   (v0 : Nat) (v1 : Int64) (v3 : Int64) (v5 : Int64) (v7 : Int32) (S : hs) (h : PX7_report_60 Post  v0 v1 v3 v5 v7 S) : X E mX7_report 0 0 ad S 60 [(0, aA v0), (1, aJ v1), (3, aJ v3), (5, aJ v5), (7, aI v7)] [] := by
  unfold PX7_report_60 at h
  refine x_iconst (v := 0) dX7_report_60 (by decide) ?_
  refine x_lv (lv' := [(0, aA v0), (1, aJ v1), (3, aJ v3), (5, aJ v5), (7, aI v7)]) ⟨rfl, rfl, rfl, rfl, rfl, trivial⟩ ?_
  exact xX7_report_61 hQ  _ _ _ _ _ _ _ h
set_option maxRecDepth 100000 in
set_option maxHeartbeats 4000000 in
theorem ctX7_report {G : Launch × va_G × (Nat → ClassId) × Nat} {v0 : Nat} {v1 : Int64} {v3 : Int64} {v5 : Int64} {v7 : Int32} {S : hs} {Post : Int32 → hs → Prop} (h : PX7_report v0 v1 v3 v5 v7 S Post) : ctN G mX7_report [aA v0, aJ v1, aJ v3, aJ v5, aI v7] S (pI Post) := by
  refine ctN.of (by decide) (Nat.le_of_ble_eq_true rfl) (fun E ad hG hQ => ?_)
  subst hG
  unfold PX7_report at h
  refine x_aload_n dX7_report_0 rfl ?_
  refine x_iconst (v := 0) dX7_report_1 (by decide) ?_
  obtain ⟨h1, h⟩ := h
  refine x_p7_0 rfl dX7_report_2 h1 (x_nS (fun S_2 hS_2 => ?_))
  replace h := h S_2 hS_2
  refine x_lload_n dX7_report_5 rfl ?_
  refine x_ldc2 (v := (-200)) dX7_report_6 kcX7_118 ?_
  refine x_ldc2 (v := 200) dX7_report_9 kcX7_120 ?_
  refine x_callSI (As := [aJ v1, aJ (-200), aJ 200]) (st := []) kX7_122 rfl ⟨rfl, rfl, by decide, by decide⟩ dX7_report_12 rfl (Nat.le_of_ble_eq_true rfl) ⟨Nat.zero_le _, Nat.zero_le _⟩ (ctX7_isIn h) (fun x_12 S_12 h => ?_)
  refine x_if_eq (tgt := 60) dX7_report_15 (by decide) (fun c => ?_) (fun c => ?_)
  · replace h := h.1 c
    refine x_lv (lv' := [(0, aA v0), (1, aJ v1), (3, aJ v3), (5, aJ v5), (7, aI v7)]) ⟨rfl, rfl, rfl, rfl, rfl, trivial⟩ ?_
    exact xX7_report_60 hQ  _ _ _ _ _ _ h
  · replace h := h.2 c
    refine x_lload_n dX7_report_18 rfl ?_
    refine x_ldc2 (v := (-200)) dX7_report_19 kcX7_118 ?_
    refine x_ldc2 (v := 200) dX7_report_22 kcX7_120 ?_
    refine x_callSI (As := [aJ v3, aJ (-200), aJ 200]) (st := []) kX7_122 rfl ⟨rfl, rfl, by decide, by decide⟩ dX7_report_25 rfl (Nat.le_of_ble_eq_true rfl) ⟨Nat.zero_le _, Nat.zero_le _⟩ (ctX7_isIn h) (fun x_25 S_25 h => ?_)
    refine x_if_eq (tgt := 60) dX7_report_28 (by decide) (fun c => ?_) (fun c => ?_)
    · replace h := h.1 c
      refine x_lv (lv' := [(0, aA v0), (1, aJ v1), (3, aJ v3), (5, aJ v5), (7, aI v7)]) ⟨rfl, rfl, rfl, rfl, rfl, trivial⟩ ?_
      exact xX7_report_60 hQ  _ _ _ _ _ _ h
    · replace h := h.2 c
      refine x_lload dX7_report_31 rfl ?_
      refine x_lconst (v := 0) dX7_report_33 (by decide) ?_
      refine x_ldc2 (v := 398) dX7_report_34 kcX7_153 ?_
      refine x_callSI (As := [aJ v5, aJ 0, aJ 398]) (st := []) kX7_122 rfl ⟨rfl, rfl, by decide, by decide⟩ dX7_report_37 rfl (Nat.le_of_ble_eq_true rfl) ⟨Nat.zero_le _, Nat.zero_le _⟩ (ctX7_isIn h) (fun x_37 S_37 h => ?_)
      refine x_if_eq (tgt := 60) dX7_report_40 (by decide) (fun c => ?_) (fun c => ?_)
      · replace h := h.1 c
        refine x_lv (lv' := [(0, aA v0), (1, aJ v1), (3, aJ v3), (5, aJ v5), (7, aI v7)]) ⟨rfl, rfl, rfl, rfl, rfl, trivial⟩ ?_
        exact xX7_report_60 hQ  _ _ _ _ _ _ h
      · replace h := h.2 c
        refine x_iload dX7_report_43 rfl ?_
        refine x_i2l dX7_report_45 ?_
        refine x_lconst (v := 1) dX7_report_46 (by decide) ?_
        refine x_ldc2 (v := 20) dX7_report_47 kcX7_155 ?_
        refine x_callSI (As := [aJ (Int32.toInt64 v7), aJ 1, aJ 20]) (st := []) kX7_122 rfl ⟨rfl, rfl, by decide, by decide⟩ dX7_report_50 rfl (Nat.le_of_ble_eq_true rfl) ⟨Nat.zero_le _, Nat.zero_le _⟩ (ctX7_isIn h) (fun x_50 S_50 h => ?_)
        refine x_if_eq (tgt := 60) dX7_report_53 (by decide) (fun c => ?_) (fun c => ?_)
        · replace h := h.1 c
          refine x_lv (lv' := [(0, aA v0), (1, aJ v1), (3, aJ v3), (5, aJ v5), (7, aI v7)]) ⟨rfl, rfl, rfl, rfl, rfl, trivial⟩ ?_
          exact xX7_report_60 hQ  _ _ _ _ _ _ h
        · replace h := h.2 c
          refine x_iconst (v := 1) dX7_report_56 (by decide) ?_
          refine x_goto (tgt := 61) dX7_report_57 (by decide) ?_
          refine x_lv (lv' := [(0, aA v0), (1, aJ v1), (3, aJ v3), (5, aJ v5), (7, aI v7)]) ⟨rfl, rfl, rfl, rfl, rfl, trivial⟩ ?_
          exact xX7_report_61 hQ  _ _ _ _ _ _ _ h
set_option maxRecDepth 100000 in
set_option maxHeartbeats 4000000 in
theorem xX7_isBarred_77 {E : en} {ad : Nat → Nat} {Post : Int32 → hs → Prop} (hQ : isQ E ad (pI Post)) {K6 : Nat → Int32 → Int32 → Int64 → Int32 → Int32 → hs → Prop} (hK6 : ∀ (v0 : Nat) (v1 : Int32) (v2 : Int32) (v3 : Int64) (v5 : Int32) (v6 : Int32) (S : hs), K6 v0 v1 v2 v3 v5 v6 S → X E mX7_isBarred 0 0 ad S 6 [(0, aA v0), (1, aI v1), (2, aI v2), (3, aJ v3), (5, aI v5), (6, aI v6)] []) (v0 : Nat) (v1 : Int32) (v2 : Int32) (v3 : Int64) (v6 : Int32) (s0 : Int32) (S : hs) (h : PX7_isBarred_77 Post K6 v0 v1 v2 v3 v6 s0 S) : X E mX7_isBarred 0 0 ad S 77 [(0, aA v0), (1, aI v1), (2, aI v2), (3, aJ v3), (6, aI v6)] [aI s0] := by
  unfold PX7_isBarred_77 at h
  refine x_istore dX7_isBarred_77 (by decide) rfl ?_
  obtain ⟨v6_79, hv6_79⟩ : ∃ y : Int32, y = v6 + 1 := ⟨_, rfl⟩
  replace h := h v6_79 hv6_79
  refine x_iinc (v := v6_79) dX7_isBarred_79 rfl (by rw [hv6_79]; rfl) (by decide) rfl ?_
  refine x_goto (tgt := 6) dX7_isBarred_82 (by decide) ?_
  refine x_lv (lv' := [(0, aA v0), (1, aI v1), (2, aI v2), (3, aJ v3), (5, aI s0), (6, aI v6_79)]) ⟨rfl, rfl, rfl, rfl, rfl, rfl, trivial⟩ ?_
  exact hK6 _ _ _ _ _ _ _ h
set_option maxRecDepth 100000 in
set_option maxHeartbeats 4000000 in
theorem xX7_isBarred_76 {E : en} {ad : Nat → Nat} {Post : Int32 → hs → Prop} (hQ : isQ E ad (pI Post)) {K6 : Nat → Int32 → Int32 → Int64 → Int32 → Int32 → hs → Prop} (hK6 : ∀ (v0 : Nat) (v1 : Int32) (v2 : Int32) (v3 : Int64) (v5 : Int32) (v6 : Int32) (S : hs), K6 v0 v1 v2 v3 v5 v6 S → X E mX7_isBarred 0 0 ad S 6 [(0, aA v0), (1, aI v1), (2, aI v2), (3, aJ v3), (5, aI v5), (6, aI v6)] []) (v0 : Nat) (v1 : Int32) (v2 : Int32) (v3 : Int64) (v6 : Int32) (S : hs) (h : PX7_isBarred_76 Post K6 v0 v1 v2 v3 v6 S) : X E mX7_isBarred 0 0 ad S 76 [(0, aA v0), (1, aI v1), (2, aI v2), (3, aJ v3), (6, aI v6)] [] := by
  unfold PX7_isBarred_76 at h
  refine x_iconst (v := 0) dX7_isBarred_76 (by decide) ?_
  refine x_lv (lv' := [(0, aA v0), (1, aI v1), (2, aI v2), (3, aJ v3), (6, aI v6)]) ⟨rfl, rfl, rfl, rfl, rfl, trivial⟩ ?_
  exact xX7_isBarred_77 hQ hK6 _ _ _ _ _ _ _ h
set_option maxRecDepth 100000 in
set_option maxHeartbeats 4000000 in
theorem xX7_isBarred_72 {E : en} {ad : Nat → Nat} {Post : Int32 → hs → Prop} (hQ : isQ E ad (pI Post)) {K6 : Nat → Int32 → Int32 → Int64 → Int32 → Int32 → hs → Prop} (hK6 : ∀ (v0 : Nat) (v1 : Int32) (v2 : Int32) (v3 : Int64) (v5 : Int32) (v6 : Int32) (S : hs), K6 v0 v1 v2 v3 v5 v6 S → X E mX7_isBarred 0 0 ad S 6 [(0, aA v0), (1, aI v1), (2, aI v2), (3, aJ v3), (5, aI v5), (6, aI v6)] []) (v0 : Nat) (v1 : Int32) (v2 : Int32) (v3 : Int64) (v6 : Int32) (S : hs) (h : PX7_isBarred_72 Post K6 v0 v1 v2 v3 v6 S) : X E mX7_isBarred 0 0 ad S 72 [(0, aA v0), (1, aI v1), (2, aI v2), (3, aJ v3), (6, aI v6)] [] := by
  unfold PX7_isBarred_72 at h
  refine x_iconst (v := 1) dX7_isBarred_72 (by decide) ?_
  refine x_goto (tgt := 77) dX7_isBarred_73 (by decide) ?_
  refine x_lv (lv' := [(0, aA v0), (1, aI v1), (2, aI v2), (3, aJ v3), (6, aI v6)]) ⟨rfl, rfl, rfl, rfl, rfl, trivial⟩ ?_
  exact xX7_isBarred_77 hQ hK6 _ _ _ _ _ _ _ h
set_option maxRecDepth 100000 in
set_option maxHeartbeats 4000000 in
theorem xX7_isBarred_46 {E : en} {ad : Nat → Nat} {Post : Int32 → hs → Prop} (hQ : isQ E ad (pI Post)) {K6 : Nat → Int32 → Int32 → Int64 → Int32 → Int32 → hs → Prop} (hK6 : ∀ (v0 : Nat) (v1 : Int32) (v2 : Int32) (v3 : Int64) (v5 : Int32) (v6 : Int32) (S : hs), K6 v0 v1 v2 v3 v5 v6 S → X E mX7_isBarred 0 0 ad S 6 [(0, aA v0), (1, aI v1), (2, aI v2), (3, aJ v3), (5, aI v5), (6, aI v6)] []) (v0 : Nat) (v1 : Int32) (v2 : Int32) (v3 : Int64) (v6 : Int32) (S : hs) (h : PX7_isBarred_46 Post K6 v0 v1 v2 v3 v6 S) : X E mX7_isBarred 0 0 ad S 46 [(0, aA v0), (1, aI v1), (2, aI v2), (3, aJ v3), (6, aI v6)] [] := by
  unfold PX7_isBarred_46 at h
  refine x_aload_n dX7_isBarred_46 rfl ?_
  obtain ⟨h1, r_47, hr_47, h⟩ := h
  refine x_g7_11 rfl dX7_isBarred_47 h1 (x_un hr_47 ?_)
  refine x_iload dX7_isBarred_50 rfl ?_
  refine x_iald dX7_isBarred_52 h.1 ?_
  replace h := h.2
  refine x_i2l dX7_isBarred_53 ?_
  refine x_lload_n dX7_isBarred_54 rfl ?_
  refine x_lcmp_gt (tgt := 76) dX7_isBarred_55 dX7_isBarred_56 (by decide) (fun c => ?_) (fun c => ?_)
  · replace h := h.1 c
    refine x_lv (lv' := [(0, aA v0), (1, aI v1), (2, aI v2), (3, aJ v3), (6, aI v6)]) ⟨rfl, rfl, rfl, rfl, rfl, trivial⟩ ?_
    exact xX7_isBarred_76 hQ hK6 _ _ _ _ _ _ h
  · replace h := h.2 c
    refine x_lload_n dX7_isBarred_59 rfl ?_
    refine x_aload_n dX7_isBarred_60 rfl ?_
    obtain ⟨h1, r_61, hr_61, h⟩ := h
    refine x_g7_12 rfl dX7_isBarred_61 h1 (x_un hr_61 ?_)
    refine x_iload dX7_isBarred_64 rfl ?_
    refine x_iald dX7_isBarred_66 h.1 ?_
    replace h := h.2
    refine x_i2l dX7_isBarred_67 ?_
    refine x_lcmp_gt (tgt := 76) dX7_isBarred_68 dX7_isBarred_69 (by decide) (fun c => ?_) (fun c => ?_)
    · replace h := h.1 c
      refine x_lv (lv' := [(0, aA v0), (1, aI v1), (2, aI v2), (3, aJ v3), (6, aI v6)]) ⟨rfl, rfl, rfl, rfl, rfl, trivial⟩ ?_
      exact xX7_isBarred_76 hQ hK6 _ _ _ _ _ _ h
    · replace h := h.2 c
      refine x_lv (lv' := [(0, aA v0), (1, aI v1), (2, aI v2), (3, aJ v3), (6, aI v6)]) ⟨rfl, rfl, rfl, rfl, rfl, trivial⟩ ?_
      exact xX7_isBarred_72 hQ hK6 _ _ _ _ _ _ h
set_option maxRecDepth 100000 in
set_option maxHeartbeats 4000000 in
theorem xX7_isBarred_6 {E : en} {ad : Nat → Nat} {Post : Int32 → hs → Prop} (hQ : isQ E ad (pI Post))   : ∀ (n : Nat) (v0 : Nat) (v1 : Int32) (v2 : Int32) (v3 : Int64) (v5 : Int32) (v6 : Int32) (S : hs) (_ : PX7_isBarred_6 Post  n v0 v1 v2 v3 v5 v6 S), X E mX7_isBarred 0 0 ad S 6 [(0, aA v0), (1, aI v1), (2, aI v2), (3, aJ v3), (5, aI v5), (6, aI v6)] [] := by
  intro n
  induction n with
  | zero => intro v0 v1 v2 v3 v5 v6 S h; exact h.elim
  | succ n ih =>
    intro v0 v1 v2 v3 v5 v6 S h
    have hK6 := ih
    simp only [PX7_isBarred_6] at h
    refine x_iload dX7_isBarred_6 rfl ?_
    refine x_aload_n dX7_isBarred_8 rfl ?_
    refine x_g7_8 rfl dX7_isBarred_9 h.1 ?_
    replace h := h.2
    refine x_icmp_ge (tgt := 85) dX7_isBarred_12 (by decide) (fun c => ?_) (fun c => ?_)
    · replace h := h.1 c
      refine x_iload dX7_isBarred_85 rfl ?_
      exact x_zret hQ rfl dX7_isBarred_87 ⟨h.1, _, rfl, h.2⟩
    · replace h := h.2 c
      refine x_iload dX7_isBarred_15 rfl ?_
      refine x_if_ne (tgt := 72) dX7_isBarred_17 (by decide) (fun c => ?_) (fun c => ?_)
      · replace h := h.2 c
        refine x_lv (lv' := [(0, aA v0), (1, aI v1), (2, aI v2), (3, aJ v3), (6, aI v6)]) ⟨rfl, rfl, rfl, rfl, rfl, trivial⟩ ?_
        exact xX7_isBarred_72 hQ hK6 _ _ _ _ _ _ h
      · replace h := h.1 c
        refine x_aload_n dX7_isBarred_20 rfl ?_
        obtain ⟨h1, r_21, hr_21, h⟩ := h
        refine x_g7_9 rfl dX7_isBarred_21 h1 (x_un hr_21 ?_)
        refine x_iload dX7_isBarred_24 rfl ?_
        refine x_iald dX7_isBarred_26 h.1 ?_
        replace h := h.2
        refine x_iload_n dX7_isBarred_27 rfl ?_
        refine x_icmp_ne (tgt := 76) dX7_isBarred_28 (by decide) (fun c => ?_) (fun c => ?_)
        · replace h := h.2 c
          refine x_lv (lv' := [(0, aA v0), (1, aI v1), (2, aI v2), (3, aJ v3), (6, aI v6)]) ⟨rfl, rfl, rfl, rfl, rfl, trivial⟩ ?_
          exact xX7_isBarred_76 hQ hK6 _ _ _ _ _ _ h
        · replace h := h.1 c
          refine x_iload_n dX7_isBarred_31 rfl ?_
          refine x_if_lt (tgt := 46) dX7_isBarred_32 (by decide) (fun c => ?_) (fun c => ?_)
          · replace h := h.1 c
            refine x_lv (lv' := [(0, aA v0), (1, aI v1), (2, aI v2), (3, aJ v3), (6, aI v6)]) ⟨rfl, rfl, rfl, rfl, rfl, trivial⟩ ?_
            exact xX7_isBarred_46 hQ hK6 _ _ _ _ _ _ h
          · replace h := h.2 c
            refine x_aload_n dX7_isBarred_35 rfl ?_
            obtain ⟨h1, r_36, hr_36, h⟩ := h
            refine x_g7_10 rfl dX7_isBarred_36 h1 (x_un hr_36 ?_)
            refine x_iload dX7_isBarred_39 rfl ?_
            refine x_iald dX7_isBarred_41 h.1 ?_
            replace h := h.2
            refine x_iload_n dX7_isBarred_42 rfl ?_
            refine x_icmp_ne (tgt := 76) dX7_isBarred_43 (by decide) (fun c => ?_) (fun c => ?_)
            · replace h := h.2 c
              refine x_lv (lv' := [(0, aA v0), (1, aI v1), (2, aI v2), (3, aJ v3), (6, aI v6)]) ⟨rfl, rfl, rfl, rfl, rfl, trivial⟩ ?_
              exact xX7_isBarred_76 hQ hK6 _ _ _ _ _ _ h
            · replace h := h.1 c
              refine x_lv (lv' := [(0, aA v0), (1, aI v1), (2, aI v2), (3, aJ v3), (6, aI v6)]) ⟨rfl, rfl, rfl, rfl, rfl, trivial⟩ ?_
              exact xX7_isBarred_46 hQ hK6 _ _ _ _ _ _ h
set_option maxRecDepth 100000 in
set_option maxHeartbeats 4000000 in
theorem ctX7_isBarred {G : Launch × va_G × (Nat → ClassId) × Nat} {v0 : Nat} {v1 : Int32} {v2 : Int32} {v3 : Int64} {S : hs} {Post : Int32 → hs → Prop} (h : PX7_isBarred v0 v1 v2 v3 S Post) : ctN G mX7_isBarred [aA v0, aI v1, aI v2, aJ v3] S (pI Post) := by
  refine ctN.of (by decide) (Nat.le_of_ble_eq_true rfl) (fun E ad hG hQ => ?_)
  subst hG
  unfold PX7_isBarred at h
  refine x_iconst (v := 0) dX7_isBarred_0 (by decide) ?_
  refine x_istore dX7_isBarred_1 (by decide) rfl ?_
  refine x_iconst (v := 0) dX7_isBarred_3 (by decide) ?_
  refine x_istore dX7_isBarred_4 (by decide) rfl ?_
  refine x_lv (lv' := [(0, aA v0), (1, aI v1), (2, aI v2), (3, aJ v3), (5, aI 0), (6, aI 0)]) ⟨rfl, rfl, rfl, rfl, rfl, rfl, trivial⟩ ?_
  obtain ⟨n, h⟩ := h
  exact xX7_isBarred_6 hQ  n _ _ _ _ _ _ _ h
set_option maxRecDepth 100000 in
set_option maxHeartbeats 4000000 in
theorem xX7_told_28 {E : en} {ad : Nat → Nat} {Post : Int32 → hs → Prop} (hQ : isQ E ad (pI Post))   (s0 : Int32) (S : hs) (h : PX7_told_28 Post  s0 S) : X E mX7_told 0 0 ad S 28 [] [aI s0] := by
  unfold PX7_told_28 at h
  exact x_zret hQ rfl dX7_told_28 ⟨h.1, _, rfl, h.2⟩
set_option maxRecDepth 100000 in
set_option maxHeartbeats 4000000 in
theorem xX7_told_27 {E : en} {ad : Nat → Nat} {Post : Int32 → hs → Prop} (hQ : isQ E ad (pI Post))    (S : hs) (h : PX7_told_27 Post   S) : X E mX7_told 0 0 ad S 27 [] [] := by
  unfold PX7_told_27 at h
  refine x_iconst (v := 0) dX7_told_27 (by decide) ?_
  refine x_lv (lv' := []) trivial ?_
  exact xX7_told_28 hQ  _ _ h
set_option maxRecDepth 100000 in
set_option maxHeartbeats 4000000 in
theorem ctX7_told {G : Launch × va_G × (Nat → ClassId) × Nat} {v0 : Nat} {v1 : Int32} {v2 : Int64} {S : hs} {Post : Int32 → hs → Prop} (h : PX7_told v0 v1 v2 S Post) : ctN G mX7_told [aA v0, aI v1, aJ v2] S (pI Post) := by
  refine ctN.of (by decide) (Nat.le_of_ble_eq_true rfl) (fun E ad hG hQ => ?_)
  subst hG
  unfold PX7_told at h
  refine x_aload_n dX7_told_0 rfl ?_
  refine x_iconst (v := 0) dX7_told_1 (by decide) ?_
  obtain ⟨h1, h⟩ := h
  refine x_p7_0 rfl dX7_told_2 h1 (x_nS (fun S_2 hS_2 => ?_))
  replace h := h S_2 hS_2
  refine x_aload_n dX7_told_5 rfl ?_
  refine x_iload_n dX7_told_6 rfl ?_
  obtain ⟨h1, h⟩ := h
  refine x_callVI (As := [aI v1]) (st := []) kX7_137 rfl ⟨rfl, rfl, by decide, by decide⟩ dX7_told_7 rfl (Nat.le_of_ble_eq_true rfl) ⟨Nat.zero_le _, Nat.zero_le _⟩ h1 (ctX7_isThere h) (fun x_7 S_7 h => ?_)
  refine x_if_eq (tgt := 27) dX7_told_10 (by decide) (fun c => ?_) (fun c => ?_)
  · replace h := h.1 c
    refine x_lv (lv' := []) trivial ?_
    exact xX7_told_27 hQ   _ h
  · replace h := h.2 c
    refine x_aload_n dX7_told_13 rfl ?_
    refine x_iload_n dX7_told_14 rfl ?_
    refine x_iconst (v := (-1)) dX7_told_15 (by decide) ?_
    refine x_lload_n dX7_told_16 rfl ?_
    obtain ⟨h1, h⟩ := h
    refine x_callVI (As := [aI v1, aI (-1), aJ v2]) (st := []) kX7_157 rfl ⟨rfl, rfl, by decide, by decide⟩ dX7_told_17 rfl (Nat.le_of_ble_eq_true rfl) ⟨Nat.zero_le _, Nat.zero_le _⟩ h1 (ctX7_isBarred h) (fun x_17 S_17 h => ?_)
    refine x_if_eq (tgt := 27) dX7_told_20 (by decide) (fun c => ?_) (fun c => ?_)
    · replace h := h.1 c
      refine x_lv (lv' := []) trivial ?_
      exact xX7_told_27 hQ   _ h
    · replace h := h.2 c
      refine x_iconst (v := 1) dX7_told_23 (by decide) ?_
      refine x_goto (tgt := 28) dX7_told_24 (by decide) ?_
      refine x_lv (lv' := []) trivial ?_
      exact xX7_told_28 hQ  _ _ h
set_option maxRecDepth 100000 in
set_option maxHeartbeats 4000000 in
theorem ctX7_track {G : Launch × va_G × (Nat → ClassId) × Nat} {v0 : Nat} {S : hs} {Post : Int32 → hs → Prop} (h : PX7_track v0 S Post) : ctN G mX7_track [aA v0] S (pI Post) := by
  refine ctN.of (by decide) (Nat.le_of_ble_eq_true rfl) (fun E ad hG hQ => ?_)
  subst hG
  unfold PX7_track at h
  refine x_aload_n dX7_track_0 rfl ?_
  refine x_iconst (v := 0) dX7_track_1 (by decide) ?_
  obtain ⟨h1, h⟩ := h
  refine x_p7_0 rfl dX7_track_2 h1 (x_nS (fun S_2 hS_2 => ?_))
  replace h := h S_2 hS_2
  refine x_aload_n dX7_track_5 rfl ?_
  refine x_g7_13 rfl dX7_track_6 h.1 ?_
  replace h := h.2
  refine x_bipush (v := 6) dX7_track_9 (by decide) ?_
  refine x_icmp_ne (tgt := 17) dX7_track_11 (by decide) (fun c => ?_) (fun c => ?_)
  · replace h := h.2 c
    refine x_aload_n dX7_track_17 rfl ?_
    obtain ⟨h1, r_18, hr_18, h⟩ := h
    refine x_g7_14 rfl dX7_track_18 h1 (x_un hr_18 ?_)
    refine x_aload_n dX7_track_21 rfl ?_
    refine x_g7_13 rfl dX7_track_22 h.1 ?_
    replace h := h.2
    refine x_iconst (v := 0) dX7_track_25 (by decide) ?_
    obtain ⟨h1, h⟩ := h
    refine x_iast dX7_track_26 h1 (x_nS (fun S_26 hS_26 => ?_))
    replace h := h S_26 hS_26
    refine x_aload_n dX7_track_27 rfl ?_
    refine x_dupR dX7_track_28 ?_
    refine x_g7_13 rfl dX7_track_29 h.1 ?_
    replace h := h.2
    refine x_iconst (v := 1) dX7_track_32 (by decide) ?_
    refine x_iadd dX7_track_33 ?_
    obtain ⟨h1, h⟩ := h
    refine x_p7_13 rfl dX7_track_34 h1 (x_nS (fun S_34 hS_34 => ?_))
    replace h := h S_34 hS_34
    refine x_aload_n dX7_track_37 rfl ?_
    refine x_g7_13 rfl dX7_track_38 h.1 ?_
    replace h := h.2
    refine x_iconst (v := 1) dX7_track_41 (by decide) ?_
    refine x_isub dX7_track_42 ?_
    exact x_iret hQ rfl dX7_track_43 ⟨_, rfl, h⟩
  · replace h := h.1 c
    refine x_bipush (v := (-4)) dX7_track_14 (by decide) ?_
    exact x_iret hQ rfl dX7_track_16 ⟨_, rfl, h⟩
set_option maxRecDepth 100000 in
set_option maxHeartbeats 4000000 in
theorem xX7_isTrack_17 {E : en} {ad : Nat → Nat} {Post : Int32 → hs → Prop} (hQ : isQ E ad (pI Post))   (s0 : Int32) (S : hs) (h : PX7_isTrack_17 Post  s0 S) : X E mX7_isTrack 0 0 ad S 17 [] [aI s0] := by
  unfold PX7_isTrack_17 at h
  exact x_zret hQ rfl dX7_isTrack_17 ⟨h.1, _, rfl, h.2⟩
set_option maxRecDepth 100000 in
set_option maxHeartbeats 4000000 in
theorem xX7_isTrack_16 {E : en} {ad : Nat → Nat} {Post : Int32 → hs → Prop} (hQ : isQ E ad (pI Post))    (S : hs) (h : PX7_isTrack_16 Post   S) : X E mX7_isTrack 0 0 ad S 16 [] [] := by
  unfold PX7_isTrack_16 at h
  refine x_iconst (v := 0) dX7_isTrack_16 (by decide) ?_
  refine x_lv (lv' := []) trivial ?_
  exact xX7_isTrack_17 hQ  _ _ h
set_option maxRecDepth 100000 in
set_option maxHeartbeats 4000000 in
theorem ctX7_isTrack {G : Launch × va_G × (Nat → ClassId) × Nat} {v0 : Nat} {v1 : Int32} {S : hs} {Post : Int32 → hs → Prop} (h : PX7_isTrack v0 v1 S Post) : ctN G mX7_isTrack [aA v0, aI v1] S (pI Post) := by
  refine ctN.of (by decide) (Nat.le_of_ble_eq_true rfl) (fun E ad hG hQ => ?_)
  subst hG
  unfold PX7_isTrack at h
  refine x_iload_n dX7_isTrack_0 rfl ?_
  refine x_if_lt (tgt := 16) dX7_isTrack_1 (by decide) (fun c => ?_) (fun c => ?_)
  · replace h := h.1 c
    refine x_lv (lv' := []) trivial ?_
    exact xX7_isTrack_16 hQ   _ h
  · replace h := h.2 c
    refine x_iload_n dX7_isTrack_4 rfl ?_
    refine x_aload_n dX7_isTrack_5 rfl ?_
    refine x_g7_13 rfl dX7_isTrack_6 h.1 ?_
    replace h := h.2
    refine x_icmp_ge (tgt := 16) dX7_isTrack_9 (by decide) (fun c => ?_) (fun c => ?_)
    · replace h := h.1 c
      refine x_lv (lv' := []) trivial ?_
      exact xX7_isTrack_16 hQ   _ h
    · replace h := h.2 c
      refine x_iconst (v := 1) dX7_isTrack_12 (by decide) ?_
      refine x_goto (tgt := 17) dX7_isTrack_13 (by decide) ?_
      refine x_lv (lv' := []) trivial ?_
      exact xX7_isTrack_17 hQ  _ _ h
set_option maxRecDepth 100000 in
set_option maxHeartbeats 4000000 in
theorem xX7_place_103 {E : en} {ad : Nat → Nat} {Post : Int32 → hs → Prop} (hQ : isQ E ad (pI Post))   (v0 : Nat) (v1 : Int32) (v2 : Int64) (v4 : Int64) (v6 : Int64) (v8 : Int32) (S : hs) (h : PX7_place_103 Post  v0 v1 v2 v4 v6 v8 S) : X E mX7_place 0 0 ad S 103 [(0, aA v0), (1, aI v1), (2, aJ v2), (4, aJ v4), (6, aJ v6), (8, aI v8)] [] := by
  unfold PX7_place_103 at h
  refine x_aload_n dX7_place_103 rfl ?_
  obtain ⟨h1, r_104, hr_104, h⟩ := h
  refine x_g7_15 rfl dX7_place_104 h1 (x_un hr_104 ?_)
  refine x_iload dX7_place_107 rfl ?_
  refine x_lload_n dX7_place_109 rfl ?_
  obtain ⟨h1, h⟩ := h
  refine x_last dX7_place_110 h1 (x_nS (fun S_110 hS_110 => ?_))
  replace h := h S_110 hS_110
  refine x_aload_n dX7_place_111 rfl ?_
  obtain ⟨h1, r_112, hr_112, h⟩ := h
  refine x_g7_16 rfl dX7_place_112 h1 (x_un hr_112 ?_)
  refine x_iload dX7_place_115 rfl ?_
  refine x_lload dX7_place_117 rfl ?_
  obtain ⟨h1, h⟩ := h
  refine x_last dX7_place_119 h1 (x_nS (fun S_119 hS_119 => ?_))
  replace h := h S_119 hS_119
  refine x_aload_n dX7_place_120 rfl ?_
  obtain ⟨h1, r_121, hr_121, h⟩ := h
  refine x_g7_17 rfl dX7_place_121 h1 (x_un hr_121 ?_)
  refine x_iload dX7_place_124 rfl ?_
  refine x_lload dX7_place_126 rfl ?_
  obtain ⟨h1, h⟩ := h
  refine x_last dX7_place_128 h1 (x_nS (fun S_128 hS_128 => ?_))
  replace h := h S_128 hS_128
  refine x_aload_n dX7_place_129 rfl ?_
  obtain ⟨h1, r_130, hr_130, h⟩ := h
  refine x_g7_14 rfl dX7_place_130 h1 (x_un hr_130 ?_)
  refine x_iload_n dX7_place_133 rfl ?_
  refine x_dup2 dX7_place_134 ?_
  refine x_iald dX7_place_135 h.1 ?_
  replace h := h.2
  refine x_iconst (v := 1) dX7_place_136 (by decide) ?_
  refine x_iadd dX7_place_137 ?_
  obtain ⟨h1, h⟩ := h
  refine x_iast dX7_place_138 h1 (x_nS (fun S_138 hS_138 => ?_))
  replace h := h S_138 hS_138
  refine x_iconst (v := 1) dX7_place_139 (by decide) ?_
  exact x_zret hQ rfl dX7_place_140 ⟨Or.inr rfl, _, rfl, h⟩
set_option maxRecDepth 100000 in
set_option maxHeartbeats 4000000 in
theorem xX7_place_63 {E : en} {ad : Nat → Nat} {Post : Int32 → hs → Prop} (hQ : isQ E ad (pI Post))    (S : hs) (h : PX7_place_63 Post   S) : X E mX7_place 0 0 ad S 63 [] [] := by
  unfold PX7_place_63 at h
  refine x_iconst (v := 0) dX7_place_63 (by decide) ?_
  exact x_zret hQ rfl dX7_place_64 ⟨Or.inl rfl, _, rfl, h⟩
set_option maxRecDepth 100000 in
set_option maxHeartbeats 4000000 in
theorem ctX7_place {G : Launch × va_G × (Nat → ClassId) × Nat} {v0 : Nat} {v1 : Int32} {v2 : Int64} {v4 : Int64} {v6 : Int64} {S : hs} {Post : Int32 → hs → Prop} (h : PX7_place v0 v1 v2 v4 v6 S Post) : ctN G mX7_place [aA v0, aI v1, aJ v2, aJ v4, aJ v6] S (pI Post) := by
  refine ctN.of (by decide) (Nat.le_of_ble_eq_true rfl) (fun E ad hG hQ => ?_)
  subst hG
  unfold PX7_place at h
  refine x_aload_n dX7_place_0 rfl ?_
  refine x_iconst (v := 0) dX7_place_1 (by decide) ?_
  obtain ⟨h1, h⟩ := h
  refine x_p7_0 rfl dX7_place_2 h1 (x_nS (fun S_2 hS_2 => ?_))
  replace h := h S_2 hS_2
  refine x_aload_n dX7_place_5 rfl ?_
  refine x_iload_n dX7_place_6 rfl ?_
  obtain ⟨h1, h⟩ := h
  refine x_callVI (As := [aI v1]) (st := []) kX7_164 rfl ⟨rfl, rfl, by decide, by decide⟩ dX7_place_7 rfl (Nat.le_of_ble_eq_true rfl) ⟨Nat.zero_le _, Nat.zero_le _⟩ h1 (ctX7_isTrack h) (fun x_7 S_7 h => ?_)
  refine x_if_eq (tgt := 63) dX7_place_10 (by decide) (fun c => ?_) (fun c => ?_)
  · replace h := h.1 c
    refine x_lv (lv' := []) trivial ?_
    exact xX7_place_63 hQ   _ h
  · replace h := h.2 c
    refine x_lload_n dX7_place_13 rfl ?_
    refine x_lconst (v := 0) dX7_place_14 (by decide) ?_
    refine x_ldc2 (v := 40000000) dX7_place_15 kcX7_167 ?_
    refine x_callSI (As := [aJ v2, aJ 0, aJ 40000000]) (st := []) kX7_122 rfl ⟨rfl, rfl, by decide, by decide⟩ dX7_place_18 rfl (Nat.le_of_ble_eq_true rfl) ⟨Nat.zero_le _, Nat.zero_le _⟩ (ctX7_isIn h) (fun x_18 S_18 h => ?_)
    refine x_if_eq (tgt := 63) dX7_place_21 (by decide) (fun c => ?_) (fun c => ?_)
    · replace h := h.1 c
      refine x_lv (lv' := []) trivial ?_
      exact xX7_place_63 hQ   _ h
    · replace h := h.2 c
      refine x_lload dX7_place_24 rfl ?_
      refine x_ldc2 (v := (-200)) dX7_place_26 kcX7_118 ?_
      refine x_ldc2 (v := 200) dX7_place_29 kcX7_120 ?_
      refine x_callSI (As := [aJ v4, aJ (-200), aJ 200]) (st := []) kX7_122 rfl ⟨rfl, rfl, by decide, by decide⟩ dX7_place_32 rfl (Nat.le_of_ble_eq_true rfl) ⟨Nat.zero_le _, Nat.zero_le _⟩ (ctX7_isIn h) (fun x_32 S_32 h => ?_)
      refine x_if_eq (tgt := 63) dX7_place_35 (by decide) (fun c => ?_) (fun c => ?_)
      · replace h := h.1 c
        refine x_lv (lv' := []) trivial ?_
        exact xX7_place_63 hQ   _ h
      · replace h := h.2 c
        refine x_lload dX7_place_38 rfl ?_
        refine x_ldc2 (v := (-200)) dX7_place_40 kcX7_118 ?_
        refine x_ldc2 (v := 200) dX7_place_43 kcX7_120 ?_
        refine x_callSI (As := [aJ v6, aJ (-200), aJ 200]) (st := []) kX7_122 rfl ⟨rfl, rfl, by decide, by decide⟩ dX7_place_46 rfl (Nat.le_of_ble_eq_true rfl) ⟨Nat.zero_le _, Nat.zero_le _⟩ (ctX7_isIn h) (fun x_46 S_46 h => ?_)
        refine x_if_eq (tgt := 63) dX7_place_49 (by decide) (fun c => ?_) (fun c => ?_)
        · replace h := h.1 c
          refine x_lv (lv' := []) trivial ?_
          exact xX7_place_63 hQ   _ h
        · replace h := h.2 c
          refine x_aload_n dX7_place_52 rfl ?_
          obtain ⟨h1, r_53, hr_53, h⟩ := h
          refine x_g7_14 rfl dX7_place_53 h1 (x_un hr_53 ?_)
          refine x_iload_n dX7_place_56 rfl ?_
          refine x_iald dX7_place_57 h.1 ?_
          replace h := h.2
          refine x_bipush (v := 30) dX7_place_58 (by decide) ?_
          refine x_icmp_ne (tgt := 65) dX7_place_60 (by decide) (fun c => ?_) (fun c => ?_)
          · replace h := h.2 c
            refine x_bipush (v := 30) dX7_place_65 (by decide) ?_
            refine x_iload_n dX7_place_67 rfl ?_
            refine x_imul dX7_place_68 ?_
            refine x_aload_n dX7_place_69 rfl ?_
            obtain ⟨h1, r_70, hr_70, h⟩ := h
            refine x_g7_14 rfl dX7_place_70 h1 (x_un hr_70 ?_)
            refine x_iload_n dX7_place_73 rfl ?_
            refine x_iald dX7_place_74 h.1 ?_
            replace h := h.2
            refine x_iadd dX7_place_75 ?_
            refine x_nI (fun v8_76 hv8_76 => ?_)
            replace h := h v8_76 hv8_76
            refine x_istore dX7_place_76 (by decide) rfl ?_
            refine x_aload_n dX7_place_78 rfl ?_
            obtain ⟨h1, r_79, hr_79, h⟩ := h
            refine x_g7_14 rfl dX7_place_79 h1 (x_un hr_79 ?_)
            refine x_iload_n dX7_place_82 rfl ?_
            refine x_iald dX7_place_83 h.1 ?_
            replace h := h.2
            refine x_if_le (tgt := 103) dX7_place_84 (by decide) (fun c => ?_) (fun c => ?_)
            · replace h := h.1 c
              refine x_lv (lv' := [(0, aA v0), (1, aI v1), (2, aJ v2), (4, aJ v4), (6, aJ v6), (8, aI v8_76)]) ⟨rfl, rfl, rfl, rfl, rfl, rfl, trivial⟩ ?_
              exact xX7_place_103 hQ  _ _ _ _ _ _ _ h
            · replace h := h.2 c
              refine x_aload_n dX7_place_87 rfl ?_
              obtain ⟨h1, r_88, hr_88, h⟩ := h
              refine x_g7_15 rfl dX7_place_88 h1 (x_un hr_88 ?_)
              refine x_iload dX7_place_91 rfl ?_
              refine x_iconst (v := 1) dX7_place_93 (by decide) ?_
              refine x_isub dX7_place_94 ?_
              refine x_lald dX7_place_95 h.1 ?_
              replace h := h.2
              refine x_lload_n dX7_place_96 rfl ?_
              refine x_lcmp_lt (tgt := 103) dX7_place_97 dX7_place_98 (by decide) (fun c => ?_) (fun c => ?_)
              · replace h := h.1 c
                refine x_lv (lv' := [(0, aA v0), (1, aI v1), (2, aJ v2), (4, aJ v4), (6, aJ v6), (8, aI v8_76)]) ⟨rfl, rfl, rfl, rfl, rfl, rfl, trivial⟩ ?_
                exact xX7_place_103 hQ  _ _ _ _ _ _ _ h
              · replace h := h.2 c
                refine x_iconst (v := 0) dX7_place_101 (by decide) ?_
                exact x_zret hQ rfl dX7_place_102 ⟨Or.inl rfl, _, rfl, h⟩
          · replace h := h.1 c
            refine x_lv (lv' := []) trivial ?_
            exact xX7_place_63 hQ   _ h
set_option maxRecDepth 100000 in
set_option maxHeartbeats 4000000 in
theorem ctX7_lasts {G : Launch × va_G × (Nat → ClassId) × Nat} {v0 : Nat} {v1 : Int32} {S : hs} {Post : Int64 → hs → Prop} (h : PX7_lasts v0 v1 S Post) : ctN G mX7_lasts [aA v0, aI v1] S (pJ Post) := by
  refine ctN.of (by decide) (Nat.le_of_ble_eq_true rfl) (fun E ad hG hQ => ?_)
  subst hG
  unfold PX7_lasts at h
  refine x_aload_n dX7_lasts_0 rfl ?_
  obtain ⟨h1, r_1, hr_1, h⟩ := h
  refine x_g7_15 rfl dX7_lasts_1 h1 (x_un hr_1 ?_)
  refine x_iload_n dX7_lasts_4 rfl ?_
  refine x_iconst (v := 1) dX7_lasts_5 (by decide) ?_
  refine x_iadd dX7_lasts_6 ?_
  refine x_lald dX7_lasts_7 h.1 ?_
  replace h := h.2
  refine x_aload_n dX7_lasts_8 rfl ?_
  obtain ⟨h1, r_9, hr_9, h⟩ := h
  refine x_g7_15 rfl dX7_lasts_9 h1 (x_un hr_9 ?_)
  refine x_iload_n dX7_lasts_12 rfl ?_
  refine x_lald dX7_lasts_13 h.1 ?_
  replace h := h.2
  refine x_lsub dX7_lasts_14 ?_
  exact x_lret hQ rfl dX7_lasts_15 ⟨_, rfl, h⟩
set_option maxRecDepth 100000 in
set_option maxHeartbeats 4000000 in
theorem xX7_isGap_17 {E : en} {ad : Nat → Nat} {Post : Int32 → hs → Prop} (hQ : isQ E ad (pI Post))   (s0 : Int32) (S : hs) (h : PX7_isGap_17 Post  s0 S) : X E mX7_isGap 0 0 ad S 17 [] [aI s0] := by
  unfold PX7_isGap_17 at h
  exact x_zret hQ rfl dX7_isGap_17 ⟨h.1, _, rfl, h.2⟩
set_option maxRecDepth 100000 in
set_option maxHeartbeats 4000000 in
theorem ctX7_isGap {G : Launch × va_G × (Nat → ClassId) × Nat} {v0 : Nat} {v1 : Int32} {S : hs} {Post : Int32 → hs → Prop} (h : PX7_isGap v0 v1 S Post) : ctN G mX7_isGap [aA v0, aI v1] S (pI Post) := by
  refine ctN.of (by decide) (Nat.le_of_ble_eq_true rfl) (fun E ad hG hQ => ?_)
  subst hG
  unfold PX7_isGap at h
  refine x_aload_n dX7_isGap_0 rfl ?_
  refine x_iload_n dX7_isGap_1 rfl ?_
  obtain ⟨h1, h⟩ := h
  refine x_callVJ (As := [aI v1]) (st := []) kX7_169 rfl ⟨rfl, rfl, by decide, by decide⟩ dX7_isGap_2 rfl (Nat.le_of_ble_eq_true rfl) ⟨Nat.zero_le _, Nat.zero_le _⟩ h1 (ctX7_lasts h) (fun x_2 S_2 h => ?_)
  refine x_ldc2 (v := 3600) dX7_isGap_5 kcX7_173 ?_
  refine x_lcmp_le (tgt := 16) dX7_isGap_8 dX7_isGap_9 (by decide) (fun c => ?_) (fun c => ?_)
  · replace h := h.1 c
    refine x_iconst (v := 0) dX7_isGap_16 (by decide) ?_
    refine x_lv (lv' := []) trivial ?_
    exact xX7_isGap_17 hQ  _ _ h
  · replace h := h.2 c
    refine x_iconst (v := 1) dX7_isGap_12 (by decide) ?_
    refine x_goto (tgt := 17) dX7_isGap_13 (by decide) ?_
    refine x_lv (lv' := []) trivial ?_
    exact xX7_isGap_17 hQ  _ _ h
set_option maxRecDepth 100000 in
set_option maxHeartbeats 4000000 in
theorem xX7_counts_133 {E : en} {ad : Nat → Nat} {Post : Int32 → hs → Prop} (hQ : isQ E ad (pI Post))   (s0 : Int32) (S : hs) (h : PX7_counts_133 Post  s0 S) : X E mX7_counts 0 0 ad S 133 [] [aI s0] := by
  unfold PX7_counts_133 at h
  exact x_zret hQ rfl dX7_counts_133 ⟨h.1, _, rfl, h.2⟩
set_option maxRecDepth 100000 in
set_option maxHeartbeats 4000000 in
theorem xX7_counts_128 {E : en} {ad : Nat → Nat} {Post : Int32 → hs → Prop} (hQ : isQ E ad (pI Post))    (S : hs) (h : PX7_counts_128 Post   S) : X E mX7_counts 0 0 ad S 128 [] [] := by
  unfold PX7_counts_128 at h
  refine x_iconst (v := 1) dX7_counts_128 (by decide) ?_
  refine x_goto (tgt := 133) dX7_counts_129 (by decide) ?_
  refine x_lv (lv' := []) trivial ?_
  exact xX7_counts_133 hQ  _ _ h
set_option maxRecDepth 100000 in
set_option maxHeartbeats 4000000 in
theorem xX7_counts_35 {E : en} {ad : Nat → Nat} {Post : Int32 → hs → Prop} (hQ : isQ E ad (pI Post))    (S : hs) (h : PX7_counts_35 Post   S) : X E mX7_counts 0 0 ad S 35 [] [] := by
  unfold PX7_counts_35 at h
  refine x_iconst (v := 0) dX7_counts_35 (by decide) ?_
  exact x_zret hQ rfl dX7_counts_36 ⟨Or.inl rfl, _, rfl, h⟩
set_option maxRecDepth 100000 in
set_option maxHeartbeats 4000000 in
theorem ctX7_counts {G : Launch × va_G × (Nat → ClassId) × Nat} {v0 : Nat} {v1 : Int32} {v2 : Int32} {v3 : Int32} {S : hs} {Post : Int32 → hs → Prop} (h : PX7_counts v0 v1 v2 v3 S Post) : ctN G mX7_counts [aA v0, aI v1, aI v2, aI v3] S (pI Post) := by
  refine ctN.of (by decide) (Nat.le_of_ble_eq_true rfl) (fun E ad hG hQ => ?_)
  subst hG
  unfold PX7_counts at h
  refine x_aload_n dX7_counts_0 rfl ?_
  refine x_iload_n dX7_counts_1 rfl ?_
  obtain ⟨h1, h⟩ := h
  refine x_callVI (As := [aI v2]) (st := []) kX7_137 rfl ⟨rfl, rfl, by decide, by decide⟩ dX7_counts_2 rfl (Nat.le_of_ble_eq_true rfl) ⟨Nat.zero_le _, Nat.zero_le _⟩ h1 (ctX7_isThere h) (fun x_2 S_2 h => ?_)
  refine x_if_eq (tgt := 35) dX7_counts_5 (by decide) (fun c => ?_) (fun c => ?_)
  · replace h := h.1 c
    refine x_lv (lv' := []) trivial ?_
    exact xX7_counts_35 hQ   _ h
  · replace h := h.2 c
    refine x_aload_n dX7_counts_8 rfl ?_
    refine x_iload_n dX7_counts_9 rfl ?_
    obtain ⟨h1, h⟩ := h
    refine x_callVI (As := [aI v1]) (st := []) kX7_175 rfl ⟨rfl, rfl, by decide, by decide⟩ dX7_counts_10 rfl (Nat.le_of_ble_eq_true rfl) ⟨Nat.zero_le _, Nat.zero_le _⟩ h1 (ctX7_isGap h) (fun x_10 S_10 h => ?_)
    refine x_if_ne (tgt := 35) dX7_counts_13 (by decide) (fun c => ?_) (fun c => ?_)
    · replace h := h.2 c
      refine x_lv (lv' := []) trivial ?_
      exact xX7_counts_35 hQ   _ h
    · replace h := h.1 c
      refine x_aload_n dX7_counts_16 rfl ?_
      refine x_iload_n dX7_counts_17 rfl ?_
      refine x_iload_n dX7_counts_18 rfl ?_
      refine x_aload_n dX7_counts_19 rfl ?_
      obtain ⟨h1, r_20, hr_20, h⟩ := h
      refine x_g7_15 rfl dX7_counts_20 h1 (x_un hr_20 ?_)
      refine x_iload_n dX7_counts_23 rfl ?_
      refine x_lald dX7_counts_24 h.1 ?_
      replace h := h.2
      refine x_ldc2 (v := 86400) dX7_counts_25 kcX7_178 ?_
      refine x_ldiv dX7_counts_28 (by decide) ?_
      obtain ⟨h1, h⟩ := h
      refine x_callVI (As := [aI v2, aI v3, aJ ((hj S_10 r_20 (Int32.toNatClampNeg v1)) / 86400)]) (st := []) kX7_157 rfl ⟨rfl, rfl, by decide, by decide⟩ dX7_counts_29 rfl (Nat.le_of_ble_eq_true rfl) ⟨Nat.zero_le _, Nat.zero_le _⟩ h1 (ctX7_isBarred h) (fun x_29 S_29 h => ?_)
      refine x_if_ne (tgt := 37) dX7_counts_32 (by decide) (fun c => ?_) (fun c => ?_)
      · replace h := h.2 c
        refine x_aload_n dX7_counts_37 rfl ?_
        obtain ⟨h1, r_38, hr_38, h⟩ := h
        refine x_g7_16 rfl dX7_counts_38 h1 (x_un hr_38 ?_)
        refine x_iload_n dX7_counts_41 rfl ?_
        refine x_iconst (v := 1) dX7_counts_42 (by decide) ?_
        refine x_iadd dX7_counts_43 ?_
        refine x_lald dX7_counts_44 h.1 ?_
        replace h := h.2
        refine x_aload_n dX7_counts_45 rfl ?_
        obtain ⟨h1, r_46, hr_46, h⟩ := h
        refine x_g7_16 rfl dX7_counts_46 h1 (x_un hr_46 ?_)
        refine x_iload_n dX7_counts_49 rfl ?_
        refine x_lald dX7_counts_50 h.1 ?_
        replace h := h.2
        refine x_lsub dX7_counts_51 ?_
        refine x_nJ (fun v4_52 hv4_52 => ?_)
        replace h := h v4_52 hv4_52
        refine x_lstore dX7_counts_52 (by decide) rfl ?_
        refine x_aload_n dX7_counts_54 rfl ?_
        obtain ⟨h1, r_55, hr_55, h⟩ := h
        refine x_g7_17 rfl dX7_counts_55 h1 (x_un hr_55 ?_)
        refine x_iload_n dX7_counts_58 rfl ?_
        refine x_iconst (v := 1) dX7_counts_59 (by decide) ?_
        refine x_iadd dX7_counts_60 ?_
        refine x_lald dX7_counts_61 h.1 ?_
        replace h := h.2
        refine x_aload_n dX7_counts_62 rfl ?_
        obtain ⟨h1, r_63, hr_63, h⟩ := h
        refine x_g7_17 rfl dX7_counts_63 h1 (x_un hr_63 ?_)
        refine x_iload_n dX7_counts_66 rfl ?_
        refine x_lald dX7_counts_67 h.1 ?_
        replace h := h.2
        refine x_lsub dX7_counts_68 ?_
        refine x_nJ (fun v6_69 hv6_69 => ?_)
        replace h := h v6_69 hv6_69
        refine x_lstore dX7_counts_69 (by decide) rfl ?_
        refine x_lload dX7_counts_71 rfl ?_
        refine x_lload dX7_counts_73 rfl ?_
        refine x_lmul dX7_counts_75 ?_
        refine x_lload dX7_counts_76 rfl ?_
        refine x_lload dX7_counts_78 rfl ?_
        refine x_lmul dX7_counts_80 ?_
        refine x_ladd dX7_counts_81 ?_
        refine x_ldc2 (v := 3600) dX7_counts_82 kcX7_173 ?_
        refine x_lmul dX7_counts_85 ?_
        refine x_ldc2 (v := 3600) dX7_counts_86 kcX7_173 ?_
        refine x_lmul dX7_counts_89 ?_
        refine x_nJ (fun v8_90 hv8_90 => ?_)
        replace h := h v8_90 hv8_90
        refine x_lstore dX7_counts_90 (by decide) rfl ?_
        refine x_aload_n dX7_counts_92 rfl ?_
        obtain ⟨h1, r_93, hr_93, h⟩ := h
        refine x_g7_7 rfl dX7_counts_93 h1 (x_un hr_93 ?_)
        refine x_iload_n dX7_counts_96 rfl ?_
        refine x_lald dX7_counts_97 h.1 ?_
        replace h := h.2
        refine x_aload_n dX7_counts_98 rfl ?_
        refine x_iload_n dX7_counts_99 rfl ?_
        obtain ⟨h1, h⟩ := h
        refine x_callVJ (As := [aI v1]) (st := [aJ (hj S_29 r_93 (Int32.toNatClampNeg v2))]) kX7_169 rfl ⟨rfl, rfl, by decide, by decide⟩ dX7_counts_100 rfl (Nat.le_of_ble_eq_true rfl) ⟨Nat.zero_le _, Nat.zero_le _⟩ h1 (ctX7_lasts h) (fun x_100 S_100 h => ?_)
        refine x_lmul dX7_counts_103 ?_
        refine x_nJ (fun v10_104 hv10_104 => ?_)
        replace h := h v10_104 hv10_104
        refine x_lstore dX7_counts_104 (by decide) rfl ?_
        refine x_aload_n dX7_counts_106 rfl ?_
        obtain ⟨h1, r_107, hr_107, h⟩ := h
        refine x_g7_7 rfl dX7_counts_107 h1 (x_un hr_107 ?_)
        refine x_iload_n dX7_counts_110 rfl ?_
        refine x_lald dX7_counts_111 h.1 ?_
        replace h := h.2
        refine x_lconst (v := 0) dX7_counts_112 (by decide) ?_
        refine x_lcmp_eq (tgt := 128) dX7_counts_113 dX7_counts_114 (by decide) (fun c => ?_) (fun c => ?_)
        · replace h := h.1 c
          refine x_lv (lv' := []) trivial ?_
          exact xX7_counts_128 hQ   _ h
        · replace h := h.2 c
          refine x_lload dX7_counts_117 rfl ?_
          refine x_lload dX7_counts_119 rfl ?_
          refine x_lload dX7_counts_121 rfl ?_
          refine x_lmul dX7_counts_123 ?_
          refine x_lcmp_ge (tgt := 132) dX7_counts_124 dX7_counts_125 (by decide) (fun c => ?_) (fun c => ?_)
          · replace h := h.1 c
            refine x_iconst (v := 0) dX7_counts_132 (by decide) ?_
            refine x_lv (lv' := []) trivial ?_
            exact xX7_counts_133 hQ  _ _ h
          · replace h := h.2 c
            refine x_lv (lv' := []) trivial ?_
            exact xX7_counts_128 hQ   _ h
      · replace h := h.1 c
        refine x_lv (lv' := []) trivial ?_
        exact xX7_counts_35 hQ   _ h
