set_option maxRecDepth 100000 in
set_option maxHeartbeats 4000000 in
theorem xX7_maybe_389 {E : en} {ad : Nat → Nat} {Post : Int32 → hs → Prop} (hQ : isQ E ad (pI Post)) {K202 : Nat → Int64 → Int64 → Int64 → Int64 → Int32 → hs → Prop} (hK202 : ∀ (v0 : Nat) (v7 : Int64) (v9 : Int64) (v11 : Int64) (v13 : Int64) (v15 : Int32) (S : hs), K202 v0 v7 v9 v11 v13 v15 S → X E mX7_maybe 0 0 ad S 202 [(0, aA v0), (7, aJ v7), (9, aJ v9), (11, aJ v11), (13, aJ v13), (15, aI v15)] []) (v0 : Nat) (v7 : Int64) (v9 : Int64) (v11 : Int64) (v13 : Int64) (v15 : Int32) (S : hs) (h : PX7_maybe_389 Post K202 v0 v7 v9 v11 v13 v15 S) : X E mX7_maybe 0 0 ad S 389 [(0, aA v0), (7, aJ v7), (9, aJ v9), (11, aJ v11), (13, aJ v13), (15, aI v15)] [] := by
  unfold PX7_maybe_389 at h
  obtain ⟨v15_389, hv15_389⟩ : ∃ y : Int32, y = v15 + 1 := ⟨_, rfl⟩
  replace h := h v15_389 hv15_389
  refine x_iinc (v := v15_389) dX7_maybe_389 rfl (by rw [hv15_389]; rfl) (by decide) rfl ?_
  refine x_goto (tgt := 202) dX7_maybe_392 (by decide) ?_
  refine x_lv (lv' := [(0, aA v0), (7, aJ v7), (9, aJ v9), (11, aJ v11), (13, aJ v13), (15, aI v15_389)]) ⟨rfl, rfl, rfl, rfl, rfl, rfl, trivial⟩ ?_
  exact hK202 _ _ _ _ _ _ _ h
set_option maxRecDepth 100000 in
set_option maxHeartbeats 4000000 in
theorem xX7_maybe_267 {E : en} {ad : Nat → Nat} {Post : Int32 → hs → Prop} (hQ : isQ E ad (pI Post)) {K202 : Nat → Int64 → Int64 → Int64 → Int64 → Int32 → hs → Prop} (hK202 : ∀ (v0 : Nat) (v7 : Int64) (v9 : Int64) (v11 : Int64) (v13 : Int64) (v15 : Int32) (S : hs), K202 v0 v7 v9 v11 v13 v15 S → X E mX7_maybe 0 0 ad S 202 [(0, aA v0), (7, aJ v7), (9, aJ v9), (11, aJ v11), (13, aJ v13), (15, aI v15)] []) : ∀ (n : Nat) (v0 : Nat) (v7 : Int64) (v9 : Int64) (v11 : Int64) (v13 : Int64) (v15 : Int32) (v16 : Int32) (v17 : Int64) (v19 : Int64) (v21 : Int64) (v23 : Int64) (v25 : Int32) (S : hs) (_ : PX7_maybe_267 Post K202 n v0 v7 v9 v11 v13 v15 v16 v17 v19 v21 v23 v25 S), X E mX7_maybe 0 0 ad S 267 [(0, aA v0), (7, aJ v7), (9, aJ v9), (11, aJ v11), (13, aJ v13), (15, aI v15), (16, aI v16), (17, aJ v17), (19, aJ v19), (21, aJ v21), (23, aJ v23), (25, aI v25)] [] := by
  intro n
  induction n with
  | zero => intro v0 v7 v9 v11 v13 v15 v16 v17 v19 v21 v23 v25 S h; exact h.elim
  | succ n ih =>
    intro v0 v7 v9 v11 v13 v15 v16 v17 v19 v21 v23 v25 S h
    have hK267 := ih
    simp only [PX7_maybe_267] at h
    refine x_iload dX7_maybe_267 rfl ?_
    refine x_aload_n dX7_maybe_269 rfl ?_
    obtain ⟨h1, r_270, hr_270, h⟩ := h
    refine x_g7_4 rfl dX7_maybe_270 h1 (x_un hr_270 ?_)
    refine x_iconst (v := 4) dX7_maybe_273 (by decide) ?_
    refine x_iload dX7_maybe_274 rfl ?_
    refine x_imul dX7_maybe_276 ?_
    refine x_iald dX7_maybe_277 h.1 ?_
    replace h := h.2
    refine x_icmp_ge (tgt := 355) dX7_maybe_278 (by decide) (fun c => ?_) (fun c => ?_)
    · replace h := h.1 c
      refine x_lload dX7_maybe_355 rfl ?_
      refine x_lload dX7_maybe_357 rfl ?_
      refine x_lcmp_gt (tgt := 389) dX7_maybe_359 dX7_maybe_360 (by decide) (fun c => ?_) (fun c => ?_)
      · replace h := h.1 c
        refine x_lv (lv' := [(0, aA v0), (7, aJ v7), (9, aJ v9), (11, aJ v11), (13, aJ v13), (15, aI v15)]) ⟨rfl, rfl, rfl, rfl, rfl, rfl, trivial⟩ ?_
        exact xX7_maybe_389 hQ hK202 _ _ _ _ _ _ _ h
      · replace h := h.2 c
        refine x_lload dX7_maybe_363 rfl ?_
        refine x_lload dX7_maybe_365 rfl ?_
        refine x_lcmp_gt (tgt := 389) dX7_maybe_367 dX7_maybe_368 (by decide) (fun c => ?_) (fun c => ?_)
        · replace h := h.1 c
          refine x_lv (lv' := [(0, aA v0), (7, aJ v7), (9, aJ v9), (11, aJ v11), (13, aJ v13), (15, aI v15)]) ⟨rfl, rfl, rfl, rfl, rfl, rfl, trivial⟩ ?_
          exact xX7_maybe_389 hQ hK202 _ _ _ _ _ _ _ h
        · replace h := h.2 c
          refine x_lload dX7_maybe_371 rfl ?_
          refine x_lload dX7_maybe_373 rfl ?_
          refine x_lcmp_gt (tgt := 389) dX7_maybe_375 dX7_maybe_376 (by decide) (fun c => ?_) (fun c => ?_)
          · replace h := h.1 c
            refine x_lv (lv' := [(0, aA v0), (7, aJ v7), (9, aJ v9), (11, aJ v11), (13, aJ v13), (15, aI v15)]) ⟨rfl, rfl, rfl, rfl, rfl, rfl, trivial⟩ ?_
            exact xX7_maybe_389 hQ hK202 _ _ _ _ _ _ _ h
          · replace h := h.2 c
            refine x_lload dX7_maybe_379 rfl ?_
            refine x_lload dX7_maybe_381 rfl ?_
            refine x_lcmp_gt (tgt := 389) dX7_maybe_383 dX7_maybe_384 (by decide) (fun c => ?_) (fun c => ?_)
            · replace h := h.1 c
              refine x_lv (lv' := [(0, aA v0), (7, aJ v7), (9, aJ v9), (11, aJ v11), (13, aJ v13), (15, aI v15)]) ⟨rfl, rfl, rfl, rfl, rfl, rfl, trivial⟩ ?_
              exact xX7_maybe_389 hQ hK202 _ _ _ _ _ _ _ h
            · replace h := h.2 c
              refine x_iconst (v := 1) dX7_maybe_387 (by decide) ?_
              exact x_zret hQ rfl dX7_maybe_388 ⟨Or.inr rfl, _, rfl, h⟩
    · replace h := h.2 c
      refine x_lload dX7_maybe_281 rfl ?_
      refine x_aload_n dX7_maybe_283 rfl ?_
      obtain ⟨h1, r_284, hr_284, h⟩ := h
      refine x_g7_2 rfl dX7_maybe_284 h1 (x_un hr_284 ?_)
      refine x_iload dX7_maybe_287 rfl ?_
      refine x_iload dX7_maybe_289 rfl ?_
      refine x_iadd dX7_maybe_291 ?_
      refine x_lald dX7_maybe_292 h.1 ?_
      replace h := h.2
      refine x_callSJ (As := [aJ v17, aJ (hj S r_284 (Int32.toNatClampNeg (v16 + v25)))]) (st := []) kX7_87 rfl ⟨rfl, rfl, by decide, by decide⟩ dX7_maybe_293 rfl (Nat.le_of_ble_eq_true rfl) ⟨Nat.zero_le _, Nat.zero_le _⟩ (ctX7_less h) (fun x_293 S_293 h => ?_)
      refine x_lstore dX7_maybe_296 (by decide) rfl ?_
      refine x_lload dX7_maybe_298 rfl ?_
      refine x_aload_n dX7_maybe_300 rfl ?_
      obtain ⟨h1, r_301, hr_301, h⟩ := h
      refine x_g7_2 rfl dX7_maybe_301 h1 (x_un hr_301 ?_)
      refine x_iload dX7_maybe_304 rfl ?_
      refine x_iload dX7_maybe_306 rfl ?_
      refine x_iadd dX7_maybe_308 ?_
      refine x_lald dX7_maybe_309 h.1 ?_
      replace h := h.2
      refine x_callSJ (As := [aJ v19, aJ (hj S_293 r_301 (Int32.toNatClampNeg (v16 + v25)))]) (st := []) kX7_91 rfl ⟨rfl, rfl, by decide, by decide⟩ dX7_maybe_310 rfl (Nat.le_of_ble_eq_true rfl) ⟨Nat.zero_le _, Nat.zero_le _⟩ (ctX7_more h) (fun x_310 S_310 h => ?_)
      refine x_lstore dX7_maybe_313 (by decide) rfl ?_
      refine x_lload dX7_maybe_315 rfl ?_
      refine x_aload_n dX7_maybe_317 rfl ?_
      obtain ⟨h1, r_318, hr_318, h⟩ := h
      refine x_g7_3 rfl dX7_maybe_318 h1 (x_un hr_318 ?_)
      refine x_iload dX7_maybe_321 rfl ?_
      refine x_iload dX7_maybe_323 rfl ?_
      refine x_iadd dX7_maybe_325 ?_
      refine x_lald dX7_maybe_326 h.1 ?_
      replace h := h.2
      refine x_callSJ (As := [aJ v21, aJ (hj S_310 r_318 (Int32.toNatClampNeg (v16 + v25)))]) (st := []) kX7_87 rfl ⟨rfl, rfl, by decide, by decide⟩ dX7_maybe_327 rfl (Nat.le_of_ble_eq_true rfl) ⟨Nat.zero_le _, Nat.zero_le _⟩ (ctX7_less h) (fun x_327 S_327 h => ?_)
      refine x_lstore dX7_maybe_330 (by decide) rfl ?_
      refine x_lload dX7_maybe_332 rfl ?_
      refine x_aload_n dX7_maybe_334 rfl ?_
      obtain ⟨h1, r_335, hr_335, h⟩ := h
      refine x_g7_3 rfl dX7_maybe_335 h1 (x_un hr_335 ?_)
      refine x_iload dX7_maybe_338 rfl ?_
      refine x_iload dX7_maybe_340 rfl ?_
      refine x_iadd dX7_maybe_342 ?_
      refine x_lald dX7_maybe_343 h.1 ?_
      replace h := h.2
      refine x_callSJ (As := [aJ v23, aJ (hj S_327 r_335 (Int32.toNatClampNeg (v16 + v25)))]) (st := []) kX7_91 rfl ⟨rfl, rfl, by decide, by decide⟩ dX7_maybe_344 rfl (Nat.le_of_ble_eq_true rfl) ⟨Nat.zero_le _, Nat.zero_le _⟩ (ctX7_more h) (fun x_344 S_344 h => ?_)
      refine x_lstore dX7_maybe_347 (by decide) rfl ?_
      obtain ⟨v25_349, hv25_349⟩ : ∃ y : Int32, y = v25 + 1 := ⟨_, rfl⟩
      replace h := h v25_349 hv25_349
      refine x_iinc (v := v25_349) dX7_maybe_349 rfl (by rw [hv25_349]; rfl) (by decide) rfl ?_
      refine x_goto (tgt := 267) dX7_maybe_352 (by decide) ?_
      refine x_lv (lv' := [(0, aA v0), (7, aJ v7), (9, aJ v9), (11, aJ v11), (13, aJ v13), (15, aI v15), (16, aI v16), (17, aJ x_293), (19, aJ x_310), (21, aJ x_327), (23, aJ x_344), (25, aI v25_349)]) ⟨rfl, rfl, rfl, rfl, rfl, rfl, rfl, rfl, rfl, rfl, rfl, rfl, trivial⟩ ?_
      exact hK267 _ _ _ _ _ _ _ _ _ _ _ _ _ h
set_option maxRecDepth 100000 in
set_option maxHeartbeats 4000000 in
theorem xX7_maybe_202 {E : en} {ad : Nat → Nat} {Post : Int32 → hs → Prop} (hQ : isQ E ad (pI Post))   : ∀ (n : Nat) (v0 : Nat) (v7 : Int64) (v9 : Int64) (v11 : Int64) (v13 : Int64) (v15 : Int32) (S : hs) (_ : PX7_maybe_202 Post  n v0 v7 v9 v11 v13 v15 S), X E mX7_maybe 0 0 ad S 202 [(0, aA v0), (7, aJ v7), (9, aJ v9), (11, aJ v11), (13, aJ v13), (15, aI v15)] [] := by
  intro n
  induction n with
  | zero => intro v0 v7 v9 v11 v13 v15 S h; exact h.elim
  | succ n ih =>
    intro v0 v7 v9 v11 v13 v15 S h
    have hK202 := ih
    simp only [PX7_maybe_202] at h
    refine x_iload dX7_maybe_202 rfl ?_
    refine x_aload_n dX7_maybe_204 rfl ?_
    refine x_g7_1 rfl dX7_maybe_205 h.1 ?_
    replace h := h.2
    refine x_icmp_ge (tgt := 395) dX7_maybe_208 (by decide) (fun c => ?_) (fun c => ?_)
    · replace h := h.1 c
      refine x_iconst (v := 0) dX7_maybe_395 (by decide) ?_
      exact x_zret hQ rfl dX7_maybe_396 ⟨Or.inl rfl, _, rfl, h⟩
    · replace h := h.2 c
      refine x_aload_n dX7_maybe_211 rfl ?_
      obtain ⟨h1, r_212, hr_212, h⟩ := h
      refine x_g7_5 rfl dX7_maybe_212 h1 (x_un hr_212 ?_)
      refine x_iload dX7_maybe_215 rfl ?_
      refine x_iald dX7_maybe_217 h.1 ?_
      replace h := h.2
      refine x_if_le (tgt := 389) dX7_maybe_218 (by decide) (fun c => ?_) (fun c => ?_)
      · replace h := h.1 c
        refine x_lv (lv' := [(0, aA v0), (7, aJ v7), (9, aJ v9), (11, aJ v11), (13, aJ v13), (15, aI v15)]) ⟨rfl, rfl, rfl, rfl, rfl, rfl, trivial⟩ ?_
        exact xX7_maybe_389 hQ hK202 _ _ _ _ _ _ _ h
      · replace h := h.2 c
        refine x_bipush (v := 48) dX7_maybe_221 (by decide) ?_
        refine x_iload dX7_maybe_223 rfl ?_
        refine x_imul dX7_maybe_225 ?_
        refine x_nI (fun v16_226 hv16_226 => ?_)
        replace h := h v16_226 hv16_226
        refine x_istore dX7_maybe_226 (by decide) rfl ?_
        refine x_aload_n dX7_maybe_228 rfl ?_
        obtain ⟨h1, r_229, hr_229, h⟩ := h
        refine x_g7_2 rfl dX7_maybe_229 h1 (x_un hr_229 ?_)
        refine x_iload dX7_maybe_232 rfl ?_
        refine x_lald dX7_maybe_234 h.1 ?_
        replace h := h.2
        refine x_nJ (fun v17_235 hv17_235 => ?_)
        replace h := h v17_235 hv17_235
        refine x_lstore dX7_maybe_235 (by decide) rfl ?_
        refine x_aload_n dX7_maybe_237 rfl ?_
        obtain ⟨h1, r_238, hr_238, h⟩ := h
        refine x_g7_2 rfl dX7_maybe_238 h1 (x_un hr_238 ?_)
        refine x_iload dX7_maybe_241 rfl ?_
        refine x_lald dX7_maybe_243 h.1 ?_
        replace h := h.2
        refine x_nJ (fun v19_244 hv19_244 => ?_)
        replace h := h v19_244 hv19_244
        refine x_lstore dX7_maybe_244 (by decide) rfl ?_
        refine x_aload_n dX7_maybe_246 rfl ?_
        obtain ⟨h1, r_247, hr_247, h⟩ := h
        refine x_g7_3 rfl dX7_maybe_247 h1 (x_un hr_247 ?_)
        refine x_iload dX7_maybe_250 rfl ?_
        refine x_lald dX7_maybe_252 h.1 ?_
        replace h := h.2
        refine x_nJ (fun v21_253 hv21_253 => ?_)
        replace h := h v21_253 hv21_253
        refine x_lstore dX7_maybe_253 (by decide) rfl ?_
        refine x_aload_n dX7_maybe_255 rfl ?_
        obtain ⟨h1, r_256, hr_256, h⟩ := h
        refine x_g7_3 rfl dX7_maybe_256 h1 (x_un hr_256 ?_)
        refine x_iload dX7_maybe_259 rfl ?_
        refine x_lald dX7_maybe_261 h.1 ?_
        replace h := h.2
        refine x_nJ (fun v23_262 hv23_262 => ?_)
        replace h := h v23_262 hv23_262
        refine x_lstore dX7_maybe_262 (by decide) rfl ?_
        refine x_iconst (v := 1) dX7_maybe_264 (by decide) ?_
        refine x_istore dX7_maybe_265 (by decide) rfl ?_
        refine x_lv (lv' := [(0, aA v0), (7, aJ v7), (9, aJ v9), (11, aJ v11), (13, aJ v13), (15, aI v15), (16, aI v16_226), (17, aJ v17_235), (19, aJ v19_244), (21, aJ v21_253), (23, aJ v23_262), (25, aI 1)]) ⟨rfl, rfl, rfl, rfl, rfl, rfl, rfl, rfl, rfl, rfl, rfl, rfl, trivial⟩ ?_
        obtain ⟨n, h⟩ := h
        exact xX7_maybe_267 hQ hK202 n _ _ _ _ _ _ _ _ _ _ _ _ _ h
set_option maxRecDepth 100000 in
set_option maxHeartbeats 4000000 in
theorem xX7_maybe_80 {E : en} {ad : Nat → Nat} {Post : Int32 → hs → Prop} (hQ : isQ E ad (pI Post))   (v0 : Nat) (v4 : Int32) (S : hs) (h : PX7_maybe_80 Post  v0 v4 S) : X E mX7_maybe 0 0 ad S 80 [(0, aA v0), (4, aI v4)] [] := by
  unfold PX7_maybe_80 at h
  refine x_iload dX7_maybe_80 rfl ?_
  refine x_if_ge (tgt := 87) dX7_maybe_82 (by decide) (fun c => ?_) (fun c => ?_)
  · replace h := h.1 c
    refine x_aload_n dX7_maybe_87 rfl ?_
    refine x_iload dX7_maybe_88 rfl ?_
    obtain ⟨h1, h⟩ := h
    refine x_callVJ (As := [aI v4]) (st := []) kX7_169 rfl ⟨rfl, rfl, by decide, by decide⟩ dX7_maybe_90 rfl (Nat.le_of_ble_eq_true rfl) ⟨Nat.zero_le _, Nat.zero_le _⟩ h1 (ctX7_lasts h) (fun x_90 S_90 h => ?_)
    refine x_ldc2 (v := 3599) dX7_maybe_93 kcX7_234 ?_
    refine x_ladd dX7_maybe_96 ?_
    refine x_ldc2 (v := 3600) dX7_maybe_97 kcX7_173 ?_
    refine x_ldiv dX7_maybe_100 (by decide) ?_
    refine x_nJ (fun v5_101 hv5_101 => ?_)
    replace h := h v5_101 hv5_101
    refine x_lstore dX7_maybe_101 (by decide) rfl ?_
    refine x_aload_n dX7_maybe_103 rfl ?_
    obtain ⟨h1, r_104, hr_104, h⟩ := h
    refine x_g7_16 rfl dX7_maybe_104 h1 (x_un hr_104 ?_)
    refine x_iload dX7_maybe_107 rfl ?_
    refine x_lald dX7_maybe_109 h.1 ?_
    replace h := h.2
    refine x_aload_n dX7_maybe_110 rfl ?_
    obtain ⟨h1, r_111, hr_111, h⟩ := h
    refine x_g7_16 rfl dX7_maybe_111 h1 (x_un hr_111 ?_)
    refine x_iload dX7_maybe_114 rfl ?_
    refine x_iconst (v := 1) dX7_maybe_116 (by decide) ?_
    refine x_iadd dX7_maybe_117 ?_
    refine x_lald dX7_maybe_118 h.1 ?_
    replace h := h.2
    refine x_callSJ (As := [aJ (hj S_90 r_104 (Int32.toNatClampNeg v4)), aJ (hj S_90 r_111 (Int32.toNatClampNeg (v4 + 1)))]) (st := []) kX7_87 rfl ⟨rfl, rfl, by decide, by decide⟩ dX7_maybe_119 rfl (Nat.le_of_ble_eq_true rfl) ⟨Nat.zero_le _, Nat.zero_le _⟩ (ctX7_less h) (fun x_119 S_119 h => ?_)
    refine x_lload dX7_maybe_122 rfl ?_
    refine x_lsub dX7_maybe_124 ?_
    refine x_nJ (fun v7_125 hv7_125 => ?_)
    replace h := h v7_125 hv7_125
    refine x_lstore dX7_maybe_125 (by decide) rfl ?_
    refine x_aload_n dX7_maybe_127 rfl ?_
    obtain ⟨h1, r_128, hr_128, h⟩ := h
    refine x_g7_16 rfl dX7_maybe_128 h1 (x_un hr_128 ?_)
    refine x_iload dX7_maybe_131 rfl ?_
    refine x_lald dX7_maybe_133 h.1 ?_
    replace h := h.2
    refine x_aload_n dX7_maybe_134 rfl ?_
    obtain ⟨h1, r_135, hr_135, h⟩ := h
    refine x_g7_16 rfl dX7_maybe_135 h1 (x_un hr_135 ?_)
    refine x_iload dX7_maybe_138 rfl ?_
    refine x_iconst (v := 1) dX7_maybe_140 (by decide) ?_
    refine x_iadd dX7_maybe_141 ?_
    refine x_lald dX7_maybe_142 h.1 ?_
    replace h := h.2
    refine x_callSJ (As := [aJ (hj S_119 r_128 (Int32.toNatClampNeg v4)), aJ (hj S_119 r_135 (Int32.toNatClampNeg (v4 + 1)))]) (st := []) kX7_91 rfl ⟨rfl, rfl, by decide, by decide⟩ dX7_maybe_143 rfl (Nat.le_of_ble_eq_true rfl) ⟨Nat.zero_le _, Nat.zero_le _⟩ (ctX7_more h) (fun x_143 S_143 h => ?_)
    refine x_lload dX7_maybe_146 rfl ?_
    refine x_ladd dX7_maybe_148 ?_
    refine x_nJ (fun v9_149 hv9_149 => ?_)
    replace h := h v9_149 hv9_149
    refine x_lstore dX7_maybe_149 (by decide) rfl ?_
    refine x_aload_n dX7_maybe_151 rfl ?_
    obtain ⟨h1, r_152, hr_152, h⟩ := h
    refine x_g7_17 rfl dX7_maybe_152 h1 (x_un hr_152 ?_)
    refine x_iload dX7_maybe_155 rfl ?_
    refine x_lald dX7_maybe_157 h.1 ?_
    replace h := h.2
    refine x_aload_n dX7_maybe_158 rfl ?_
    obtain ⟨h1, r_159, hr_159, h⟩ := h
    refine x_g7_17 rfl dX7_maybe_159 h1 (x_un hr_159 ?_)
    refine x_iload dX7_maybe_162 rfl ?_
    refine x_iconst (v := 1) dX7_maybe_164 (by decide) ?_
    refine x_iadd dX7_maybe_165 ?_
    refine x_lald dX7_maybe_166 h.1 ?_
    replace h := h.2
    refine x_callSJ (As := [aJ (hj S_143 r_152 (Int32.toNatClampNeg v4)), aJ (hj S_143 r_159 (Int32.toNatClampNeg (v4 + 1)))]) (st := []) kX7_87 rfl ⟨rfl, rfl, by decide, by decide⟩ dX7_maybe_167 rfl (Nat.le_of_ble_eq_true rfl) ⟨Nat.zero_le _, Nat.zero_le _⟩ (ctX7_less h) (fun x_167 S_167 h => ?_)
    refine x_lload dX7_maybe_170 rfl ?_
    refine x_lsub dX7_maybe_172 ?_
    refine x_nJ (fun v11_173 hv11_173 => ?_)
    replace h := h v11_173 hv11_173
    refine x_lstore dX7_maybe_173 (by decide) rfl ?_
    refine x_aload_n dX7_maybe_175 rfl ?_
    obtain ⟨h1, r_176, hr_176, h⟩ := h
    refine x_g7_17 rfl dX7_maybe_176 h1 (x_un hr_176 ?_)
    refine x_iload dX7_maybe_179 rfl ?_
    refine x_lald dX7_maybe_181 h.1 ?_
    replace h := h.2
    refine x_aload_n dX7_maybe_182 rfl ?_
    obtain ⟨h1, r_183, hr_183, h⟩ := h
    refine x_g7_17 rfl dX7_maybe_183 h1 (x_un hr_183 ?_)
    refine x_iload dX7_maybe_186 rfl ?_
    refine x_iconst (v := 1) dX7_maybe_188 (by decide) ?_
    refine x_iadd dX7_maybe_189 ?_
    refine x_lald dX7_maybe_190 h.1 ?_
    replace h := h.2
    refine x_callSJ (As := [aJ (hj S_167 r_176 (Int32.toNatClampNeg v4)), aJ (hj S_167 r_183 (Int32.toNatClampNeg (v4 + 1)))]) (st := []) kX7_91 rfl ⟨rfl, rfl, by decide, by decide⟩ dX7_maybe_191 rfl (Nat.le_of_ble_eq_true rfl) ⟨Nat.zero_le _, Nat.zero_le _⟩ (ctX7_more h) (fun x_191 S_191 h => ?_)
    refine x_lload dX7_maybe_194 rfl ?_
    refine x_ladd dX7_maybe_196 ?_
    refine x_nJ (fun v13_197 hv13_197 => ?_)
    replace h := h v13_197 hv13_197
    refine x_lstore dX7_maybe_197 (by decide) rfl ?_
    refine x_iconst (v := 0) dX7_maybe_199 (by decide) ?_
    refine x_istore dX7_maybe_200 (by decide) rfl ?_
    refine x_lv (lv' := [(0, aA v0), (7, aJ v7_125), (9, aJ v9_149), (11, aJ v11_173), (13, aJ v13_197), (15, aI 0)]) ⟨rfl, rfl, rfl, rfl, rfl, rfl, trivial⟩ ?_
    obtain ⟨n, h⟩ := h
    exact xX7_maybe_202 hQ  n _ _ _ _ _ _ _ h
  · replace h := h.2 c
    refine x_iconst (v := 0) dX7_maybe_85 (by decide) ?_
    exact x_zret hQ rfl dX7_maybe_86 ⟨Or.inl rfl, _, rfl, h⟩
set_option maxRecDepth 100000 in
set_option maxHeartbeats 4000000 in
theorem xX7_maybe_74 {E : en} {ad : Nat → Nat} {Post : Int32 → hs → Prop} (hQ : isQ E ad (pI Post)) {K13 : Nat → Int32 → Int32 → Int32 → Int32 → hs → Prop} (hK13 : ∀ (v0 : Nat) (v1 : Int32) (v3 : Int32) (v4 : Int32) (v5 : Int32) (S : hs), K13 v0 v1 v3 v4 v5 S → X E mX7_maybe 0 0 ad S 13 [(0, aA v0), (1, aI v1), (3, aI v3), (4, aI v4), (5, aI v5)] []) (v0 : Nat) (v1 : Int32) (v3 : Int32) (v4 : Int32) (v5 : Int32) (S : hs) (h : PX7_maybe_74 Post K13 v0 v1 v3 v4 v5 S) : X E mX7_maybe 0 0 ad S 74 [(0, aA v0), (1, aI v1), (3, aI v3), (4, aI v4), (5, aI v5)] [] := by
  unfold PX7_maybe_74 at h
  obtain ⟨v5_74, hv5_74⟩ : ∃ y : Int32, y = v5 + 1 := ⟨_, rfl⟩
  replace h := h v5_74 hv5_74
  refine x_iinc (v := v5_74) dX7_maybe_74 rfl (by rw [hv5_74]; rfl) (by decide) rfl ?_
  refine x_goto (tgt := 13) dX7_maybe_77 (by decide) ?_
  refine x_lv (lv' := [(0, aA v0), (1, aI v1), (3, aI v3), (4, aI v4), (5, aI v5_74)]) ⟨rfl, rfl, rfl, rfl, rfl, trivial⟩ ?_
  exact hK13 _ _ _ _ _ _ h
set_option maxRecDepth 100000 in
set_option maxHeartbeats 4000000 in
theorem xX7_maybe_69 {E : en} {ad : Nat → Nat} {Post : Int32 → hs → Prop} (hQ : isQ E ad (pI Post)) {K13 : Nat → Int32 → Int32 → Int32 → Int32 → hs → Prop} (hK13 : ∀ (v0 : Nat) (v1 : Int32) (v3 : Int32) (v4 : Int32) (v5 : Int32) (S : hs), K13 v0 v1 v3 v4 v5 S → X E mX7_maybe 0 0 ad S 13 [(0, aA v0), (1, aI v1), (3, aI v3), (4, aI v4), (5, aI v5)] []) (v0 : Nat) (v1 : Int32) (v3 : Int32) (v5 : Int32) (s0 : Int32) (S : hs) (h : PX7_maybe_69 Post K13 v0 v1 v3 v5 s0 S) : X E mX7_maybe 0 0 ad S 69 [(0, aA v0), (1, aI v1), (3, aI v3), (5, aI v5)] [aI s0] := by
  unfold PX7_maybe_69 at h
  refine x_istore dX7_maybe_69 (by decide) rfl ?_
  obtain ⟨v3_71, hv3_71⟩ : ∃ y : Int32, y = v3 + (-1) := ⟨_, rfl⟩
  replace h := h v3_71 hv3_71
  refine x_iinc (v := v3_71) dX7_maybe_71 rfl (by rw [hv3_71]; rfl) (by decide) rfl ?_
  refine x_lv (lv' := [(0, aA v0), (1, aI v1), (3, aI v3_71), (4, aI s0), (5, aI v5)]) ⟨rfl, rfl, rfl, rfl, rfl, trivial⟩ ?_
  exact xX7_maybe_74 hQ hK13 _ _ _ _ _ _ h
set_option maxRecDepth 100000 in
set_option maxHeartbeats 4000000 in
theorem xX7_maybe_13 {E : en} {ad : Nat → Nat} {Post : Int32 → hs → Prop} (hQ : isQ E ad (pI Post))   : ∀ (n : Nat) (v0 : Nat) (v1 : Int32) (v3 : Int32) (v4 : Int32) (v5 : Int32) (S : hs) (_ : PX7_maybe_13 Post  n v0 v1 v3 v4 v5 S), X E mX7_maybe 0 0 ad S 13 [(0, aA v0), (1, aI v1), (3, aI v3), (4, aI v4), (5, aI v5)] [] := by
  intro n
  induction n with
  | zero => intro v0 v1 v3 v4 v5 S h; exact h.elim
  | succ n ih =>
    intro v0 v1 v3 v4 v5 S h
    have hK13 := ih
    simp only [PX7_maybe_13] at h
    refine x_aload_n dX7_maybe_13 rfl ?_
    refine x_iload_n dX7_maybe_14 rfl ?_
    obtain ⟨h1, h⟩ := h
    refine x_callVI (As := [aI v1]) (st := []) kX7_164 rfl ⟨rfl, rfl, by decide, by decide⟩ dX7_maybe_15 rfl (Nat.le_of_ble_eq_true rfl) ⟨Nat.zero_le _, Nat.zero_le _⟩ h1 (ctX7_isTrack h) (fun x_15 S_15 h => ?_)
    refine x_if_eq (tgt := 80) dX7_maybe_18 (by decide) (fun c => ?_) (fun c => ?_)
    · replace h := h.1 c
      refine x_lv (lv' := [(0, aA v0), (4, aI v4)]) ⟨rfl, rfl, trivial⟩ ?_
      exact xX7_maybe_80 hQ  _ _ _ h
    · replace h := h.2 c
      refine x_iload dX7_maybe_21 rfl ?_
      refine x_iconst (v := 1) dX7_maybe_23 (by decide) ?_
      refine x_iadd dX7_maybe_24 ?_
      refine x_aload_n dX7_maybe_25 rfl ?_
      obtain ⟨h1, r_26, hr_26, h⟩ := h
      refine x_g7_14 rfl dX7_maybe_26 h1 (x_un hr_26 ?_)
      refine x_iload_n dX7_maybe_29 rfl ?_
      refine x_iald dX7_maybe_30 h.1 ?_
      replace h := h.2
      refine x_icmp_ge (tgt := 80) dX7_maybe_31 (by decide) (fun c => ?_) (fun c => ?_)
      · replace h := h.1 c
        refine x_lv (lv' := [(0, aA v0), (4, aI v4)]) ⟨rfl, rfl, trivial⟩ ?_
        exact xX7_maybe_80 hQ  _ _ _ h
      · replace h := h.2 c
        refine x_iload dX7_maybe_34 rfl ?_
        refine x_if_ge (tgt := 80) dX7_maybe_36 (by decide) (fun c => ?_) (fun c => ?_)
        · replace h := h.1 c
          refine x_lv (lv' := [(0, aA v0), (4, aI v4)]) ⟨rfl, rfl, trivial⟩ ?_
          exact xX7_maybe_80 hQ  _ _ _ h
        · replace h := h.2 c
          refine x_aload_n dX7_maybe_39 rfl ?_
          refine x_bipush (v := 30) dX7_maybe_40 (by decide) ?_
          refine x_iload_n dX7_maybe_42 rfl ?_
          refine x_imul dX7_maybe_43 ?_
          refine x_iload dX7_maybe_44 rfl ?_
          refine x_iadd dX7_maybe_46 ?_
          obtain ⟨h1, h⟩ := h
          refine x_callVI (As := [aI ((30 * v1) + v5)]) (st := []) kX7_175 rfl ⟨rfl, rfl, by decide, by decide⟩ dX7_maybe_47 rfl (Nat.le_of_ble_eq_true rfl) ⟨Nat.zero_le _, Nat.zero_le _⟩ h1 (ctX7_isGap h) (fun x_47 S_47 h => ?_)
          refine x_if_eq (tgt := 74) dX7_maybe_50 (by decide) (fun c => ?_) (fun c => ?_)
          · replace h := h.1 c
            refine x_lv (lv' := [(0, aA v0), (1, aI v1), (3, aI v3), (4, aI v4), (5, aI v5)]) ⟨rfl, rfl, rfl, rfl, rfl, trivial⟩ ?_
            exact xX7_maybe_74 hQ hK13 _ _ _ _ _ _ h
          · replace h := h.2 c
            refine x_iload_n dX7_maybe_53 rfl ?_
            refine x_if_ne (tgt := 67) dX7_maybe_54 (by decide) (fun c => ?_) (fun c => ?_)
            · replace h := h.2 c
              refine x_iload dX7_maybe_67 rfl ?_
              refine x_lv (lv' := [(0, aA v0), (1, aI v1), (3, aI v3), (5, aI v5)]) ⟨rfl, rfl, rfl, rfl, trivial⟩ ?_
              exact xX7_maybe_69 hQ hK13 _ _ _ _ _ _ h
            · replace h := h.1 c
              refine x_bipush (v := 30) dX7_maybe_57 (by decide) ?_
              refine x_iload_n dX7_maybe_59 rfl ?_
              refine x_imul dX7_maybe_60 ?_
              refine x_iload dX7_maybe_61 rfl ?_
              refine x_iadd dX7_maybe_63 ?_
              refine x_goto (tgt := 69) dX7_maybe_64 (by decide) ?_
              refine x_lv (lv' := [(0, aA v0), (1, aI v1), (3, aI v3), (5, aI v5)]) ⟨rfl, rfl, rfl, rfl, trivial⟩ ?_
              exact xX7_maybe_69 hQ hK13 _ _ _ _ _ _ h
set_option maxRecDepth 100000 in
set_option maxHeartbeats 4000000 in
theorem ctX7_maybe {G : Launch × va_G × (Nat → ClassId) × Nat} {v0 : Nat} {v1 : Int32} {v2 : Int32} {S : hs} {Post : Int32 → hs → Prop} (h : PX7_maybe v0 v1 v2 S Post) : ctN G mX7_maybe [aA v0, aI v1, aI v2] S (pI Post) := by
  refine ctN.of (by decide) (Nat.le_of_ble_eq_true rfl) (fun E ad hG hQ => ?_)
  subst hG
  unfold PX7_maybe at h
  refine x_aload_n dX7_maybe_0 rfl ?_
  refine x_iconst (v := 0) dX7_maybe_1 (by decide) ?_
  obtain ⟨h1, h⟩ := h
  refine x_p7_0 rfl dX7_maybe_2 h1 (x_nS (fun S_2 hS_2 => ?_))
  replace h := h S_2 hS_2
  refine x_iload_n dX7_maybe_5 rfl ?_
  refine x_istore_n dX7_maybe_6 (by decide) rfl ?_
  refine x_iconst (v := (-1)) dX7_maybe_7 (by decide) ?_
  refine x_istore dX7_maybe_8 (by decide) rfl ?_
  refine x_iconst (v := 0) dX7_maybe_10 (by decide) ?_
  refine x_istore dX7_maybe_11 (by decide) rfl ?_
  refine x_lv (lv' := [(0, aA v0), (1, aI v1), (3, aI v2), (4, aI (-1)), (5, aI 0)]) ⟨rfl, rfl, rfl, rfl, rfl, trivial⟩ ?_
  obtain ⟨n, h⟩ := h
  exact xX7_maybe_13 hQ  n _ _ _ _ _ _ h
set_option maxRecDepth 100000 in
set_option maxHeartbeats 4000000 in
theorem xX7_isNear_205 {E : en} {ad : Nat → Nat} {Post : Int32 → hs → Prop} (hQ : isQ E ad (pI Post))   (s0 : Int32) (S : hs) (h : PX7_isNear_205 Post  s0 S) : X E mX7_isNear 0 0 ad S 205 [] [aI s0] := by
  unfold PX7_isNear_205 at h
  exact x_zret hQ rfl dX7_isNear_205 ⟨h.1, _, rfl, h.2⟩
set_option maxRecDepth 100000 in
set_option maxHeartbeats 4000000 in
theorem xX7_isNear_169 {E : en} {ad : Nat → Nat} {Post : Int32 → hs → Prop} (hQ : isQ E ad (pI Post))   (s0 : Int32) (S : hs) (h : PX7_isNear_169 Post  s0 S) : X E mX7_isNear 0 0 ad S 169 [] [aI s0] := by
  unfold PX7_isNear_169 at h
  exact x_zret hQ rfl dX7_isNear_169 ⟨h.1, _, rfl, h.2⟩
set_option maxRecDepth 100000 in
set_option maxHeartbeats 4000000 in
theorem xX7_isNear_109 {E : en} {ad : Nat → Nat} {Post : Int32 → hs → Prop} (hQ : isQ E ad (pI Post))   (s0 : Int32) (S : hs) (h : PX7_isNear_109 Post  s0 S) : X E mX7_isNear 0 0 ad S 109 [] [aI s0] := by
  unfold PX7_isNear_109 at h
  exact x_zret hQ rfl dX7_isNear_109 ⟨h.1, _, rfl, h.2⟩
set_option maxRecDepth 100000 in
set_option maxHeartbeats 4000000 in
theorem ctX7_isNear {G : Launch × va_G × (Nat → ClassId) × Nat} {v0 : Nat} {v1 : Int32} {v2 : Int32} {v3 : Int64} {v5 : Int64} {v7 : Int64} {S : hs} {Post : Int32 → hs → Prop} (h : PX7_isNear v0 v1 v2 v3 v5 v7 S Post) : ctN G mX7_isNear [aA v0, aI v1, aI v2, aJ v3, aJ v5, aJ v7] S (pI Post) := by
  refine ctN.of (by decide) (Nat.le_of_ble_eq_true rfl) (fun E ad hG hQ => ?_)
  subst hG
  unfold PX7_isNear at h
  refine x_aload_n dX7_isNear_0 rfl ?_
  obtain ⟨h1, r_1, hr_1, h⟩ := h
  refine x_g7_2 rfl dX7_isNear_1 h1 (x_un hr_1 ?_)
  refine x_iload_n dX7_isNear_4 rfl ?_
  refine x_lald dX7_isNear_5 h.1 ?_
  replace h := h.2
  refine x_aload_n dX7_isNear_6 rfl ?_
  obtain ⟨h1, r_7, hr_7, h⟩ := h
  refine x_g7_2 rfl dX7_isNear_7 h1 (x_un hr_7 ?_)
  refine x_iload_n dX7_isNear_10 rfl ?_
  refine x_lald dX7_isNear_11 h.1 ?_
  replace h := h.2
  refine x_lsub dX7_isNear_12 ?_
  refine x_nJ (fun v9_13 hv9_13 => ?_)
  replace h := h v9_13 hv9_13
  refine x_lstore dX7_isNear_13 (by decide) rfl ?_
  refine x_aload_n dX7_isNear_15 rfl ?_
  obtain ⟨h1, r_16, hr_16, h⟩ := h
  refine x_g7_3 rfl dX7_isNear_16 h1 (x_un hr_16 ?_)
  refine x_iload_n dX7_isNear_19 rfl ?_
  refine x_lald dX7_isNear_20 h.1 ?_
  replace h := h.2
  refine x_aload_n dX7_isNear_21 rfl ?_
  obtain ⟨h1, r_22, hr_22, h⟩ := h
  refine x_g7_3 rfl dX7_isNear_22 h1 (x_un hr_22 ?_)
  refine x_iload_n dX7_isNear_25 rfl ?_
  refine x_lald dX7_isNear_26 h.1 ?_
  replace h := h.2
  refine x_lsub dX7_isNear_27 ?_
  refine x_nJ (fun v11_28 hv11_28 => ?_)
  replace h := h v11_28 hv11_28
  refine x_lstore dX7_isNear_28 (by decide) rfl ?_
  refine x_lload_n dX7_isNear_30 rfl ?_
  refine x_aload_n dX7_isNear_31 rfl ?_
  obtain ⟨h1, r_32, hr_32, h⟩ := h
  refine x_g7_2 rfl dX7_isNear_32 h1 (x_un hr_32 ?_)
  refine x_iload_n dX7_isNear_35 rfl ?_
  refine x_lald dX7_isNear_36 h.1 ?_
  replace h := h.2
  refine x_lsub dX7_isNear_37 ?_
  refine x_nJ (fun v13_38 hv13_38 => ?_)
  replace h := h v13_38 hv13_38
  refine x_lstore dX7_isNear_38 (by decide) rfl ?_
  refine x_lload dX7_isNear_40 rfl ?_
  refine x_aload_n dX7_isNear_42 rfl ?_
  obtain ⟨h1, r_43, hr_43, h⟩ := h
  refine x_g7_3 rfl dX7_isNear_43 h1 (x_un hr_43 ?_)
  refine x_iload_n dX7_isNear_46 rfl ?_
  refine x_lald dX7_isNear_47 h.1 ?_
  replace h := h.2
  refine x_lsub dX7_isNear_48 ?_
  refine x_nJ (fun v15_49 hv15_49 => ?_)
  replace h := h v15_49 hv15_49
  refine x_lstore dX7_isNear_49 (by decide) rfl ?_
  refine x_lload dX7_isNear_51 rfl ?_
  refine x_lload dX7_isNear_53 rfl ?_
  refine x_lmul dX7_isNear_55 ?_
  refine x_lload dX7_isNear_56 rfl ?_
  refine x_lload dX7_isNear_58 rfl ?_
  refine x_lmul dX7_isNear_60 ?_
  refine x_ladd dX7_isNear_61 ?_
  refine x_nJ (fun v17_62 hv17_62 => ?_)
  replace h := h v17_62 hv17_62
  refine x_lstore dX7_isNear_62 (by decide) rfl ?_
  refine x_lload dX7_isNear_64 rfl ?_
  refine x_lload dX7_isNear_66 rfl ?_
  refine x_lmul dX7_isNear_68 ?_
  refine x_lload dX7_isNear_69 rfl ?_
  refine x_lload dX7_isNear_71 rfl ?_
  refine x_lmul dX7_isNear_73 ?_
  refine x_ladd dX7_isNear_74 ?_
  refine x_nJ (fun v19_75 hv19_75 => ?_)
  replace h := h v19_75 hv19_75
  refine x_lstore dX7_isNear_75 (by decide) rfl ?_
  refine x_lload dX7_isNear_77 rfl ?_
  refine x_lconst (v := 0) dX7_isNear_79 (by decide) ?_
  refine x_lcmp_gt (tgt := 110) dX7_isNear_80 dX7_isNear_81 (by decide) (fun c => ?_) (fun c => ?_)
  · replace h := h.1 c
    refine x_lload dX7_isNear_110 rfl ?_
    refine x_lload dX7_isNear_112 rfl ?_
    refine x_lcmp_lt (tgt := 170) dX7_isNear_114 dX7_isNear_115 (by decide) (fun c => ?_) (fun c => ?_)
    · replace h := h.1 c
      refine x_lload dX7_isNear_170 rfl ?_
      refine x_lload dX7_isNear_172 rfl ?_
      refine x_lmul dX7_isNear_174 ?_
      refine x_lload dX7_isNear_175 rfl ?_
      refine x_lload dX7_isNear_177 rfl ?_
      refine x_lmul dX7_isNear_179 ?_
      refine x_lsub dX7_isNear_180 ?_
      refine x_nJ (fun v21_181 hv21_181 => ?_)
      replace h := h v21_181 hv21_181
      refine x_lstore dX7_isNear_181 (by decide) rfl ?_
      refine x_lload dX7_isNear_183 rfl ?_
      refine x_lload dX7_isNear_185 rfl ?_
      refine x_lmul dX7_isNear_187 ?_
      refine x_lload dX7_isNear_188 rfl ?_
      refine x_lload dX7_isNear_190 rfl ?_
      refine x_lmul dX7_isNear_192 ?_
      refine x_lload dX7_isNear_193 rfl ?_
      refine x_lmul dX7_isNear_195 ?_
      refine x_lcmp_gt (tgt := 204) dX7_isNear_196 dX7_isNear_197 (by decide) (fun c => ?_) (fun c => ?_)
      · replace h := h.1 c
        refine x_iconst (v := 0) dX7_isNear_204 (by decide) ?_
        refine x_lv (lv' := []) trivial ?_
        exact xX7_isNear_205 hQ  _ _ h
      · replace h := h.2 c
        refine x_iconst (v := 1) dX7_isNear_200 (by decide) ?_
        refine x_goto (tgt := 205) dX7_isNear_201 (by decide) ?_
        refine x_lv (lv' := []) trivial ?_
        exact xX7_isNear_205 hQ  _ _ h
    · replace h := h.2 c
      refine x_lload_n dX7_isNear_118 rfl ?_
      refine x_aload_n dX7_isNear_119 rfl ?_
      obtain ⟨h1, r_120, hr_120, h⟩ := h
      refine x_g7_2 rfl dX7_isNear_120 h1 (x_un hr_120 ?_)
      refine x_iload_n dX7_isNear_123 rfl ?_
      refine x_lald dX7_isNear_124 h.1 ?_
      replace h := h.2
      refine x_lsub dX7_isNear_125 ?_
      refine x_lload_n dX7_isNear_126 rfl ?_
      refine x_aload_n dX7_isNear_127 rfl ?_
      obtain ⟨h1, r_128, hr_128, h⟩ := h
      refine x_g7_2 rfl dX7_isNear_128 h1 (x_un hr_128 ?_)
      refine x_iload_n dX7_isNear_131 rfl ?_
      refine x_lald dX7_isNear_132 h.1 ?_
      replace h := h.2
      refine x_lsub dX7_isNear_133 ?_
      refine x_lmul dX7_isNear_134 ?_
      refine x_lload dX7_isNear_135 rfl ?_
      refine x_aload_n dX7_isNear_137 rfl ?_
      obtain ⟨h1, r_138, hr_138, h⟩ := h
      refine x_g7_3 rfl dX7_isNear_138 h1 (x_un hr_138 ?_)
      refine x_iload_n dX7_isNear_141 rfl ?_
      refine x_lald dX7_isNear_142 h.1 ?_
      replace h := h.2
      refine x_lsub dX7_isNear_143 ?_
      refine x_lload dX7_isNear_144 rfl ?_
      refine x_aload_n dX7_isNear_146 rfl ?_
      obtain ⟨h1, r_147, hr_147, h⟩ := h
      refine x_g7_3 rfl dX7_isNear_147 h1 (x_un hr_147 ?_)
      refine x_iload_n dX7_isNear_150 rfl ?_
      refine x_lald dX7_isNear_151 h.1 ?_
      replace h := h.2
      refine x_lsub dX7_isNear_152 ?_
      refine x_lmul dX7_isNear_153 ?_
      refine x_ladd dX7_isNear_154 ?_
      refine x_lload dX7_isNear_155 rfl ?_
      refine x_lload dX7_isNear_157 rfl ?_
      refine x_lmul dX7_isNear_159 ?_
      refine x_lcmp_gt (tgt := 168) dX7_isNear_160 dX7_isNear_161 (by decide) (fun c => ?_) (fun c => ?_)
      · replace h := h.1 c
        refine x_iconst (v := 0) dX7_isNear_168 (by decide) ?_
        refine x_lv (lv' := []) trivial ?_
        exact xX7_isNear_169 hQ  _ _ h
      · replace h := h.2 c
        refine x_iconst (v := 1) dX7_isNear_164 (by decide) ?_
        refine x_goto (tgt := 169) dX7_isNear_165 (by decide) ?_
        refine x_lv (lv' := []) trivial ?_
        exact xX7_isNear_169 hQ  _ _ h
  · replace h := h.2 c
    refine x_lload dX7_isNear_84 rfl ?_
    refine x_lload dX7_isNear_86 rfl ?_
    refine x_lmul dX7_isNear_88 ?_
    refine x_lload dX7_isNear_89 rfl ?_
    refine x_lload dX7_isNear_91 rfl ?_
    refine x_lmul dX7_isNear_93 ?_
    refine x_ladd dX7_isNear_94 ?_
    refine x_lload dX7_isNear_95 rfl ?_
    refine x_lload dX7_isNear_97 rfl ?_
    refine x_lmul dX7_isNear_99 ?_
    refine x_lcmp_gt (tgt := 108) dX7_isNear_100 dX7_isNear_101 (by decide) (fun c => ?_) (fun c => ?_)
    · replace h := h.1 c
      refine x_iconst (v := 0) dX7_isNear_108 (by decide) ?_
      refine x_lv (lv' := []) trivial ?_
      exact xX7_isNear_109 hQ  _ _ h
    · replace h := h.2 c
      refine x_iconst (v := 1) dX7_isNear_104 (by decide) ?_
      refine x_goto (tgt := 109) dX7_isNear_105 (by decide) ?_
      refine x_lv (lv' := []) trivial ?_
      exact xX7_isNear_109 hQ  _ _ h
set_option maxRecDepth 100000 in
set_option maxHeartbeats 4000000 in
theorem xX7_isByArea_88 {E : en} {ad : Nat → Nat} {Post : Int32 → hs → Prop} (hQ : isQ E ad (pI Post)) {K14 : Nat → Int32 → Int64 → Int64 → Int64 → Int32 → Int32 → hs → Prop} {K36 : Nat → Int32 → Int64 → Int64 → Int64 → Int32 → Int32 → Int32 → Int32 → hs → Prop} (hK14 : ∀ (v0 : Nat) (v1 : Int32) (v2 : Int64) (v4 : Int64) (v6 : Int64) (v8 : Int32) (v9 : Int32) (S : hs), K14 v0 v1 v2 v4 v6 v8 v9 S → X E mX7_isByArea 0 0 ad S 14 [(0, aA v0), (1, aI v1), (2, aJ v2), (4, aJ v4), (6, aJ v6), (8, aI v8), (9, aI v9)] []) (hK36 : ∀ (v0 : Nat) (v1 : Int32) (v2 : Int64) (v4 : Int64) (v6 : Int64) (v8 : Int32) (v9 : Int32) (v10 : Int32) (v11 : Int32) (S : hs), K36 v0 v1 v2 v4 v6 v8 v9 v10 v11 S → X E mX7_isByArea 0 0 ad S 36 [(0, aA v0), (1, aI v1), (2, aJ v2), (4, aJ v4), (6, aJ v6), (8, aI v8), (9, aI v9), (10, aI v10), (11, aI v11)] []) (v0 : Nat) (v1 : Int32) (v2 : Int64) (v4 : Int64) (v6 : Int64) (v9 : Int32) (v10 : Int32) (v11 : Int32) (s0 : Int32) (S : hs) (h : PX7_isByArea_88 Post K14 K36 v0 v1 v2 v4 v6 v9 v10 v11 s0 S) : X E mX7_isByArea 0 0 ad S 88 [(0, aA v0), (1, aI v1), (2, aJ v2), (4, aJ v4), (6, aJ v6), (9, aI v9), (10, aI v10), (11, aI v11)] [aI s0] := by
  unfold PX7_isByArea_88 at h
  refine x_istore dX7_isByArea_88 (by decide) rfl ?_
  obtain ⟨v11_90, hv11_90⟩ : ∃ y : Int32, y = v11 + 1 := ⟨_, rfl⟩
  replace h := h v11_90 hv11_90
  refine x_iinc (v := v11_90) dX7_isByArea_90 rfl (by rw [hv11_90]; rfl) (by decide) rfl ?_
  refine x_goto (tgt := 36) dX7_isByArea_93 (by decide) ?_
  refine x_lv (lv' := [(0, aA v0), (1, aI v1), (2, aJ v2), (4, aJ v4), (6, aJ v6), (8, aI s0), (9, aI v9), (10, aI v10), (11, aI v11_90)]) ⟨rfl, rfl, rfl, rfl, rfl, rfl, rfl, rfl, rfl, trivial⟩ ?_
  exact hK36 _ _ _ _ _ _ _ _ _ _ h
set_option maxRecDepth 100000 in
set_option maxHeartbeats 4000000 in
theorem xX7_isByArea_83 {E : en} {ad : Nat → Nat} {Post : Int32 → hs → Prop} (hQ : isQ E ad (pI Post)) {K14 : Nat → Int32 → Int64 → Int64 → Int64 → Int32 → Int32 → hs → Prop} {K36 : Nat → Int32 → Int64 → Int64 → Int64 → Int32 → Int32 → Int32 → Int32 → hs → Prop} (hK14 : ∀ (v0 : Nat) (v1 : Int32) (v2 : Int64) (v4 : Int64) (v6 : Int64) (v8 : Int32) (v9 : Int32) (S : hs), K14 v0 v1 v2 v4 v6 v8 v9 S → X E mX7_isByArea 0 0 ad S 14 [(0, aA v0), (1, aI v1), (2, aJ v2), (4, aJ v4), (6, aJ v6), (8, aI v8), (9, aI v9)] []) (hK36 : ∀ (v0 : Nat) (v1 : Int32) (v2 : Int64) (v4 : Int64) (v6 : Int64) (v8 : Int32) (v9 : Int32) (v10 : Int32) (v11 : Int32) (S : hs), K36 v0 v1 v2 v4 v6 v8 v9 v10 v11 S → X E mX7_isByArea 0 0 ad S 36 [(0, aA v0), (1, aI v1), (2, aJ v2), (4, aJ v4), (6, aJ v6), (8, aI v8), (9, aI v9), (10, aI v10), (11, aI v11)] []) (v0 : Nat) (v1 : Int32) (v2 : Int64) (v4 : Int64) (v6 : Int64) (v9 : Int32) (v10 : Int32) (v11 : Int32) (S : hs) (h : PX7_isByArea_83 Post K14 K36 v0 v1 v2 v4 v6 v9 v10 v11 S) : X E mX7_isByArea 0 0 ad S 83 [(0, aA v0), (1, aI v1), (2, aJ v2), (4, aJ v4), (6, aJ v6), (9, aI v9), (10, aI v10), (11, aI v11)] [] := by
  unfold PX7_isByArea_83 at h
  refine x_iconst (v := 1) dX7_isByArea_83 (by decide) ?_
  refine x_goto (tgt := 88) dX7_isByArea_84 (by decide) ?_
  refine x_lv (lv' := [(0, aA v0), (1, aI v1), (2, aJ v2), (4, aJ v4), (6, aJ v6), (9, aI v9), (10, aI v10), (11, aI v11)]) ⟨rfl, rfl, rfl, rfl, rfl, rfl, rfl, rfl, trivial⟩ ?_
  exact xX7_isByArea_88 hQ hK14 hK36 _ _ _ _ _ _ _ _ _ _ h
set_option maxRecDepth 100000 in
set_option maxHeartbeats 4000000 in
theorem xX7_isByArea_36 {E : en} {ad : Nat → Nat} {Post : Int32 → hs → Prop} (hQ : isQ E ad (pI Post)) {K14 : Nat → Int32 → Int64 → Int64 → Int64 → Int32 → Int32 → hs → Prop} (hK14 : ∀ (v0 : Nat) (v1 : Int32) (v2 : Int64) (v4 : Int64) (v6 : Int64) (v8 : Int32) (v9 : Int32) (S : hs), K14 v0 v1 v2 v4 v6 v8 v9 S → X E mX7_isByArea 0 0 ad S 14 [(0, aA v0), (1, aI v1), (2, aJ v2), (4, aJ v4), (6, aJ v6), (8, aI v8), (9, aI v9)] []) : ∀ (n : Nat) (v0 : Nat) (v1 : Int32) (v2 : Int64) (v4 : Int64) (v6 : Int64) (v8 : Int32) (v9 : Int32) (v10 : Int32) (v11 : Int32) (S : hs) (_ : PX7_isByArea_36 Post K14 n v0 v1 v2 v4 v6 v8 v9 v10 v11 S), X E mX7_isByArea 0 0 ad S 36 [(0, aA v0), (1, aI v1), (2, aJ v2), (4, aJ v4), (6, aJ v6), (8, aI v8), (9, aI v9), (10, aI v10), (11, aI v11)] [] := by
  intro n
  induction n with
  | zero => intro v0 v1 v2 v4 v6 v8 v9 v10 v11 S h; exact h.elim
  | succ n ih =>
    intro v0 v1 v2 v4 v6 v8 v9 v10 v11 S h
    have hK36 := ih
    simp only [PX7_isByArea_36] at h
    refine x_iload dX7_isByArea_36 rfl ?_
    refine x_aload_n dX7_isByArea_38 rfl ?_
    obtain ⟨h1, r_39, hr_39, h⟩ := h
    refine x_g7_4 rfl dX7_isByArea_39 h1 (x_un hr_39 ?_)
    refine x_iload dX7_isByArea_42 rfl ?_
    refine x_iald dX7_isByArea_44 h.1 ?_
    replace h := h.2
    refine x_icmp_ge (tgt := 96) dX7_isByArea_45 (by decide) (fun c => ?_) (fun c => ?_)
    · replace h := h.1 c
      obtain ⟨v9_96, hv9_96⟩ : ∃ y : Int32, y = v9 + 1 := ⟨_, rfl⟩
      replace h := h v9_96 hv9_96
      refine x_iinc (v := v9_96) dX7_isByArea_96 rfl (by rw [hv9_96]; rfl) (by decide) rfl ?_
      refine x_goto (tgt := 14) dX7_isByArea_99 (by decide) ?_
      refine x_lv (lv' := [(0, aA v0), (1, aI v1), (2, aJ v2), (4, aJ v4), (6, aJ v6), (8, aI v8), (9, aI v9_96)]) ⟨rfl, rfl, rfl, rfl, rfl, rfl, rfl, trivial⟩ ?_
      exact hK14 _ _ _ _ _ _ _ _ h
    · replace h := h.2 c
      refine x_iload dX7_isByArea_48 rfl ?_
      refine x_if_ne (tgt := 83) dX7_isByArea_50 (by decide) (fun c => ?_) (fun c => ?_)
      · replace h := h.2 c
        refine x_lv (lv' := [(0, aA v0), (1, aI v1), (2, aJ v2), (4, aJ v4), (6, aJ v6), (9, aI v9), (10, aI v10), (11, aI v11)]) ⟨rfl, rfl, rfl, rfl, rfl, rfl, rfl, rfl, trivial⟩ ?_
        exact xX7_isByArea_83 hQ hK14 hK36 _ _ _ _ _ _ _ _ _ h
      · replace h := h.1 c
        refine x_aload_n dX7_isByArea_53 rfl ?_
        refine x_aload_n dX7_isByArea_54 rfl ?_
        refine x_iload dX7_isByArea_55 rfl ?_
        refine x_iload dX7_isByArea_57 rfl ?_
        obtain ⟨h1, h⟩ := h
        refine x_callVI (As := [aI v10, aI v11]) (st := [aA v0]) kX7_102 rfl ⟨rfl, rfl, by decide, by decide⟩ dX7_isByArea_59 rfl (Nat.le_of_ble_eq_true rfl) ⟨Nat.zero_le _, Nat.zero_le _⟩ h1 (ctX7_at h) (fun x_59 S_59 h => ?_)
        refine x_aload_n dX7_isByArea_62 rfl ?_
        refine x_iload dX7_isByArea_63 rfl ?_
        refine x_iload dX7_isByArea_65 rfl ?_
        refine x_iconst (v := 1) dX7_isByArea_67 (by decide) ?_
        refine x_iadd dX7_isByArea_68 ?_
        obtain ⟨h1, h⟩ := h
        refine x_callVI (As := [aI v10, aI (v11 + 1)]) (st := [aI x_59, aA v0]) kX7_102 rfl ⟨rfl, rfl, by decide, by decide⟩ dX7_isByArea_69 rfl (Nat.le_of_ble_eq_true rfl) ⟨Nat.zero_le _, Nat.zero_le _⟩ h1 (ctX7_at h) (fun x_69 S_69 h => ?_)
        refine x_lload_n dX7_isByArea_72 rfl ?_
        refine x_lload dX7_isByArea_73 rfl ?_
        refine x_lload dX7_isByArea_75 rfl ?_
        obtain ⟨h1, h⟩ := h
        refine x_callVI (As := [aI x_59, aI x_69, aJ v2, aJ v4, aJ v6]) (st := []) kX7_236 rfl ⟨rfl, rfl, by decide, by decide⟩ dX7_isByArea_77 rfl (Nat.le_of_ble_eq_true rfl) ⟨Nat.zero_le _, Nat.zero_le _⟩ h1 (ctX7_isNear h) (fun x_77 S_77 h => ?_)
        refine x_if_eq (tgt := 87) dX7_isByArea_80 (by decide) (fun c => ?_) (fun c => ?_)
        · replace h := h.1 c
          refine x_iconst (v := 0) dX7_isByArea_87 (by decide) ?_
          refine x_lv (lv' := [(0, aA v0), (1, aI v1), (2, aJ v2), (4, aJ v4), (6, aJ v6), (9, aI v9), (10, aI v10), (11, aI v11)]) ⟨rfl, rfl, rfl, rfl, rfl, rfl, rfl, rfl, trivial⟩ ?_
          exact xX7_isByArea_88 hQ hK14 hK36 _ _ _ _ _ _ _ _ _ _ h
        · replace h := h.2 c
          refine x_lv (lv' := [(0, aA v0), (1, aI v1), (2, aJ v2), (4, aJ v4), (6, aJ v6), (9, aI v9), (10, aI v10), (11, aI v11)]) ⟨rfl, rfl, rfl, rfl, rfl, rfl, rfl, rfl, trivial⟩ ?_
          exact xX7_isByArea_83 hQ hK14 hK36 _ _ _ _ _ _ _ _ _ h
set_option maxRecDepth 100000 in
set_option maxHeartbeats 4000000 in
theorem xX7_isByArea_14 {E : en} {ad : Nat → Nat} {Post : Int32 → hs → Prop} (hQ : isQ E ad (pI Post))   : ∀ (n : Nat) (v0 : Nat) (v1 : Int32) (v2 : Int64) (v4 : Int64) (v6 : Int64) (v8 : Int32) (v9 : Int32) (S : hs) (_ : PX7_isByArea_14 Post  n v0 v1 v2 v4 v6 v8 v9 S), X E mX7_isByArea 0 0 ad S 14 [(0, aA v0), (1, aI v1), (2, aJ v2), (4, aJ v4), (6, aJ v6), (8, aI v8), (9, aI v9)] [] := by
  intro n
  induction n with
  | zero => intro v0 v1 v2 v4 v6 v8 v9 S h; exact h.elim
  | succ n ih =>
    intro v0 v1 v2 v4 v6 v8 v9 S h
    have hK14 := ih
    simp only [PX7_isByArea_14] at h
    refine x_iload dX7_isByArea_14 rfl ?_
    refine x_aload_n dX7_isByArea_16 rfl ?_
    obtain ⟨h1, r_17, hr_17, h⟩ := h
    refine x_g7_5 rfl dX7_isByArea_17 h1 (x_un hr_17 ?_)
    refine x_iload_n dX7_isByArea_20 rfl ?_
    refine x_iald dX7_isByArea_21 h.1 ?_
    replace h := h.2
    refine x_icmp_ge (tgt := 102) dX7_isByArea_22 (by decide) (fun c => ?_) (fun c => ?_)
    · replace h := h.1 c
      refine x_iload dX7_isByArea_102 rfl ?_
      exact x_zret hQ rfl dX7_isByArea_104 ⟨h.1, _, rfl, h.2⟩
    · replace h := h.2 c
      refine x_iconst (v := 4) dX7_isByArea_25 (by decide) ?_
      refine x_iload_n dX7_isByArea_26 rfl ?_
      refine x_imul dX7_isByArea_27 ?_
      refine x_iload dX7_isByArea_28 rfl ?_
      refine x_iadd dX7_isByArea_30 ?_
      refine x_nI (fun v10_31 hv10_31 => ?_)
      replace h := h v10_31 hv10_31
      refine x_istore dX7_isByArea_31 (by decide) rfl ?_
      refine x_iconst (v := 0) dX7_isByArea_33 (by decide) ?_
      refine x_istore dX7_isByArea_34 (by decide) rfl ?_
      refine x_lv (lv' := [(0, aA v0), (1, aI v1), (2, aJ v2), (4, aJ v4), (6, aJ v6), (8, aI v8), (9, aI v9), (10, aI v10_31), (11, aI 0)]) ⟨rfl, rfl, rfl, rfl, rfl, rfl, rfl, rfl, rfl, trivial⟩ ?_
      obtain ⟨n, h⟩ := h
      exact xX7_isByArea_36 hQ hK14 n _ _ _ _ _ _ _ _ _ _ h
set_option maxRecDepth 100000 in
set_option maxHeartbeats 4000000 in
theorem ctX7_isByArea {G : Launch × va_G × (Nat → ClassId) × Nat} {v0 : Nat} {v1 : Int32} {v2 : Int64} {v4 : Int64} {v6 : Int64} {S : hs} {Post : Int32 → hs → Prop} (h : PX7_isByArea v0 v1 v2 v4 v6 S Post) : ctN G mX7_isByArea [aA v0, aI v1, aJ v2, aJ v4, aJ v6] S (pI Post) := by
  refine ctN.of (by decide) (Nat.le_of_ble_eq_true rfl) (fun E ad hG hQ => ?_)
  subst hG
  unfold PX7_isByArea at h
  refine x_aload_n dX7_isByArea_0 rfl ?_
  refine x_iload_n dX7_isByArea_1 rfl ?_
  refine x_lload_n dX7_isByArea_2 rfl ?_
  refine x_lload dX7_isByArea_3 rfl ?_
  refine x_lconst (v := 1) dX7_isByArea_5 (by decide) ?_
  obtain ⟨h1, h⟩ := h
  refine x_callVI (As := [aI v1, aJ v2, aJ v4, aJ 1]) (st := []) kX7_133 rfl ⟨rfl, rfl, by decide, by decide⟩ dX7_isByArea_6 rfl (Nat.le_of_ble_eq_true rfl) ⟨Nat.zero_le _, Nat.zero_le _⟩ h1 (ctX7_has h) (fun x_6 S_6 h => ?_)
  refine x_istore dX7_isByArea_9 (by decide) rfl ?_
  refine x_iconst (v := 0) dX7_isByArea_11 (by decide) ?_
  refine x_istore dX7_isByArea_12 (by decide) rfl ?_
  refine x_lv (lv' := [(0, aA v0), (1, aI v1), (2, aJ v2), (4, aJ v4), (6, aJ v6), (8, aI x_6), (9, aI 0)]) ⟨rfl, rfl, rfl, rfl, rfl, rfl, rfl, trivial⟩ ?_
  obtain ⟨n, h⟩ := h
  exact xX7_isByArea_14 hQ  n _ _ _ _ _ _ _ _ h
set_option maxRecDepth 100000 in
set_option maxHeartbeats 4000000 in
theorem xX7_buffer_101 {E : en} {ad : Nat → Nat} {Post : Int32 → hs → Prop} (hQ : isQ E ad (pI Post)) {K35 : Nat → Int32 → Int64 → Int32 → Int32 → hs → Prop} {K51 : Nat → Int32 → Int64 → Int32 → Int32 → Int32 → hs → Prop} (hK35 : ∀ (v0 : Nat) (v1 : Int32) (v2 : Int64) (v4 : Int32) (v5 : Int32) (S : hs), K35 v0 v1 v2 v4 v5 S → X E mX7_buffer 0 0 ad S 35 [(0, aA v0), (1, aI v1), (2, aJ v2), (4, aI v4), (5, aI v5)] []) (hK51 : ∀ (v0 : Nat) (v1 : Int32) (v2 : Int64) (v4 : Int32) (v5 : Int32) (v6 : Int32) (S : hs), K51 v0 v1 v2 v4 v5 v6 S → X E mX7_buffer 0 0 ad S 51 [(0, aA v0), (1, aI v1), (2, aJ v2), (4, aI v4), (5, aI v5), (6, aI v6)] []) (v0 : Nat) (v1 : Int32) (v2 : Int64) (v5 : Int32) (v6 : Int32) (s0 : Int32) (S : hs) (h : PX7_buffer_101 Post K35 K51 v0 v1 v2 v5 v6 s0 S) : X E mX7_buffer 0 0 ad S 101 [(0, aA v0), (1, aI v1), (2, aJ v2), (5, aI v5), (6, aI v6)] [aI s0] := by
  unfold PX7_buffer_101 at h
  refine x_istore dX7_buffer_101 (by decide) rfl ?_
  obtain ⟨v6_103, hv6_103⟩ : ∃ y : Int32, y = v6 + 1 := ⟨_, rfl⟩
  replace h := h v6_103 hv6_103
  refine x_iinc (v := v6_103) dX7_buffer_103 rfl (by rw [hv6_103]; rfl) (by decide) rfl ?_
  refine x_goto (tgt := 51) dX7_buffer_106 (by decide) ?_
  refine x_lv (lv' := [(0, aA v0), (1, aI v1), (2, aJ v2), (4, aI s0), (5, aI v5), (6, aI v6_103)]) ⟨rfl, rfl, rfl, rfl, rfl, rfl, trivial⟩ ?_
  exact hK51 _ _ _ _ _ _ _ h
set_option maxRecDepth 100000 in
set_option maxHeartbeats 4000000 in
theorem xX7_buffer_51 {E : en} {ad : Nat → Nat} {Post : Int32 → hs → Prop} (hQ : isQ E ad (pI Post)) {K35 : Nat → Int32 → Int64 → Int32 → Int32 → hs → Prop} (hK35 : ∀ (v0 : Nat) (v1 : Int32) (v2 : Int64) (v4 : Int32) (v5 : Int32) (S : hs), K35 v0 v1 v2 v4 v5 S → X E mX7_buffer 0 0 ad S 35 [(0, aA v0), (1, aI v1), (2, aJ v2), (4, aI v4), (5, aI v5)] []) : ∀ (n : Nat) (v0 : Nat) (v1 : Int32) (v2 : Int64) (v4 : Int32) (v5 : Int32) (v6 : Int32) (S : hs) (_ : PX7_buffer_51 Post K35 n v0 v1 v2 v4 v5 v6 S), X E mX7_buffer 0 0 ad S 51 [(0, aA v0), (1, aI v1), (2, aJ v2), (4, aI v4), (5, aI v5), (6, aI v6)] [] := by
  intro n
  induction n with
  | zero => intro v0 v1 v2 v4 v5 v6 S h; exact h.elim
  | succ n ih =>
    intro v0 v1 v2 v4 v5 v6 S h
    have hK51 := ih
    simp only [PX7_buffer_51] at h
    refine x_iload dX7_buffer_51 rfl ?_
    refine x_bipush (v := 30) dX7_buffer_53 (by decide) ?_
    refine x_iload dX7_buffer_55 rfl ?_
    refine x_imul dX7_buffer_57 ?_
    refine x_aload_n dX7_buffer_58 rfl ?_
    obtain ⟨h1, r_59, hr_59, h⟩ := h
    refine x_g7_14 rfl dX7_buffer_59 h1 (x_un hr_59 ?_)
    refine x_iload dX7_buffer_62 rfl ?_
    refine x_iald dX7_buffer_64 h.1 ?_
    replace h := h.2
    refine x_iadd dX7_buffer_65 ?_
    refine x_icmp_ge (tgt := 109) dX7_buffer_66 (by decide) (fun c => ?_) (fun c => ?_)
    · replace h := h.1 c
      obtain ⟨v5_109, hv5_109⟩ : ∃ y : Int32, y = v5 + 1 := ⟨_, rfl⟩
      replace h := h v5_109 hv5_109
      refine x_iinc (v := v5_109) dX7_buffer_109 rfl (by rw [hv5_109]; rfl) (by decide) rfl ?_
      refine x_goto (tgt := 35) dX7_buffer_112 (by decide) ?_
      refine x_lv (lv' := [(0, aA v0), (1, aI v1), (2, aJ v2), (4, aI v4), (5, aI v5_109)]) ⟨rfl, rfl, rfl, rfl, rfl, trivial⟩ ?_
      exact hK35 _ _ _ _ _ _ h
    · replace h := h.2 c
      refine x_aload_n dX7_buffer_69 rfl ?_
      refine x_iload_n dX7_buffer_70 rfl ?_
      refine x_aload_n dX7_buffer_71 rfl ?_
      obtain ⟨h1, r_72, hr_72, h⟩ := h
      refine x_g7_16 rfl dX7_buffer_72 h1 (x_un hr_72 ?_)
      refine x_iload dX7_buffer_75 rfl ?_
      refine x_lald dX7_buffer_77 h.1 ?_
      replace h := h.2
      refine x_aload_n dX7_buffer_78 rfl ?_
      obtain ⟨h1, r_79, hr_79, h⟩ := h
      refine x_g7_17 rfl dX7_buffer_79 h1 (x_un hr_79 ?_)
      refine x_iload dX7_buffer_82 rfl ?_
      refine x_lald dX7_buffer_84 h.1 ?_
      replace h := h.2
      refine x_lload_n dX7_buffer_85 rfl ?_
      obtain ⟨h1, h⟩ := h
      refine x_callVI (As := [aI v1, aJ (hj S r_72 (Int32.toNatClampNeg v6)), aJ (hj S r_79 (Int32.toNatClampNeg v6)), aJ v2]) (st := []) kX7_240 rfl ⟨rfl, rfl, by decide, by decide⟩ dX7_buffer_86 rfl (Nat.le_of_ble_eq_true rfl) ⟨Nat.zero_le _, Nat.zero_le _⟩ h1 (ctX7_isByArea h) (fun x_86 S_86 h => ?_)
      refine x_if_eq (tgt := 99) dX7_buffer_89 (by decide) (fun c => ?_) (fun c => ?_)
      · replace h := h.1 c
        refine x_iload dX7_buffer_99 rfl ?_
        refine x_lv (lv' := [(0, aA v0), (1, aI v1), (2, aJ v2), (5, aI v5), (6, aI v6)]) ⟨rfl, rfl, rfl, rfl, rfl, trivial⟩ ?_
        exact xX7_buffer_101 hQ hK35 hK51 _ _ _ _ _ _ _ h
      · replace h := h.2 c
        refine x_iload dX7_buffer_92 rfl ?_
        refine x_iconst (v := 1) dX7_buffer_94 (by decide) ?_
        refine x_iadd dX7_buffer_95 ?_
        refine x_goto (tgt := 101) dX7_buffer_96 (by decide) ?_
        refine x_lv (lv' := [(0, aA v0), (1, aI v1), (2, aJ v2), (5, aI v5), (6, aI v6)]) ⟨rfl, rfl, rfl, rfl, rfl, trivial⟩ ?_
        exact xX7_buffer_101 hQ hK35 hK51 _ _ _ _ _ _ _ h
set_option maxRecDepth 100000 in
set_option maxHeartbeats 4000000 in
theorem xX7_buffer_35 {E : en} {ad : Nat → Nat} {Post : Int32 → hs → Prop} (hQ : isQ E ad (pI Post))   : ∀ (n : Nat) (v0 : Nat) (v1 : Int32) (v2 : Int64) (v4 : Int32) (v5 : Int32) (S : hs) (_ : PX7_buffer_35 Post  n v0 v1 v2 v4 v5 S), X E mX7_buffer 0 0 ad S 35 [(0, aA v0), (1, aI v1), (2, aJ v2), (4, aI v4), (5, aI v5)] [] := by
  intro n
  induction n with
  | zero => intro v0 v1 v2 v4 v5 S h; exact h.elim
  | succ n ih =>
    intro v0 v1 v2 v4 v5 S h
    have hK35 := ih
    simp only [PX7_buffer_35] at h
    refine x_iload dX7_buffer_35 rfl ?_
    refine x_aload_n dX7_buffer_37 rfl ?_
    refine x_g7_13 rfl dX7_buffer_38 h.1 ?_
    replace h := h.2
    refine x_icmp_ge (tgt := 115) dX7_buffer_41 (by decide) (fun c => ?_) (fun c => ?_)
    · replace h := h.1 c
      refine x_iload dX7_buffer_115 rfl ?_
      exact x_iret hQ rfl dX7_buffer_117 ⟨_, rfl, h⟩
    · replace h := h.2 c
      refine x_bipush (v := 30) dX7_buffer_44 (by decide) ?_
      refine x_iload dX7_buffer_46 rfl ?_
      refine x_imul dX7_buffer_48 ?_
      refine x_nI (fun v6_49 hv6_49 => ?_)
      replace h := h v6_49 hv6_49
      refine x_istore dX7_buffer_49 (by decide) rfl ?_
      refine x_lv (lv' := [(0, aA v0), (1, aI v1), (2, aJ v2), (4, aI v4), (5, aI v5), (6, aI v6_49)]) ⟨rfl, rfl, rfl, rfl, rfl, rfl, trivial⟩ ?_
      obtain ⟨n, h⟩ := h
      exact xX7_buffer_51 hQ hK35 n _ _ _ _ _ _ _ h
set_option maxRecDepth 100000 in
set_option maxHeartbeats 4000000 in
theorem ctX7_buffer {G : Launch × va_G × (Nat → ClassId) × Nat} {v0 : Nat} {v1 : Int32} {v2 : Int64} {S : hs} {Post : Int32 → hs → Prop} (h : PX7_buffer v0 v1 v2 S Post) : ctN G mX7_buffer [aA v0, aI v1, aJ v2] S (pI Post) := by
  refine ctN.of (by decide) (Nat.le_of_ble_eq_true rfl) (fun E ad hG hQ => ?_)
  subst hG
  unfold PX7_buffer at h
  refine x_aload_n dX7_buffer_0 rfl ?_
  refine x_iconst (v := 0) dX7_buffer_1 (by decide) ?_
  obtain ⟨h1, h⟩ := h
  refine x_p7_0 rfl dX7_buffer_2 h1 (x_nS (fun S_2 hS_2 => ?_))
  replace h := h S_2 hS_2
  refine x_aload_n dX7_buffer_5 rfl ?_
  refine x_iload_n dX7_buffer_6 rfl ?_
  obtain ⟨h1, h⟩ := h
  refine x_callVI (As := [aI v1]) (st := []) kX7_137 rfl ⟨rfl, rfl, by decide, by decide⟩ dX7_buffer_7 rfl (Nat.le_of_ble_eq_true rfl) ⟨Nat.zero_le _, Nat.zero_le _⟩ h1 (ctX7_isThere h) (fun x_7 S_7 h => ?_)
  refine x_if_ne (tgt := 15) dX7_buffer_10 (by decide) (fun c => ?_) (fun c => ?_)
  · replace h := h.2 c
    refine x_lload_n dX7_buffer_15 rfl ?_
    refine x_lconst (v := 0) dX7_buffer_16 (by decide) ?_
    refine x_ldc2 (v := 400) dX7_buffer_17 kcX7_145 ?_
    refine x_callSI (As := [aJ v2, aJ 0, aJ 400]) (st := []) kX7_122 rfl ⟨rfl, rfl, by decide, by decide⟩ dX7_buffer_20 rfl (Nat.le_of_ble_eq_true rfl) ⟨Nat.zero_le _, Nat.zero_le _⟩ (ctX7_isIn h) (fun x_20 S_20 h => ?_)
    refine x_if_ne (tgt := 29) dX7_buffer_23 (by decide) (fun c => ?_) (fun c => ?_)
    · replace h := h.2 c
      refine x_iconst (v := 0) dX7_buffer_29 (by decide) ?_
      refine x_istore dX7_buffer_30 (by decide) rfl ?_
      refine x_iconst (v := 0) dX7_buffer_32 (by decide) ?_
      refine x_istore dX7_buffer_33 (by decide) rfl ?_
      refine x_lv (lv' := [(0, aA v0), (1, aI v1), (2, aJ v2), (4, aI 0), (5, aI 0)]) ⟨rfl, rfl, rfl, rfl, rfl, trivial⟩ ?_
      obtain ⟨n, h⟩ := h
      exact xX7_buffer_35 hQ  n _ _ _ _ _ _ h
    · replace h := h.1 c
      refine x_bipush (v := (-2)) dX7_buffer_26 (by decide) ?_
      exact x_iret hQ rfl dX7_buffer_28 ⟨_, rfl, h⟩
  · replace h := h.1 c
    refine x_iconst (v := (-1)) dX7_buffer_13 (by decide) ?_
    exact x_iret hQ rfl dX7_buffer_14 ⟨_, rfl, h⟩
