set_option maxRecDepth 100000 in
set_option maxHeartbeats 4000000 in
theorem xX7_less_11 {E : en} {ad : Nat → Nat} {Post : Int64 → hs → Prop} (hQ : isQ E ad (pJ Post))   (s0 : Int64) (S : hs) (h : PX7_less_11 Post  s0 S) : X E mX7_less 0 0 ad S 11 [] [aJ s0] := by
  unfold PX7_less_11 at h
  exact x_lret hQ rfl dX7_less_11 ⟨_, rfl, h⟩
set_option maxRecDepth 100000 in
set_option maxHeartbeats 4000000 in
theorem ctX7_less {G : Launch × va_G × (Nat → ClassId) × Nat} {v0 : Int64} {v2 : Int64} {S : hs} {Post : Int64 → hs → Prop} (h : PX7_less v0 v2 S Post) : ctN G mX7_less [aJ v0, aJ v2] S (pJ Post) := by
  refine ctN.of (by decide) (Nat.le_of_ble_eq_true rfl) (fun E ad hG hQ => ?_)
  subst hG
  unfold PX7_less at h
  refine x_lload_n dX7_less_0 rfl ?_
  refine x_lload_n dX7_less_1 rfl ?_
  refine x_lcmp_ge (tgt := 10) dX7_less_2 dX7_less_3 (by decide) (fun c => ?_) (fun c => ?_)
  · replace h := h.1 c
    refine x_lload_n dX7_less_10 rfl ?_
    refine x_lv (lv' := []) trivial ?_
    exact xX7_less_11 hQ  _ _ h
  · replace h := h.2 c
    refine x_lload_n dX7_less_6 rfl ?_
    refine x_goto (tgt := 11) dX7_less_7 (by decide) ?_
    refine x_lv (lv' := []) trivial ?_
    exact xX7_less_11 hQ  _ _ h
set_option maxRecDepth 100000 in
set_option maxHeartbeats 4000000 in
theorem xX7_more_11 {E : en} {ad : Nat → Nat} {Post : Int64 → hs → Prop} (hQ : isQ E ad (pJ Post))   (s0 : Int64) (S : hs) (h : PX7_more_11 Post  s0 S) : X E mX7_more 0 0 ad S 11 [] [aJ s0] := by
  unfold PX7_more_11 at h
  exact x_lret hQ rfl dX7_more_11 ⟨_, rfl, h⟩
set_option maxRecDepth 100000 in
set_option maxHeartbeats 4000000 in
theorem ctX7_more {G : Launch × va_G × (Nat → ClassId) × Nat} {v0 : Int64} {v2 : Int64} {S : hs} {Post : Int64 → hs → Prop} (h : PX7_more v0 v2 S Post) : ctN G mX7_more [aJ v0, aJ v2] S (pJ Post) := by
  refine ctN.of (by decide) (Nat.le_of_ble_eq_true rfl) (fun E ad hG hQ => ?_)
  subst hG
  unfold PX7_more at h
  refine x_lload_n dX7_more_0 rfl ?_
  refine x_lload_n dX7_more_1 rfl ?_
  refine x_lcmp_le (tgt := 10) dX7_more_2 dX7_more_3 (by decide) (fun c => ?_) (fun c => ?_)
  · replace h := h.1 c
    refine x_lload_n dX7_more_10 rfl ?_
    refine x_lv (lv' := []) trivial ?_
    exact xX7_more_11 hQ  _ _ h
  · replace h := h.2 c
    refine x_lload_n dX7_more_6 rfl ?_
    refine x_goto (tgt := 11) dX7_more_7 (by decide) ?_
    refine x_lv (lv' := []) trivial ?_
    exact xX7_more_11 hQ  _ _ h
set_option maxRecDepth 100000 in
set_option maxHeartbeats 4000000 in
theorem xX7_divisor_6 {E : en} {ad : Nat → Nat} {Post : Int64 → hs → Prop} (hQ : isQ E ad (pJ Post))   : ∀ (n : Nat) (v4 : Int64) (v6 : Int64) (S : hs) (_ : PX7_divisor_6 Post  n v4 v6 S), X E mX7_divisor 0 0 ad S 6 [(4, aJ v4), (6, aJ v6)] [] := by
  intro n
  induction n with
  | zero => intro v4 v6 S h; exact h.elim
  | succ n ih =>
    intro v4 v6 S h
    have hK6 := ih
    simp only [PX7_divisor_6] at h
    refine x_lload dX7_divisor_6 rfl ?_
    refine x_lconst (v := 0) dX7_divisor_8 (by decide) ?_
    refine x_lcmp_eq (tgt := 31) dX7_divisor_9 dX7_divisor_10 (by decide) (fun c => ?_) (fun c => ?_)
    · replace h := h.1 c
      refine x_lload dX7_divisor_31 rfl ?_
      exact x_lret hQ rfl dX7_divisor_33 ⟨_, rfl, h⟩
    · replace h := h.2 c
      refine x_lload dX7_divisor_13 rfl ?_
      refine x_lload dX7_divisor_15 rfl ?_
      refine x_lrem dX7_divisor_17 h.1 ?_
      replace h := h.2
      refine x_nJ (fun v8_18 hv8_18 => ?_)
      replace h := h v8_18 hv8_18
      refine x_lstore dX7_divisor_18 (by decide) rfl ?_
      refine x_lload dX7_divisor_20 rfl ?_
      refine x_lstore dX7_divisor_22 (by decide) rfl ?_
      refine x_lload dX7_divisor_24 rfl ?_
      refine x_lstore dX7_divisor_26 (by decide) rfl ?_
      refine x_goto (tgt := 6) dX7_divisor_28 (by decide) ?_
      refine x_lv (lv' := [(4, aJ v6), (6, aJ v8_18)]) ⟨rfl, rfl, trivial⟩ ?_
      exact hK6 _ _ _ h
set_option maxRecDepth 100000 in
set_option maxHeartbeats 4000000 in
theorem ctX7_divisor {G : Launch × va_G × (Nat → ClassId) × Nat} {v0 : Int64} {v2 : Int64} {S : hs} {Post : Int64 → hs → Prop} (h : PX7_divisor v0 v2 S Post) : ctN G mX7_divisor [aJ v0, aJ v2] S (pJ Post) := by
  refine ctN.of (by decide) (Nat.le_of_ble_eq_true rfl) (fun E ad hG hQ => ?_)
  subst hG
  unfold PX7_divisor at h
  refine x_lload_n dX7_divisor_0 rfl ?_
  refine x_lstore dX7_divisor_1 (by decide) rfl ?_
  refine x_lload_n dX7_divisor_3 rfl ?_
  refine x_lstore dX7_divisor_4 (by decide) rfl ?_
  refine x_lv (lv' := [(4, aJ v0), (6, aJ v2)]) ⟨rfl, rfl, trivial⟩ ?_
  obtain ⟨n, h⟩ := h
  exact xX7_divisor_6 hQ  n _ _ _ h
set_option maxRecDepth 100000 in
set_option maxHeartbeats 4000000 in
theorem ctX7_at {G : Launch × va_G × (Nat → ClassId) × Nat} {v0 : Nat} {v1 : Int32} {v2 : Int32} {S : hs} {Post : Int32 → hs → Prop} (h : PX7_at v0 v1 v2 S Post) : ctN G mX7_at [aA v0, aI v1, aI v2] S (pI Post) := by
  refine ctN.of (by decide) (Nat.le_of_ble_eq_true rfl) (fun E ad hG hQ => ?_)
  subst hG
  unfold PX7_at at h
  refine x_bipush (v := 12) dX7_at_0 (by decide) ?_
  refine x_iload_n dX7_at_2 rfl ?_
  refine x_imul dX7_at_3 ?_
  refine x_iload_n dX7_at_4 rfl ?_
  refine x_aload_n dX7_at_5 rfl ?_
  obtain ⟨h1, r_6, hr_6, h⟩ := h
  refine x_g7_4 rfl dX7_at_6 h1 (x_un hr_6 ?_)
  refine x_iload_n dX7_at_9 rfl ?_
  refine x_iald dX7_at_10 h.1 ?_
  replace h := h.2
  refine x_irem dX7_at_11 h.1 ?_
  replace h := h.2
  refine x_iadd dX7_at_12 ?_
  exact x_iret hQ rfl dX7_at_13 ⟨_, rfl, h⟩
set_option maxRecDepth 100000 in
set_option maxHeartbeats 4000000 in
theorem ctX7_wayOf {G : Launch × va_G × (Nat → ClassId) × Nat} {v0 : Int64} {v2 : Int64} {v4 : Int64} {v6 : Int64} {v8 : Int64} {v10 : Int64} {S : hs} {Post : Int32 → hs → Prop} (h : PX7_wayOf v0 v2 v4 v6 v8 v10 S Post) : ctN G mX7_wayOf [aJ v0, aJ v2, aJ v4, aJ v6, aJ v8, aJ v10] S (pI Post) := by
  refine ctN.of (by decide) (Nat.le_of_ble_eq_true rfl) (fun E ad hG hQ => ?_)
  subst hG
  unfold PX7_wayOf at h
  refine x_lload dX7_wayOf_0 rfl ?_
  refine x_lload_n dX7_wayOf_2 rfl ?_
  refine x_lsub dX7_wayOf_3 ?_
  refine x_lload dX7_wayOf_4 rfl ?_
  refine x_lload_n dX7_wayOf_6 rfl ?_
  refine x_lsub dX7_wayOf_7 ?_
  refine x_lmul dX7_wayOf_8 ?_
  refine x_lload dX7_wayOf_9 rfl ?_
  refine x_lload_n dX7_wayOf_11 rfl ?_
  refine x_lsub dX7_wayOf_12 ?_
  refine x_lload dX7_wayOf_13 rfl ?_
  refine x_lload_n dX7_wayOf_15 rfl ?_
  refine x_lsub dX7_wayOf_16 ?_
  refine x_lmul dX7_wayOf_17 ?_
  refine x_lsub dX7_wayOf_18 ?_
  refine x_callSI (As := [aJ (((v4 - v0) * (v10 - v2)) - ((v6 - v2) * (v8 - v0)))]) (st := []) kX7_83 rfl ⟨rfl, rfl, by decide, by decide⟩ dX7_wayOf_19 rfl (Nat.le_of_ble_eq_true rfl) ⟨Nat.zero_le _, Nat.zero_le _⟩ (ctX7_signOf h) (fun x_19 S_19 h => ?_)
  exact x_iret hQ rfl dX7_wayOf_22 ⟨_, rfl, h⟩
set_option maxRecDepth 100000 in
set_option maxHeartbeats 4000000 in
theorem xX7_isBetween_53 {E : en} {ad : Nat → Nat} {Post : Int32 → hs → Prop} (hQ : isQ E ad (pI Post))   (s0 : Int32) (S : hs) (h : PX7_isBetween_53 Post  s0 S) : X E mX7_isBetween 0 0 ad S 53 [] [aI s0] := by
  unfold PX7_isBetween_53 at h
  exact x_zret hQ rfl dX7_isBetween_53 ⟨h.1, _, rfl, h.2⟩
set_option maxRecDepth 100000 in
set_option maxHeartbeats 4000000 in
theorem xX7_isBetween_52 {E : en} {ad : Nat → Nat} {Post : Int32 → hs → Prop} (hQ : isQ E ad (pI Post))    (S : hs) (h : PX7_isBetween_52 Post   S) : X E mX7_isBetween 0 0 ad S 52 [] [] := by
  unfold PX7_isBetween_52 at h
  refine x_iconst (v := 0) dX7_isBetween_52 (by decide) ?_
  refine x_lv (lv' := []) trivial ?_
  exact xX7_isBetween_53 hQ  _ _ h
set_option maxRecDepth 100000 in
set_option maxHeartbeats 4000000 in
theorem ctX7_isBetween {G : Launch × va_G × (Nat → ClassId) × Nat} {v0 : Int64} {v2 : Int64} {v4 : Int64} {v6 : Int64} {v8 : Int64} {v10 : Int64} {S : hs} {Post : Int32 → hs → Prop} (h : PX7_isBetween v0 v2 v4 v6 v8 v10 S Post) : ctN G mX7_isBetween [aJ v0, aJ v2, aJ v4, aJ v6, aJ v8, aJ v10] S (pI Post) := by
  refine ctN.of (by decide) (Nat.le_of_ble_eq_true rfl) (fun E ad hG hQ => ?_)
  subst hG
  unfold PX7_isBetween at h
  refine x_lload_n dX7_isBetween_0 rfl ?_
  refine x_lload dX7_isBetween_1 rfl ?_
  refine x_callSJ (As := [aJ v0, aJ v4]) (st := []) kX7_87 rfl ⟨rfl, rfl, by decide, by decide⟩ dX7_isBetween_3 rfl (Nat.le_of_ble_eq_true rfl) ⟨Nat.zero_le _, Nat.zero_le _⟩ (ctX7_less h) (fun x_3 S_3 h => ?_)
  refine x_lload dX7_isBetween_6 rfl ?_
  refine x_lcmp_gt (tgt := 52) dX7_isBetween_8 dX7_isBetween_9 (by decide) (fun c => ?_) (fun c => ?_)
  · replace h := h.1 c
    refine x_lv (lv' := []) trivial ?_
    exact xX7_isBetween_52 hQ   _ h
  · replace h := h.2 c
    refine x_lload dX7_isBetween_12 rfl ?_
    refine x_lload_n dX7_isBetween_14 rfl ?_
    refine x_lload dX7_isBetween_15 rfl ?_
    refine x_callSJ (As := [aJ v0, aJ v4]) (st := [aJ v8]) kX7_91 rfl ⟨rfl, rfl, by decide, by decide⟩ dX7_isBetween_17 rfl (Nat.le_of_ble_eq_true rfl) ⟨Nat.zero_le _, Nat.zero_le _⟩ (ctX7_more h) (fun x_17 S_17 h => ?_)
    refine x_lcmp_gt (tgt := 52) dX7_isBetween_20 dX7_isBetween_21 (by decide) (fun c => ?_) (fun c => ?_)
    · replace h := h.1 c
      refine x_lv (lv' := []) trivial ?_
      exact xX7_isBetween_52 hQ   _ h
    · replace h := h.2 c
      refine x_lload_n dX7_isBetween_24 rfl ?_
      refine x_lload dX7_isBetween_25 rfl ?_
      refine x_callSJ (As := [aJ v2, aJ v6]) (st := []) kX7_87 rfl ⟨rfl, rfl, by decide, by decide⟩ dX7_isBetween_27 rfl (Nat.le_of_ble_eq_true rfl) ⟨Nat.zero_le _, Nat.zero_le _⟩ (ctX7_less h) (fun x_27 S_27 h => ?_)
      refine x_lload dX7_isBetween_30 rfl ?_
      refine x_lcmp_gt (tgt := 52) dX7_isBetween_32 dX7_isBetween_33 (by decide) (fun c => ?_) (fun c => ?_)
      · replace h := h.1 c
        refine x_lv (lv' := []) trivial ?_
        exact xX7_isBetween_52 hQ   _ h
      · replace h := h.2 c
        refine x_lload dX7_isBetween_36 rfl ?_
        refine x_lload_n dX7_isBetween_38 rfl ?_
        refine x_lload dX7_isBetween_39 rfl ?_
        refine x_callSJ (As := [aJ v2, aJ v6]) (st := [aJ v10]) kX7_91 rfl ⟨rfl, rfl, by decide, by decide⟩ dX7_isBetween_41 rfl (Nat.le_of_ble_eq_true rfl) ⟨Nat.zero_le _, Nat.zero_le _⟩ (ctX7_more h) (fun x_41 S_41 h => ?_)
        refine x_lcmp_gt (tgt := 52) dX7_isBetween_44 dX7_isBetween_45 (by decide) (fun c => ?_) (fun c => ?_)
        · replace h := h.1 c
          refine x_lv (lv' := []) trivial ?_
          exact xX7_isBetween_52 hQ   _ h
        · replace h := h.2 c
          refine x_iconst (v := 1) dX7_isBetween_48 (by decide) ?_
          refine x_goto (tgt := 53) dX7_isBetween_49 (by decide) ?_
          refine x_lv (lv' := []) trivial ?_
          exact xX7_isBetween_53 hQ  _ _ h
set_option maxRecDepth 100000 in
set_option maxHeartbeats 4000000 in
theorem xX7_doMeet_423 {E : en} {ad : Nat → Nat} {Post : Int32 → hs → Prop} (hQ : isQ E ad (pI Post))   (s0 : Int32) (S : hs) (h : PX7_doMeet_423 Post  s0 S) : X E mX7_doMeet 0 0 ad S 423 [] [aI s0] := by
  unfold PX7_doMeet_423 at h
  exact x_zret hQ rfl dX7_doMeet_423 ⟨h.1, _, rfl, h.2⟩
set_option maxRecDepth 100000 in
set_option maxHeartbeats 4000000 in
theorem xX7_doMeet_422 {E : en} {ad : Nat → Nat} {Post : Int32 → hs → Prop} (hQ : isQ E ad (pI Post))    (S : hs) (h : PX7_doMeet_422 Post   S) : X E mX7_doMeet 0 0 ad S 422 [] [] := by
  unfold PX7_doMeet_422 at h
  refine x_iconst (v := 0) dX7_doMeet_422 (by decide) ?_
  refine x_lv (lv' := []) trivial ?_
  exact xX7_doMeet_423 hQ  _ _ h
set_option maxRecDepth 100000 in
set_option maxHeartbeats 4000000 in
theorem xX7_doMeet_418 {E : en} {ad : Nat → Nat} {Post : Int32 → hs → Prop} (hQ : isQ E ad (pI Post))    (S : hs) (h : PX7_doMeet_418 Post   S) : X E mX7_doMeet 0 0 ad S 418 [] [] := by
  unfold PX7_doMeet_418 at h
  refine x_iconst (v := 1) dX7_doMeet_418 (by decide) ?_
  refine x_goto (tgt := 423) dX7_doMeet_419 (by decide) ?_
  refine x_lv (lv' := []) trivial ?_
  exact xX7_doMeet_423 hQ  _ _ h
set_option maxRecDepth 100000 in
set_option maxHeartbeats 4000000 in
theorem xX7_doMeet_362 {E : en} {ad : Nat → Nat} {Post : Int32 → hs → Prop} (hQ : isQ E ad (pI Post))   (v0 : Nat) (v2 : Int32) (v3 : Int32) (v4 : Int32) (v8 : Int32) (s0 : Int32) (S : hs) (h : PX7_doMeet_362 Post  v0 v2 v3 v4 v8 s0 S) : X E mX7_doMeet 0 0 ad S 362 [(0, aA v0), (2, aI v2), (3, aI v3), (4, aI v4), (8, aI v8)] [aI s0] := by
  unfold PX7_doMeet_362 at h
  refine x_istore dX7_doMeet_362 (by decide) rfl ?_
  refine x_iload dX7_doMeet_364 rfl ?_
  refine x_if_ne (tgt := 418) dX7_doMeet_366 (by decide) (fun c => ?_) (fun c => ?_)
  · replace h := h.2 c
    refine x_lv (lv' := []) trivial ?_
    exact xX7_doMeet_418 hQ   _ h
  · replace h := h.1 c
    refine x_iload dX7_doMeet_369 rfl ?_
    refine x_if_ne (tgt := 422) dX7_doMeet_371 (by decide) (fun c => ?_) (fun c => ?_)
    · replace h := h.2 c
      refine x_lv (lv' := []) trivial ?_
      exact xX7_doMeet_422 hQ   _ h
    · replace h := h.1 c
      refine x_aload_n dX7_doMeet_374 rfl ?_
      obtain ⟨h1, r_375, hr_375, h⟩ := h
      refine x_g7_2 rfl dX7_doMeet_375 h1 (x_un hr_375 ?_)
      refine x_iload_n dX7_doMeet_378 rfl ?_
      refine x_lald dX7_doMeet_379 h.1 ?_
      replace h := h.2
      refine x_aload_n dX7_doMeet_380 rfl ?_
      obtain ⟨h1, r_381, hr_381, h⟩ := h
      refine x_g7_3 rfl dX7_doMeet_381 h1 (x_un hr_381 ?_)
      refine x_iload_n dX7_doMeet_384 rfl ?_
      refine x_lald dX7_doMeet_385 h.1 ?_
      replace h := h.2
      refine x_aload_n dX7_doMeet_386 rfl ?_
      obtain ⟨h1, r_387, hr_387, h⟩ := h
      refine x_g7_2 rfl dX7_doMeet_387 h1 (x_un hr_387 ?_)
      refine x_iload dX7_doMeet_390 rfl ?_
      refine x_lald dX7_doMeet_392 h.1 ?_
      replace h := h.2
      refine x_aload_n dX7_doMeet_393 rfl ?_
      obtain ⟨h1, r_394, hr_394, h⟩ := h
      refine x_g7_3 rfl dX7_doMeet_394 h1 (x_un hr_394 ?_)
      refine x_iload dX7_doMeet_397 rfl ?_
      refine x_lald dX7_doMeet_399 h.1 ?_
      replace h := h.2
      refine x_aload_n dX7_doMeet_400 rfl ?_
      obtain ⟨h1, r_401, hr_401, h⟩ := h
      refine x_g7_2 rfl dX7_doMeet_401 h1 (x_un hr_401 ?_)
      refine x_iload_n dX7_doMeet_404 rfl ?_
      refine x_lald dX7_doMeet_405 h.1 ?_
      replace h := h.2
      refine x_aload_n dX7_doMeet_406 rfl ?_
      obtain ⟨h1, r_407, hr_407, h⟩ := h
      refine x_g7_3 rfl dX7_doMeet_407 h1 (x_un hr_407 ?_)
      refine x_iload_n dX7_doMeet_410 rfl ?_
      refine x_lald dX7_doMeet_411 h.1 ?_
      replace h := h.2
      refine x_callSI (As := [aJ (hj S r_375 (Int32.toNatClampNeg v3)), aJ (hj S r_381 (Int32.toNatClampNeg v3)), aJ (hj S r_387 (Int32.toNatClampNeg v4)), aJ (hj S r_394 (Int32.toNatClampNeg v4)), aJ (hj S r_401 (Int32.toNatClampNeg v2)), aJ (hj S r_407 (Int32.toNatClampNeg v2))]) (st := []) kX7_98 rfl ⟨rfl, rfl, by decide, by decide⟩ dX7_doMeet_412 rfl (Nat.le_of_ble_eq_true rfl) ⟨Nat.zero_le _, Nat.zero_le _⟩ (ctX7_isBetween h) (fun x_412 S_412 h => ?_)
      refine x_if_eq (tgt := 422) dX7_doMeet_415 (by decide) (fun c => ?_) (fun c => ?_)
      · replace h := h.1 c
        refine x_lv (lv' := []) trivial ?_
        exact xX7_doMeet_422 hQ   _ h
      · replace h := h.2 c
        refine x_lv (lv' := []) trivial ?_
        exact xX7_doMeet_418 hQ   _ h
set_option maxRecDepth 100000 in
set_option maxHeartbeats 4000000 in
theorem xX7_doMeet_361 {E : en} {ad : Nat → Nat} {Post : Int32 → hs → Prop} (hQ : isQ E ad (pI Post))   (v0 : Nat) (v2 : Int32) (v3 : Int32) (v4 : Int32) (v8 : Int32) (S : hs) (h : PX7_doMeet_361 Post  v0 v2 v3 v4 v8 S) : X E mX7_doMeet 0 0 ad S 361 [(0, aA v0), (2, aI v2), (3, aI v3), (4, aI v4), (8, aI v8)] [] := by
  unfold PX7_doMeet_361 at h
  refine x_iconst (v := 0) dX7_doMeet_361 (by decide) ?_
  refine x_lv (lv' := [(0, aA v0), (2, aI v2), (3, aI v3), (4, aI v4), (8, aI v8)]) ⟨rfl, rfl, rfl, rfl, rfl, trivial⟩ ?_
  exact xX7_doMeet_362 hQ  _ _ _ _ _ _ _ h
set_option maxRecDepth 100000 in
set_option maxHeartbeats 4000000 in
theorem xX7_doMeet_357 {E : en} {ad : Nat → Nat} {Post : Int32 → hs → Prop} (hQ : isQ E ad (pI Post))   (v0 : Nat) (v2 : Int32) (v3 : Int32) (v4 : Int32) (v8 : Int32) (S : hs) (h : PX7_doMeet_357 Post  v0 v2 v3 v4 v8 S) : X E mX7_doMeet 0 0 ad S 357 [(0, aA v0), (2, aI v2), (3, aI v3), (4, aI v4), (8, aI v8)] [] := by
  unfold PX7_doMeet_357 at h
  refine x_iconst (v := 1) dX7_doMeet_357 (by decide) ?_
  refine x_goto (tgt := 362) dX7_doMeet_358 (by decide) ?_
  refine x_lv (lv' := [(0, aA v0), (2, aI v2), (3, aI v3), (4, aI v4), (8, aI v8)]) ⟨rfl, rfl, rfl, rfl, rfl, trivial⟩ ?_
  exact xX7_doMeet_362 hQ  _ _ _ _ _ _ _ h
set_option maxRecDepth 100000 in
set_option maxHeartbeats 4000000 in
theorem xX7_doMeet_301 {E : en} {ad : Nat → Nat} {Post : Int32 → hs → Prop} (hQ : isQ E ad (pI Post))   (v0 : Nat) (v1 : Int32) (v2 : Int32) (v3 : Int32) (v4 : Int32) (v7 : Int32) (v8 : Int32) (s0 : Int32) (S : hs) (h : PX7_doMeet_301 Post  v0 v1 v2 v3 v4 v7 v8 s0 S) : X E mX7_doMeet 0 0 ad S 301 [(0, aA v0), (1, aI v1), (2, aI v2), (3, aI v3), (4, aI v4), (7, aI v7), (8, aI v8)] [aI s0] := by
  unfold PX7_doMeet_301 at h
  refine x_istore dX7_doMeet_301 (by decide) rfl ?_
  refine x_iload dX7_doMeet_303 rfl ?_
  refine x_if_ne (tgt := 357) dX7_doMeet_305 (by decide) (fun c => ?_) (fun c => ?_)
  · replace h := h.2 c
    refine x_lv (lv' := [(0, aA v0), (2, aI v2), (3, aI v3), (4, aI v4), (8, aI v8)]) ⟨rfl, rfl, rfl, rfl, rfl, trivial⟩ ?_
    exact xX7_doMeet_357 hQ  _ _ _ _ _ _ h
  · replace h := h.1 c
    refine x_iload dX7_doMeet_308 rfl ?_
    refine x_if_ne (tgt := 361) dX7_doMeet_310 (by decide) (fun c => ?_) (fun c => ?_)
    · replace h := h.2 c
      refine x_lv (lv' := [(0, aA v0), (2, aI v2), (3, aI v3), (4, aI v4), (8, aI v8)]) ⟨rfl, rfl, rfl, rfl, rfl, trivial⟩ ?_
      exact xX7_doMeet_361 hQ  _ _ _ _ _ _ h
    · replace h := h.1 c
      refine x_aload_n dX7_doMeet_313 rfl ?_
      obtain ⟨h1, r_314, hr_314, h⟩ := h
      refine x_g7_2 rfl dX7_doMeet_314 h1 (x_un hr_314 ?_)
      refine x_iload_n dX7_doMeet_317 rfl ?_
      refine x_lald dX7_doMeet_318 h.1 ?_
      replace h := h.2
      refine x_aload_n dX7_doMeet_319 rfl ?_
      obtain ⟨h1, r_320, hr_320, h⟩ := h
      refine x_g7_3 rfl dX7_doMeet_320 h1 (x_un hr_320 ?_)
      refine x_iload_n dX7_doMeet_323 rfl ?_
      refine x_lald dX7_doMeet_324 h.1 ?_
      replace h := h.2
      refine x_aload_n dX7_doMeet_325 rfl ?_
      obtain ⟨h1, r_326, hr_326, h⟩ := h
      refine x_g7_2 rfl dX7_doMeet_326 h1 (x_un hr_326 ?_)
      refine x_iload dX7_doMeet_329 rfl ?_
      refine x_lald dX7_doMeet_331 h.1 ?_
      replace h := h.2
      refine x_aload_n dX7_doMeet_332 rfl ?_
      obtain ⟨h1, r_333, hr_333, h⟩ := h
      refine x_g7_3 rfl dX7_doMeet_333 h1 (x_un hr_333 ?_)
      refine x_iload dX7_doMeet_336 rfl ?_
      refine x_lald dX7_doMeet_338 h.1 ?_
      replace h := h.2
      refine x_aload_n dX7_doMeet_339 rfl ?_
      obtain ⟨h1, r_340, hr_340, h⟩ := h
      refine x_g7_2 rfl dX7_doMeet_340 h1 (x_un hr_340 ?_)
      refine x_iload_n dX7_doMeet_343 rfl ?_
      refine x_lald dX7_doMeet_344 h.1 ?_
      replace h := h.2
      refine x_aload_n dX7_doMeet_345 rfl ?_
      obtain ⟨h1, r_346, hr_346, h⟩ := h
      refine x_g7_3 rfl dX7_doMeet_346 h1 (x_un hr_346 ?_)
      refine x_iload_n dX7_doMeet_349 rfl ?_
      refine x_lald dX7_doMeet_350 h.1 ?_
      replace h := h.2
      refine x_callSI (As := [aJ (hj S r_314 (Int32.toNatClampNeg v3)), aJ (hj S r_320 (Int32.toNatClampNeg v3)), aJ (hj S r_326 (Int32.toNatClampNeg v4)), aJ (hj S r_333 (Int32.toNatClampNeg v4)), aJ (hj S r_340 (Int32.toNatClampNeg v1)), aJ (hj S r_346 (Int32.toNatClampNeg v1))]) (st := []) kX7_98 rfl ⟨rfl, rfl, by decide, by decide⟩ dX7_doMeet_351 rfl (Nat.le_of_ble_eq_true rfl) ⟨Nat.zero_le _, Nat.zero_le _⟩ (ctX7_isBetween h) (fun x_351 S_351 h => ?_)
      refine x_if_eq (tgt := 361) dX7_doMeet_354 (by decide) (fun c => ?_) (fun c => ?_)
      · replace h := h.1 c
        refine x_lv (lv' := [(0, aA v0), (2, aI v2), (3, aI v3), (4, aI v4), (8, aI v8)]) ⟨rfl, rfl, rfl, rfl, rfl, trivial⟩ ?_
        exact xX7_doMeet_361 hQ  _ _ _ _ _ _ h
      · replace h := h.2 c
        refine x_lv (lv' := [(0, aA v0), (2, aI v2), (3, aI v3), (4, aI v4), (8, aI v8)]) ⟨rfl, rfl, rfl, rfl, rfl, trivial⟩ ?_
        exact xX7_doMeet_357 hQ  _ _ _ _ _ _ h
set_option maxRecDepth 100000 in
set_option maxHeartbeats 4000000 in
theorem xX7_doMeet_300 {E : en} {ad : Nat → Nat} {Post : Int32 → hs → Prop} (hQ : isQ E ad (pI Post))   (v0 : Nat) (v1 : Int32) (v2 : Int32) (v3 : Int32) (v4 : Int32) (v7 : Int32) (v8 : Int32) (S : hs) (h : PX7_doMeet_300 Post  v0 v1 v2 v3 v4 v7 v8 S) : X E mX7_doMeet 0 0 ad S 300 [(0, aA v0), (1, aI v1), (2, aI v2), (3, aI v3), (4, aI v4), (7, aI v7), (8, aI v8)] [] := by
  unfold PX7_doMeet_300 at h
  refine x_iconst (v := 0) dX7_doMeet_300 (by decide) ?_
  refine x_lv (lv' := [(0, aA v0), (1, aI v1), (2, aI v2), (3, aI v3), (4, aI v4), (7, aI v7), (8, aI v8)]) ⟨rfl, rfl, rfl, rfl, rfl, rfl, rfl, trivial⟩ ?_
  exact xX7_doMeet_301 hQ  _ _ _ _ _ _ _ _ _ h
set_option maxRecDepth 100000 in
set_option maxHeartbeats 4000000 in
theorem xX7_doMeet_296 {E : en} {ad : Nat → Nat} {Post : Int32 → hs → Prop} (hQ : isQ E ad (pI Post))   (v0 : Nat) (v1 : Int32) (v2 : Int32) (v3 : Int32) (v4 : Int32) (v7 : Int32) (v8 : Int32) (S : hs) (h : PX7_doMeet_296 Post  v0 v1 v2 v3 v4 v7 v8 S) : X E mX7_doMeet 0 0 ad S 296 [(0, aA v0), (1, aI v1), (2, aI v2), (3, aI v3), (4, aI v4), (7, aI v7), (8, aI v8)] [] := by
  unfold PX7_doMeet_296 at h
  refine x_iconst (v := 1) dX7_doMeet_296 (by decide) ?_
  refine x_goto (tgt := 301) dX7_doMeet_297 (by decide) ?_
  refine x_lv (lv' := [(0, aA v0), (1, aI v1), (2, aI v2), (3, aI v3), (4, aI v4), (7, aI v7), (8, aI v8)]) ⟨rfl, rfl, rfl, rfl, rfl, rfl, rfl, trivial⟩ ?_
  exact xX7_doMeet_301 hQ  _ _ _ _ _ _ _ _ _ h
set_option maxRecDepth 100000 in
set_option maxHeartbeats 4000000 in
theorem xX7_doMeet_240 {E : en} {ad : Nat → Nat} {Post : Int32 → hs → Prop} (hQ : isQ E ad (pI Post))   (v0 : Nat) (v1 : Int32) (v2 : Int32) (v3 : Int32) (v4 : Int32) (v6 : Int32) (v7 : Int32) (v8 : Int32) (s0 : Int32) (S : hs) (h : PX7_doMeet_240 Post  v0 v1 v2 v3 v4 v6 v7 v8 s0 S) : X E mX7_doMeet 0 0 ad S 240 [(0, aA v0), (1, aI v1), (2, aI v2), (3, aI v3), (4, aI v4), (6, aI v6), (7, aI v7), (8, aI v8)] [aI s0] := by
  unfold PX7_doMeet_240 at h
  refine x_istore dX7_doMeet_240 (by decide) rfl ?_
  refine x_iload dX7_doMeet_242 rfl ?_
  refine x_if_ne (tgt := 296) dX7_doMeet_244 (by decide) (fun c => ?_) (fun c => ?_)
  · replace h := h.2 c
    refine x_lv (lv' := [(0, aA v0), (1, aI v1), (2, aI v2), (3, aI v3), (4, aI v4), (7, aI v7), (8, aI v8)]) ⟨rfl, rfl, rfl, rfl, rfl, rfl, rfl, trivial⟩ ?_
    exact xX7_doMeet_296 hQ  _ _ _ _ _ _ _ _ h
  · replace h := h.1 c
    refine x_iload dX7_doMeet_247 rfl ?_
    refine x_if_ne (tgt := 300) dX7_doMeet_249 (by decide) (fun c => ?_) (fun c => ?_)
    · replace h := h.2 c
      refine x_lv (lv' := [(0, aA v0), (1, aI v1), (2, aI v2), (3, aI v3), (4, aI v4), (7, aI v7), (8, aI v8)]) ⟨rfl, rfl, rfl, rfl, rfl, rfl, rfl, trivial⟩ ?_
      exact xX7_doMeet_300 hQ  _ _ _ _ _ _ _ _ h
    · replace h := h.1 c
      refine x_aload_n dX7_doMeet_252 rfl ?_
      obtain ⟨h1, r_253, hr_253, h⟩ := h
      refine x_g7_2 rfl dX7_doMeet_253 h1 (x_un hr_253 ?_)
      refine x_iload_n dX7_doMeet_256 rfl ?_
      refine x_lald dX7_doMeet_257 h.1 ?_
      replace h := h.2
      refine x_aload_n dX7_doMeet_258 rfl ?_
      obtain ⟨h1, r_259, hr_259, h⟩ := h
      refine x_g7_3 rfl dX7_doMeet_259 h1 (x_un hr_259 ?_)
      refine x_iload_n dX7_doMeet_262 rfl ?_
      refine x_lald dX7_doMeet_263 h.1 ?_
      replace h := h.2
      refine x_aload_n dX7_doMeet_264 rfl ?_
      obtain ⟨h1, r_265, hr_265, h⟩ := h
      refine x_g7_2 rfl dX7_doMeet_265 h1 (x_un hr_265 ?_)
      refine x_iload_n dX7_doMeet_268 rfl ?_
      refine x_lald dX7_doMeet_269 h.1 ?_
      replace h := h.2
      refine x_aload_n dX7_doMeet_270 rfl ?_
      obtain ⟨h1, r_271, hr_271, h⟩ := h
      refine x_g7_3 rfl dX7_doMeet_271 h1 (x_un hr_271 ?_)
      refine x_iload_n dX7_doMeet_274 rfl ?_
      refine x_lald dX7_doMeet_275 h.1 ?_
      replace h := h.2
      refine x_aload_n dX7_doMeet_276 rfl ?_
      obtain ⟨h1, r_277, hr_277, h⟩ := h
      refine x_g7_2 rfl dX7_doMeet_277 h1 (x_un hr_277 ?_)
      refine x_iload dX7_doMeet_280 rfl ?_
      refine x_lald dX7_doMeet_282 h.1 ?_
      replace h := h.2
      refine x_aload_n dX7_doMeet_283 rfl ?_
      obtain ⟨h1, r_284, hr_284, h⟩ := h
      refine x_g7_3 rfl dX7_doMeet_284 h1 (x_un hr_284 ?_)
      refine x_iload dX7_doMeet_287 rfl ?_
      refine x_lald dX7_doMeet_289 h.1 ?_
      replace h := h.2
      refine x_callSI (As := [aJ (hj S r_253 (Int32.toNatClampNeg v1)), aJ (hj S r_259 (Int32.toNatClampNeg v1)), aJ (hj S r_265 (Int32.toNatClampNeg v2)), aJ (hj S r_271 (Int32.toNatClampNeg v2)), aJ (hj S r_277 (Int32.toNatClampNeg v4)), aJ (hj S r_284 (Int32.toNatClampNeg v4))]) (st := []) kX7_98 rfl ⟨rfl, rfl, by decide, by decide⟩ dX7_doMeet_290 rfl (Nat.le_of_ble_eq_true rfl) ⟨Nat.zero_le _, Nat.zero_le _⟩ (ctX7_isBetween h) (fun x_290 S_290 h => ?_)
      refine x_if_eq (tgt := 300) dX7_doMeet_293 (by decide) (fun c => ?_) (fun c => ?_)
      · replace h := h.1 c
        refine x_lv (lv' := [(0, aA v0), (1, aI v1), (2, aI v2), (3, aI v3), (4, aI v4), (7, aI v7), (8, aI v8)]) ⟨rfl, rfl, rfl, rfl, rfl, rfl, rfl, trivial⟩ ?_
        exact xX7_doMeet_300 hQ  _ _ _ _ _ _ _ _ h
      · replace h := h.2 c
        refine x_lv (lv' := [(0, aA v0), (1, aI v1), (2, aI v2), (3, aI v3), (4, aI v4), (7, aI v7), (8, aI v8)]) ⟨rfl, rfl, rfl, rfl, rfl, rfl, rfl, trivial⟩ ?_
        exact xX7_doMeet_296 hQ  _ _ _ _ _ _ _ _ h
set_option maxRecDepth 100000 in
set_option maxHeartbeats 4000000 in
theorem xX7_doMeet_239 {E : en} {ad : Nat → Nat} {Post : Int32 → hs → Prop} (hQ : isQ E ad (pI Post))   (v0 : Nat) (v1 : Int32) (v2 : Int32) (v3 : Int32) (v4 : Int32) (v6 : Int32) (v7 : Int32) (v8 : Int32) (S : hs) (h : PX7_doMeet_239 Post  v0 v1 v2 v3 v4 v6 v7 v8 S) : X E mX7_doMeet 0 0 ad S 239 [(0, aA v0), (1, aI v1), (2, aI v2), (3, aI v3), (4, aI v4), (6, aI v6), (7, aI v7), (8, aI v8)] [] := by
  unfold PX7_doMeet_239 at h
  refine x_iconst (v := 0) dX7_doMeet_239 (by decide) ?_
  refine x_lv (lv' := [(0, aA v0), (1, aI v1), (2, aI v2), (3, aI v3), (4, aI v4), (6, aI v6), (7, aI v7), (8, aI v8)]) ⟨rfl, rfl, rfl, rfl, rfl, rfl, rfl, rfl, trivial⟩ ?_
  exact xX7_doMeet_240 hQ  _ _ _ _ _ _ _ _ _ _ h
set_option maxRecDepth 100000 in
set_option maxHeartbeats 4000000 in
theorem xX7_doMeet_188 {E : en} {ad : Nat → Nat} {Post : Int32 → hs → Prop} (hQ : isQ E ad (pI Post))   (v0 : Nat) (v1 : Int32) (v2 : Int32) (v3 : Int32) (v4 : Int32) (v5 : Int32) (v6 : Int32) (v7 : Int32) (v8 : Int32) (S : hs) (h : PX7_doMeet_188 Post  v0 v1 v2 v3 v4 v5 v6 v7 v8 S) : X E mX7_doMeet 0 0 ad S 188 [(0, aA v0), (1, aI v1), (2, aI v2), (3, aI v3), (4, aI v4), (5, aI v5), (6, aI v6), (7, aI v7), (8, aI v8)] [] := by
  unfold PX7_doMeet_188 at h
  refine x_iload dX7_doMeet_188 rfl ?_
  refine x_if_ne (tgt := 239) dX7_doMeet_190 (by decide) (fun c => ?_) (fun c => ?_)
  · replace h := h.2 c
    refine x_lv (lv' := [(0, aA v0), (1, aI v1), (2, aI v2), (3, aI v3), (4, aI v4), (6, aI v6), (7, aI v7), (8, aI v8)]) ⟨rfl, rfl, rfl, rfl, rfl, rfl, rfl, rfl, trivial⟩ ?_
    exact xX7_doMeet_239 hQ  _ _ _ _ _ _ _ _ _ h
  · replace h := h.1 c
    refine x_aload_n dX7_doMeet_193 rfl ?_
    obtain ⟨h1, r_194, hr_194, h⟩ := h
    refine x_g7_2 rfl dX7_doMeet_194 h1 (x_un hr_194 ?_)
    refine x_iload_n dX7_doMeet_197 rfl ?_
    refine x_lald dX7_doMeet_198 h.1 ?_
    replace h := h.2
    refine x_aload_n dX7_doMeet_199 rfl ?_
    obtain ⟨h1, r_200, hr_200, h⟩ := h
    refine x_g7_3 rfl dX7_doMeet_200 h1 (x_un hr_200 ?_)
    refine x_iload_n dX7_doMeet_203 rfl ?_
    refine x_lald dX7_doMeet_204 h.1 ?_
    replace h := h.2
    refine x_aload_n dX7_doMeet_205 rfl ?_
    obtain ⟨h1, r_206, hr_206, h⟩ := h
    refine x_g7_2 rfl dX7_doMeet_206 h1 (x_un hr_206 ?_)
    refine x_iload_n dX7_doMeet_209 rfl ?_
    refine x_lald dX7_doMeet_210 h.1 ?_
    replace h := h.2
    refine x_aload_n dX7_doMeet_211 rfl ?_
    obtain ⟨h1, r_212, hr_212, h⟩ := h
    refine x_g7_3 rfl dX7_doMeet_212 h1 (x_un hr_212 ?_)
    refine x_iload_n dX7_doMeet_215 rfl ?_
    refine x_lald dX7_doMeet_216 h.1 ?_
    replace h := h.2
    refine x_aload_n dX7_doMeet_217 rfl ?_
    obtain ⟨h1, r_218, hr_218, h⟩ := h
    refine x_g7_2 rfl dX7_doMeet_218 h1 (x_un hr_218 ?_)
    refine x_iload_n dX7_doMeet_221 rfl ?_
    refine x_lald dX7_doMeet_222 h.1 ?_
    replace h := h.2
    refine x_aload_n dX7_doMeet_223 rfl ?_
    obtain ⟨h1, r_224, hr_224, h⟩ := h
    refine x_g7_3 rfl dX7_doMeet_224 h1 (x_un hr_224 ?_)
    refine x_iload_n dX7_doMeet_227 rfl ?_
    refine x_lald dX7_doMeet_228 h.1 ?_
    replace h := h.2
    refine x_callSI (As := [aJ (hj S r_194 (Int32.toNatClampNeg v1)), aJ (hj S r_200 (Int32.toNatClampNeg v1)), aJ (hj S r_206 (Int32.toNatClampNeg v2)), aJ (hj S r_212 (Int32.toNatClampNeg v2)), aJ (hj S r_218 (Int32.toNatClampNeg v3)), aJ (hj S r_224 (Int32.toNatClampNeg v3))]) (st := []) kX7_98 rfl ⟨rfl, rfl, by decide, by decide⟩ dX7_doMeet_229 rfl (Nat.le_of_ble_eq_true rfl) ⟨Nat.zero_le _, Nat.zero_le _⟩ (ctX7_isBetween h) (fun x_229 S_229 h => ?_)
    refine x_if_eq (tgt := 239) dX7_doMeet_232 (by decide) (fun c => ?_) (fun c => ?_)
    · replace h := h.1 c
      refine x_lv (lv' := [(0, aA v0), (1, aI v1), (2, aI v2), (3, aI v3), (4, aI v4), (6, aI v6), (7, aI v7), (8, aI v8)]) ⟨rfl, rfl, rfl, rfl, rfl, rfl, rfl, rfl, trivial⟩ ?_
      exact xX7_doMeet_239 hQ  _ _ _ _ _ _ _ _ _ h
    · replace h := h.2 c
      refine x_iconst (v := 1) dX7_doMeet_235 (by decide) ?_
      refine x_goto (tgt := 240) dX7_doMeet_236 (by decide) ?_
      refine x_lv (lv' := [(0, aA v0), (1, aI v1), (2, aI v2), (3, aI v3), (4, aI v4), (6, aI v6), (7, aI v7), (8, aI v8)]) ⟨rfl, rfl, rfl, rfl, rfl, rfl, rfl, rfl, trivial⟩ ?_
      exact xX7_doMeet_240 hQ  _ _ _ _ _ _ _ _ _ _ h
set_option maxRecDepth 100000 in
set_option maxHeartbeats 4000000 in
theorem ctX7_doMeet {G : Launch × va_G × (Nat → ClassId) × Nat} {v0 : Nat} {v1 : Int32} {v2 : Int32} {v3 : Int32} {v4 : Int32} {S : hs} {Post : Int32 → hs → Prop} (h : PX7_doMeet v0 v1 v2 v3 v4 S Post) : ctN G mX7_doMeet [aA v0, aI v1, aI v2, aI v3, aI v4] S (pI Post) := by
  refine ctN.of (by decide) (Nat.le_of_ble_eq_true rfl) (fun E ad hG hQ => ?_)
  subst hG
  unfold PX7_doMeet at h
  refine x_aload_n dX7_doMeet_0 rfl ?_
  obtain ⟨h1, r_1, hr_1, h⟩ := h
  refine x_g7_2 rfl dX7_doMeet_1 h1 (x_un hr_1 ?_)
  refine x_iload_n dX7_doMeet_4 rfl ?_
  refine x_lald dX7_doMeet_5 h.1 ?_
  replace h := h.2
  refine x_aload_n dX7_doMeet_6 rfl ?_
  obtain ⟨h1, r_7, hr_7, h⟩ := h
  refine x_g7_3 rfl dX7_doMeet_7 h1 (x_un hr_7 ?_)
  refine x_iload_n dX7_doMeet_10 rfl ?_
  refine x_lald dX7_doMeet_11 h.1 ?_
  replace h := h.2
  refine x_aload_n dX7_doMeet_12 rfl ?_
  obtain ⟨h1, r_13, hr_13, h⟩ := h
  refine x_g7_2 rfl dX7_doMeet_13 h1 (x_un hr_13 ?_)
  refine x_iload_n dX7_doMeet_16 rfl ?_
  refine x_lald dX7_doMeet_17 h.1 ?_
  replace h := h.2
  refine x_aload_n dX7_doMeet_18 rfl ?_
  obtain ⟨h1, r_19, hr_19, h⟩ := h
  refine x_g7_3 rfl dX7_doMeet_19 h1 (x_un hr_19 ?_)
  refine x_iload_n dX7_doMeet_22 rfl ?_
  refine x_lald dX7_doMeet_23 h.1 ?_
  replace h := h.2
  refine x_aload_n dX7_doMeet_24 rfl ?_
  obtain ⟨h1, r_25, hr_25, h⟩ := h
  refine x_g7_2 rfl dX7_doMeet_25 h1 (x_un hr_25 ?_)
  refine x_iload_n dX7_doMeet_28 rfl ?_
  refine x_lald dX7_doMeet_29 h.1 ?_
  replace h := h.2
  refine x_aload_n dX7_doMeet_30 rfl ?_
  obtain ⟨h1, r_31, hr_31, h⟩ := h
  refine x_g7_3 rfl dX7_doMeet_31 h1 (x_un hr_31 ?_)
  refine x_iload_n dX7_doMeet_34 rfl ?_
  refine x_lald dX7_doMeet_35 h.1 ?_
  replace h := h.2
  refine x_callSI (As := [aJ (hj S r_1 (Int32.toNatClampNeg v1)), aJ (hj S r_7 (Int32.toNatClampNeg v1)), aJ (hj S r_13 (Int32.toNatClampNeg v2)), aJ (hj S r_19 (Int32.toNatClampNeg v2)), aJ (hj S r_25 (Int32.toNatClampNeg v3)), aJ (hj S r_31 (Int32.toNatClampNeg v3))]) (st := []) kX7_94 rfl ⟨rfl, rfl, by decide, by decide⟩ dX7_doMeet_36 rfl (Nat.le_of_ble_eq_true rfl) ⟨Nat.zero_le _, Nat.zero_le _⟩ (ctX7_wayOf h) (fun x_36 S_36 h => ?_)
  refine x_istore dX7_doMeet_39 (by decide) rfl ?_
  refine x_aload_n dX7_doMeet_41 rfl ?_
  obtain ⟨h1, r_42, hr_42, h⟩ := h
  refine x_g7_2 rfl dX7_doMeet_42 h1 (x_un hr_42 ?_)
  refine x_iload_n dX7_doMeet_45 rfl ?_
  refine x_lald dX7_doMeet_46 h.1 ?_
  replace h := h.2
  refine x_aload_n dX7_doMeet_47 rfl ?_
  obtain ⟨h1, r_48, hr_48, h⟩ := h
  refine x_g7_3 rfl dX7_doMeet_48 h1 (x_un hr_48 ?_)
  refine x_iload_n dX7_doMeet_51 rfl ?_
  refine x_lald dX7_doMeet_52 h.1 ?_
  replace h := h.2
  refine x_aload_n dX7_doMeet_53 rfl ?_
  obtain ⟨h1, r_54, hr_54, h⟩ := h
  refine x_g7_2 rfl dX7_doMeet_54 h1 (x_un hr_54 ?_)
  refine x_iload_n dX7_doMeet_57 rfl ?_
  refine x_lald dX7_doMeet_58 h.1 ?_
  replace h := h.2
  refine x_aload_n dX7_doMeet_59 rfl ?_
  obtain ⟨h1, r_60, hr_60, h⟩ := h
  refine x_g7_3 rfl dX7_doMeet_60 h1 (x_un hr_60 ?_)
  refine x_iload_n dX7_doMeet_63 rfl ?_
  refine x_lald dX7_doMeet_64 h.1 ?_
  replace h := h.2
  refine x_aload_n dX7_doMeet_65 rfl ?_
  obtain ⟨h1, r_66, hr_66, h⟩ := h
  refine x_g7_2 rfl dX7_doMeet_66 h1 (x_un hr_66 ?_)
  refine x_iload dX7_doMeet_69 rfl ?_
  refine x_lald dX7_doMeet_71 h.1 ?_
  replace h := h.2
  refine x_aload_n dX7_doMeet_72 rfl ?_
  obtain ⟨h1, r_73, hr_73, h⟩ := h
  refine x_g7_3 rfl dX7_doMeet_73 h1 (x_un hr_73 ?_)
  refine x_iload dX7_doMeet_76 rfl ?_
  refine x_lald dX7_doMeet_78 h.1 ?_
  replace h := h.2
  refine x_callSI (As := [aJ (hj S_36 r_42 (Int32.toNatClampNeg v1)), aJ (hj S_36 r_48 (Int32.toNatClampNeg v1)), aJ (hj S_36 r_54 (Int32.toNatClampNeg v2)), aJ (hj S_36 r_60 (Int32.toNatClampNeg v2)), aJ (hj S_36 r_66 (Int32.toNatClampNeg v4)), aJ (hj S_36 r_73 (Int32.toNatClampNeg v4))]) (st := []) kX7_94 rfl ⟨rfl, rfl, by decide, by decide⟩ dX7_doMeet_79 rfl (Nat.le_of_ble_eq_true rfl) ⟨Nat.zero_le _, Nat.zero_le _⟩ (ctX7_wayOf h) (fun x_79 S_79 h => ?_)
  refine x_istore dX7_doMeet_82 (by decide) rfl ?_
  refine x_aload_n dX7_doMeet_84 rfl ?_
  obtain ⟨h1, r_85, hr_85, h⟩ := h
  refine x_g7_2 rfl dX7_doMeet_85 h1 (x_un hr_85 ?_)
  refine x_iload_n dX7_doMeet_88 rfl ?_
  refine x_lald dX7_doMeet_89 h.1 ?_
  replace h := h.2
  refine x_aload_n dX7_doMeet_90 rfl ?_
  obtain ⟨h1, r_91, hr_91, h⟩ := h
  refine x_g7_3 rfl dX7_doMeet_91 h1 (x_un hr_91 ?_)
  refine x_iload_n dX7_doMeet_94 rfl ?_
  refine x_lald dX7_doMeet_95 h.1 ?_
  replace h := h.2
  refine x_aload_n dX7_doMeet_96 rfl ?_
  obtain ⟨h1, r_97, hr_97, h⟩ := h
  refine x_g7_2 rfl dX7_doMeet_97 h1 (x_un hr_97 ?_)
  refine x_iload dX7_doMeet_100 rfl ?_
  refine x_lald dX7_doMeet_102 h.1 ?_
  replace h := h.2
  refine x_aload_n dX7_doMeet_103 rfl ?_
  obtain ⟨h1, r_104, hr_104, h⟩ := h
  refine x_g7_3 rfl dX7_doMeet_104 h1 (x_un hr_104 ?_)
  refine x_iload dX7_doMeet_107 rfl ?_
  refine x_lald dX7_doMeet_109 h.1 ?_
  replace h := h.2
  refine x_aload_n dX7_doMeet_110 rfl ?_
  obtain ⟨h1, r_111, hr_111, h⟩ := h
  refine x_g7_2 rfl dX7_doMeet_111 h1 (x_un hr_111 ?_)
  refine x_iload_n dX7_doMeet_114 rfl ?_
  refine x_lald dX7_doMeet_115 h.1 ?_
  replace h := h.2
  refine x_aload_n dX7_doMeet_116 rfl ?_
  obtain ⟨h1, r_117, hr_117, h⟩ := h
  refine x_g7_3 rfl dX7_doMeet_117 h1 (x_un hr_117 ?_)
  refine x_iload_n dX7_doMeet_120 rfl ?_
  refine x_lald dX7_doMeet_121 h.1 ?_
  replace h := h.2
  refine x_callSI (As := [aJ (hj S_79 r_85 (Int32.toNatClampNeg v3)), aJ (hj S_79 r_91 (Int32.toNatClampNeg v3)), aJ (hj S_79 r_97 (Int32.toNatClampNeg v4)), aJ (hj S_79 r_104 (Int32.toNatClampNeg v4)), aJ (hj S_79 r_111 (Int32.toNatClampNeg v1)), aJ (hj S_79 r_117 (Int32.toNatClampNeg v1))]) (st := []) kX7_94 rfl ⟨rfl, rfl, by decide, by decide⟩ dX7_doMeet_122 rfl (Nat.le_of_ble_eq_true rfl) ⟨Nat.zero_le _, Nat.zero_le _⟩ (ctX7_wayOf h) (fun x_122 S_122 h => ?_)
  refine x_istore dX7_doMeet_125 (by decide) rfl ?_
  refine x_aload_n dX7_doMeet_127 rfl ?_
  obtain ⟨h1, r_128, hr_128, h⟩ := h
  refine x_g7_2 rfl dX7_doMeet_128 h1 (x_un hr_128 ?_)
  refine x_iload_n dX7_doMeet_131 rfl ?_
  refine x_lald dX7_doMeet_132 h.1 ?_
  replace h := h.2
  refine x_aload_n dX7_doMeet_133 rfl ?_
  obtain ⟨h1, r_134, hr_134, h⟩ := h
  refine x_g7_3 rfl dX7_doMeet_134 h1 (x_un hr_134 ?_)
  refine x_iload_n dX7_doMeet_137 rfl ?_
  refine x_lald dX7_doMeet_138 h.1 ?_
  replace h := h.2
  refine x_aload_n dX7_doMeet_139 rfl ?_
  obtain ⟨h1, r_140, hr_140, h⟩ := h
  refine x_g7_2 rfl dX7_doMeet_140 h1 (x_un hr_140 ?_)
  refine x_iload dX7_doMeet_143 rfl ?_
  refine x_lald dX7_doMeet_145 h.1 ?_
  replace h := h.2
  refine x_aload_n dX7_doMeet_146 rfl ?_
  obtain ⟨h1, r_147, hr_147, h⟩ := h
  refine x_g7_3 rfl dX7_doMeet_147 h1 (x_un hr_147 ?_)
  refine x_iload dX7_doMeet_150 rfl ?_
  refine x_lald dX7_doMeet_152 h.1 ?_
  replace h := h.2
  refine x_aload_n dX7_doMeet_153 rfl ?_
  obtain ⟨h1, r_154, hr_154, h⟩ := h
  refine x_g7_2 rfl dX7_doMeet_154 h1 (x_un hr_154 ?_)
  refine x_iload_n dX7_doMeet_157 rfl ?_
  refine x_lald dX7_doMeet_158 h.1 ?_
  replace h := h.2
  refine x_aload_n dX7_doMeet_159 rfl ?_
  obtain ⟨h1, r_160, hr_160, h⟩ := h
  refine x_g7_3 rfl dX7_doMeet_160 h1 (x_un hr_160 ?_)
  refine x_iload_n dX7_doMeet_163 rfl ?_
  refine x_lald dX7_doMeet_164 h.1 ?_
  replace h := h.2
  refine x_callSI (As := [aJ (hj S_122 r_128 (Int32.toNatClampNeg v3)), aJ (hj S_122 r_134 (Int32.toNatClampNeg v3)), aJ (hj S_122 r_140 (Int32.toNatClampNeg v4)), aJ (hj S_122 r_147 (Int32.toNatClampNeg v4)), aJ (hj S_122 r_154 (Int32.toNatClampNeg v2)), aJ (hj S_122 r_160 (Int32.toNatClampNeg v2))]) (st := []) kX7_94 rfl ⟨rfl, rfl, by decide, by decide⟩ dX7_doMeet_165 rfl (Nat.le_of_ble_eq_true rfl) ⟨Nat.zero_le _, Nat.zero_le _⟩ (ctX7_wayOf h) (fun x_165 S_165 h => ?_)
  refine x_istore dX7_doMeet_168 (by decide) rfl ?_
  refine x_iload dX7_doMeet_170 rfl ?_
  refine x_iload dX7_doMeet_172 rfl ?_
  refine x_imul dX7_doMeet_174 ?_
  refine x_if_ge (tgt := 188) dX7_doMeet_175 (by decide) (fun c => ?_) (fun c => ?_)
  · replace h := h.1 c
    refine x_lv (lv' := [(0, aA v0), (1, aI v1), (2, aI v2), (3, aI v3), (4, aI v4), (5, aI x_36), (6, aI x_79), (7, aI x_122), (8, aI x_165)]) ⟨rfl, rfl, rfl, rfl, rfl, rfl, rfl, rfl, rfl, trivial⟩ ?_
    exact xX7_doMeet_188 hQ  _ _ _ _ _ _ _ _ _ _ h
  · replace h := h.2 c
    refine x_iload dX7_doMeet_178 rfl ?_
    refine x_iload dX7_doMeet_180 rfl ?_
    refine x_imul dX7_doMeet_182 ?_
    refine x_if_ge (tgt := 188) dX7_doMeet_183 (by decide) (fun c => ?_) (fun c => ?_)
    · replace h := h.1 c
      refine x_lv (lv' := [(0, aA v0), (1, aI v1), (2, aI v2), (3, aI v3), (4, aI v4), (5, aI x_36), (6, aI x_79), (7, aI x_122), (8, aI x_165)]) ⟨rfl, rfl, rfl, rfl, rfl, rfl, rfl, rfl, rfl, trivial⟩ ?_
      exact xX7_doMeet_188 hQ  _ _ _ _ _ _ _ _ _ _ h
    · replace h := h.2 c
      refine x_iconst (v := 1) dX7_doMeet_186 (by decide) ?_
      exact x_zret hQ rfl dX7_doMeet_187 ⟨Or.inr rfl, _, rfl, h⟩
set_option maxRecDepth 100000 in
set_option maxHeartbeats 4000000 in
theorem xX7_doFold_95 {E : en} {ad : Nat → Nat} {Post : Int32 → hs → Prop} (hQ : isQ E ad (pI Post))   (s0 : Int32) (S : hs) (h : PX7_doFold_95 Post  s0 S) : X E mX7_doFold 0 0 ad S 95 [] [aI s0] := by
  unfold PX7_doFold_95 at h
  exact x_zret hQ rfl dX7_doFold_95 ⟨h.1, _, rfl, h.2⟩
set_option maxRecDepth 100000 in
set_option maxHeartbeats 4000000 in
theorem xX7_doFold_94 {E : en} {ad : Nat → Nat} {Post : Int32 → hs → Prop} (hQ : isQ E ad (pI Post))    (S : hs) (h : PX7_doFold_94 Post   S) : X E mX7_doFold 0 0 ad S 94 [] [] := by
  unfold PX7_doFold_94 at h
  refine x_iconst (v := 0) dX7_doFold_94 (by decide) ?_
  refine x_lv (lv' := []) trivial ?_
  exact xX7_doFold_95 hQ  _ _ h
set_option maxRecDepth 100000 in
set_option maxHeartbeats 4000000 in
theorem ctX7_doFold {G : Launch × va_G × (Nat → ClassId) × Nat} {v0 : Nat} {v1 : Int32} {v2 : Int32} {v3 : Int32} {S : hs} {Post : Int32 → hs → Prop} (h : PX7_doFold v0 v1 v2 v3 S Post) : ctN G mX7_doFold [aA v0, aI v1, aI v2, aI v3] S (pI Post) := by
  refine ctN.of (by decide) (Nat.le_of_ble_eq_true rfl) (fun E ad hG hQ => ?_)
  subst hG
  unfold PX7_doFold at h
  refine x_aload_n dX7_doFold_0 rfl ?_
  obtain ⟨h1, r_1, hr_1, h⟩ := h
  refine x_g7_2 rfl dX7_doFold_1 h1 (x_un hr_1 ?_)
  refine x_iload_n dX7_doFold_4 rfl ?_
  refine x_lald dX7_doFold_5 h.1 ?_
  replace h := h.2
  refine x_aload_n dX7_doFold_6 rfl ?_
  obtain ⟨h1, r_7, hr_7, h⟩ := h
  refine x_g7_2 rfl dX7_doFold_7 h1 (x_un hr_7 ?_)
  refine x_iload_n dX7_doFold_10 rfl ?_
  refine x_lald dX7_doFold_11 h.1 ?_
  replace h := h.2
  refine x_lsub dX7_doFold_12 ?_
  refine x_nJ (fun v4_13 hv4_13 => ?_)
  replace h := h v4_13 hv4_13
  refine x_lstore dX7_doFold_13 (by decide) rfl ?_
  refine x_aload_n dX7_doFold_15 rfl ?_
  obtain ⟨h1, r_16, hr_16, h⟩ := h
  refine x_g7_3 rfl dX7_doFold_16 h1 (x_un hr_16 ?_)
  refine x_iload_n dX7_doFold_19 rfl ?_
  refine x_lald dX7_doFold_20 h.1 ?_
  replace h := h.2
  refine x_aload_n dX7_doFold_21 rfl ?_
  obtain ⟨h1, r_22, hr_22, h⟩ := h
  refine x_g7_3 rfl dX7_doFold_22 h1 (x_un hr_22 ?_)
  refine x_iload_n dX7_doFold_25 rfl ?_
  refine x_lald dX7_doFold_26 h.1 ?_
  replace h := h.2
  refine x_lsub dX7_doFold_27 ?_
  refine x_nJ (fun v6_28 hv6_28 => ?_)
  replace h := h v6_28 hv6_28
  refine x_lstore dX7_doFold_28 (by decide) rfl ?_
  refine x_aload_n dX7_doFold_30 rfl ?_
  obtain ⟨h1, r_31, hr_31, h⟩ := h
  refine x_g7_2 rfl dX7_doFold_31 h1 (x_un hr_31 ?_)
  refine x_iload_n dX7_doFold_34 rfl ?_
  refine x_lald dX7_doFold_35 h.1 ?_
  replace h := h.2
  refine x_aload_n dX7_doFold_36 rfl ?_
  obtain ⟨h1, r_37, hr_37, h⟩ := h
  refine x_g7_2 rfl dX7_doFold_37 h1 (x_un hr_37 ?_)
  refine x_iload_n dX7_doFold_40 rfl ?_
  refine x_lald dX7_doFold_41 h.1 ?_
  replace h := h.2
  refine x_lsub dX7_doFold_42 ?_
  refine x_nJ (fun v8_43 hv8_43 => ?_)
  replace h := h v8_43 hv8_43
  refine x_lstore dX7_doFold_43 (by decide) rfl ?_
  refine x_aload_n dX7_doFold_45 rfl ?_
  obtain ⟨h1, r_46, hr_46, h⟩ := h
  refine x_g7_3 rfl dX7_doFold_46 h1 (x_un hr_46 ?_)
  refine x_iload_n dX7_doFold_49 rfl ?_
  refine x_lald dX7_doFold_50 h.1 ?_
  replace h := h.2
  refine x_aload_n dX7_doFold_51 rfl ?_
  obtain ⟨h1, r_52, hr_52, h⟩ := h
  refine x_g7_3 rfl dX7_doFold_52 h1 (x_un hr_52 ?_)
  refine x_iload_n dX7_doFold_55 rfl ?_
  refine x_lald dX7_doFold_56 h.1 ?_
  replace h := h.2
  refine x_lsub dX7_doFold_57 ?_
  refine x_nJ (fun v10_58 hv10_58 => ?_)
  replace h := h v10_58 hv10_58
  refine x_lstore dX7_doFold_58 (by decide) rfl ?_
  refine x_lload dX7_doFold_60 rfl ?_
  refine x_lload dX7_doFold_62 rfl ?_
  refine x_lmul dX7_doFold_64 ?_
  refine x_lload dX7_doFold_65 rfl ?_
  refine x_lload dX7_doFold_67 rfl ?_
  refine x_lmul dX7_doFold_69 ?_
  refine x_lcmp_ne (tgt := 94) dX7_doFold_70 dX7_doFold_71 (by decide) (fun c => ?_) (fun c => ?_)
  · replace h := h.2 c
    refine x_lv (lv' := []) trivial ?_
    exact xX7_doFold_94 hQ   _ h
  · replace h := h.1 c
    refine x_lload dX7_doFold_74 rfl ?_
    refine x_lload dX7_doFold_76 rfl ?_
    refine x_lmul dX7_doFold_78 ?_
    refine x_lload dX7_doFold_79 rfl ?_
    refine x_lload dX7_doFold_81 rfl ?_
    refine x_lmul dX7_doFold_83 ?_
    refine x_ladd dX7_doFold_84 ?_
    refine x_lconst (v := 0) dX7_doFold_85 (by decide) ?_
    refine x_lcmp_le (tgt := 94) dX7_doFold_86 dX7_doFold_87 (by decide) (fun c => ?_) (fun c => ?_)
    · replace h := h.1 c
      refine x_lv (lv' := []) trivial ?_
      exact xX7_doFold_94 hQ   _ h
    · replace h := h.2 c
      refine x_iconst (v := 1) dX7_doFold_90 (by decide) ?_
      refine x_goto (tgt := 95) dX7_doFold_91 (by decide) ?_
      refine x_lv (lv' := []) trivial ?_
      exact xX7_doFold_95 hQ  _ _ h
