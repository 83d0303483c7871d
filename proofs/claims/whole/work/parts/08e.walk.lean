set_option maxRecDepth 100000 in
set_option maxHeartbeats 4000000 in
theorem xX4_beginOf_22 {E : en} {ad : Nat → Nat} {Post : Int32 → hs → Prop} (hQ : isQ E ad (pI Post))   (s0 : Int32) (S : hs) (h : PX4_beginOf_22 Post  s0 S) : X E mX4_beginOf 0 0 ad S 22 [] [aI s0] := by
  unfold PX4_beginOf_22 at h
  exact x_iret hQ rfl dX4_beginOf_22 ⟨_, rfl, h⟩
set_option maxRecDepth 100000 in
set_option maxHeartbeats 4000000 in
theorem xX4_beginOf_21 {E : en} {ad : Nat → Nat} {Post : Int32 → hs → Prop} (hQ : isQ E ad (pI Post))    (S : hs) (h : PX4_beginOf_21 Post   S) : X E mX4_beginOf 0 0 ad S 21 [] [] := by
  unfold PX4_beginOf_21 at h
  refine x_iconst (v := 0) dX4_beginOf_21 (by decide) ?_
  refine x_lv (lv' := []) trivial ?_
  exact xX4_beginOf_22 hQ  _ _ h
set_option maxRecDepth 100000 in
set_option maxHeartbeats 4000000 in
theorem ctX4_beginOf {G : Launch × va_G × (Nat → ClassId) × Nat} {v0 : Nat} {v1 : Int32} {S : hs} {Post : Int32 → hs → Prop} (h : PX4_beginOf v0 v1 S Post) : ctN G mX4_beginOf [aA v0, aI v1] S (pI Post) := by
  refine ctN.of (by decide) (Nat.le_of_ble_eq_true rfl) (fun E ad hG hQ => ?_)
  subst hG
  unfold PX4_beginOf at h
  refine x_iload_n dX4_beginOf_0 rfl ?_
  refine x_if_lt (tgt := 21) dX4_beginOf_1 (by decide) (fun c => ?_) (fun c => ?_)
  · replace h := h.1 c
    refine x_lv (lv' := []) trivial ?_
    exact xX4_beginOf_21 hQ   _ h
  · replace h := h.2 c
    refine x_iload_n dX4_beginOf_4 rfl ?_
    refine x_aload_n dX4_beginOf_5 rfl ?_
    refine x_g4_5 rfl dX4_beginOf_6 h.1 ?_
    replace h := h.2
    refine x_icmp_ge (tgt := 21) dX4_beginOf_9 (by decide) (fun c => ?_) (fun c => ?_)
    · replace h := h.1 c
      refine x_lv (lv' := []) trivial ?_
      exact xX4_beginOf_21 hQ   _ h
    · replace h := h.2 c
      refine x_aload_n dX4_beginOf_12 rfl ?_
      obtain ⟨h1, r_13, hr_13, h⟩ := h
      refine x_g4_3 rfl dX4_beginOf_13 h1 (x_un hr_13 ?_)
      refine x_iload_n dX4_beginOf_16 rfl ?_
      refine x_iald dX4_beginOf_17 h.1 ?_
      replace h := h.2
      refine x_goto (tgt := 22) dX4_beginOf_18 (by decide) ?_
      refine x_lv (lv' := []) trivial ?_
      exact xX4_beginOf_22 hQ  _ _ h
set_option maxRecDepth 100000 in
set_option maxHeartbeats 4000000 in
theorem xX4_endOf_22 {E : en} {ad : Nat → Nat} {Post : Int32 → hs → Prop} (hQ : isQ E ad (pI Post))   (s0 : Int32) (S : hs) (h : PX4_endOf_22 Post  s0 S) : X E mX4_endOf 0 0 ad S 22 [] [aI s0] := by
  unfold PX4_endOf_22 at h
  exact x_iret hQ rfl dX4_endOf_22 ⟨_, rfl, h⟩
set_option maxRecDepth 100000 in
set_option maxHeartbeats 4000000 in
theorem xX4_endOf_21 {E : en} {ad : Nat → Nat} {Post : Int32 → hs → Prop} (hQ : isQ E ad (pI Post))    (S : hs) (h : PX4_endOf_21 Post   S) : X E mX4_endOf 0 0 ad S 21 [] [] := by
  unfold PX4_endOf_21 at h
  refine x_iconst (v := 0) dX4_endOf_21 (by decide) ?_
  refine x_lv (lv' := []) trivial ?_
  exact xX4_endOf_22 hQ  _ _ h
set_option maxRecDepth 100000 in
set_option maxHeartbeats 4000000 in
theorem ctX4_endOf {G : Launch × va_G × (Nat → ClassId) × Nat} {v0 : Nat} {v1 : Int32} {S : hs} {Post : Int32 → hs → Prop} (h : PX4_endOf v0 v1 S Post) : ctN G mX4_endOf [aA v0, aI v1] S (pI Post) := by
  refine ctN.of (by decide) (Nat.le_of_ble_eq_true rfl) (fun E ad hG hQ => ?_)
  subst hG
  unfold PX4_endOf at h
  refine x_iload_n dX4_endOf_0 rfl ?_
  refine x_if_lt (tgt := 21) dX4_endOf_1 (by decide) (fun c => ?_) (fun c => ?_)
  · replace h := h.1 c
    refine x_lv (lv' := []) trivial ?_
    exact xX4_endOf_21 hQ   _ h
  · replace h := h.2 c
    refine x_iload_n dX4_endOf_4 rfl ?_
    refine x_aload_n dX4_endOf_5 rfl ?_
    refine x_g4_5 rfl dX4_endOf_6 h.1 ?_
    replace h := h.2
    refine x_icmp_ge (tgt := 21) dX4_endOf_9 (by decide) (fun c => ?_) (fun c => ?_)
    · replace h := h.1 c
      refine x_lv (lv' := []) trivial ?_
      exact xX4_endOf_21 hQ   _ h
    · replace h := h.2 c
      refine x_aload_n dX4_endOf_12 rfl ?_
      obtain ⟨h1, r_13, hr_13, h⟩ := h
      refine x_g4_4 rfl dX4_endOf_13 h1 (x_un hr_13 ?_)
      refine x_iload_n dX4_endOf_16 rfl ?_
      refine x_iald dX4_endOf_17 h.1 ?_
      replace h := h.2
      refine x_goto (tgt := 22) dX4_endOf_18 (by decide) ?_
      refine x_lv (lv' := []) trivial ?_
      exact xX4_endOf_22 hQ  _ _ h
set_option maxRecDepth 100000 in
set_option maxHeartbeats 4000000 in
theorem xX4_isPieceBegin_9 {E : en} {ad : Nat → Nat} {Post : Int32 → hs → Prop} (hQ : isQ E ad (pI Post))   (s0 : Int32) (S : hs) (h : PX4_isPieceBegin_9 Post  s0 S) : X E mX4_isPieceBegin 0 0 ad S 9 [] [aI s0] := by
  unfold PX4_isPieceBegin_9 at h
  exact x_zret hQ rfl dX4_isPieceBegin_9 ⟨h.1, _, rfl, h.2⟩
set_option maxRecDepth 100000 in
set_option maxHeartbeats 4000000 in
theorem ctX4_isPieceBegin {G : Launch × va_G × (Nat → ClassId) × Nat} {v0 : Nat} {v1 : Int32} {S : hs} {Post : Int32 → hs → Prop} (h : PX4_isPieceBegin v0 v1 S Post) : ctN G mX4_isPieceBegin [aA v0, aI v1] S (pI Post) := by
  refine ctN.of (by decide) (Nat.le_of_ble_eq_true rfl) (fun E ad hG hQ => ?_)
  subst hG
  unfold PX4_isPieceBegin at h
  refine x_iload_n dX4_isPieceBegin_0 rfl ?_
  refine x_if_ne (tgt := 8) dX4_isPieceBegin_1 (by decide) (fun c => ?_) (fun c => ?_)
  · replace h := h.2 c
    refine x_iconst (v := 0) dX4_isPieceBegin_8 (by decide) ?_
    refine x_lv (lv' := []) trivial ?_
    exact xX4_isPieceBegin_9 hQ  _ _ h
  · replace h := h.1 c
    refine x_iconst (v := 1) dX4_isPieceBegin_4 (by decide) ?_
    refine x_goto (tgt := 9) dX4_isPieceBegin_5 (by decide) ?_
    refine x_lv (lv' := []) trivial ?_
    exact xX4_isPieceBegin_9 hQ  _ _ h
set_option maxRecDepth 100000 in
set_option maxHeartbeats 4000000 in
theorem xX4_isPieceEnd_15 {E : en} {ad : Nat → Nat} {Post : Int32 → hs → Prop} (hQ : isQ E ad (pI Post))   (s0 : Int32) (S : hs) (h : PX4_isPieceEnd_15 Post  s0 S) : X E mX4_isPieceEnd 0 0 ad S 15 [] [aI s0] := by
  unfold PX4_isPieceEnd_15 at h
  exact x_zret hQ rfl dX4_isPieceEnd_15 ⟨h.1, _, rfl, h.2⟩
set_option maxRecDepth 100000 in
set_option maxHeartbeats 4000000 in
theorem ctX4_isPieceEnd {G : Launch × va_G × (Nat → ClassId) × Nat} {v0 : Nat} {v1 : Int32} {S : hs} {Post : Int32 → hs → Prop} (h : PX4_isPieceEnd v0 v1 S Post) : ctN G mX4_isPieceEnd [aA v0, aI v1] S (pI Post) := by
  refine ctN.of (by decide) (Nat.le_of_ble_eq_true rfl) (fun E ad hG hQ => ?_)
  subst hG
  unfold PX4_isPieceEnd at h
  refine x_iload_n dX4_isPieceEnd_0 rfl ?_
  refine x_aload_n dX4_isPieceEnd_1 rfl ?_
  refine x_g4_2 rfl dX4_isPieceEnd_2 h.1 ?_
  replace h := h.2
  refine x_iconst (v := 1) dX4_isPieceEnd_5 (by decide) ?_
  refine x_isub dX4_isPieceEnd_6 ?_
  refine x_icmp_ne (tgt := 14) dX4_isPieceEnd_7 (by decide) (fun c => ?_) (fun c => ?_)
  · replace h := h.2 c
    refine x_iconst (v := 0) dX4_isPieceEnd_14 (by decide) ?_
    refine x_lv (lv' := []) trivial ?_
    exact xX4_isPieceEnd_15 hQ  _ _ h
  · replace h := h.1 c
    refine x_iconst (v := 1) dX4_isPieceEnd_10 (by decide) ?_
    refine x_goto (tgt := 15) dX4_isPieceEnd_11 (by decide) ?_
    refine x_lv (lv' := []) trivial ?_
    exact xX4_isPieceEnd_15 hQ  _ _ h
set_option maxRecDepth 100000 in
set_option maxHeartbeats 4000000 in
theorem xX4_overOf_22 {E : en} {ad : Nat → Nat} {Post : Int64 → hs → Prop} (hQ : isQ E ad (pJ Post))   (s0 : Int64) (S : hs) (h : PX4_overOf_22 Post  s0 S) : X E mX4_overOf 0 0 ad S 22 [] [aJ s0] := by
  unfold PX4_overOf_22 at h
  exact x_lret hQ rfl dX4_overOf_22 ⟨_, rfl, h⟩
set_option maxRecDepth 100000 in
set_option maxHeartbeats 4000000 in
theorem xX4_overOf_21 {E : en} {ad : Nat → Nat} {Post : Int64 → hs → Prop} (hQ : isQ E ad (pJ Post))    (S : hs) (h : PX4_overOf_21 Post   S) : X E mX4_overOf 0 0 ad S 21 [] [] := by
  unfold PX4_overOf_21 at h
  refine x_lconst (v := 0) dX4_overOf_21 (by decide) ?_
  refine x_lv (lv' := []) trivial ?_
  exact xX4_overOf_22 hQ  _ _ h
set_option maxRecDepth 100000 in
set_option maxHeartbeats 4000000 in
theorem ctX4_overOf {G : Launch × va_G × (Nat → ClassId) × Nat} {v0 : Nat} {v1 : Int32} {S : hs} {Post : Int64 → hs → Prop} (h : PX4_overOf v0 v1 S Post) : ctN G mX4_overOf [aA v0, aI v1] S (pJ Post) := by
  refine ctN.of (by decide) (Nat.le_of_ble_eq_true rfl) (fun E ad hG hQ => ?_)
  subst hG
  unfold PX4_overOf at h
  refine x_iload_n dX4_overOf_0 rfl ?_
  refine x_if_lt (tgt := 21) dX4_overOf_1 (by decide) (fun c => ?_) (fun c => ?_)
  · replace h := h.1 c
    refine x_lv (lv' := []) trivial ?_
    exact xX4_overOf_21 hQ   _ h
  · replace h := h.2 c
    refine x_iload_n dX4_overOf_4 rfl ?_
    refine x_aload_n dX4_overOf_5 rfl ?_
    refine x_g4_2 rfl dX4_overOf_6 h.1 ?_
    replace h := h.2
    refine x_icmp_ge (tgt := 21) dX4_overOf_9 (by decide) (fun c => ?_) (fun c => ?_)
    · replace h := h.1 c
      refine x_lv (lv' := []) trivial ?_
      exact xX4_overOf_21 hQ   _ h
    · replace h := h.2 c
      refine x_aload_n dX4_overOf_12 rfl ?_
      obtain ⟨h1, r_13, hr_13, h⟩ := h
      refine x_g4_0 rfl dX4_overOf_13 h1 (x_un hr_13 ?_)
      refine x_iload_n dX4_overOf_16 rfl ?_
      refine x_lald dX4_overOf_17 h.1 ?_
      replace h := h.2
      refine x_goto (tgt := 22) dX4_overOf_18 (by decide) ?_
      refine x_lv (lv' := []) trivial ?_
      exact xX4_overOf_22 hQ  _ _ h
set_option maxRecDepth 100000 in
set_option maxHeartbeats 4000000 in
theorem xX4_underOf_22 {E : en} {ad : Nat → Nat} {Post : Int64 → hs → Prop} (hQ : isQ E ad (pJ Post))   (s0 : Int64) (S : hs) (h : PX4_underOf_22 Post  s0 S) : X E mX4_underOf 0 0 ad S 22 [] [aJ s0] := by
  unfold PX4_underOf_22 at h
  exact x_lret hQ rfl dX4_underOf_22 ⟨_, rfl, h⟩
set_option maxRecDepth 100000 in
set_option maxHeartbeats 4000000 in
theorem xX4_underOf_21 {E : en} {ad : Nat → Nat} {Post : Int64 → hs → Prop} (hQ : isQ E ad (pJ Post))    (S : hs) (h : PX4_underOf_21 Post   S) : X E mX4_underOf 0 0 ad S 21 [] [] := by
  unfold PX4_underOf_21 at h
  refine x_lconst (v := 1) dX4_underOf_21 (by decide) ?_
  refine x_lv (lv' := []) trivial ?_
  exact xX4_underOf_22 hQ  _ _ h
set_option maxRecDepth 100000 in
set_option maxHeartbeats 4000000 in
theorem ctX4_underOf {G : Launch × va_G × (Nat → ClassId) × Nat} {v0 : Nat} {v1 : Int32} {S : hs} {Post : Int64 → hs → Prop} (h : PX4_underOf v0 v1 S Post) : ctN G mX4_underOf [aA v0, aI v1] S (pJ Post) := by
  refine ctN.of (by decide) (Nat.le_of_ble_eq_true rfl) (fun E ad hG hQ => ?_)
  subst hG
  unfold PX4_underOf at h
  refine x_iload_n dX4_underOf_0 rfl ?_
  refine x_if_lt (tgt := 21) dX4_underOf_1 (by decide) (fun c => ?_) (fun c => ?_)
  · replace h := h.1 c
    refine x_lv (lv' := []) trivial ?_
    exact xX4_underOf_21 hQ   _ h
  · replace h := h.2 c
    refine x_iload_n dX4_underOf_4 rfl ?_
    refine x_aload_n dX4_underOf_5 rfl ?_
    refine x_g4_2 rfl dX4_underOf_6 h.1 ?_
    replace h := h.2
    refine x_icmp_ge (tgt := 21) dX4_underOf_9 (by decide) (fun c => ?_) (fun c => ?_)
    · replace h := h.1 c
      refine x_lv (lv' := []) trivial ?_
      exact xX4_underOf_21 hQ   _ h
    · replace h := h.2 c
      refine x_aload_n dX4_underOf_12 rfl ?_
      obtain ⟨h1, r_13, hr_13, h⟩ := h
      refine x_g4_1 rfl dX4_underOf_13 h1 (x_un hr_13 ?_)
      refine x_iload_n dX4_underOf_16 rfl ?_
      refine x_lald dX4_underOf_17 h.1 ?_
      replace h := h.2
      refine x_goto (tgt := 22) dX4_underOf_18 (by decide) ?_
      refine x_lv (lv' := []) trivial ?_
      exact xX4_underOf_22 hQ  _ _ h
set_option maxRecDepth 100000 in
set_option maxHeartbeats 4000000 in
theorem xX4_shareOf_76 {E : en} {ad : Nat → Nat} {Post : Int64 → hs → Prop} (hQ : isQ E ad (pJ Post))   (s0 : Int64) (S : hs) (h : PX4_shareOf_76 Post  s0 S) : X E mX4_shareOf 0 0 ad S 76 [] [aJ s0] := by
  unfold PX4_shareOf_76 at h
  exact x_lret hQ rfl dX4_shareOf_76 ⟨_, rfl, h⟩
set_option maxRecDepth 100000 in
set_option maxHeartbeats 4000000 in
theorem ctX4_shareOf {G : Launch × va_G × (Nat → ClassId) × Nat} {v0 : Nat} {v1 : Int32} {v2 : Int64} {S : hs} {Post : Int64 → hs → Prop} (h : PX4_shareOf v0 v1 v2 S Post) : ctN G mX4_shareOf [aA v0, aI v1, aJ v2] S (pJ Post) := by
  refine ctN.of (by decide) (Nat.le_of_ble_eq_true rfl) (fun E ad hG hQ => ?_)
  subst hG
  unfold PX4_shareOf at h
  refine x_aload_n dX4_shareOf_0 rfl ?_
  refine x_iload_n dX4_shareOf_1 rfl ?_
  obtain ⟨h1, h⟩ := h
  refine x_callVI (As := [aI v1]) (st := []) kX4_110 rfl ⟨rfl, rfl, by decide, by decide⟩ dX4_shareOf_2 rfl (Nat.le_of_ble_eq_true rfl) ⟨Nat.zero_le _, Nat.zero_le _⟩ h1 (ctX4_beginOf h) (fun x_2 S_2 h => ?_)
  refine x_istore dX4_shareOf_5 (by decide) rfl ?_
  refine x_aload_n dX4_shareOf_7 rfl ?_
  refine x_iload_n dX4_shareOf_8 rfl ?_
  obtain ⟨h1, h⟩ := h
  refine x_callVI (As := [aI v1]) (st := []) kX4_113 rfl ⟨rfl, rfl, by decide, by decide⟩ dX4_shareOf_9 rfl (Nat.le_of_ble_eq_true rfl) ⟨Nat.zero_le _, Nat.zero_le _⟩ h1 (ctX4_endOf h) (fun x_9 S_9 h => ?_)
  refine x_istore dX4_shareOf_12 (by decide) rfl ?_
  refine x_aload_n dX4_shareOf_14 rfl ?_
  refine x_iload dX4_shareOf_15 rfl ?_
  obtain ⟨h1, h⟩ := h
  refine x_callVJ (As := [aI x_2]) (st := []) kX4_116 rfl ⟨rfl, rfl, by decide, by decide⟩ dX4_shareOf_17 rfl (Nat.le_of_ble_eq_true rfl) ⟨Nat.zero_le _, Nat.zero_le _⟩ h1 (ctX4_underOf h) (fun x_17 S_17 h => ?_)
  refine x_aload_n dX4_shareOf_20 rfl ?_
  refine x_iload dX4_shareOf_21 rfl ?_
  obtain ⟨h1, h⟩ := h
  refine x_callVJ (As := [aI x_9]) (st := [aJ x_17]) kX4_116 rfl ⟨rfl, rfl, by decide, by decide⟩ dX4_shareOf_23 rfl (Nat.le_of_ble_eq_true rfl) ⟨Nat.zero_le _, Nat.zero_le _⟩ h1 (ctX4_underOf h) (fun x_23 S_23 h => ?_)
  refine x_lmul dX4_shareOf_26 ?_
  refine x_nJ (fun v6_27 hv6_27 => ?_)
  replace h := h v6_27 hv6_27
  refine x_lstore dX4_shareOf_27 (by decide) rfl ?_
  refine x_aload_n dX4_shareOf_29 rfl ?_
  refine x_iload dX4_shareOf_30 rfl ?_
  obtain ⟨h1, h⟩ := h
  refine x_callVJ (As := [aI x_9]) (st := []) kX4_119 rfl ⟨rfl, rfl, by decide, by decide⟩ dX4_shareOf_32 rfl (Nat.le_of_ble_eq_true rfl) ⟨Nat.zero_le _, Nat.zero_le _⟩ h1 (ctX4_overOf h) (fun x_32 S_32 h => ?_)
  refine x_aload_n dX4_shareOf_35 rfl ?_
  refine x_iload dX4_shareOf_36 rfl ?_
  obtain ⟨h1, h⟩ := h
  refine x_callVJ (As := [aI x_2]) (st := [aJ x_32]) kX4_116 rfl ⟨rfl, rfl, by decide, by decide⟩ dX4_shareOf_38 rfl (Nat.le_of_ble_eq_true rfl) ⟨Nat.zero_le _, Nat.zero_le _⟩ h1 (ctX4_underOf h) (fun x_38 S_38 h => ?_)
  refine x_lmul dX4_shareOf_41 ?_
  refine x_aload_n dX4_shareOf_42 rfl ?_
  refine x_iload dX4_shareOf_43 rfl ?_
  obtain ⟨h1, h⟩ := h
  refine x_callVJ (As := [aI x_2]) (st := [aJ (x_32 * x_38)]) kX4_119 rfl ⟨rfl, rfl, by decide, by decide⟩ dX4_shareOf_45 rfl (Nat.le_of_ble_eq_true rfl) ⟨Nat.zero_le _, Nat.zero_le _⟩ h1 (ctX4_overOf h) (fun x_45 S_45 h => ?_)
  refine x_aload_n dX4_shareOf_48 rfl ?_
  refine x_iload dX4_shareOf_49 rfl ?_
  obtain ⟨h1, h⟩ := h
  refine x_callVJ (As := [aI x_9]) (st := [aJ x_45, aJ (x_32 * x_38)]) kX4_116 rfl ⟨rfl, rfl, by decide, by decide⟩ dX4_shareOf_51 rfl (Nat.le_of_ble_eq_true rfl) ⟨Nat.zero_le _, Nat.zero_le _⟩ h1 (ctX4_underOf h) (fun x_51 S_51 h => ?_)
  refine x_lmul dX4_shareOf_54 ?_
  refine x_lsub dX4_shareOf_55 ?_
  refine x_nJ (fun v8_56 hv8_56 => ?_)
  replace h := h v8_56 hv8_56
  refine x_lstore dX4_shareOf_56 (by decide) rfl ?_
  refine x_lload dX4_shareOf_58 rfl ?_
  refine x_lconst (v := 0) dX4_shareOf_60 (by decide) ?_
  refine x_lcmp_le (tgt := 75) dX4_shareOf_61 dX4_shareOf_62 (by decide) (fun c => ?_) (fun c => ?_)
  · replace h := h.1 c
    refine x_lconst (v := 0) dX4_shareOf_75 (by decide) ?_
    refine x_lv (lv' := []) trivial ?_
    exact xX4_shareOf_76 hQ  _ _ h
  · replace h := h.2 c
    refine x_lload dX4_shareOf_65 rfl ?_
    refine x_lload_n dX4_shareOf_67 rfl ?_
    refine x_lmul dX4_shareOf_68 ?_
    refine x_lload dX4_shareOf_69 rfl ?_
    refine x_ldiv dX4_shareOf_71 h.1 ?_
    replace h := h.2
    refine x_goto (tgt := 76) dX4_shareOf_72 (by decide) ?_
    refine x_lv (lv' := []) trivial ?_
    exact xX4_shareOf_76 hQ  _ _ h
set_option maxRecDepth 100000 in
set_option maxHeartbeats 4000000 in
theorem xX5_add_50 {E : en} {ad : Nat → Nat} {Post : Int32 → hs → Prop} (hQ : isQ E ad (pI Post))   (v0 : Nat) (v1 : Int64) (v3 : Int32) (v4 : Int32) (S : hs) (h : PX5_add_50 Post  v0 v1 v3 v4 S) : X E mX5_add 0 0 ad S 50 [(0, aA v0), (1, aJ v1), (3, aI v3), (4, aI v4)] [] := by
  unfold PX5_add_50 at h
  refine x_aload_n dX5_add_50 rfl ?_
  obtain ⟨h1, r_51, hr_51, h⟩ := h
  refine x_g5_0 rfl dX5_add_51 h1 (x_un hr_51 ?_)
  refine x_aload_n dX5_add_54 rfl ?_
  refine x_g5_3 rfl dX5_add_55 h.1 ?_
  replace h := h.2
  refine x_lload_n dX5_add_58 rfl ?_
  obtain ⟨h1, h⟩ := h
  refine x_last dX5_add_59 h1 (x_nS (fun S_59 hS_59 => ?_))
  replace h := h S_59 hS_59
  refine x_aload_n dX5_add_60 rfl ?_
  obtain ⟨h1, r_61, hr_61, h⟩ := h
  refine x_g5_1 rfl dX5_add_61 h1 (x_un hr_61 ?_)
  refine x_aload_n dX5_add_64 rfl ?_
  refine x_g5_3 rfl dX5_add_65 h.1 ?_
  replace h := h.2
  refine x_iload_n dX5_add_68 rfl ?_
  obtain ⟨h1, h⟩ := h
  refine x_iast dX5_add_69 h1 (x_nS (fun S_69 hS_69 => ?_))
  replace h := h S_69 hS_69
  refine x_aload_n dX5_add_70 rfl ?_
  obtain ⟨h1, r_71, hr_71, h⟩ := h
  refine x_g5_2 rfl dX5_add_71 h1 (x_un hr_71 ?_)
  refine x_aload_n dX5_add_74 rfl ?_
  refine x_g5_3 rfl dX5_add_75 h.1 ?_
  replace h := h.2
  refine x_iload dX5_add_78 rfl ?_
  obtain ⟨h1, h⟩ := h
  refine x_iast dX5_add_80 h1 (x_nS (fun S_80 hS_80 => ?_))
  replace h := h S_80 hS_80
  refine x_aload_n dX5_add_81 rfl ?_
  refine x_dupR dX5_add_82 ?_
  refine x_g5_3 rfl dX5_add_83 h.1 ?_
  replace h := h.2
  refine x_iconst (v := 1) dX5_add_86 (by decide) ?_
  refine x_iadd dX5_add_87 ?_
  obtain ⟨h1, h⟩ := h
  refine x_p5_3 rfl dX5_add_88 h1 (x_nS (fun S_88 hS_88 => ?_))
  replace h := h S_88 hS_88
  refine x_iconst (v := 1) dX5_add_91 (by decide) ?_
  exact x_zret hQ rfl dX5_add_92 ⟨Or.inr rfl, _, rfl, h⟩
set_option maxRecDepth 100000 in
set_option maxHeartbeats 4000000 in
theorem xX5_add_23 {E : en} {ad : Nat → Nat} {Post : Int32 → hs → Prop} (hQ : isQ E ad (pI Post))    (S : hs) (h : PX5_add_23 Post   S) : X E mX5_add 0 0 ad S 23 [] [] := by
  unfold PX5_add_23 at h
  refine x_iconst (v := 0) dX5_add_23 (by decide) ?_
  exact x_zret hQ rfl dX5_add_24 ⟨Or.inl rfl, _, rfl, h⟩
set_option maxRecDepth 100000 in
set_option maxHeartbeats 4000000 in
theorem ctX5_add {G : Launch × va_G × (Nat → ClassId) × Nat} {v0 : Nat} {v1 : Int64} {v3 : Int32} {v4 : Int32} {S : hs} {Post : Int32 → hs → Prop} (h : PX5_add v0 v1 v3 v4 S Post) : ctN G mX5_add [aA v0, aJ v1, aI v3, aI v4] S (pI Post) := by
  refine ctN.of (by decide) (Nat.le_of_ble_eq_true rfl) (fun E ad hG hQ => ?_)
  subst hG
  unfold PX5_add at h
  refine x_aload_n dX5_add_0 rfl ?_
  refine x_g5_3 rfl dX5_add_1 h.1 ?_
  replace h := h.2
  refine x_bipush (v := 30) dX5_add_4 (by decide) ?_
  refine x_icmp_ge (tgt := 23) dX5_add_6 (by decide) (fun c => ?_) (fun c => ?_)
  · replace h := h.1 c
    refine x_lv (lv' := []) trivial ?_
    exact xX5_add_23 hQ   _ h
  · replace h := h.2 c
    refine x_lload_n dX5_add_9 rfl ?_
    refine x_lconst (v := 0) dX5_add_10 (by decide) ?_
    refine x_lcmp_lt (tgt := 23) dX5_add_11 dX5_add_12 (by decide) (fun c => ?_) (fun c => ?_)
    · replace h := h.1 c
      refine x_lv (lv' := []) trivial ?_
      exact xX5_add_23 hQ   _ h
    · replace h := h.2 c
      refine x_lload_n dX5_add_15 rfl ?_
      refine x_ldc2 (v := 40000000) dX5_add_16 kcX5_24 ?_
      refine x_lcmp_le (tgt := 25) dX5_add_19 dX5_add_20 (by decide) (fun c => ?_) (fun c => ?_)
      · replace h := h.1 c
        refine x_aload_n dX5_add_25 rfl ?_
        refine x_g5_3 rfl dX5_add_26 h.1 ?_
        replace h := h.2
        refine x_if_le (tgt := 50) dX5_add_29 (by decide) (fun c => ?_) (fun c => ?_)
        · replace h := h.1 c
          refine x_lv (lv' := [(0, aA v0), (1, aJ v1), (3, aI v3), (4, aI v4)]) ⟨rfl, rfl, rfl, rfl, trivial⟩ ?_
          exact xX5_add_50 hQ  _ _ _ _ _ h
        · replace h := h.2 c
          refine x_lload_n dX5_add_32 rfl ?_
          refine x_aload_n dX5_add_33 rfl ?_
          obtain ⟨h1, r_34, hr_34, h⟩ := h
          refine x_g5_0 rfl dX5_add_34 h1 (x_un hr_34 ?_)
          refine x_aload_n dX5_add_37 rfl ?_
          refine x_g5_3 rfl dX5_add_38 h.1 ?_
          replace h := h.2
          refine x_iconst (v := 1) dX5_add_41 (by decide) ?_
          refine x_isub dX5_add_42 ?_
          refine x_lald dX5_add_43 h.1 ?_
          replace h := h.2
          refine x_lcmp_gt (tgt := 50) dX5_add_44 dX5_add_45 (by decide) (fun c => ?_) (fun c => ?_)
          · replace h := h.1 c
            refine x_lv (lv' := [(0, aA v0), (1, aJ v1), (3, aI v3), (4, aI v4)]) ⟨rfl, rfl, rfl, rfl, trivial⟩ ?_
            exact xX5_add_50 hQ  _ _ _ _ _ h
          · replace h := h.2 c
            refine x_iconst (v := 0) dX5_add_48 (by decide) ?_
            exact x_zret hQ rfl dX5_add_49 ⟨Or.inl rfl, _, rfl, h⟩
      · replace h := h.2 c
        refine x_lv (lv' := []) trivial ?_
        exact xX5_add_23 hQ   _ h
set_option maxRecDepth 100000 in
set_option maxHeartbeats 4000000 in
theorem ctX5_places {G : Launch × va_G × (Nat → ClassId) × Nat} {v0 : Nat} {S : hs} {Post : Int32 → hs → Prop} (h : PX5_places v0 S Post) : ctN G mX5_places [aA v0] S (pI Post) := by
  refine ctN.of (by decide) (Nat.le_of_ble_eq_true rfl) (fun E ad hG hQ => ?_)
  subst hG
  unfold PX5_places at h
  refine x_aload_n dX5_places_0 rfl ?_
  refine x_g5_3 rfl dX5_places_1 h.1 ?_
  replace h := h.2
  exact x_iret hQ rfl dX5_places_4 ⟨_, rfl, h⟩
set_option maxRecDepth 100000 in
set_option maxHeartbeats 4000000 in
theorem ctX5_pieces {G : Launch × va_G × (Nat → ClassId) × Nat} {v0 : Nat} {S : hs} {Post : Int32 → hs → Prop} (h : PX5_pieces v0 S Post) : ctN G mX5_pieces [aA v0] S (pI Post) := by
  refine ctN.of (by decide) (Nat.le_of_ble_eq_true rfl) (fun E ad hG hQ => ?_)
  subst hG
  unfold PX5_pieces at h
  refine x_iconst (v := 0) dX5_pieces_0 (by decide) ?_
  refine x_aload_n dX5_pieces_1 rfl ?_
  refine x_g5_3 rfl dX5_pieces_2 h.1 ?_
  replace h := h.2
  refine x_iconst (v := 1) dX5_pieces_5 (by decide) ?_
  refine x_isub dX5_pieces_6 ?_
  refine x_mmax kX5_26 rfl ⟨by decide, by decide⟩ dX5_pieces_7 (Nat.le_of_ble_eq_true rfl) ⟨Nat.zero_le _, Nat.zero_le _⟩ ?_
  refine x_nI (fun u_7 hu_7 => ?_)
  replace h := h u_7 hu_7
  exact x_iret hQ rfl dX5_pieces_10 ⟨_, rfl, h⟩
set_option maxRecDepth 100000 in
set_option maxHeartbeats 4000000 in
theorem xX5_hasPiece_19 {E : en} {ad : Nat → Nat} {Post : Int32 → hs → Prop} (hQ : isQ E ad (pI Post))   (s0 : Int32) (S : hs) (h : PX5_hasPiece_19 Post  s0 S) : X E mX5_hasPiece 0 0 ad S 19 [] [aI s0] := by
  unfold PX5_hasPiece_19 at h
  exact x_zret hQ rfl dX5_hasPiece_19 ⟨h.1, _, rfl, h.2⟩
set_option maxRecDepth 100000 in
set_option maxHeartbeats 4000000 in
theorem xX5_hasPiece_18 {E : en} {ad : Nat → Nat} {Post : Int32 → hs → Prop} (hQ : isQ E ad (pI Post))    (S : hs) (h : PX5_hasPiece_18 Post   S) : X E mX5_hasPiece 0 0 ad S 18 [] [] := by
  unfold PX5_hasPiece_18 at h
  refine x_iconst (v := 0) dX5_hasPiece_18 (by decide) ?_
  refine x_lv (lv' := []) trivial ?_
  exact xX5_hasPiece_19 hQ  _ _ h
set_option maxRecDepth 100000 in
set_option maxHeartbeats 4000000 in
theorem ctX5_hasPiece {G : Launch × va_G × (Nat → ClassId) × Nat} {v0 : Nat} {v1 : Int32} {S : hs} {Post : Int32 → hs → Prop} (h : PX5_hasPiece v0 v1 S Post) : ctN G mX5_hasPiece [aA v0, aI v1] S (pI Post) := by
  refine ctN.of (by decide) (Nat.le_of_ble_eq_true rfl) (fun E ad hG hQ => ?_)
  subst hG
  unfold PX5_hasPiece at h
  refine x_iload_n dX5_hasPiece_0 rfl ?_
  refine x_if_lt (tgt := 18) dX5_hasPiece_1 (by decide) (fun c => ?_) (fun c => ?_)
  · replace h := h.1 c
    refine x_lv (lv' := []) trivial ?_
    exact xX5_hasPiece_18 hQ   _ h
  · replace h := h.2 c
    refine x_iload_n dX5_hasPiece_4 rfl ?_
    refine x_aload_n dX5_hasPiece_5 rfl ?_
    refine x_g5_3 rfl dX5_hasPiece_6 h.1 ?_
    replace h := h.2
    refine x_iconst (v := 1) dX5_hasPiece_9 (by decide) ?_
    refine x_isub dX5_hasPiece_10 ?_
    refine x_icmp_ge (tgt := 18) dX5_hasPiece_11 (by decide) (fun c => ?_) (fun c => ?_)
    · replace h := h.1 c
      refine x_lv (lv' := []) trivial ?_
      exact xX5_hasPiece_18 hQ   _ h
    · replace h := h.2 c
      refine x_iconst (v := 1) dX5_hasPiece_14 (by decide) ?_
      refine x_goto (tgt := 19) dX5_hasPiece_15 (by decide) ?_
      refine x_lv (lv' := []) trivial ?_
      exact xX5_hasPiece_19 hQ  _ _ h
set_option maxRecDepth 100000 in
set_option maxHeartbeats 4000000 in
theorem xX5_secondsOf_27 {E : en} {ad : Nat → Nat} {Post : Int64 → hs → Prop} (hQ : isQ E ad (pJ Post))   (s0 : Int64) (S : hs) (h : PX5_secondsOf_27 Post  s0 S) : X E mX5_secondsOf 0 0 ad S 27 [] [aJ s0] := by
  unfold PX5_secondsOf_27 at h
  exact x_lret hQ rfl dX5_secondsOf_27 ⟨_, rfl, h⟩
set_option maxRecDepth 100000 in
set_option maxHeartbeats 4000000 in
theorem ctX5_secondsOf {G : Launch × va_G × (Nat → ClassId) × Nat} {v0 : Nat} {v1 : Int32} {S : hs} {Post : Int64 → hs → Prop} (h : PX5_secondsOf v0 v1 S Post) : ctN G mX5_secondsOf [aA v0, aI v1] S (pJ Post) := by
  refine ctN.of (by decide) (Nat.le_of_ble_eq_true rfl) (fun E ad hG hQ => ?_)
  subst hG
  unfold PX5_secondsOf at h
  refine x_aload_n dX5_secondsOf_0 rfl ?_
  refine x_iload_n dX5_secondsOf_1 rfl ?_
  obtain ⟨h1, h⟩ := h
  refine x_callVI (As := [aI v1]) (st := []) kX5_32 rfl ⟨rfl, rfl, by decide, by decide⟩ dX5_secondsOf_2 rfl (Nat.le_of_ble_eq_true rfl) ⟨Nat.zero_le _, Nat.zero_le _⟩ h1 (ctX5_hasPiece h) (fun x_2 S_2 h => ?_)
  refine x_if_eq (tgt := 26) dX5_secondsOf_5 (by decide) (fun c => ?_) (fun c => ?_)
  · replace h := h.1 c
    refine x_lconst (v := 0) dX5_secondsOf_26 (by decide) ?_
    refine x_lv (lv' := []) trivial ?_
    exact xX5_secondsOf_27 hQ  _ _ h
  · replace h := h.2 c
    refine x_aload_n dX5_secondsOf_8 rfl ?_
    obtain ⟨h1, r_9, hr_9, h⟩ := h
    refine x_g5_0 rfl dX5_secondsOf_9 h1 (x_un hr_9 ?_)
    refine x_iload_n dX5_secondsOf_12 rfl ?_
    refine x_iconst (v := 1) dX5_secondsOf_13 (by decide) ?_
    refine x_iadd dX5_secondsOf_14 ?_
    refine x_lald dX5_secondsOf_15 h.1 ?_
    replace h := h.2
    refine x_aload_n dX5_secondsOf_16 rfl ?_
    obtain ⟨h1, r_17, hr_17, h⟩ := h
    refine x_g5_0 rfl dX5_secondsOf_17 h1 (x_un hr_17 ?_)
    refine x_iload_n dX5_secondsOf_20 rfl ?_
    refine x_lald dX5_secondsOf_21 h.1 ?_
    replace h := h.2
    refine x_lsub dX5_secondsOf_22 ?_
    refine x_goto (tgt := 27) dX5_secondsOf_23 (by decide) ?_
    refine x_lv (lv' := []) trivial ?_
    exact xX5_secondsOf_27 hQ  _ _ h
set_option maxRecDepth 100000 in
set_option maxHeartbeats 4000000 in
theorem ctX5_hoursBegunOf {G : Launch × va_G × (Nat → ClassId) × Nat} {v0 : Nat} {v1 : Int32} {S : hs} {Post : Int64 → hs → Prop} (h : PX5_hoursBegunOf v0 v1 S Post) : ctN G mX5_hoursBegunOf [aA v0, aI v1] S (pJ Post) := by
  refine ctN.of (by decide) (Nat.le_of_ble_eq_true rfl) (fun E ad hG hQ => ?_)
  subst hG
  unfold PX5_hoursBegunOf at h
  refine x_aload_n dX5_hoursBegunOf_0 rfl ?_
  refine x_iload_n dX5_hoursBegunOf_1 rfl ?_
  obtain ⟨h1, h⟩ := h
  refine x_callVJ (As := [aI v1]) (st := []) kX5_36 rfl ⟨rfl, rfl, by decide, by decide⟩ dX5_hoursBegunOf_2 rfl (Nat.le_of_ble_eq_true rfl) ⟨Nat.zero_le _, Nat.zero_le _⟩ h1 (ctX5_secondsOf h) (fun x_2 S_2 h => ?_)
  refine x_ldc2 (v := 3600) dX5_hoursBegunOf_5 kcX5_40 ?_
  refine x_ladd dX5_hoursBegunOf_8 ?_
  refine x_lconst (v := 1) dX5_hoursBegunOf_9 (by decide) ?_
  refine x_lsub dX5_hoursBegunOf_10 ?_
  refine x_ldc2 (v := 3600) dX5_hoursBegunOf_11 kcX5_40 ?_
  refine x_ldiv dX5_hoursBegunOf_14 (by decide) ?_
  exact x_lret hQ rfl dX5_hoursBegunOf_15 ⟨_, rfl, h⟩
set_option maxRecDepth 100000 in
set_option maxHeartbeats 4000000 in
theorem xX5_dayOf_24 {E : en} {ad : Nat → Nat} {Post : Int64 → hs → Prop} (hQ : isQ E ad (pJ Post))   (s0 : Int64) (S : hs) (h : PX5_dayOf_24 Post  s0 S) : X E mX5_dayOf 0 0 ad S 24 [] [aJ s0] := by
  unfold PX5_dayOf_24 at h
  exact x_lret hQ rfl dX5_dayOf_24 ⟨_, rfl, h⟩
set_option maxRecDepth 100000 in
set_option maxHeartbeats 4000000 in
theorem ctX5_dayOf {G : Launch × va_G × (Nat → ClassId) × Nat} {v0 : Nat} {v1 : Int32} {S : hs} {Post : Int64 → hs → Prop} (h : PX5_dayOf v0 v1 S Post) : ctN G mX5_dayOf [aA v0, aI v1] S (pJ Post) := by
  refine ctN.of (by decide) (Nat.le_of_ble_eq_true rfl) (fun E ad hG hQ => ?_)
  subst hG
  unfold PX5_dayOf at h
  refine x_aload_n dX5_dayOf_0 rfl ?_
  refine x_iload_n dX5_dayOf_1 rfl ?_
  obtain ⟨h1, h⟩ := h
  refine x_callVI (As := [aI v1]) (st := []) kX5_32 rfl ⟨rfl, rfl, by decide, by decide⟩ dX5_dayOf_2 rfl (Nat.le_of_ble_eq_true rfl) ⟨Nat.zero_le _, Nat.zero_le _⟩ h1 (ctX5_hasPiece h) (fun x_2 S_2 h => ?_)
  refine x_if_eq (tgt := 21) dX5_dayOf_5 (by decide) (fun c => ?_) (fun c => ?_)
  · replace h := h.1 c
    refine x_ldc2 (v := (-1)) dX5_dayOf_21 kcX5_44 ?_
    refine x_lv (lv' := []) trivial ?_
    exact xX5_dayOf_24 hQ  _ _ h
  · replace h := h.2 c
    refine x_aload_n dX5_dayOf_8 rfl ?_
    obtain ⟨h1, r_9, hr_9, h⟩ := h
    refine x_g5_0 rfl dX5_dayOf_9 h1 (x_un hr_9 ?_)
    refine x_iload_n dX5_dayOf_12 rfl ?_
    refine x_lald dX5_dayOf_13 h.1 ?_
    replace h := h.2
    refine x_ldc2 (v := 86400) dX5_dayOf_14 kcX5_42 ?_
    refine x_ldiv dX5_dayOf_17 (by decide) ?_
    refine x_goto (tgt := 24) dX5_dayOf_18 (by decide) ?_
    refine x_lv (lv' := []) trivial ?_
    exact xX5_dayOf_24 hQ  _ _ h
set_option maxRecDepth 100000 in
set_option maxHeartbeats 4000000 in
theorem xX5_isGap_17 {E : en} {ad : Nat → Nat} {Post : Int32 → hs → Prop} (hQ : isQ E ad (pI Post))   (s0 : Int32) (S : hs) (h : PX5_isGap_17 Post  s0 S) : X E mX5_isGap 0 0 ad S 17 [] [aI s0] := by
  unfold PX5_isGap_17 at h
  exact x_zret hQ rfl dX5_isGap_17 ⟨h.1, _, rfl, h.2⟩
set_option maxRecDepth 100000 in
set_option maxHeartbeats 4000000 in
theorem ctX5_isGap {G : Launch × va_G × (Nat → ClassId) × Nat} {v0 : Nat} {v1 : Int32} {S : hs} {Post : Int32 → hs → Prop} (h : PX5_isGap v0 v1 S Post) : ctN G mX5_isGap [aA v0, aI v1] S (pI Post) := by
  refine ctN.of (by decide) (Nat.le_of_ble_eq_true rfl) (fun E ad hG hQ => ?_)
  subst hG
  unfold PX5_isGap at h
  refine x_aload_n dX5_isGap_0 rfl ?_
  refine x_iload_n dX5_isGap_1 rfl ?_
  obtain ⟨h1, h⟩ := h
  refine x_callVJ (As := [aI v1]) (st := []) kX5_36 rfl ⟨rfl, rfl, by decide, by decide⟩ dX5_isGap_2 rfl (Nat.le_of_ble_eq_true rfl) ⟨Nat.zero_le _, Nat.zero_le _⟩ h1 (ctX5_secondsOf h) (fun x_2 S_2 h => ?_)
  refine x_ldc2 (v := 3600) dX5_isGap_5 kcX5_40 ?_
  refine x_lcmp_le (tgt := 16) dX5_isGap_8 dX5_isGap_9 (by decide) (fun c => ?_) (fun c => ?_)
  · replace h := h.1 c
    refine x_iconst (v := 0) dX5_isGap_16 (by decide) ?_
    refine x_lv (lv' := []) trivial ?_
    exact xX5_isGap_17 hQ  _ _ h
  · replace h := h.2 c
    refine x_iconst (v := 1) dX5_isGap_12 (by decide) ?_
    refine x_goto (tgt := 17) dX5_isGap_13 (by decide) ?_
    refine x_lv (lv' := []) trivial ?_
    exact xX5_isGap_17 hQ  _ _ h
set_option maxRecDepth 100000 in
set_option maxHeartbeats 4000000 in
theorem xX5_pieceOfGap_30 {E : en} {ad : Nat → Nat} {Post : Int32 → hs → Prop} (hQ : isQ E ad (pI Post)) {K4 : Nat → Int32 → Int32 → Int32 → hs → Prop} (hK4 : ∀ (v0 : Nat) (v1 : Int32) (v2 : Int32) (v3 : Int32) (S : hs), K4 v0 v1 v2 v3 S → X E mX5_pieceOfGap 0 0 ad S 4 [(0, aA v0), (1, aI v1), (2, aI v2), (3, aI v3)] []) (v0 : Nat) (v1 : Int32) (v2 : Int32) (v3 : Int32) (S : hs) (h : PX5_pieceOfGap_30 Post K4 v0 v1 v2 v3 S) : X E mX5_pieceOfGap 0 0 ad S 30 [(0, aA v0), (1, aI v1), (2, aI v2), (3, aI v3)] [] := by
  unfold PX5_pieceOfGap_30 at h
  obtain ⟨v3_30, hv3_30⟩ : ∃ y : Int32, y = v3 + 1 := ⟨_, rfl⟩
  replace h := h v3_30 hv3_30
  refine x_iinc (v := v3_30) dX5_pieceOfGap_30 rfl (by rw [hv3_30]; rfl) (by decide) rfl ?_
  refine x_goto (tgt := 4) dX5_pieceOfGap_33 (by decide) ?_
  refine x_lv (lv' := [(0, aA v0), (1, aI v1), (2, aI v2), (3, aI v3_30)]) ⟨rfl, rfl, rfl, rfl, trivial⟩ ?_
  exact hK4 _ _ _ _ _ h
set_option maxRecDepth 100000 in
set_option maxHeartbeats 4000000 in
theorem xX5_pieceOfGap_4 {E : en} {ad : Nat → Nat} {Post : Int32 → hs → Prop} (hQ : isQ E ad (pI Post))   : ∀ (n : Nat) (v0 : Nat) (v1 : Int32) (v2 : Int32) (v3 : Int32) (S : hs) (_ : PX5_pieceOfGap_4 Post  n v0 v1 v2 v3 S), X E mX5_pieceOfGap 0 0 ad S 4 [(0, aA v0), (1, aI v1), (2, aI v2), (3, aI v3)] [] := by
  intro n
  induction n with
  | zero => intro v0 v1 v2 v3 S h; exact h.elim
  | succ n ih =>
    intro v0 v1 v2 v3 S h
    have hK4 := ih
    simp only [PX5_pieceOfGap_4] at h
    refine x_iload_n dX5_pieceOfGap_4 rfl ?_
    refine x_aload_n dX5_pieceOfGap_5 rfl ?_
    obtain ⟨h1, h⟩ := h
    refine x_callVI (As := []) (st := [aI v3]) kX5_46 rfl ⟨rfl, rfl, by decide, by decide⟩ dX5_pieceOfGap_6 rfl (Nat.le_of_ble_eq_true rfl) ⟨Nat.zero_le _, Nat.zero_le _⟩ h1 (ctX5_pieces h) (fun x_6 S_6 h => ?_)
    refine x_icmp_ge (tgt := 36) dX5_pieceOfGap_9 (by decide) (fun c => ?_) (fun c => ?_)
    · replace h := h.1 c
      refine x_iconst (v := (-1)) dX5_pieceOfGap_36 (by decide) ?_
      exact x_iret hQ rfl dX5_pieceOfGap_37 ⟨_, rfl, h⟩
    · replace h := h.2 c
      refine x_aload_n dX5_pieceOfGap_12 rfl ?_
      refine x_iload_n dX5_pieceOfGap_13 rfl ?_
      obtain ⟨h1, h⟩ := h
      refine x_callVI (As := [aI v3]) (st := []) kX5_50 rfl ⟨rfl, rfl, by decide, by decide⟩ dX5_pieceOfGap_14 rfl (Nat.le_of_ble_eq_true rfl) ⟨Nat.zero_le _, Nat.zero_le _⟩ h1 (ctX5_isGap h) (fun x_14 S_14 h => ?_)
      refine x_if_eq (tgt := 30) dX5_pieceOfGap_17 (by decide) (fun c => ?_) (fun c => ?_)
      · replace h := h.1 c
        refine x_lv (lv' := [(0, aA v0), (1, aI v1), (2, aI v2), (3, aI v3)]) ⟨rfl, rfl, rfl, rfl, trivial⟩ ?_
        exact xX5_pieceOfGap_30 hQ hK4 _ _ _ _ _ h
      · replace h := h.2 c
        refine x_iload_n dX5_pieceOfGap_20 rfl ?_
        refine x_iload_n dX5_pieceOfGap_21 rfl ?_
        refine x_icmp_ne (tgt := 27) dX5_pieceOfGap_22 (by decide) (fun c => ?_) (fun c => ?_)
        · replace h := h.2 c
          obtain ⟨v2_27, hv2_27⟩ : ∃ y : Int32, y = v2 + 1 := ⟨_, rfl⟩
          replace h := h v2_27 hv2_27
          refine x_iinc (v := v2_27) dX5_pieceOfGap_27 rfl (by rw [hv2_27]; rfl) (by decide) rfl ?_
          refine x_lv (lv' := [(0, aA v0), (1, aI v1), (2, aI v2_27), (3, aI v3)]) ⟨rfl, rfl, rfl, rfl, trivial⟩ ?_
          exact xX5_pieceOfGap_30 hQ hK4 _ _ _ _ _ h
        · replace h := h.1 c
          refine x_iload_n dX5_pieceOfGap_25 rfl ?_
          exact x_iret hQ rfl dX5_pieceOfGap_26 ⟨_, rfl, h⟩
set_option maxRecDepth 100000 in
set_option maxHeartbeats 4000000 in
theorem ctX5_pieceOfGap {G : Launch × va_G × (Nat → ClassId) × Nat} {v0 : Nat} {v1 : Int32} {S : hs} {Post : Int32 → hs → Prop} (h : PX5_pieceOfGap v0 v1 S Post) : ctN G mX5_pieceOfGap [aA v0, aI v1] S (pI Post) := by
  refine ctN.of (by decide) (Nat.le_of_ble_eq_true rfl) (fun E ad hG hQ => ?_)
  subst hG
  unfold PX5_pieceOfGap at h
  refine x_iconst (v := 0) dX5_pieceOfGap_0 (by decide) ?_
  refine x_istore_n dX5_pieceOfGap_1 (by decide) rfl ?_
  refine x_iconst (v := 0) dX5_pieceOfGap_2 (by decide) ?_
  refine x_istore_n dX5_pieceOfGap_3 (by decide) rfl ?_
  refine x_lv (lv' := [(0, aA v0), (1, aI v1), (2, aI 0), (3, aI 0)]) ⟨rfl, rfl, rfl, rfl, trivial⟩ ?_
  obtain ⟨n, h⟩ := h
  exact xX5_pieceOfGap_4 hQ  n _ _ _ _ _ h
set_option maxRecDepth 100000 in
set_option maxHeartbeats 4000000 in
theorem xX5_isFast_94 {E : en} {ad : Nat → Nat} {Post : Int32 → hs → Prop} (hQ : isQ E ad (pI Post))   (s0 : Int32) (S : hs) (h : PX5_isFast_94 Post  s0 S) : X E mX5_isFast 0 0 ad S 94 [] [aI s0] := by
  unfold PX5_isFast_94 at h
  exact x_zret hQ rfl dX5_isFast_94 ⟨h.1, _, rfl, h.2⟩
set_option maxRecDepth 100000 in
set_option maxHeartbeats 4000000 in
theorem xX5_isFast_14 {E : en} {ad : Nat → Nat} {Post : Int32 → hs → Prop} (hQ : isQ E ad (pI Post))    (S : hs) (h : PX5_isFast_14 Post   S) : X E mX5_isFast 0 0 ad S 14 [] [] := by
  unfold PX5_isFast_14 at h
  refine x_iconst (v := 0) dX5_isFast_14 (by decide) ?_
  exact x_zret hQ rfl dX5_isFast_15 ⟨Or.inl rfl, _, rfl, h⟩
set_option maxRecDepth 100000 in
set_option maxHeartbeats 4000000 in
theorem ctX5_isFast {G : Launch × va_G × (Nat → ClassId) × Nat} {v0 : Nat} {v1 : Int32} {v2 : Int64} {S : hs} {Post : Int32 → hs → Prop} (h : PX5_isFast v0 v1 v2 S Post) : ctN G mX5_isFast [aA v0, aI v1, aJ v2] S (pI Post) := by
  refine ctN.of (by decide) (Nat.le_of_ble_eq_true rfl) (fun E ad hG hQ => ?_)
  subst hG
  unfold PX5_isFast at h
  refine x_lload_n dX5_isFast_0 rfl ?_
  refine x_lconst (v := 0) dX5_isFast_1 (by decide) ?_
  refine x_lcmp_le (tgt := 14) dX5_isFast_2 dX5_isFast_3 (by decide) (fun c => ?_) (fun c => ?_)
  · replace h := h.1 c
    refine x_lv (lv' := []) trivial ?_
    exact xX5_isFast_14 hQ   _ h
  · replace h := h.2 c
    refine x_aload_n dX5_isFast_6 rfl ?_
    refine x_iload_n dX5_isFast_7 rfl ?_
    obtain ⟨h1, h⟩ := h
    refine x_callVI (As := [aI v1]) (st := []) kX5_50 rfl ⟨rfl, rfl, by decide, by decide⟩ dX5_isFast_8 rfl (Nat.le_of_ble_eq_true rfl) ⟨Nat.zero_le _, Nat.zero_le _⟩ h1 (ctX5_isGap h) (fun x_8 S_8 h => ?_)
    refine x_if_eq (tgt := 16) dX5_isFast_11 (by decide) (fun c => ?_) (fun c => ?_)
    · replace h := h.1 c
      refine x_aload_n dX5_isFast_16 rfl ?_
      refine x_iload_n dX5_isFast_17 rfl ?_
      refine x_iconst (v := 1) dX5_isFast_18 (by decide) ?_
      refine x_iadd dX5_isFast_19 ?_
      obtain ⟨h1, h⟩ := h
      refine x_callVI (As := [aI (v1 + 1)]) (st := []) kX5_53 rfl ⟨rfl, rfl, by decide, by decide⟩ dX5_isFast_20 rfl (Nat.le_of_ble_eq_true rfl) ⟨Nat.zero_le _, Nat.zero_le _⟩ h1 (ctX5_xOf h) (fun x_20 S_20 h => ?_)
      refine x_aload_n dX5_isFast_23 rfl ?_
      refine x_iload_n dX5_isFast_24 rfl ?_
      obtain ⟨h1, h⟩ := h
      refine x_callVI (As := [aI v1]) (st := [aI x_20]) kX5_53 rfl ⟨rfl, rfl, by decide, by decide⟩ dX5_isFast_25 rfl (Nat.le_of_ble_eq_true rfl) ⟨Nat.zero_le _, Nat.zero_le _⟩ h1 (ctX5_xOf h) (fun x_25 S_25 h => ?_)
      refine x_isub dX5_isFast_28 ?_
      refine x_i2l dX5_isFast_29 ?_
      refine x_nJ (fun v4_30 hv4_30 => ?_)
      replace h := h v4_30 hv4_30
      refine x_lstore dX5_isFast_30 (by decide) rfl ?_
      refine x_aload_n dX5_isFast_32 rfl ?_
      refine x_iload_n dX5_isFast_33 rfl ?_
      refine x_iconst (v := 1) dX5_isFast_34 (by decide) ?_
      refine x_iadd dX5_isFast_35 ?_
      obtain ⟨h1, h⟩ := h
      refine x_callVI (As := [aI (v1 + 1)]) (st := []) kX5_57 rfl ⟨rfl, rfl, by decide, by decide⟩ dX5_isFast_36 rfl (Nat.le_of_ble_eq_true rfl) ⟨Nat.zero_le _, Nat.zero_le _⟩ h1 (ctX5_yOf h) (fun x_36 S_36 h => ?_)
      refine x_aload_n dX5_isFast_39 rfl ?_
      refine x_iload_n dX5_isFast_40 rfl ?_
      obtain ⟨h1, h⟩ := h
      refine x_callVI (As := [aI v1]) (st := [aI x_36]) kX5_57 rfl ⟨rfl, rfl, by decide, by decide⟩ dX5_isFast_41 rfl (Nat.le_of_ble_eq_true rfl) ⟨Nat.zero_le _, Nat.zero_le _⟩ h1 (ctX5_yOf h) (fun x_41 S_41 h => ?_)
      refine x_isub dX5_isFast_44 ?_
      refine x_i2l dX5_isFast_45 ?_
      refine x_nJ (fun v6_46 hv6_46 => ?_)
      replace h := h v6_46 hv6_46
      refine x_lstore dX5_isFast_46 (by decide) rfl ?_
      refine x_lload dX5_isFast_48 rfl ?_
      refine x_lload dX5_isFast_50 rfl ?_
      refine x_lmul dX5_isFast_52 ?_
      refine x_lload dX5_isFast_53 rfl ?_
      refine x_lload dX5_isFast_55 rfl ?_
      refine x_lmul dX5_isFast_57 ?_
      refine x_ladd dX5_isFast_58 ?_
      refine x_nJ (fun v8_59 hv8_59 => ?_)
      replace h := h v8_59 hv8_59
      refine x_lstore dX5_isFast_59 (by decide) rfl ?_
      refine x_lload_n dX5_isFast_61 rfl ?_
      refine x_aload_n dX5_isFast_62 rfl ?_
      refine x_iload_n dX5_isFast_63 rfl ?_
      obtain ⟨h1, h⟩ := h
      refine x_callVJ (As := [aI v1]) (st := [aJ v2]) kX5_36 rfl ⟨rfl, rfl, by decide, by decide⟩ dX5_isFast_64 rfl (Nat.le_of_ble_eq_true rfl) ⟨Nat.zero_le _, Nat.zero_le _⟩ h1 (ctX5_secondsOf h) (fun x_64 S_64 h => ?_)
      refine x_lmul dX5_isFast_67 ?_
      refine x_nJ (fun v10_68 hv10_68 => ?_)
      replace h := h v10_68 hv10_68
      refine x_lstore dX5_isFast_68 (by decide) rfl ?_
      refine x_lload dX5_isFast_70 rfl ?_
      refine x_ldc2 (v := 3600) dX5_isFast_72 kcX5_40 ?_
      refine x_lmul dX5_isFast_75 ?_
      refine x_ldc2 (v := 3600) dX5_isFast_76 kcX5_40 ?_
      refine x_lmul dX5_isFast_79 ?_
      refine x_lload dX5_isFast_80 rfl ?_
      refine x_lload dX5_isFast_82 rfl ?_
      refine x_lmul dX5_isFast_84 ?_
      refine x_lcmp_lt (tgt := 93) dX5_isFast_85 dX5_isFast_86 (by decide) (fun c => ?_) (fun c => ?_)
      · replace h := h.1 c
        refine x_iconst (v := 0) dX5_isFast_93 (by decide) ?_
        refine x_lv (lv' := []) trivial ?_
        exact xX5_isFast_94 hQ  _ _ h
      · replace h := h.2 c
        refine x_iconst (v := 1) dX5_isFast_89 (by decide) ?_
        refine x_goto (tgt := 94) dX5_isFast_90 (by decide) ?_
        refine x_lv (lv' := []) trivial ?_
        exact xX5_isFast_94 hQ  _ _ h
    · replace h := h.2 c
      refine x_lv (lv' := []) trivial ?_
      exact xX5_isFast_14 hQ   _ h
set_option maxRecDepth 100000 in
set_option maxHeartbeats 4000000 in
theorem xX6_isArea_18 {E : en} {ad : Nat → Nat} {Post : Int32 → hs → Prop} (hQ : isQ E ad (pI Post))   (s0 : Int32) (S : hs) (h : PX6_isArea_18 Post  s0 S) : X E mX6_isArea 0 0 ad S 18 [] [aI s0] := by
  unfold PX6_isArea_18 at h
  exact x_zret hQ rfl dX6_isArea_18 ⟨h.1, _, rfl, h.2⟩
set_option maxRecDepth 100000 in
set_option maxHeartbeats 4000000 in
theorem xX6_isArea_17 {E : en} {ad : Nat → Nat} {Post : Int32 → hs → Prop} (hQ : isQ E ad (pI Post))    (S : hs) (h : PX6_isArea_17 Post   S) : X E mX6_isArea 0 0 ad S 17 [] [] := by
  unfold PX6_isArea_17 at h
  refine x_iconst (v := 0) dX6_isArea_17 (by decide) ?_
  refine x_lv (lv' := []) trivial ?_
  exact xX6_isArea_18 hQ  _ _ h
set_option maxRecDepth 100000 in
set_option maxHeartbeats 4000000 in
theorem ctX6_isArea {G : Launch × va_G × (Nat → ClassId) × Nat} {v0 : Nat} {v1 : Int32} {S : hs} {Post : Int32 → hs → Prop} (h : PX6_isArea v0 v1 S Post) : ctN G mX6_isArea [aA v0, aI v1] S (pI Post) := by
  refine ctN.of (by decide) (Nat.le_of_ble_eq_true rfl) (fun E ad hG hQ => ?_)
  subst hG
  unfold PX6_isArea at h
  refine x_iload_n dX6_isArea_0 rfl ?_
  refine x_if_lt (tgt := 17) dX6_isArea_1 (by decide) (fun c => ?_) (fun c => ?_)
  · replace h := h.1 c
    refine x_lv (lv' := []) trivial ?_
    exact xX6_isArea_17 hQ   _ h
  · replace h := h.2 c
    refine x_iload_n dX6_isArea_4 rfl ?_
    refine x_aload_n dX6_isArea_5 rfl ?_
    obtain ⟨h1, r_6, hr_6, h⟩ := h
    refine x_g6_0 rfl dX6_isArea_6 h1 (x_un hr_6 ?_)
    refine x_alen11 dX6_isArea_9 h.1 ?_
    replace h := h.2
    refine x_icmp_ge (tgt := 17) dX6_isArea_10 (by decide) (fun c => ?_) (fun c => ?_)
    · replace h := h.1 c
      refine x_lv (lv' := []) trivial ?_
      exact xX6_isArea_17 hQ   _ h
    · replace h := h.2 c
      refine x_iconst (v := 1) dX6_isArea_13 (by decide) ?_
      refine x_goto (tgt := 18) dX6_isArea_14 (by decide) ?_
      refine x_lv (lv' := []) trivial ?_
      exact xX6_isArea_18 hQ  _ _ h
set_option maxRecDepth 100000 in
set_option maxHeartbeats 4000000 in
theorem xX6_ring_25 {E : en} {ad : Nat → Nat} {Post : Int32 → hs → Prop} (hQ : isQ E ad (pI Post))   (s0 : Int32) (S : hs) (h : PX6_ring_25 Post  s0 S) : X E mX6_ring 0 0 ad S 25 [] [aI s0] := by
  unfold PX6_ring_25 at h
  exact x_zret hQ rfl dX6_ring_25 ⟨h.1, _, rfl, h.2⟩
set_option maxRecDepth 100000 in
set_option maxHeartbeats 4000000 in
theorem xX6_ring_24 {E : en} {ad : Nat → Nat} {Post : Int32 → hs → Prop} (hQ : isQ E ad (pI Post))    (S : hs) (h : PX6_ring_24 Post   S) : X E mX6_ring 0 0 ad S 24 [] [] := by
  unfold PX6_ring_24 at h
  refine x_iconst (v := 0) dX6_ring_24 (by decide) ?_
  refine x_lv (lv' := []) trivial ?_
  exact xX6_ring_25 hQ  _ _ h
set_option maxRecDepth 100000 in
set_option maxHeartbeats 4000000 in
theorem ctX6_ring {G : Launch × va_G × (Nat → ClassId) × Nat} {v0 : Nat} {v1 : Int32} {S : hs} {Post : Int32 → hs → Prop} (h : PX6_ring v0 v1 S Post) : ctN G mX6_ring [aA v0, aI v1] S (pI Post) := by
  refine ctN.of (by decide) (Nat.le_of_ble_eq_true rfl) (fun E ad hG hQ => ?_)
  subst hG
  unfold PX6_ring at h
  refine x_aload_n dX6_ring_0 rfl ?_
  refine x_iload_n dX6_ring_1 rfl ?_
  obtain ⟨h1, h⟩ := h
  refine x_callVI (As := [aI v1]) (st := []) kX6_60 rfl ⟨rfl, rfl, by decide, by decide⟩ dX6_ring_2 rfl (Nat.le_of_ble_eq_true rfl) ⟨Nat.zero_le _, Nat.zero_le _⟩ h1 (ctX6_isArea h) (fun x_2 S_2 h => ?_)
  refine x_if_eq (tgt := 24) dX6_ring_5 (by decide) (fun c => ?_) (fun c => ?_)
  · replace h := h.1 c
    refine x_lv (lv' := []) trivial ?_
    exact xX6_ring_24 hQ   _ h
  · replace h := h.2 c
    refine x_aload_n dX6_ring_8 rfl ?_
    obtain ⟨h1, r_9, hr_9, h⟩ := h
    refine x_g6_0 rfl dX6_ring_9 h1 (x_un hr_9 ?_)
    refine x_iload_n dX6_ring_12 rfl ?_
    obtain ⟨h1, r_13, hr_13, h⟩ := h
    refine x_aald11 dX6_ring_13 h1 (x_un hr_13 ?_)
    obtain ⟨h1, h⟩ := h
    refine x_callVI (As := []) (st := []) kX6_75 rfl ⟨rfl, rfl, by decide, by decide⟩ dX6_ring_14 rfl (Nat.le_of_ble_eq_true rfl) ⟨Nat.zero_le _, Nat.zero_le _⟩ h1 (ctX0_closeRing h) (fun x_14 S_14 h => ?_)
    refine x_if_eq (tgt := 24) dX6_ring_17 (by decide) (fun c => ?_) (fun c => ?_)
    · replace h := h.1 c
      refine x_lv (lv' := []) trivial ?_
      exact xX6_ring_24 hQ   _ h
    · replace h := h.2 c
      refine x_iconst (v := 1) dX6_ring_20 (by decide) ?_
      refine x_goto (tgt := 25) dX6_ring_21 (by decide) ?_
      refine x_lv (lv' := []) trivial ?_
      exact xX6_ring_25 hQ  _ _ h
set_option maxRecDepth 100000 in
set_option maxHeartbeats 4000000 in
theorem xX6_hole_25 {E : en} {ad : Nat → Nat} {Post : Int32 → hs → Prop} (hQ : isQ E ad (pI Post))   (s0 : Int32) (S : hs) (h : PX6_hole_25 Post  s0 S) : X E mX6_hole 0 0 ad S 25 [] [aI s0] := by
  unfold PX6_hole_25 at h
  exact x_zret hQ rfl dX6_hole_25 ⟨h.1, _, rfl, h.2⟩
set_option maxRecDepth 100000 in
set_option maxHeartbeats 4000000 in
theorem xX6_hole_24 {E : en} {ad : Nat → Nat} {Post : Int32 → hs → Prop} (hQ : isQ E ad (pI Post))    (S : hs) (h : PX6_hole_24 Post   S) : X E mX6_hole 0 0 ad S 24 [] [] := by
  unfold PX6_hole_24 at h
  refine x_iconst (v := 0) dX6_hole_24 (by decide) ?_
  refine x_lv (lv' := []) trivial ?_
  exact xX6_hole_25 hQ  _ _ h
set_option maxRecDepth 100000 in
set_option maxHeartbeats 4000000 in
theorem ctX6_hole {G : Launch × va_G × (Nat → ClassId) × Nat} {v0 : Nat} {v1 : Int32} {S : hs} {Post : Int32 → hs → Prop} (h : PX6_hole v0 v1 S Post) : ctN G mX6_hole [aA v0, aI v1] S (pI Post) := by
  refine ctN.of (by decide) (Nat.le_of_ble_eq_true rfl) (fun E ad hG hQ => ?_)
  subst hG
  unfold PX6_hole at h
  refine x_aload_n dX6_hole_0 rfl ?_
  refine x_iload_n dX6_hole_1 rfl ?_
  obtain ⟨h1, h⟩ := h
  refine x_callVI (As := [aI v1]) (st := []) kX6_60 rfl ⟨rfl, rfl, by decide, by decide⟩ dX6_hole_2 rfl (Nat.le_of_ble_eq_true rfl) ⟨Nat.zero_le _, Nat.zero_le _⟩ h1 (ctX6_isArea h) (fun x_2 S_2 h => ?_)
  refine x_if_eq (tgt := 24) dX6_hole_5 (by decide) (fun c => ?_) (fun c => ?_)
  · replace h := h.1 c
    refine x_lv (lv' := []) trivial ?_
    exact xX6_hole_24 hQ   _ h
  · replace h := h.2 c
    refine x_aload_n dX6_hole_8 rfl ?_
    obtain ⟨h1, r_9, hr_9, h⟩ := h
    refine x_g6_0 rfl dX6_hole_9 h1 (x_un hr_9 ?_)
    refine x_iload_n dX6_hole_12 rfl ?_
    obtain ⟨h1, r_13, hr_13, h⟩ := h
    refine x_aald11 dX6_hole_13 h1 (x_un hr_13 ?_)
    obtain ⟨h1, h⟩ := h
    refine x_callVI (As := []) (st := []) kX6_79 rfl ⟨rfl, rfl, by decide, by decide⟩ dX6_hole_14 rfl (Nat.le_of_ble_eq_true rfl) ⟨Nat.zero_le _, Nat.zero_le _⟩ h1 (ctX0_beginHole h) (fun x_14 S_14 h => ?_)
    refine x_if_eq (tgt := 24) dX6_hole_17 (by decide) (fun c => ?_) (fun c => ?_)
    · replace h := h.1 c
      refine x_lv (lv' := []) trivial ?_
      exact xX6_hole_24 hQ   _ h
    · replace h := h.2 c
      refine x_iconst (v := 1) dX6_hole_20 (by decide) ?_
      refine x_goto (tgt := 25) dX6_hole_21 (by decide) ?_
      refine x_lv (lv' := []) trivial ?_
      exact xX6_hole_25 hQ  _ _ h
set_option maxRecDepth 100000 in
set_option maxHeartbeats 4000000 in
theorem xX6_isGear_15 {E : en} {ad : Nat → Nat} {Post : Int32 → hs → Prop} (hQ : isQ E ad (pI Post))   (s0 : Int32) (S : hs) (h : PX6_isGear_15 Post  s0 S) : X E mX6_isGear 0 0 ad S 15 [] [aI s0] := by
  unfold PX6_isGear_15 at h
  exact x_zret hQ rfl dX6_isGear_15 ⟨h.1, _, rfl, h.2⟩
set_option maxRecDepth 100000 in
set_option maxHeartbeats 4000000 in
theorem xX6_isGear_14 {E : en} {ad : Nat → Nat} {Post : Int32 → hs → Prop} (hQ : isQ E ad (pI Post))    (S : hs) (h : PX6_isGear_14 Post   S) : X E mX6_isGear 0 0 ad S 14 [] [] := by
  unfold PX6_isGear_14 at h
  refine x_iconst (v := 0) dX6_isGear_14 (by decide) ?_
  refine x_lv (lv' := []) trivial ?_
  exact xX6_isGear_15 hQ  _ _ h
set_option maxRecDepth 100000 in
set_option maxHeartbeats 4000000 in
theorem ctX6_isGear {G : Launch × va_G × (Nat → ClassId) × Nat} {v0 : Int32} {S : hs} {Post : Int32 → hs → Prop} (h : PX6_isGear v0 S Post) : ctN G mX6_isGear [aI v0] S (pI Post) := by
  refine ctN.of (by decide) (Nat.le_of_ble_eq_true rfl) (fun E ad hG hQ => ?_)
  subst hG
  unfold PX6_isGear at h
  refine x_iload_n dX6_isGear_0 rfl ?_
  refine x_if_lt (tgt := 14) dX6_isGear_1 (by decide) (fun c => ?_) (fun c => ?_)
  · replace h := h.1 c
    refine x_lv (lv' := []) trivial ?_
    exact xX6_isGear_14 hQ   _ h
  · replace h := h.2 c
    refine x_iload_n dX6_isGear_4 rfl ?_
    refine x_bipush (v := 8) dX6_isGear_5 (by decide) ?_
    refine x_icmp_ge (tgt := 14) dX6_isGear_7 (by decide) (fun c => ?_) (fun c => ?_)
    · replace h := h.1 c
      refine x_lv (lv' := []) trivial ?_
      exact xX6_isGear_14 hQ   _ h
    · replace h := h.2 c
      refine x_iconst (v := 1) dX6_isGear_10 (by decide) ?_
      refine x_goto (tgt := 15) dX6_isGear_11 (by decide) ?_
      refine x_lv (lv' := []) trivial ?_
      exact xX6_isGear_15 hQ  _ _ h
set_option maxRecDepth 100000 in
set_option maxHeartbeats 4000000 in
theorem xX6_bars_35 {E : en} {ad : Nat → Nat} {Post : Int32 → hs → Prop} (hQ : isQ E ad (pI Post))    (S : hs) (h : PX6_bars_35 Post   S) : X E mX6_bars 0 0 ad S 35 [] [] := by
  unfold PX6_bars_35 at h
  refine x_iconst (v := 0) dX6_bars_35 (by decide) ?_
  exact x_zret hQ rfl dX6_bars_36 ⟨Or.inl rfl, _, rfl, h⟩
set_option maxRecDepth 100000 in
set_option maxHeartbeats 4000000 in
theorem xX6_bars_15 {E : en} {ad : Nat → Nat} {Post : Int32 → hs → Prop} (hQ : isQ E ad (pI Post))    (S : hs) (h : PX6_bars_15 Post   S) : X E mX6_bars 0 0 ad S 15 [] [] := by
  unfold PX6_bars_15 at h
  refine x_iconst (v := 0) dX6_bars_15 (by decide) ?_
  exact x_zret hQ rfl dX6_bars_16 ⟨Or.inl rfl, _, rfl, h⟩
set_option maxRecDepth 100000 in
set_option maxHeartbeats 4000000 in
theorem ctX6_bars {G : Launch × va_G × (Nat → ClassId) × Nat} {v0 : Nat} {v1 : Int32} {v2 : Int32} {v3 : Int32} {v4 : Int32} {S : hs} {Post : Int32 → hs → Prop} (h : PX6_bars v0 v1 v2 v3 v4 S Post) : ctN G mX6_bars [aA v0, aI v1, aI v2, aI v3, aI v4] S (pI Post) := by
  refine ctN.of (by decide) (Nat.le_of_ble_eq_true rfl) (fun E ad hG hQ => ?_)
  subst hG
  unfold PX6_bars at h
  refine x_aload_n dX6_bars_0 rfl ?_
  refine x_iload_n dX6_bars_1 rfl ?_
  obtain ⟨h1, h⟩ := h
  refine x_callVI (As := [aI v1]) (st := []) kX6_60 rfl ⟨rfl, rfl, by decide, by decide⟩ dX6_bars_2 rfl (Nat.le_of_ble_eq_true rfl) ⟨Nat.zero_le _, Nat.zero_le _⟩ h1 (ctX6_isArea h) (fun x_2 S_2 h => ?_)
  refine x_if_eq (tgt := 15) dX6_bars_5 (by decide) (fun c => ?_) (fun c => ?_)
  · replace h := h.1 c
    refine x_lv (lv' := []) trivial ?_
    exact xX6_bars_15 hQ   _ h
  · replace h := h.2 c
    refine x_iload_n dX6_bars_8 rfl ?_
    refine x_callSI (As := [aI v2]) (st := []) kX6_82 rfl ⟨rfl, rfl, by decide, by decide⟩ dX6_bars_9 rfl (Nat.le_of_ble_eq_true rfl) ⟨Nat.zero_le _, Nat.zero_le _⟩ (ctX6_isGear h) (fun x_9 S_9 h => ?_)
    refine x_if_ne (tgt := 17) dX6_bars_12 (by decide) (fun c => ?_) (fun c => ?_)
    · replace h := h.2 c
      refine x_iload_n dX6_bars_17 rfl ?_
      refine x_if_lt (tgt := 35) dX6_bars_18 (by decide) (fun c => ?_) (fun c => ?_)
      · replace h := h.1 c
        refine x_lv (lv' := []) trivial ?_
        exact xX6_bars_35 hQ   _ h
      · replace h := h.2 c
        refine x_iload dX6_bars_21 rfl ?_
        refine x_sipush (v := 400) dX6_bars_23 (by decide) ?_
        refine x_icmp_gt (tgt := 35) dX6_bars_26 (by decide) (fun c => ?_) (fun c => ?_)
        · replace h := h.1 c
          refine x_lv (lv' := []) trivial ?_
          exact xX6_bars_35 hQ   _ h
        · replace h := h.2 c
          refine x_iload_n dX6_bars_29 rfl ?_
          refine x_iload dX6_bars_30 rfl ?_
          refine x_icmp_le (tgt := 37) dX6_bars_32 (by decide) (fun c => ?_) (fun c => ?_)
          · replace h := h.1 c
            refine x_aload_n dX6_bars_37 rfl ?_
            obtain ⟨h1, r_38, hr_38, h⟩ := h
            refine x_g6_1 rfl dX6_bars_38 h1 (x_un hr_38 ?_)
            refine x_iload_n dX6_bars_41 rfl ?_
            refine x_iload_n dX6_bars_42 rfl ?_
            refine x_iload_n dX6_bars_43 rfl ?_
            refine x_iload dX6_bars_44 rfl ?_
            obtain ⟨h1, h⟩ := h
            refine x_callVI (As := [aI v1, aI v2, aI v3, aI v4]) (st := []) kX6_85 rfl ⟨rfl, rfl, by decide, by decide⟩ dX6_bars_46 rfl (Nat.le_of_ble_eq_true rfl) ⟨Nat.zero_le _, Nat.zero_le _⟩ h1 (ctX3_add h) (fun x_46 S_46 h => ?_)
            exact x_zret hQ rfl dX6_bars_49 ⟨h.1, _, rfl, h.2⟩
          · replace h := h.2 c
            refine x_lv (lv' := []) trivial ?_
            exact xX6_bars_35 hQ   _ h
    · replace h := h.1 c
      refine x_lv (lv' := []) trivial ?_
      exact xX6_bars_15 hQ   _ h
set_option maxRecDepth 100000 in
set_option maxHeartbeats 4000000 in
theorem xX6_speed_22 {E : en} {ad : Nat → Nat} {Post : Int32 → hs → Prop} (hQ : isQ E ad (pI Post))    (S : hs) (h : PX6_speed_22 Post   S) : X E mX6_speed 0 0 ad S 22 [] [] := by
  unfold PX6_speed_22 at h
  refine x_iconst (v := 0) dX6_speed_22 (by decide) ?_
  exact x_zret hQ rfl dX6_speed_23 ⟨Or.inl rfl, _, rfl, h⟩
set_option maxRecDepth 100000 in
set_option maxHeartbeats 4000000 in
theorem ctX6_speed {G : Launch × va_G × (Nat → ClassId) × Nat} {v0 : Nat} {v1 : Int32} {v2 : Int64} {S : hs} {Post : Int32 → hs → Prop} (h : PX6_speed v0 v1 v2 S Post) : ctN G mX6_speed [aA v0, aI v1, aJ v2] S (pI Post) := by
  refine ctN.of (by decide) (Nat.le_of_ble_eq_true rfl) (fun E ad hG hQ => ?_)
  subst hG
  unfold PX6_speed at h
  refine x_aload_n dX6_speed_0 rfl ?_
  refine x_iload_n dX6_speed_1 rfl ?_
  obtain ⟨h1, h⟩ := h
  refine x_callVI (As := [aI v1]) (st := []) kX6_60 rfl ⟨rfl, rfl, by decide, by decide⟩ dX6_speed_2 rfl (Nat.le_of_ble_eq_true rfl) ⟨Nat.zero_le _, Nat.zero_le _⟩ h1 (ctX6_isArea h) (fun x_2 S_2 h => ?_)
  refine x_if_eq (tgt := 22) dX6_speed_5 (by decide) (fun c => ?_) (fun c => ?_)
  · replace h := h.1 c
    refine x_lv (lv' := []) trivial ?_
    exact xX6_speed_22 hQ   _ h
  · replace h := h.2 c
    refine x_lload_n dX6_speed_8 rfl ?_
    refine x_lconst (v := 0) dX6_speed_9 (by decide) ?_
    refine x_lcmp_lt (tgt := 22) dX6_speed_10 dX6_speed_11 (by decide) (fun c => ?_) (fun c => ?_)
    · replace h := h.1 c
      refine x_lv (lv' := []) trivial ?_
      exact xX6_speed_22 hQ   _ h
    · replace h := h.2 c
      refine x_lload_n dX6_speed_14 rfl ?_
      refine x_ldc2 (v := 100000) dX6_speed_15 kcX6_89 ?_
      refine x_lcmp_le (tgt := 24) dX6_speed_18 dX6_speed_19 (by decide) (fun c => ?_) (fun c => ?_)
      · replace h := h.1 c
        refine x_aload_n dX6_speed_24 rfl ?_
        obtain ⟨h1, r_25, hr_25, h⟩ := h
        refine x_g6_0 rfl dX6_speed_25 h1 (x_un hr_25 ?_)
        refine x_iload_n dX6_speed_28 rfl ?_
        obtain ⟨h1, r_29, hr_29, h⟩ := h
        refine x_aald11 dX6_speed_29 h1 (x_un hr_29 ?_)
        refine x_lload_n dX6_speed_30 rfl ?_
        obtain ⟨h1, h⟩ := h
        refine x_callVV (As := [aJ v2]) (st := []) kX6_91 rfl ⟨rfl, rfl, by decide, by decide⟩ dX6_speed_31 rfl (Nat.le_of_ble_eq_true rfl) ⟨Nat.zero_le _, Nat.zero_le _⟩ h1 (ctX0_setFastFrom h) (fun S_31 h => ?_)
        refine x_iconst (v := 1) dX6_speed_34 (by decide) ?_
        exact x_zret hQ rfl dX6_speed_35 ⟨Or.inr rfl, _, rfl, h⟩
      · replace h := h.2 c
        refine x_lv (lv' := []) trivial ?_
        exact xX6_speed_22 hQ   _ h
set_option maxRecDepth 100000 in
set_option maxHeartbeats 4000000 in
theorem xX6_firstUntouchedArea_2 {E : en} {ad : Nat → Nat} {Post : Int32 → hs → Prop} (hQ : isQ E ad (pI Post))   : ∀ (n : Nat) (v0 : Nat) (v1 : Int32) (S : hs) (_ : PX6_firstUntouchedArea_2 Post  n v0 v1 S), X E mX6_firstUntouchedArea 0 0 ad S 2 [(0, aA v0), (1, aI v1)] [] := by
  intro n
  induction n with
  | zero => intro v0 v1 S h; exact h.elim
  | succ n ih =>
    intro v0 v1 S h
    have hK2 := ih
    simp only [PX6_firstUntouchedArea_2] at h
    refine x_iload_n dX6_firstUntouchedArea_2 rfl ?_
    refine x_aload_n dX6_firstUntouchedArea_3 rfl ?_
    obtain ⟨h1, r_4, hr_4, h⟩ := h
    refine x_g6_0 rfl dX6_firstUntouchedArea_4 h1 (x_un hr_4 ?_)
    refine x_alen11 dX6_firstUntouchedArea_7 h.1 ?_
    replace h := h.2
    refine x_icmp_ge (tgt := 31) dX6_firstUntouchedArea_8 (by decide) (fun c => ?_) (fun c => ?_)
    · replace h := h.1 c
      refine x_iconst (v := (-1)) dX6_firstUntouchedArea_31 (by decide) ?_
      exact x_iret hQ rfl dX6_firstUntouchedArea_32 ⟨_, rfl, h⟩
    · replace h := h.2 c
      refine x_aload_n dX6_firstUntouchedArea_11 rfl ?_
      obtain ⟨h1, r_12, hr_12, h⟩ := h
      refine x_g6_0 rfl dX6_firstUntouchedArea_12 h1 (x_un hr_12 ?_)
      refine x_iload_n dX6_firstUntouchedArea_15 rfl ?_
      obtain ⟨h1, r_16, hr_16, h⟩ := h
      refine x_aald11 dX6_firstUntouchedArea_16 h1 (x_un hr_16 ?_)
      obtain ⟨h1, h⟩ := h
      refine x_callVI (As := []) (st := []) kX6_213 rfl ⟨rfl, rfl, by decide, by decide⟩ dX6_firstUntouchedArea_17 rfl (Nat.le_of_ble_eq_true rfl) ⟨Nat.zero_le _, Nat.zero_le _⟩ h1 (ctX0_isUntouched h) (fun x_17 S_17 h => ?_)
      refine x_if_eq (tgt := 25) dX6_firstUntouchedArea_20 (by decide) (fun c => ?_) (fun c => ?_)
      · replace h := h.1 c
        obtain ⟨v1_25, hv1_25⟩ : ∃ y : Int32, y = v1 + 1 := ⟨_, rfl⟩
        replace h := h v1_25 hv1_25
        refine x_iinc (v := v1_25) dX6_firstUntouchedArea_25 rfl (by rw [hv1_25]; rfl) (by decide) rfl ?_
        refine x_goto (tgt := 2) dX6_firstUntouchedArea_28 (by decide) ?_
        refine x_lv (lv' := [(0, aA v0), (1, aI v1_25)]) ⟨rfl, rfl, trivial⟩ ?_
        exact hK2 _ _ _ h
      · replace h := h.2 c
        refine x_iload_n dX6_firstUntouchedArea_23 rfl ?_
        exact x_iret hQ rfl dX6_firstUntouchedArea_24 ⟨_, rfl, h⟩
set_option maxRecDepth 100000 in
set_option maxHeartbeats 4000000 in
theorem ctX6_firstUntouchedArea {G : Launch × va_G × (Nat → ClassId) × Nat} {v0 : Nat} {S : hs} {Post : Int32 → hs → Prop} (h : PX6_firstUntouchedArea v0 S Post) : ctN G mX6_firstUntouchedArea [aA v0] S (pI Post) := by
  refine ctN.of (by decide) (Nat.le_of_ble_eq_true rfl) (fun E ad hG hQ => ?_)
  subst hG
  unfold PX6_firstUntouchedArea at h
  refine x_iconst (v := 0) dX6_firstUntouchedArea_0 (by decide) ?_
  refine x_istore_n dX6_firstUntouchedArea_1 (by decide) rfl ?_
  refine x_lv (lv' := [(0, aA v0), (1, aI 0)]) ⟨rfl, rfl, trivial⟩ ?_
  obtain ⟨n, h⟩ := h
  exact xX6_firstUntouchedArea_2 hQ  n _ _ _ h
