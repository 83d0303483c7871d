set_option maxRecDepth 100000 in
set_option maxHeartbeats 4000000 in
theorem xX0_isThere_12 {E : en} {ad : Nat → Nat} {Post : Int32 → hs → Prop} (hQ : isQ E ad (pI Post))   (s0 : Int32) (S : hs) (h : PX0_isThere_12 Post  s0 S) : X E mX0_isThere 0 0 ad S 12 [] [aI s0] := by
  unfold PX0_isThere_12 at h
  exact x_zret hQ rfl dX0_isThere_12 ⟨h.1, _, rfl, h.2⟩
set_option maxRecDepth 100000 in
set_option maxHeartbeats 4000000 in
theorem ctX0_isThere {G : Launch × va_G × (Nat → ClassId) × Nat} {v0 : Nat} {S : hs} {Post : Int32 → hs → Prop} (h : PX0_isThere v0 S Post) : ctN G mX0_isThere [aA v0] S (pI Post) := by
  refine ctN.of (by decide) (Nat.le_of_ble_eq_true rfl) (fun E ad hG hQ => ?_)
  subst hG
  unfold PX0_isThere at h
  refine x_aload_n dX0_isThere_0 rfl ?_
  refine x_g0_1 rfl dX0_isThere_1 h.1 ?_
  replace h := h.2
  refine x_if_le (tgt := 11) dX0_isThere_4 (by decide) (fun c => ?_) (fun c => ?_)
  · replace h := h.1 c
    refine x_iconst (v := 0) dX0_isThere_11 (by decide) ?_
    refine x_lv (lv' := []) trivial ?_
    exact xX0_isThere_12 hQ  _ _ h
  · replace h := h.2 c
    refine x_iconst (v := 1) dX0_isThere_7 (by decide) ?_
    refine x_goto (tgt := 12) dX0_isThere_8 (by decide) ?_
    refine x_lv (lv' := []) trivial ?_
    exact xX0_isThere_12 hQ  _ _ h
set_option maxRecDepth 100000 in
set_option maxHeartbeats 4000000 in
theorem ctX0_outer {G : Launch × va_G × (Nat → ClassId) × Nat} {v0 : Nat} {S : hs} {Post : Option Nat → hs → Prop} (h : PX0_outer v0 S Post) : ctN G mX0_outer [aA v0] S (pR Post) := by
  refine ctN.of (by decide) (Nat.le_of_ble_eq_true rfl) (fun E ad hG hQ => ?_)
  subst hG
  unfold PX0_outer at h
  refine x_aload_n dX0_outer_0 rfl ?_
  obtain ⟨h1, r_1, hr_1, h⟩ := h
  refine x_g0_0 rfl dX0_outer_1 h1 (x_un hr_1 ?_)
  refine x_iconst (v := 0) dX0_outer_4 (by decide) ?_
  obtain ⟨h1, r_5, hr_5, h⟩ := h
  refine x_aald12 dX0_outer_5 h1 (x_un hr_5 ?_)
  exact x_rret hQ rfl dX0_outer_6 ⟨_, rfl, h⟩
set_option maxRecDepth 100000 in
set_option maxHeartbeats 4000000 in
theorem ctX2_size {G : Launch × va_G × (Nat → ClassId) × Nat} {v0 : Nat} {S : hs} {Post : Int32 → hs → Prop} (h : PX2_size v0 S Post) : ctN G mX2_size [aA v0] S (pI Post) := by
  refine ctN.of (by decide) (Nat.le_of_ble_eq_true rfl) (fun E ad hG hQ => ?_)
  subst hG
  unfold PX2_size at h
  refine x_aload_n dX2_size_0 rfl ?_
  refine x_g2_2 rfl dX2_size_1 h.1 ?_
  replace h := h.2
  exact x_iret hQ rfl dX2_size_4 ⟨_, rfl, h⟩
set_option maxRecDepth 100000 in
set_option maxHeartbeats 4000000 in
theorem xX0_isUntouched_22 {E : en} {ad : Nat → Nat} {Post : Int32 → hs → Prop} (hQ : isQ E ad (pI Post))   (s0 : Int32) (S : hs) (h : PX0_isUntouched_22 Post  s0 S) : X E mX0_isUntouched 0 0 ad S 22 [] [aI s0] := by
  unfold PX0_isUntouched_22 at h
  exact x_zret hQ rfl dX0_isUntouched_22 ⟨h.1, _, rfl, h.2⟩
set_option maxRecDepth 100000 in
set_option maxHeartbeats 4000000 in
theorem xX0_isUntouched_21 {E : en} {ad : Nat → Nat} {Post : Int32 → hs → Prop} (hQ : isQ E ad (pI Post))    (S : hs) (h : PX0_isUntouched_21 Post   S) : X E mX0_isUntouched 0 0 ad S 21 [] [] := by
  unfold PX0_isUntouched_21 at h
  refine x_iconst (v := 0) dX0_isUntouched_21 (by decide) ?_
  refine x_lv (lv' := []) trivial ?_
  exact xX0_isUntouched_22 hQ  _ _ h
set_option maxRecDepth 100000 in
set_option maxHeartbeats 4000000 in
theorem ctX0_isUntouched {G : Launch × va_G × (Nat → ClassId) × Nat} {v0 : Nat} {S : hs} {Post : Int32 → hs → Prop} (h : PX0_isUntouched v0 S Post) : ctN G mX0_isUntouched [aA v0] S (pI Post) := by
  refine ctN.of (by decide) (Nat.le_of_ble_eq_true rfl) (fun E ad hG hQ => ?_)
  subst hG
  unfold PX0_isUntouched at h
  refine x_aload_n dX0_isUntouched_0 rfl ?_
  refine x_g0_1 rfl dX0_isUntouched_1 h.1 ?_
  replace h := h.2
  refine x_if_ne (tgt := 21) dX0_isUntouched_4 (by decide) (fun c => ?_) (fun c => ?_)
  · replace h := h.2 c
    refine x_lv (lv' := []) trivial ?_
    exact xX0_isUntouched_21 hQ   _ h
  · replace h := h.1 c
    refine x_aload_n dX0_isUntouched_7 rfl ?_
    obtain ⟨h1, h⟩ := h
    refine x_callVR (As := []) (st := []) kX0_28 rfl ⟨rfl, rfl, by decide, by decide⟩ dX0_isUntouched_8 rfl (Nat.le_of_ble_eq_true rfl) ⟨Nat.zero_le _, Nat.zero_le _⟩ h1 (ctX0_outer h) (fun x_8 S_8 h => ?_)
    obtain ⟨r_8, hr_8, h⟩ := h
    refine x_un hr_8 ?_
    obtain ⟨h1, h⟩ := h
    refine x_callVI (As := []) (st := []) kX0_32 rfl ⟨rfl, rfl, by decide, by decide⟩ dX0_isUntouched_11 rfl (Nat.le_of_ble_eq_true rfl) ⟨Nat.zero_le _, Nat.zero_le _⟩ h1 (ctX2_size h) (fun x_11 S_11 h => ?_)
    refine x_if_ne (tgt := 21) dX0_isUntouched_14 (by decide) (fun c => ?_) (fun c => ?_)
    · replace h := h.2 c
      refine x_lv (lv' := []) trivial ?_
      exact xX0_isUntouched_21 hQ   _ h
    · replace h := h.1 c
      refine x_iconst (v := 1) dX0_isUntouched_17 (by decide) ?_
      refine x_goto (tgt := 22) dX0_isUntouched_18 (by decide) ?_
      refine x_lv (lv' := []) trivial ?_
      exact xX0_isUntouched_22 hQ  _ _ h
set_option maxRecDepth 100000 in
set_option maxHeartbeats 4000000 in
theorem ctX0_closedRings {G : Launch × va_G × (Nat → ClassId) × Nat} {v0 : Nat} {S : hs} {Post : Int32 → hs → Prop} (h : PX0_closedRings v0 S Post) : ctN G mX0_closedRings [aA v0] S (pI Post) := by
  refine ctN.of (by decide) (Nat.le_of_ble_eq_true rfl) (fun E ad hG hQ => ?_)
  subst hG
  unfold PX0_closedRings at h
  refine x_aload_n dX0_closedRings_0 rfl ?_
  refine x_g0_1 rfl dX0_closedRings_1 h.1 ?_
  replace h := h.2
  exact x_iret hQ rfl dX0_closedRings_4 ⟨_, rfl, h⟩
set_option maxRecDepth 100000 in
set_option maxHeartbeats 4000000 in
theorem xX0_ringOf_32 {E : en} {ad : Nat → Nat} {Post : Option Nat → hs → Prop} (hQ : isQ E ad (pR Post))   (s0 : Nat) (S : hs) (h : PX0_ringOf_32 Post  s0 S) : X E mX0_ringOf 0 0 ad S 32 [] [aA s0] := by
  unfold PX0_ringOf_32 at h
  exact x_rret hQ rfl dX0_ringOf_32 ⟨_, rfl, h⟩
set_option maxRecDepth 100000 in
set_option maxHeartbeats 4000000 in
theorem xX0_ringOf_26 {E : en} {ad : Nat → Nat} {Post : Option Nat → hs → Prop} (hQ : isQ E ad (pR Post))   (v0 : Nat) (S : hs) (h : PX0_ringOf_26 Post  v0 S) : X E mX0_ringOf 0 0 ad S 26 [(0, aA v0)] [] := by
  unfold PX0_ringOf_26 at h
  refine x_aload_n dX0_ringOf_26 rfl ?_
  obtain ⟨h1, r_27, hr_27, h⟩ := h
  refine x_g0_0 rfl dX0_ringOf_27 h1 (x_un hr_27 ?_)
  refine x_iconst (v := 0) dX0_ringOf_30 (by decide) ?_
  obtain ⟨h1, r_31, hr_31, h⟩ := h
  refine x_aald12 dX0_ringOf_31 h1 (x_un hr_31 ?_)
  refine x_lv (lv' := []) trivial ?_
  exact xX0_ringOf_32 hQ  _ _ h
set_option maxRecDepth 100000 in
set_option maxHeartbeats 4000000 in
theorem ctX0_ringOf {G : Launch × va_G × (Nat → ClassId) × Nat} {v0 : Nat} {v1 : Int32} {S : hs} {Post : Option Nat → hs → Prop} (h : PX0_ringOf v0 v1 S Post) : ctN G mX0_ringOf [aA v0, aI v1] S (pR Post) := by
  refine ctN.of (by decide) (Nat.le_of_ble_eq_true rfl) (fun E ad hG hQ => ?_)
  subst hG
  unfold PX0_ringOf at h
  refine x_iload_n dX0_ringOf_0 rfl ?_
  refine x_if_le (tgt := 26) dX0_ringOf_1 (by decide) (fun c => ?_) (fun c => ?_)
  · replace h := h.1 c
    refine x_lv (lv' := [(0, aA v0)]) ⟨rfl, trivial⟩ ?_
    exact xX0_ringOf_26 hQ  _ _ h
  · replace h := h.2 c
    refine x_iload_n dX0_ringOf_4 rfl ?_
    refine x_aload_n dX0_ringOf_5 rfl ?_
    refine x_g0_1 rfl dX0_ringOf_6 h.1 ?_
    replace h := h.2
    refine x_icmp_ge (tgt := 26) dX0_ringOf_9 (by decide) (fun c => ?_) (fun c => ?_)
    · replace h := h.1 c
      refine x_lv (lv' := [(0, aA v0)]) ⟨rfl, trivial⟩ ?_
      exact xX0_ringOf_26 hQ  _ _ h
    · replace h := h.2 c
      refine x_iload_n dX0_ringOf_12 rfl ?_
      refine x_iconst (v := 4) dX0_ringOf_13 (by decide) ?_
      refine x_icmp_ge (tgt := 26) dX0_ringOf_14 (by decide) (fun c => ?_) (fun c => ?_)
      · replace h := h.1 c
        refine x_lv (lv' := [(0, aA v0)]) ⟨rfl, trivial⟩ ?_
        exact xX0_ringOf_26 hQ  _ _ h
      · replace h := h.2 c
        refine x_aload_n dX0_ringOf_17 rfl ?_
        obtain ⟨h1, r_18, hr_18, h⟩ := h
        refine x_g0_0 rfl dX0_ringOf_18 h1 (x_un hr_18 ?_)
        refine x_iload_n dX0_ringOf_21 rfl ?_
        obtain ⟨h1, r_22, hr_22, h⟩ := h
        refine x_aald12 dX0_ringOf_22 h1 (x_un hr_22 ?_)
        refine x_goto (tgt := 32) dX0_ringOf_23 (by decide) ?_
        refine x_lv (lv' := []) trivial ?_
        exact xX0_ringOf_32 hQ  _ _ h
set_option maxRecDepth 100000 in
set_option maxHeartbeats 4000000 in
theorem ctX0_fastFrom {G : Launch × va_G × (Nat → ClassId) × Nat} {v0 : Nat} {S : hs} {Post : Int64 → hs → Prop} (h : PX0_fastFrom v0 S Post) : ctN G mX0_fastFrom [aA v0] S (pJ Post) := by
  refine ctN.of (by decide) (Nat.le_of_ble_eq_true rfl) (fun E ad hG hQ => ?_)
  subst hG
  unfold PX0_fastFrom at h
  refine x_aload_n dX0_fastFrom_0 rfl ?_
  refine x_g0_3 rfl dX0_fastFrom_1 h.1 ?_
  replace h := h.2
  exact x_lret hQ rfl dX0_fastFrom_4 ⟨_, rfl, h⟩
set_option maxRecDepth 100000 in
set_option maxHeartbeats 4000000 in
theorem ctX0_setFastFrom {G : Launch × va_G × (Nat → ClassId) × Nat} {v0 : Nat} {v1 : Int64} {S : hs} {Post : hs → Prop} (h : PX0_setFastFrom v0 v1 S Post) : ctN G mX0_setFastFrom [aA v0, aJ v1] S (pV Post) := by
  refine ctN.of (by decide) (Nat.le_of_ble_eq_true rfl) (fun E ad hG hQ => ?_)
  subst hG
  unfold PX0_setFastFrom at h
  refine x_aload_n dX0_setFastFrom_0 rfl ?_
  refine x_lload_n dX0_setFastFrom_1 rfl ?_
  obtain ⟨h1, h⟩ := h
  refine x_p0_3 rfl dX0_setFastFrom_2 h1 (x_nS (fun S_2 hS_2 => ?_))
  replace h := h S_2 hS_2
  exact x_vret hQ rfl dX0_setFastFrom_5 ⟨rfl, h⟩
set_option maxRecDepth 100000 in
set_option maxHeartbeats 4000000 in
theorem xX0_beingMade_35 {E : en} {ad : Nat → Nat} {Post : Option Nat → hs → Prop} (hQ : isQ E ad (pR Post))   (s0 : Option Nat) (S : hs) (h : PX0_beingMade_35 Post  s0 S) : X E mX0_beingMade 0 0 ad S 35 [] [aR s0] := by
  unfold PX0_beingMade_35 at h
  exact x_rret hQ rfl dX0_beingMade_35 ⟨_, rfl, h⟩
set_option maxRecDepth 100000 in
set_option maxHeartbeats 4000000 in
theorem xX0_beingMade_34 {E : en} {ad : Nat → Nat} {Post : Option Nat → hs → Prop} (hQ : isQ E ad (pR Post))    (S : hs) (h : PX0_beingMade_34 Post   S) : X E mX0_beingMade 0 0 ad S 34 [] [] := by
  unfold PX0_beingMade_34 at h
  refine x_null dX0_beingMade_34 ?_
  refine x_lv (lv' := []) trivial ?_
  exact xX0_beingMade_35 hQ  _ _ h
set_option maxRecDepth 100000 in
set_option maxHeartbeats 4000000 in
theorem ctX0_beingMade {G : Launch × va_G × (Nat → ClassId) × Nat} {v0 : Nat} {S : hs} {Post : Option Nat → hs → Prop} (h : PX0_beingMade v0 S Post) : ctN G mX0_beingMade [aA v0] S (pR Post) := by
  refine ctN.of (by decide) (Nat.le_of_ble_eq_true rfl) (fun E ad hG hQ => ?_)
  subst hG
  unfold PX0_beingMade at h
  refine x_aload_n dX0_beingMade_0 rfl ?_
  refine x_g0_2 rfl dX0_beingMade_1 h.1 ?_
  replace h := h.2
  refine x_if_eq (tgt := 34) dX0_beingMade_4 (by decide) (fun c => ?_) (fun c => ?_)
  · replace h := h.1 c
    refine x_lv (lv' := []) trivial ?_
    exact xX0_beingMade_34 hQ   _ h
  · replace h := h.2 c
    refine x_aload_n dX0_beingMade_7 rfl ?_
    refine x_g0_1 rfl dX0_beingMade_8 h.1 ?_
    replace h := h.2
    refine x_if_lt (tgt := 34) dX0_beingMade_11 (by decide) (fun c => ?_) (fun c => ?_)
    · replace h := h.1 c
      refine x_lv (lv' := []) trivial ?_
      exact xX0_beingMade_34 hQ   _ h
    · replace h := h.2 c
      refine x_aload_n dX0_beingMade_14 rfl ?_
      refine x_g0_1 rfl dX0_beingMade_15 h.1 ?_
      replace h := h.2
      refine x_iconst (v := 4) dX0_beingMade_18 (by decide) ?_
      refine x_icmp_ge (tgt := 34) dX0_beingMade_19 (by decide) (fun c => ?_) (fun c => ?_)
      · replace h := h.1 c
        refine x_lv (lv' := []) trivial ?_
        exact xX0_beingMade_34 hQ   _ h
      · replace h := h.2 c
        refine x_aload_n dX0_beingMade_22 rfl ?_
        obtain ⟨h1, r_23, hr_23, h⟩ := h
        refine x_g0_0 rfl dX0_beingMade_23 h1 (x_un hr_23 ?_)
        refine x_aload_n dX0_beingMade_26 rfl ?_
        refine x_g0_1 rfl dX0_beingMade_27 h.1 ?_
        replace h := h.2
        obtain ⟨h1, r_30, hr_30, h⟩ := h
        refine x_aald12 dX0_beingMade_30 h1 (x_un hr_30 ?_)
        refine x_goto (tgt := 35) dX0_beingMade_31 (by decide) ?_
        refine x_lv (lv' := []) trivial ?_
        exact xX0_beingMade_35 hQ  _ _ h
set_option maxRecDepth 100000 in
set_option maxHeartbeats 4000000 in
theorem ctX2_add {G : Launch × va_G × (Nat → ClassId) × Nat} {v0 : Nat} {v1 : Int32} {v2 : Int32} {S : hs} {Post : Int32 → hs → Prop} (h : PX2_add v0 v1 v2 S Post) : ctN G mX2_add [aA v0, aI v1, aI v2] S (pI Post) := by
  refine ctN.of (by decide) (Nat.le_of_ble_eq_true rfl) (fun E ad hG hQ => ?_)
  subst hG
  unfold PX2_add at h
  refine x_aload_n dX2_add_0 rfl ?_
  refine x_g2_2 rfl dX2_add_1 h.1 ?_
  replace h := h.2
  refine x_bipush (v := 12) dX2_add_4 (by decide) ?_
  refine x_icmp_lt (tgt := 11) dX2_add_6 (by decide) (fun c => ?_) (fun c => ?_)
  · replace h := h.1 c
    refine x_aload_n dX2_add_11 rfl ?_
    obtain ⟨h1, r_12, hr_12, h⟩ := h
    refine x_g2_0 rfl dX2_add_12 h1 (x_un hr_12 ?_)
    refine x_aload_n dX2_add_15 rfl ?_
    refine x_g2_2 rfl dX2_add_16 h.1 ?_
    replace h := h.2
    refine x_iload_n dX2_add_19 rfl ?_
    obtain ⟨h1, h⟩ := h
    refine x_iast dX2_add_20 h1 (x_nS (fun S_20 hS_20 => ?_))
    replace h := h S_20 hS_20
    refine x_aload_n dX2_add_21 rfl ?_
    obtain ⟨h1, r_22, hr_22, h⟩ := h
    refine x_g2_1 rfl dX2_add_22 h1 (x_un hr_22 ?_)
    refine x_aload_n dX2_add_25 rfl ?_
    refine x_g2_2 rfl dX2_add_26 h.1 ?_
    replace h := h.2
    refine x_iload_n dX2_add_29 rfl ?_
    obtain ⟨h1, h⟩ := h
    refine x_iast dX2_add_30 h1 (x_nS (fun S_30 hS_30 => ?_))
    replace h := h S_30 hS_30
    refine x_aload_n dX2_add_31 rfl ?_
    refine x_dupR dX2_add_32 ?_
    refine x_g2_2 rfl dX2_add_33 h.1 ?_
    replace h := h.2
    refine x_iconst (v := 1) dX2_add_36 (by decide) ?_
    refine x_iadd dX2_add_37 ?_
    obtain ⟨h1, h⟩ := h
    refine x_p2_2 rfl dX2_add_38 h1 (x_nS (fun S_38 hS_38 => ?_))
    replace h := h S_38 hS_38
    refine x_iconst (v := 1) dX2_add_41 (by decide) ?_
    exact x_zret hQ rfl dX2_add_42 ⟨Or.inr rfl, _, rfl, h⟩
  · replace h := h.2 c
    refine x_iconst (v := 0) dX2_add_9 (by decide) ?_
    exact x_zret hQ rfl dX2_add_10 ⟨Or.inl rfl, _, rfl, h⟩
set_option maxRecDepth 100000 in
set_option maxHeartbeats 4000000 in
theorem xX0_addCorner_23 {E : en} {ad : Nat → Nat} {Post : Int32 → hs → Prop} (hQ : isQ E ad (pI Post))   (s0 : Int32) (S : hs) (h : PX0_addCorner_23 Post  s0 S) : X E mX0_addCorner 0 0 ad S 23 [] [aI s0] := by
  unfold PX0_addCorner_23 at h
  exact x_zret hQ rfl dX0_addCorner_23 ⟨h.1, _, rfl, h.2⟩
set_option maxRecDepth 100000 in
set_option maxHeartbeats 4000000 in
theorem xX0_addCorner_22 {E : en} {ad : Nat → Nat} {Post : Int32 → hs → Prop} (hQ : isQ E ad (pI Post))    (S : hs) (h : PX0_addCorner_22 Post   S) : X E mX0_addCorner 0 0 ad S 22 [] [] := by
  unfold PX0_addCorner_22 at h
  refine x_iconst (v := 0) dX0_addCorner_22 (by decide) ?_
  refine x_lv (lv' := []) trivial ?_
  exact xX0_addCorner_23 hQ  _ _ h
set_option maxRecDepth 100000 in
set_option maxHeartbeats 4000000 in
theorem ctX0_addCorner {G : Launch × va_G × (Nat → ClassId) × Nat} {v0 : Nat} {v1 : Int32} {v2 : Int32} {S : hs} {Post : Int32 → hs → Prop} (h : PX0_addCorner v0 v1 v2 S Post) : ctN G mX0_addCorner [aA v0, aI v1, aI v2] S (pI Post) := by
  refine ctN.of (by decide) (Nat.le_of_ble_eq_true rfl) (fun E ad hG hQ => ?_)
  subst hG
  unfold PX0_addCorner at h
  refine x_aload_n dX0_addCorner_0 rfl ?_
  obtain ⟨h1, h⟩ := h
  refine x_callVR (As := []) (st := []) kX0_36 rfl ⟨rfl, rfl, by decide, by decide⟩ dX0_addCorner_1 rfl (Nat.le_of_ble_eq_true rfl) ⟨Nat.zero_le _, Nat.zero_le _⟩ h1 (ctX0_beingMade h) (fun x_1 S_1 h => ?_)
  refine x_astoreq_n dX0_addCorner_4 (by decide) rfl ?_
  refine x_aloadq_n dX0_addCorner_5 rfl ?_
  refine x_ifnull (tgt := 22) dX0_addCorner_6 (by decide) (fun c => ?_) (fun a c => ?_)
  · replace h := h.1 c
    refine x_lv (lv' := []) trivial ?_
    exact xX0_addCorner_22 hQ   _ h
  · replace h := h.2 a c
    refine x_aloadq_n dX0_addCorner_9 rfl ?_
    obtain ⟨q_9, hq_9, h⟩ := h
    refine x_un hq_9 ?_
    refine x_iload_n dX0_addCorner_10 rfl ?_
    refine x_iload_n dX0_addCorner_11 rfl ?_
    obtain ⟨h1, h⟩ := h
    refine x_callVI (As := [aI v1, aI v2]) (st := []) kX0_39 rfl ⟨rfl, rfl, by decide, by decide⟩ dX0_addCorner_12 rfl (Nat.le_of_ble_eq_true rfl) ⟨Nat.zero_le _, Nat.zero_le _⟩ h1 (ctX2_add h) (fun x_12 S_12 h => ?_)
    refine x_if_eq (tgt := 22) dX0_addCorner_15 (by decide) (fun c => ?_) (fun c => ?_)
    · replace h := h.1 c
      refine x_lv (lv' := []) trivial ?_
      exact xX0_addCorner_22 hQ   _ h
    · replace h := h.2 c
      refine x_iconst (v := 1) dX0_addCorner_18 (by decide) ?_
      refine x_goto (tgt := 23) dX0_addCorner_19 (by decide) ?_
      refine x_lv (lv' := []) trivial ?_
      exact xX0_addCorner_23 hQ  _ _ h
set_option maxRecDepth 100000 in
set_option maxHeartbeats 4000000 in
theorem ctX2_clear {G : Launch × va_G × (Nat → ClassId) × Nat} {v0 : Nat} {S : hs} {Post : hs → Prop} (h : PX2_clear v0 S Post) : ctN G mX2_clear [aA v0] S (pV Post) := by
  refine ctN.of (by decide) (Nat.le_of_ble_eq_true rfl) (fun E ad hG hQ => ?_)
  subst hG
  unfold PX2_clear at h
  refine x_aload_n dX2_clear_0 rfl ?_
  refine x_iconst (v := 0) dX2_clear_1 (by decide) ?_
  obtain ⟨h1, h⟩ := h
  refine x_p2_2 rfl dX2_clear_2 h1 (x_nS (fun S_2 hS_2 => ?_))
  replace h := h S_2 hS_2
  exact x_vret hQ rfl dX2_clear_5 ⟨rfl, h⟩
set_option maxRecDepth 100000 in
set_option maxHeartbeats 4000000 in
theorem xX0_beginHole_23 {E : en} {ad : Nat → Nat} {Post : Int32 → hs → Prop} (hQ : isQ E ad (pI Post))    (S : hs) (h : PX0_beginHole_23 Post   S) : X E mX0_beginHole 0 0 ad S 23 [] [] := by
  unfold PX0_beginHole_23 at h
  refine x_iconst (v := 0) dX0_beginHole_23 (by decide) ?_
  exact x_zret hQ rfl dX0_beginHole_24 ⟨Or.inl rfl, _, rfl, h⟩
set_option maxRecDepth 100000 in
set_option maxHeartbeats 4000000 in
theorem ctX0_beginHole {G : Launch × va_G × (Nat → ClassId) × Nat} {v0 : Nat} {S : hs} {Post : Int32 → hs → Prop} (h : PX0_beginHole v0 S Post) : ctN G mX0_beginHole [aA v0] S (pI Post) := by
  refine ctN.of (by decide) (Nat.le_of_ble_eq_true rfl) (fun E ad hG hQ => ?_)
  subst hG
  unfold PX0_beginHole at h
  refine x_aload_n dX0_beginHole_0 rfl ?_
  refine x_g0_2 rfl dX0_beginHole_1 h.1 ?_
  replace h := h.2
  refine x_if_ne (tgt := 23) dX0_beginHole_4 (by decide) (fun c => ?_) (fun c => ?_)
  · replace h := h.2 c
    refine x_lv (lv' := []) trivial ?_
    exact xX0_beginHole_23 hQ   _ h
  · replace h := h.1 c
    refine x_aload_n dX0_beginHole_7 rfl ?_
    refine x_g0_1 rfl dX0_beginHole_8 h.1 ?_
    replace h := h.2
    refine x_iconst (v := 1) dX0_beginHole_11 (by decide) ?_
    refine x_icmp_lt (tgt := 23) dX0_beginHole_12 (by decide) (fun c => ?_) (fun c => ?_)
    · replace h := h.1 c
      refine x_lv (lv' := []) trivial ?_
      exact xX0_beginHole_23 hQ   _ h
    · replace h := h.2 c
      refine x_aload_n dX0_beginHole_15 rfl ?_
      refine x_g0_1 rfl dX0_beginHole_16 h.1 ?_
      replace h := h.2
      refine x_iconst (v := 4) dX0_beginHole_19 (by decide) ?_
      refine x_icmp_lt (tgt := 25) dX0_beginHole_20 (by decide) (fun c => ?_) (fun c => ?_)
      · replace h := h.1 c
        refine x_aload_n dX0_beginHole_25 rfl ?_
        obtain ⟨h1, r_26, hr_26, h⟩ := h
        refine x_g0_0 rfl dX0_beginHole_26 h1 (x_un hr_26 ?_)
        refine x_aload_n dX0_beginHole_29 rfl ?_
        refine x_g0_1 rfl dX0_beginHole_30 h.1 ?_
        replace h := h.2
        obtain ⟨h1, r_33, hr_33, h⟩ := h
        refine x_aald12 dX0_beginHole_33 h1 (x_un hr_33 ?_)
        obtain ⟨h1, h⟩ := h
        refine x_callVV (As := []) (st := []) kX0_43 rfl ⟨rfl, rfl, by decide, by decide⟩ dX0_beginHole_34 rfl (Nat.le_of_ble_eq_true rfl) ⟨Nat.zero_le _, Nat.zero_le _⟩ h1 (ctX2_clear h) (fun S_34 h => ?_)
        refine x_aload_n dX0_beginHole_37 rfl ?_
        refine x_iconst (v := 1) dX0_beginHole_38 (by decide) ?_
        obtain ⟨h1, h⟩ := h
        refine x_p0_2 rfl dX0_beginHole_39 h1 (Or.inr rfl) (x_nS (fun S_39 hS_39 => ?_))
        replace h := h S_39 hS_39
        refine x_iconst (v := 1) dX0_beginHole_42 (by decide) ?_
        exact x_zret hQ rfl dX0_beginHole_43 ⟨Or.inr rfl, _, rfl, h⟩
      · replace h := h.2 c
        refine x_lv (lv' := []) trivial ?_
        exact xX0_beginHole_23 hQ   _ h
set_option maxRecDepth 100000 in
set_option maxHeartbeats 4000000 in
theorem xX2_next_17 {E : en} {ad : Nat → Nat} {Post : Int32 → hs → Prop} (hQ : isQ E ad (pI Post))   (s0 : Int32) (S : hs) (h : PX2_next_17 Post  s0 S) : X E mX2_next 0 0 ad S 17 [] [aI s0] := by
  unfold PX2_next_17 at h
  exact x_iret hQ rfl dX2_next_17 ⟨_, rfl, h⟩
set_option maxRecDepth 100000 in
set_option maxHeartbeats 4000000 in
theorem ctX2_next {G : Launch × va_G × (Nat → ClassId) × Nat} {v0 : Nat} {v1 : Int32} {S : hs} {Post : Int32 → hs → Prop} (h : PX2_next v0 v1 S Post) : ctN G mX2_next [aA v0, aI v1] S (pI Post) := by
  refine ctN.of (by decide) (Nat.le_of_ble_eq_true rfl) (fun E ad hG hQ => ?_)
  subst hG
  unfold PX2_next at h
  refine x_iload_n dX2_next_0 rfl ?_
  refine x_iconst (v := 1) dX2_next_1 (by decide) ?_
  refine x_iadd dX2_next_2 ?_
  refine x_aload_n dX2_next_3 rfl ?_
  refine x_g2_2 rfl dX2_next_4 h.1 ?_
  replace h := h.2
  refine x_icmp_ge (tgt := 16) dX2_next_7 (by decide) (fun c => ?_) (fun c => ?_)
  · replace h := h.1 c
    refine x_iconst (v := 0) dX2_next_16 (by decide) ?_
    refine x_lv (lv' := []) trivial ?_
    exact xX2_next_17 hQ  _ _ h
  · replace h := h.2 c
    refine x_iload_n dX2_next_10 rfl ?_
    refine x_iconst (v := 1) dX2_next_11 (by decide) ?_
    refine x_iadd dX2_next_12 ?_
    refine x_goto (tgt := 17) dX2_next_13 (by decide) ?_
    refine x_lv (lv' := []) trivial ?_
    exact xX2_next_17 hQ  _ _ h
set_option maxRecDepth 100000 in
set_option maxHeartbeats 4000000 in
theorem xX2_spans_114 {E : en} {ad : Nat → Nat} {Post : Int32 → hs → Prop} (hQ : isQ E ad (pI Post))   (s0 : Int32) (S : hs) (h : PX2_spans_114 Post  s0 S) : X E mX2_spans 0 0 ad S 114 [] [aI s0] := by
  unfold PX2_spans_114 at h
  exact x_zret hQ rfl dX2_spans_114 ⟨h.1, _, rfl, h.2⟩
set_option maxRecDepth 100000 in
set_option maxHeartbeats 4000000 in
theorem xX2_spans_113 {E : en} {ad : Nat → Nat} {Post : Int32 → hs → Prop} (hQ : isQ E ad (pI Post))    (S : hs) (h : PX2_spans_113 Post   S) : X E mX2_spans 0 0 ad S 113 [] [] := by
  unfold PX2_spans_113 at h
  refine x_iconst (v := 0) dX2_spans_113 (by decide) ?_
  refine x_lv (lv' := []) trivial ?_
  exact xX2_spans_114 hQ  _ _ h
set_option maxRecDepth 100000 in
set_option maxHeartbeats 4000000 in
theorem ctX2_spans {G : Launch × va_G × (Nat → ClassId) × Nat} {v0 : Nat} {v1 : Int32} {v2 : Int64} {v4 : Int64} {v6 : Int64} {S : hs} {Post : Int32 → hs → Prop} (h : PX2_spans v0 v1 v2 v4 v6 S Post) : ctN G mX2_spans [aA v0, aI v1, aJ v2, aJ v4, aJ v6] S (pI Post) := by
  refine ctN.of (by decide) (Nat.le_of_ble_eq_true rfl) (fun E ad hG hQ => ?_)
  subst hG
  unfold PX2_spans at h
  refine x_aload_n dX2_spans_0 rfl ?_
  refine x_iload_n dX2_spans_1 rfl ?_
  obtain ⟨h1, h⟩ := h
  refine x_callVI (As := [aI v1]) (st := []) kX2_20 rfl ⟨rfl, rfl, by decide, by decide⟩ dX2_spans_2 rfl (Nat.le_of_ble_eq_true rfl) ⟨Nat.zero_le _, Nat.zero_le _⟩ h1 (ctX2_next h) (fun x_2 S_2 h => ?_)
  refine x_istore dX2_spans_5 (by decide) rfl ?_
  refine x_lload_n dX2_spans_7 rfl ?_
  refine x_aload_n dX2_spans_8 rfl ?_
  obtain ⟨h1, r_9, hr_9, h⟩ := h
  refine x_g2_0 rfl dX2_spans_9 h1 (x_un hr_9 ?_)
  refine x_iload_n dX2_spans_12 rfl ?_
  refine x_iald dX2_spans_13 h.1 ?_
  replace h := h.2
  refine x_aload_n dX2_spans_14 rfl ?_
  obtain ⟨h1, r_15, hr_15, h⟩ := h
  refine x_g2_0 rfl dX2_spans_15 h1 (x_un hr_15 ?_)
  refine x_iload dX2_spans_18 rfl ?_
  refine x_iald dX2_spans_20 h.1 ?_
  replace h := h.2
  refine x_mmin kX2_44 rfl ⟨by decide, by decide⟩ dX2_spans_21 (Nat.le_of_ble_eq_true rfl) ⟨Nat.zero_le _, Nat.zero_le _⟩ ?_
  refine x_nI (fun u_21 hu_21 => ?_)
  replace h := h u_21 hu_21
  refine x_i2l dX2_spans_24 ?_
  refine x_lload dX2_spans_25 rfl ?_
  refine x_lmul dX2_spans_27 ?_
  refine x_lcmp_lt (tgt := 113) dX2_spans_28 dX2_spans_29 (by decide) (fun c => ?_) (fun c => ?_)
  · replace h := h.1 c
    refine x_lv (lv' := []) trivial ?_
    exact xX2_spans_113 hQ   _ h
  · replace h := h.2 c
    refine x_lload_n dX2_spans_32 rfl ?_
    refine x_aload_n dX2_spans_33 rfl ?_
    obtain ⟨h1, r_34, hr_34, h⟩ := h
    refine x_g2_0 rfl dX2_spans_34 h1 (x_un hr_34 ?_)
    refine x_iload_n dX2_spans_37 rfl ?_
    refine x_iald dX2_spans_38 h.1 ?_
    replace h := h.2
    refine x_aload_n dX2_spans_39 rfl ?_
    obtain ⟨h1, r_40, hr_40, h⟩ := h
    refine x_g2_0 rfl dX2_spans_40 h1 (x_un hr_40 ?_)
    refine x_iload dX2_spans_43 rfl ?_
    refine x_iald dX2_spans_45 h.1 ?_
    replace h := h.2
    refine x_mmax kX2_50 rfl ⟨by decide, by decide⟩ dX2_spans_46 (Nat.le_of_ble_eq_true rfl) ⟨Nat.zero_le _, Nat.zero_le _⟩ ?_
    refine x_nI (fun u_46 hu_46 => ?_)
    replace h := h u_46 hu_46
    refine x_i2l dX2_spans_49 ?_
    refine x_lload dX2_spans_50 rfl ?_
    refine x_lmul dX2_spans_52 ?_
    refine x_lcmp_gt (tgt := 113) dX2_spans_53 dX2_spans_54 (by decide) (fun c => ?_) (fun c => ?_)
    · replace h := h.1 c
      refine x_lv (lv' := []) trivial ?_
      exact xX2_spans_113 hQ   _ h
    · replace h := h.2 c
      refine x_lload dX2_spans_57 rfl ?_
      refine x_aload_n dX2_spans_59 rfl ?_
      obtain ⟨h1, r_60, hr_60, h⟩ := h
      refine x_g2_1 rfl dX2_spans_60 h1 (x_un hr_60 ?_)
      refine x_iload_n dX2_spans_63 rfl ?_
      refine x_iald dX2_spans_64 h.1 ?_
      replace h := h.2
      refine x_aload_n dX2_spans_65 rfl ?_
      obtain ⟨h1, r_66, hr_66, h⟩ := h
      refine x_g2_1 rfl dX2_spans_66 h1 (x_un hr_66 ?_)
      refine x_iload dX2_spans_69 rfl ?_
      refine x_iald dX2_spans_71 h.1 ?_
      replace h := h.2
      refine x_mmin kX2_44 rfl ⟨by decide, by decide⟩ dX2_spans_72 (Nat.le_of_ble_eq_true rfl) ⟨Nat.zero_le _, Nat.zero_le _⟩ ?_
      refine x_nI (fun u_72 hu_72 => ?_)
      replace h := h u_72 hu_72
      refine x_i2l dX2_spans_75 ?_
      refine x_lload dX2_spans_76 rfl ?_
      refine x_lmul dX2_spans_78 ?_
      refine x_lcmp_lt (tgt := 113) dX2_spans_79 dX2_spans_80 (by decide) (fun c => ?_) (fun c => ?_)
      · replace h := h.1 c
        refine x_lv (lv' := []) trivial ?_
        exact xX2_spans_113 hQ   _ h
      · replace h := h.2 c
        refine x_lload dX2_spans_83 rfl ?_
        refine x_aload_n dX2_spans_85 rfl ?_
        obtain ⟨h1, r_86, hr_86, h⟩ := h
        refine x_g2_1 rfl dX2_spans_86 h1 (x_un hr_86 ?_)
        refine x_iload_n dX2_spans_89 rfl ?_
        refine x_iald dX2_spans_90 h.1 ?_
        replace h := h.2
        refine x_aload_n dX2_spans_91 rfl ?_
        obtain ⟨h1, r_92, hr_92, h⟩ := h
        refine x_g2_1 rfl dX2_spans_92 h1 (x_un hr_92 ?_)
        refine x_iload dX2_spans_95 rfl ?_
        refine x_iald dX2_spans_97 h.1 ?_
        replace h := h.2
        refine x_mmax kX2_50 rfl ⟨by decide, by decide⟩ dX2_spans_98 (Nat.le_of_ble_eq_true rfl) ⟨Nat.zero_le _, Nat.zero_le _⟩ ?_
        refine x_nI (fun u_98 hu_98 => ?_)
        replace h := h u_98 hu_98
        refine x_i2l dX2_spans_101 ?_
        refine x_lload dX2_spans_102 rfl ?_
        refine x_lmul dX2_spans_104 ?_
        refine x_lcmp_gt (tgt := 113) dX2_spans_105 dX2_spans_106 (by decide) (fun c => ?_) (fun c => ?_)
        · replace h := h.1 c
          refine x_lv (lv' := []) trivial ?_
          exact xX2_spans_113 hQ   _ h
        · replace h := h.2 c
          refine x_iconst (v := 1) dX2_spans_109 (by decide) ?_
          refine x_goto (tgt := 114) dX2_spans_110 (by decide) ?_
          refine x_lv (lv' := []) trivial ?_
          exact xX2_spans_114 hQ  _ _ h
set_option maxRecDepth 100000 in
set_option maxHeartbeats 4000000 in
theorem ctX2_turn {G : Launch × va_G × (Nat → ClassId) × Nat} {v0 : Nat} {v1 : Int32} {v2 : Int64} {v4 : Int64} {v6 : Int64} {S : hs} {Post : Int64 → hs → Prop} (h : PX2_turn v0 v1 v2 v4 v6 S Post) : ctN G mX2_turn [aA v0, aI v1, aJ v2, aJ v4, aJ v6] S (pJ Post) := by
  refine ctN.of (by decide) (Nat.le_of_ble_eq_true rfl) (fun E ad hG hQ => ?_)
  subst hG
  unfold PX2_turn at h
  refine x_aload_n dX2_turn_0 rfl ?_
  refine x_iload_n dX2_turn_1 rfl ?_
  obtain ⟨h1, h⟩ := h
  refine x_callVI (As := [aI v1]) (st := []) kX2_20 rfl ⟨rfl, rfl, by decide, by decide⟩ dX2_turn_2 rfl (Nat.le_of_ble_eq_true rfl) ⟨Nat.zero_le _, Nat.zero_le _⟩ h1 (ctX2_next h) (fun x_2 S_2 h => ?_)
  refine x_istore dX2_turn_5 (by decide) rfl ?_
  refine x_aload_n dX2_turn_7 rfl ?_
  obtain ⟨h1, r_8, hr_8, h⟩ := h
  refine x_g2_0 rfl dX2_turn_8 h1 (x_un hr_8 ?_)
  refine x_iload dX2_turn_11 rfl ?_
  refine x_iald dX2_turn_13 h.1 ?_
  replace h := h.2
  refine x_aload_n dX2_turn_14 rfl ?_
  obtain ⟨h1, r_15, hr_15, h⟩ := h
  refine x_g2_0 rfl dX2_turn_15 h1 (x_un hr_15 ?_)
  refine x_iload_n dX2_turn_18 rfl ?_
  refine x_iald dX2_turn_19 h.1 ?_
  replace h := h.2
  refine x_isub dX2_turn_20 ?_
  refine x_i2l dX2_turn_21 ?_
  refine x_nJ (fun v9_22 hv9_22 => ?_)
  replace h := h v9_22 hv9_22
  refine x_lstore dX2_turn_22 (by decide) rfl ?_
  refine x_aload_n dX2_turn_24 rfl ?_
  obtain ⟨h1, r_25, hr_25, h⟩ := h
  refine x_g2_1 rfl dX2_turn_25 h1 (x_un hr_25 ?_)
  refine x_iload dX2_turn_28 rfl ?_
  refine x_iald dX2_turn_30 h.1 ?_
  replace h := h.2
  refine x_aload_n dX2_turn_31 rfl ?_
  obtain ⟨h1, r_32, hr_32, h⟩ := h
  refine x_g2_1 rfl dX2_turn_32 h1 (x_un hr_32 ?_)
  refine x_iload_n dX2_turn_35 rfl ?_
  refine x_iald dX2_turn_36 h.1 ?_
  replace h := h.2
  refine x_isub dX2_turn_37 ?_
  refine x_i2l dX2_turn_38 ?_
  refine x_nJ (fun v11_39 hv11_39 => ?_)
  replace h := h v11_39 hv11_39
  refine x_lstore dX2_turn_39 (by decide) rfl ?_
  refine x_lload dX2_turn_41 rfl ?_
  refine x_lload dX2_turn_43 rfl ?_
  refine x_aload_n dX2_turn_45 rfl ?_
  obtain ⟨h1, r_46, hr_46, h⟩ := h
  refine x_g2_1 rfl dX2_turn_46 h1 (x_un hr_46 ?_)
  refine x_iload_n dX2_turn_49 rfl ?_
  refine x_iald dX2_turn_50 h.1 ?_
  replace h := h.2
  refine x_i2l dX2_turn_51 ?_
  refine x_lload dX2_turn_52 rfl ?_
  refine x_lmul dX2_turn_54 ?_
  refine x_lsub dX2_turn_55 ?_
  refine x_lmul dX2_turn_56 ?_
  refine x_lload dX2_turn_57 rfl ?_
  refine x_lload_n dX2_turn_59 rfl ?_
  refine x_aload_n dX2_turn_60 rfl ?_
  obtain ⟨h1, r_61, hr_61, h⟩ := h
  refine x_g2_0 rfl dX2_turn_61 h1 (x_un hr_61 ?_)
  refine x_iload_n dX2_turn_64 rfl ?_
  refine x_iald dX2_turn_65 h.1 ?_
  replace h := h.2
  refine x_i2l dX2_turn_66 ?_
  refine x_lload dX2_turn_67 rfl ?_
  refine x_lmul dX2_turn_69 ?_
  refine x_lsub dX2_turn_70 ?_
  refine x_lmul dX2_turn_71 ?_
  refine x_lsub dX2_turn_72 ?_
  exact x_lret hQ rfl dX2_turn_73 ⟨_, rfl, h⟩
set_option maxRecDepth 100000 in
set_option maxHeartbeats 4000000 in
theorem xX2_locate_151 {E : en} {ad : Nat → Nat} {Post : Int32 → hs → Prop} (hQ : isQ E ad (pI Post))   (s0 : Int32) (S : hs) (h : PX2_locate_151 Post  s0 S) : X E mX2_locate 0 0 ad S 151 [] [aI s0] := by
  unfold PX2_locate_151 at h
  exact x_iret hQ rfl dX2_locate_151 ⟨_, rfl, h⟩
set_option maxRecDepth 100000 in
set_option maxHeartbeats 4000000 in
theorem xX2_locate_135 {E : en} {ad : Nat → Nat} {Post : Int32 → hs → Prop} (hQ : isQ E ad (pI Post)) {K6 : Nat → Int64 → Int64 → Int64 → Int32 → Int32 → hs → Prop} (hK6 : ∀ (v0 : Nat) (v1 : Int64) (v3 : Int64) (v5 : Int64) (v7 : Int32) (v8 : Int32) (S : hs), K6 v0 v1 v3 v5 v7 v8 S → X E mX2_locate 0 0 ad S 6 [(0, aA v0), (1, aJ v1), (3, aJ v3), (5, aJ v5), (7, aI v7), (8, aI v8)] []) (v0 : Nat) (v1 : Int64) (v3 : Int64) (v5 : Int64) (v7 : Int32) (v8 : Int32) (S : hs) (h : PX2_locate_135 Post K6 v0 v1 v3 v5 v7 v8 S) : X E mX2_locate 0 0 ad S 135 [(0, aA v0), (1, aJ v1), (3, aJ v3), (5, aJ v5), (7, aI v7), (8, aI v8)] [] := by
  unfold PX2_locate_135 at h
  obtain ⟨v8_135, hv8_135⟩ : ∃ y : Int32, y = v8 + 1 := ⟨_, rfl⟩
  replace h := h v8_135 hv8_135
  refine x_iinc (v := v8_135) dX2_locate_135 rfl (by rw [hv8_135]; rfl) (by decide) rfl ?_
  refine x_goto (tgt := 6) dX2_locate_138 (by decide) ?_
  refine x_lv (lv' := [(0, aA v0), (1, aJ v1), (3, aJ v3), (5, aJ v5), (7, aI v7), (8, aI v8_135)]) ⟨rfl, rfl, rfl, rfl, rfl, rfl, trivial⟩ ?_
  exact hK6 _ _ _ _ _ _ _ h
set_option maxRecDepth 100000 in
set_option maxHeartbeats 4000000 in
theorem xX2_locate_133 {E : en} {ad : Nat → Nat} {Post : Int32 → hs → Prop} (hQ : isQ E ad (pI Post)) {K6 : Nat → Int64 → Int64 → Int64 → Int32 → Int32 → hs → Prop} (hK6 : ∀ (v0 : Nat) (v1 : Int64) (v3 : Int64) (v5 : Int64) (v7 : Int32) (v8 : Int32) (S : hs), K6 v0 v1 v3 v5 v7 v8 S → X E mX2_locate 0 0 ad S 6 [(0, aA v0), (1, aJ v1), (3, aJ v3), (5, aJ v5), (7, aI v7), (8, aI v8)] []) (v0 : Nat) (v1 : Int64) (v3 : Int64) (v5 : Int64) (v8 : Int32) (s0 : Int32) (S : hs) (h : PX2_locate_133 Post K6 v0 v1 v3 v5 v8 s0 S) : X E mX2_locate 0 0 ad S 133 [(0, aA v0), (1, aJ v1), (3, aJ v3), (5, aJ v5), (8, aI v8)] [aI s0] := by
  unfold PX2_locate_133 at h
  refine x_istore dX2_locate_133 (by decide) rfl ?_
  refine x_lv (lv' := [(0, aA v0), (1, aJ v1), (3, aJ v3), (5, aJ v5), (7, aI s0), (8, aI v8)]) ⟨rfl, rfl, rfl, rfl, rfl, rfl, trivial⟩ ?_
  exact xX2_locate_135 hQ hK6 _ _ _ _ _ _ _ h
set_option maxRecDepth 100000 in
set_option maxHeartbeats 4000000 in
theorem xX2_locate_118 {E : en} {ad : Nat → Nat} {Post : Int32 → hs → Prop} (hQ : isQ E ad (pI Post)) {K6 : Nat → Int64 → Int64 → Int64 → Int32 → Int32 → hs → Prop} (hK6 : ∀ (v0 : Nat) (v1 : Int64) (v3 : Int64) (v5 : Int64) (v7 : Int32) (v8 : Int32) (S : hs), K6 v0 v1 v3 v5 v7 v8 S → X E mX2_locate 0 0 ad S 6 [(0, aA v0), (1, aJ v1), (3, aJ v3), (5, aJ v5), (7, aI v7), (8, aI v8)] []) (v0 : Nat) (v1 : Int64) (v3 : Int64) (v5 : Int64) (v7 : Int32) (v8 : Int32) (v12 : Int32) (s0 : Int32) (S : hs) (h : PX2_locate_118 Post K6 v0 v1 v3 v5 v7 v8 v12 s0 S) : X E mX2_locate 0 0 ad S 118 [(0, aA v0), (1, aJ v1), (3, aJ v3), (5, aJ v5), (7, aI v7), (8, aI v8), (12, aI v12)] [aI s0] := by
  unfold PX2_locate_118 at h
  refine x_iload dX2_locate_118 rfl ?_
  refine x_icmp_ne (tgt := 135) dX2_locate_120 (by decide) (fun c => ?_) (fun c => ?_)
  · replace h := h.2 c
    refine x_lv (lv' := [(0, aA v0), (1, aJ v1), (3, aJ v3), (5, aJ v5), (7, aI v7), (8, aI v8)]) ⟨rfl, rfl, rfl, rfl, rfl, rfl, trivial⟩ ?_
    exact xX2_locate_135 hQ hK6 _ _ _ _ _ _ _ h
  · replace h := h.1 c
    refine x_iload dX2_locate_123 rfl ?_
    refine x_if_ne (tgt := 132) dX2_locate_125 (by decide) (fun c => ?_) (fun c => ?_)
    · replace h := h.2 c
      refine x_iconst (v := 0) dX2_locate_132 (by decide) ?_
      refine x_lv (lv' := [(0, aA v0), (1, aJ v1), (3, aJ v3), (5, aJ v5), (8, aI v8)]) ⟨rfl, rfl, rfl, rfl, rfl, trivial⟩ ?_
      exact xX2_locate_133 hQ hK6 _ _ _ _ _ _ _ h
    · replace h := h.1 c
      refine x_iconst (v := 1) dX2_locate_128 (by decide) ?_
      refine x_goto (tgt := 133) dX2_locate_129 (by decide) ?_
      refine x_lv (lv' := [(0, aA v0), (1, aJ v1), (3, aJ v3), (5, aJ v5), (8, aI v8)]) ⟨rfl, rfl, rfl, rfl, rfl, trivial⟩ ?_
      exact xX2_locate_133 hQ hK6 _ _ _ _ _ _ _ h
set_option maxRecDepth 100000 in
set_option maxHeartbeats 4000000 in
theorem xX2_locate_97 {E : en} {ad : Nat → Nat} {Post : Int32 → hs → Prop} (hQ : isQ E ad (pI Post)) {K6 : Nat → Int64 → Int64 → Int64 → Int32 → Int32 → hs → Prop} (hK6 : ∀ (v0 : Nat) (v1 : Int64) (v3 : Int64) (v5 : Int64) (v7 : Int32) (v8 : Int32) (S : hs), K6 v0 v1 v3 v5 v7 v8 S → X E mX2_locate 0 0 ad S 6 [(0, aA v0), (1, aJ v1), (3, aJ v3), (5, aJ v5), (7, aI v7), (8, aI v8)] []) (v0 : Nat) (v1 : Int64) (v3 : Int64) (v5 : Int64) (v7 : Int32) (v8 : Int32) (v9 : Int64) (v11 : Int32) (s0 : Int32) (S : hs) (h : PX2_locate_97 Post K6 v0 v1 v3 v5 v7 v8 v9 v11 s0 S) : X E mX2_locate 0 0 ad S 97 [(0, aA v0), (1, aJ v1), (3, aJ v3), (5, aJ v5), (7, aI v7), (8, aI v8), (9, aJ v9), (11, aI v11)] [aI s0] := by
  unfold PX2_locate_97 at h
  refine x_istore dX2_locate_97 (by decide) rfl ?_
  refine x_iload dX2_locate_99 rfl ?_
  refine x_iload dX2_locate_101 rfl ?_
  refine x_icmp_eq (tgt := 135) dX2_locate_103 (by decide) (fun c => ?_) (fun c => ?_)
  · replace h := h.1 c
    refine x_lv (lv' := [(0, aA v0), (1, aJ v1), (3, aJ v3), (5, aJ v5), (7, aI v7), (8, aI v8)]) ⟨rfl, rfl, rfl, rfl, rfl, rfl, trivial⟩ ?_
    exact xX2_locate_135 hQ hK6 _ _ _ _ _ _ _ h
  · replace h := h.2 c
    refine x_lload dX2_locate_106 rfl ?_
    refine x_lconst (v := 0) dX2_locate_108 (by decide) ?_
    refine x_lcmp_le (tgt := 117) dX2_locate_109 dX2_locate_110 (by decide) (fun c => ?_) (fun c => ?_)
    · replace h := h.1 c
      refine x_iconst (v := 0) dX2_locate_117 (by decide) ?_
      refine x_lv (lv' := [(0, aA v0), (1, aJ v1), (3, aJ v3), (5, aJ v5), (7, aI v7), (8, aI v8), (12, aI s0)]) ⟨rfl, rfl, rfl, rfl, rfl, rfl, rfl, trivial⟩ ?_
      exact xX2_locate_118 hQ hK6 _ _ _ _ _ _ _ _ _ h
    · replace h := h.2 c
      refine x_iconst (v := 1) dX2_locate_113 (by decide) ?_
      refine x_goto (tgt := 118) dX2_locate_114 (by decide) ?_
      refine x_lv (lv' := [(0, aA v0), (1, aJ v1), (3, aJ v3), (5, aJ v5), (7, aI v7), (8, aI v8), (12, aI s0)]) ⟨rfl, rfl, rfl, rfl, rfl, rfl, rfl, trivial⟩ ?_
      exact xX2_locate_118 hQ hK6 _ _ _ _ _ _ _ _ _ h
set_option maxRecDepth 100000 in
set_option maxHeartbeats 4000000 in
theorem xX2_locate_70 {E : en} {ad : Nat → Nat} {Post : Int32 → hs → Prop} (hQ : isQ E ad (pI Post)) {K6 : Nat → Int64 → Int64 → Int64 → Int32 → Int32 → hs → Prop} (hK6 : ∀ (v0 : Nat) (v1 : Int64) (v3 : Int64) (v5 : Int64) (v7 : Int32) (v8 : Int32) (S : hs), K6 v0 v1 v3 v5 v7 v8 S → X E mX2_locate 0 0 ad S 6 [(0, aA v0), (1, aJ v1), (3, aJ v3), (5, aJ v5), (7, aI v7), (8, aI v8)] []) (v0 : Nat) (v1 : Int64) (v3 : Int64) (v5 : Int64) (v7 : Int32) (v8 : Int32) (v9 : Int64) (s0 : Int32) (S : hs) (h : PX2_locate_70 Post K6 v0 v1 v3 v5 v7 v8 v9 s0 S) : X E mX2_locate 0 0 ad S 70 [(0, aA v0), (1, aJ v1), (3, aJ v3), (5, aJ v5), (7, aI v7), (8, aI v8), (9, aJ v9)] [aI s0] := by
  unfold PX2_locate_70 at h
  refine x_istore dX2_locate_70 (by decide) rfl ?_
  refine x_aload_n dX2_locate_72 rfl ?_
  obtain ⟨h1, r_73, hr_73, h⟩ := h
  refine x_g2_1 rfl dX2_locate_73 h1 (x_un hr_73 ?_)
  refine x_aload_n dX2_locate_76 rfl ?_
  refine x_iload dX2_locate_77 rfl ?_
  obtain ⟨h1, h⟩ := h
  refine x_callVI (As := [aI v8]) (st := [aA r_73]) kX2_20 rfl ⟨rfl, rfl, by decide, by decide⟩ dX2_locate_79 rfl (Nat.le_of_ble_eq_true rfl) ⟨Nat.zero_le _, Nat.zero_le _⟩ h1 (ctX2_next h) (fun x_79 S_79 h => ?_)
  refine x_iald dX2_locate_82 h.1 ?_
  replace h := h.2
  refine x_i2l dX2_locate_83 ?_
  refine x_lload dX2_locate_84 rfl ?_
  refine x_lmul dX2_locate_86 ?_
  refine x_lload_n dX2_locate_87 rfl ?_
  refine x_lcmp_le (tgt := 96) dX2_locate_88 dX2_locate_89 (by decide) (fun c => ?_) (fun c => ?_)
  · replace h := h.1 c
    refine x_iconst (v := 0) dX2_locate_96 (by decide) ?_
    refine x_lv (lv' := [(0, aA v0), (1, aJ v1), (3, aJ v3), (5, aJ v5), (7, aI v7), (8, aI v8), (9, aJ v9), (11, aI s0)]) ⟨rfl, rfl, rfl, rfl, rfl, rfl, rfl, rfl, trivial⟩ ?_
    exact xX2_locate_97 hQ hK6 _ _ _ _ _ _ _ _ _ _ h
  · replace h := h.2 c
    refine x_iconst (v := 1) dX2_locate_92 (by decide) ?_
    refine x_goto (tgt := 97) dX2_locate_93 (by decide) ?_
    refine x_lv (lv' := [(0, aA v0), (1, aJ v1), (3, aJ v3), (5, aJ v5), (7, aI v7), (8, aI v8), (9, aJ v9), (11, aI s0)]) ⟨rfl, rfl, rfl, rfl, rfl, rfl, rfl, rfl, trivial⟩ ?_
    exact xX2_locate_97 hQ hK6 _ _ _ _ _ _ _ _ _ _ h
set_option maxRecDepth 100000 in
set_option maxHeartbeats 4000000 in
theorem xX2_locate_49 {E : en} {ad : Nat → Nat} {Post : Int32 → hs → Prop} (hQ : isQ E ad (pI Post)) {K6 : Nat → Int64 → Int64 → Int64 → Int32 → Int32 → hs → Prop} (hK6 : ∀ (v0 : Nat) (v1 : Int64) (v3 : Int64) (v5 : Int64) (v7 : Int32) (v8 : Int32) (S : hs), K6 v0 v1 v3 v5 v7 v8 S → X E mX2_locate 0 0 ad S 6 [(0, aA v0), (1, aJ v1), (3, aJ v3), (5, aJ v5), (7, aI v7), (8, aI v8)] []) (v0 : Nat) (v1 : Int64) (v3 : Int64) (v5 : Int64) (v7 : Int32) (v8 : Int32) (v9 : Int64) (S : hs) (h : PX2_locate_49 Post K6 v0 v1 v3 v5 v7 v8 v9 S) : X E mX2_locate 0 0 ad S 49 [(0, aA v0), (1, aJ v1), (3, aJ v3), (5, aJ v5), (7, aI v7), (8, aI v8), (9, aJ v9)] [] := by
  unfold PX2_locate_49 at h
  refine x_aload_n dX2_locate_49 rfl ?_
  obtain ⟨h1, r_50, hr_50, h⟩ := h
  refine x_g2_1 rfl dX2_locate_50 h1 (x_un hr_50 ?_)
  refine x_iload dX2_locate_53 rfl ?_
  refine x_iald dX2_locate_55 h.1 ?_
  replace h := h.2
  refine x_i2l dX2_locate_56 ?_
  refine x_lload dX2_locate_57 rfl ?_
  refine x_lmul dX2_locate_59 ?_
  refine x_lload_n dX2_locate_60 rfl ?_
  refine x_lcmp_le (tgt := 69) dX2_locate_61 dX2_locate_62 (by decide) (fun c => ?_) (fun c => ?_)
  · replace h := h.1 c
    refine x_iconst (v := 0) dX2_locate_69 (by decide) ?_
    refine x_lv (lv' := [(0, aA v0), (1, aJ v1), (3, aJ v3), (5, aJ v5), (7, aI v7), (8, aI v8), (9, aJ v9)]) ⟨rfl, rfl, rfl, rfl, rfl, rfl, rfl, trivial⟩ ?_
    exact xX2_locate_70 hQ hK6 _ _ _ _ _ _ _ _ _ h
  · replace h := h.2 c
    refine x_iconst (v := 1) dX2_locate_65 (by decide) ?_
    refine x_goto (tgt := 70) dX2_locate_66 (by decide) ?_
    refine x_lv (lv' := [(0, aA v0), (1, aJ v1), (3, aJ v3), (5, aJ v5), (7, aI v7), (8, aI v8), (9, aJ v9)]) ⟨rfl, rfl, rfl, rfl, rfl, rfl, rfl, trivial⟩ ?_
    exact xX2_locate_70 hQ hK6 _ _ _ _ _ _ _ _ _ h
set_option maxRecDepth 100000 in
set_option maxHeartbeats 4000000 in
theorem xX2_locate_6 {E : en} {ad : Nat → Nat} {Post : Int32 → hs → Prop} (hQ : isQ E ad (pI Post))   : ∀ (n : Nat) (v0 : Nat) (v1 : Int64) (v3 : Int64) (v5 : Int64) (v7 : Int32) (v8 : Int32) (S : hs) (_ : PX2_locate_6 Post  n v0 v1 v3 v5 v7 v8 S), X E mX2_locate 0 0 ad S 6 [(0, aA v0), (1, aJ v1), (3, aJ v3), (5, aJ v5), (7, aI v7), (8, aI v8)] [] := by
  intro n
  induction n with
  | zero => intro v0 v1 v3 v5 v7 v8 S h; exact h.elim
  | succ n ih =>
    intro v0 v1 v3 v5 v7 v8 S h
    have hK6 := ih
    simp only [PX2_locate_6] at h
    refine x_iload dX2_locate_6 rfl ?_
    refine x_aload_n dX2_locate_8 rfl ?_
    refine x_g2_2 rfl dX2_locate_9 h.1 ?_
    replace h := h.2
    refine x_icmp_ge (tgt := 141) dX2_locate_12 (by decide) (fun c => ?_) (fun c => ?_)
    · replace h := h.1 c
      refine x_iload dX2_locate_141 rfl ?_
      refine x_if_eq (tgt := 150) dX2_locate_143 (by decide) (fun c => ?_) (fun c => ?_)
      · replace h := h.1 c
        refine x_iconst (v := (-1)) dX2_locate_150 (by decide) ?_
        refine x_lv (lv' := []) trivial ?_
        exact xX2_locate_151 hQ  _ _ h
      · replace h := h.2 c
        refine x_iconst (v := 1) dX2_locate_146 (by decide) ?_
        refine x_goto (tgt := 151) dX2_locate_147 (by decide) ?_
        refine x_lv (lv' := []) trivial ?_
        exact xX2_locate_151 hQ  _ _ h
    · replace h := h.2 c
      refine x_aload_n dX2_locate_15 rfl ?_
      refine x_iload dX2_locate_16 rfl ?_
      refine x_lload_n dX2_locate_18 rfl ?_
      refine x_lload_n dX2_locate_19 rfl ?_
      refine x_lload dX2_locate_20 rfl ?_
      obtain ⟨h1, h⟩ := h
      refine x_callVJ (As := [aI v8, aJ v1, aJ v3, aJ v5]) (st := []) kX2_32 rfl ⟨rfl, rfl, by decide, by decide⟩ dX2_locate_22 rfl (Nat.le_of_ble_eq_true rfl) ⟨Nat.zero_le _, Nat.zero_le _⟩ h1 (ctX2_turn h) (fun x_22 S_22 h => ?_)
      refine x_lstore dX2_locate_25 (by decide) rfl ?_
      refine x_lload dX2_locate_27 rfl ?_
      refine x_lconst (v := 0) dX2_locate_29 (by decide) ?_
      refine x_lcmp_ne (tgt := 49) dX2_locate_30 dX2_locate_31 (by decide) (fun c => ?_) (fun c => ?_)
      · replace h := h.2 c
        refine x_lv (lv' := [(0, aA v0), (1, aJ v1), (3, aJ v3), (5, aJ v5), (7, aI v7), (8, aI v8), (9, aJ x_22)]) ⟨rfl, rfl, rfl, rfl, rfl, rfl, rfl, trivial⟩ ?_
        exact xX2_locate_49 hQ hK6 _ _ _ _ _ _ _ _ h
      · replace h := h.1 c
        refine x_aload_n dX2_locate_34 rfl ?_
        refine x_iload dX2_locate_35 rfl ?_
        refine x_lload_n dX2_locate_37 rfl ?_
        refine x_lload_n dX2_locate_38 rfl ?_
        refine x_lload dX2_locate_39 rfl ?_
        obtain ⟨h1, h⟩ := h
        refine x_callVI (As := [aI v8, aJ v1, aJ v3, aJ v5]) (st := []) kX2_40 rfl ⟨rfl, rfl, by decide, by decide⟩ dX2_locate_41 rfl (Nat.le_of_ble_eq_true rfl) ⟨Nat.zero_le _, Nat.zero_le _⟩ h1 (ctX2_spans h) (fun x_41 S_41 h => ?_)
        refine x_if_eq (tgt := 49) dX2_locate_44 (by decide) (fun c => ?_) (fun c => ?_)
        · replace h := h.1 c
          refine x_lv (lv' := [(0, aA v0), (1, aJ v1), (3, aJ v3), (5, aJ v5), (7, aI v7), (8, aI v8), (9, aJ x_22)]) ⟨rfl, rfl, rfl, rfl, rfl, rfl, rfl, trivial⟩ ?_
          exact xX2_locate_49 hQ hK6 _ _ _ _ _ _ _ _ h
        · replace h := h.2 c
          refine x_iconst (v := 0) dX2_locate_47 (by decide) ?_
          exact x_iret hQ rfl dX2_locate_48 ⟨_, rfl, h⟩
set_option maxRecDepth 100000 in
set_option maxHeartbeats 4000000 in
theorem ctX2_locate {G : Launch × va_G × (Nat → ClassId) × Nat} {v0 : Nat} {v1 : Int64} {v3 : Int64} {v5 : Int64} {S : hs} {Post : Int32 → hs → Prop} (h : PX2_locate v0 v1 v3 v5 S Post) : ctN G mX2_locate [aA v0, aJ v1, aJ v3, aJ v5] S (pI Post) := by
  refine ctN.of (by decide) (Nat.le_of_ble_eq_true rfl) (fun E ad hG hQ => ?_)
  subst hG
  unfold PX2_locate at h
  refine x_iconst (v := 0) dX2_locate_0 (by decide) ?_
  refine x_istore dX2_locate_1 (by decide) rfl ?_
  refine x_iconst (v := 0) dX2_locate_3 (by decide) ?_
  refine x_istore dX2_locate_4 (by decide) rfl ?_
  refine x_lv (lv' := [(0, aA v0), (1, aJ v1), (3, aJ v3), (5, aJ v5), (7, aI 0), (8, aI 0)]) ⟨rfl, rfl, rfl, rfl, rfl, rfl, trivial⟩ ?_
  obtain ⟨n, h⟩ := h
  exact xX2_locate_6 hQ  n _ _ _ _ _ _ _ h
set_option maxRecDepth 100000 in
set_option maxHeartbeats 4000000 in
theorem xX0_contains_27 {E : en} {ad : Nat → Nat} {Post : Int32 → hs → Prop} (hQ : isQ E ad (pI Post))   : ∀ (n : Nat) (v0 : Nat) (v1 : Int64) (v3 : Int64) (v5 : Int64) (v7 : Int32) (S : hs) (_ : PX0_contains_27 Post  n v0 v1 v3 v5 v7 S), X E mX0_contains 0 0 ad S 27 [(0, aA v0), (1, aJ v1), (3, aJ v3), (5, aJ v5), (7, aI v7)] [] := by
  intro n
  induction n with
  | zero => intro v0 v1 v3 v5 v7 S h; exact h.elim
  | succ n ih =>
    intro v0 v1 v3 v5 v7 S h
    have hK27 := ih
    simp only [PX0_contains_27] at h
    refine x_iload dX0_contains_27 rfl ?_
    refine x_aload_n dX0_contains_29 rfl ?_
    refine x_g0_1 rfl dX0_contains_30 h.1 ?_
    replace h := h.2
    refine x_icmp_ge (tgt := 61) dX0_contains_33 (by decide) (fun c => ?_) (fun c => ?_)
    · replace h := h.1 c
      refine x_iconst (v := 1) dX0_contains_61 (by decide) ?_
      exact x_zret hQ rfl dX0_contains_62 ⟨Or.inr rfl, _, rfl, h⟩
    · replace h := h.2 c
      refine x_aload_n dX0_contains_36 rfl ?_
      refine x_iload dX0_contains_37 rfl ?_
      obtain ⟨h1, h⟩ := h
      refine x_callVR (As := [aI v7]) (st := []) kX0_54 rfl ⟨rfl, rfl, by decide, by decide⟩ dX0_contains_39 rfl (Nat.le_of_ble_eq_true rfl) ⟨Nat.zero_le _, Nat.zero_le _⟩ h1 (ctX0_ringOf h) (fun x_39 S_39 h => ?_)
      obtain ⟨r_39, hr_39, h⟩ := h
      refine x_un hr_39 ?_
      refine x_lload_n dX0_contains_42 rfl ?_
      refine x_lload_n dX0_contains_43 rfl ?_
      refine x_lload dX0_contains_44 rfl ?_
      obtain ⟨h1, h⟩ := h
      refine x_callVI (As := [aJ v1, aJ v3, aJ v5]) (st := []) kX0_75 rfl ⟨rfl, rfl, by decide, by decide⟩ dX0_contains_46 rfl (Nat.le_of_ble_eq_true rfl) ⟨Nat.zero_le _, Nat.zero_le _⟩ h1 (ctX2_locate h) (fun x_46 S_46 h => ?_)
      refine x_iconst (v := 1) dX0_contains_49 (by decide) ?_
      refine x_icmp_ne (tgt := 55) dX0_contains_50 (by decide) (fun c => ?_) (fun c => ?_)
      · replace h := h.2 c
        obtain ⟨v7_55, hv7_55⟩ : ∃ y : Int32, y = v7 + 1 := ⟨_, rfl⟩
        replace h := h v7_55 hv7_55
        refine x_iinc (v := v7_55) dX0_contains_55 rfl (by rw [hv7_55]; rfl) (by decide) rfl ?_
        refine x_goto (tgt := 27) dX0_contains_58 (by decide) ?_
        refine x_lv (lv' := [(0, aA v0), (1, aJ v1), (3, aJ v3), (5, aJ v5), (7, aI v7_55)]) ⟨rfl, rfl, rfl, rfl, rfl, trivial⟩ ?_
        exact hK27 _ _ _ _ _ _ h
      · replace h := h.1 c
        refine x_iconst (v := 0) dX0_contains_53 (by decide) ?_
        exact x_zret hQ rfl dX0_contains_54 ⟨Or.inl rfl, _, rfl, h⟩
set_option maxRecDepth 100000 in
set_option maxHeartbeats 4000000 in
theorem xX0_contains_22 {E : en} {ad : Nat → Nat} {Post : Int32 → hs → Prop} (hQ : isQ E ad (pI Post))    (S : hs) (h : PX0_contains_22 Post   S) : X E mX0_contains 0 0 ad S 22 [] [] := by
  unfold PX0_contains_22 at h
  refine x_iconst (v := 0) dX0_contains_22 (by decide) ?_
  exact x_zret hQ rfl dX0_contains_23 ⟨Or.inl rfl, _, rfl, h⟩
set_option maxRecDepth 100000 in
set_option maxHeartbeats 4000000 in
theorem ctX0_contains {G : Launch × va_G × (Nat → ClassId) × Nat} {v0 : Nat} {v1 : Int64} {v3 : Int64} {v5 : Int64} {S : hs} {Post : Int32 → hs → Prop} (h : PX0_contains v0 v1 v3 v5 S Post) : ctN G mX0_contains [aA v0, aJ v1, aJ v3, aJ v5] S (pI Post) := by
  refine ctN.of (by decide) (Nat.le_of_ble_eq_true rfl) (fun E ad hG hQ => ?_)
  subst hG
  unfold PX0_contains at h
  refine x_aload_n dX0_contains_0 rfl ?_
  obtain ⟨h1, h⟩ := h
  refine x_callVI (As := []) (st := []) kX0_72 rfl ⟨rfl, rfl, by decide, by decide⟩ dX0_contains_1 rfl (Nat.le_of_ble_eq_true rfl) ⟨Nat.zero_le _, Nat.zero_le _⟩ h1 (ctX0_isThere h) (fun x_1 S_1 h => ?_)
  refine x_if_eq (tgt := 22) dX0_contains_4 (by decide) (fun c => ?_) (fun c => ?_)
  · replace h := h.1 c
    refine x_lv (lv' := []) trivial ?_
    exact xX0_contains_22 hQ   _ h
  · replace h := h.2 c
    refine x_aload_n dX0_contains_7 rfl ?_
    obtain ⟨h1, h⟩ := h
    refine x_callVR (As := []) (st := []) kX0_28 rfl ⟨rfl, rfl, by decide, by decide⟩ dX0_contains_8 rfl (Nat.le_of_ble_eq_true rfl) ⟨Nat.zero_le _, Nat.zero_le _⟩ h1 (ctX0_outer h) (fun x_8 S_8 h => ?_)
    obtain ⟨r_8, hr_8, h⟩ := h
    refine x_un hr_8 ?_
    refine x_lload_n dX0_contains_11 rfl ?_
    refine x_lload_n dX0_contains_12 rfl ?_
    refine x_lload dX0_contains_13 rfl ?_
    obtain ⟨h1, h⟩ := h
    refine x_callVI (As := [aJ v1, aJ v3, aJ v5]) (st := []) kX0_75 rfl ⟨rfl, rfl, by decide, by decide⟩ dX0_contains_15 rfl (Nat.le_of_ble_eq_true rfl) ⟨Nat.zero_le _, Nat.zero_le _⟩ h1 (ctX2_locate h) (fun x_15 S_15 h => ?_)
    refine x_iconst (v := (-1)) dX0_contains_18 (by decide) ?_
    refine x_icmp_ne (tgt := 24) dX0_contains_19 (by decide) (fun c => ?_) (fun c => ?_)
    · replace h := h.2 c
      refine x_iconst (v := 1) dX0_contains_24 (by decide) ?_
      refine x_istore dX0_contains_25 (by decide) rfl ?_
      refine x_lv (lv' := [(0, aA v0), (1, aJ v1), (3, aJ v3), (5, aJ v5), (7, aI 1)]) ⟨rfl, rfl, rfl, rfl, rfl, trivial⟩ ?_
      obtain ⟨n, h⟩ := h
      exact xX0_contains_27 hQ  n _ _ _ _ _ _ h
    · replace h := h.1 c
      refine x_lv (lv' := []) trivial ?_
      exact xX0_contains_22 hQ   _ h
set_option maxRecDepth 100000 in
set_option maxHeartbeats 4000000 in
theorem xX2_areOpposite_29 {E : en} {ad : Nat → Nat} {Post : Int32 → hs → Prop} (hQ : isQ E ad (pI Post))   (s0 : Int32) (S : hs) (h : PX2_areOpposite_29 Post  s0 S) : X E mX2_areOpposite 0 0 ad S 29 [] [aI s0] := by
  unfold PX2_areOpposite_29 at h
  exact x_zret hQ rfl dX2_areOpposite_29 ⟨h.1, _, rfl, h.2⟩
set_option maxRecDepth 100000 in
set_option maxHeartbeats 4000000 in
theorem xX2_areOpposite_28 {E : en} {ad : Nat → Nat} {Post : Int32 → hs → Prop} (hQ : isQ E ad (pI Post))    (S : hs) (h : PX2_areOpposite_28 Post   S) : X E mX2_areOpposite 0 0 ad S 28 [] [] := by
  unfold PX2_areOpposite_28 at h
  refine x_iconst (v := 0) dX2_areOpposite_28 (by decide) ?_
  refine x_lv (lv' := []) trivial ?_
  exact xX2_areOpposite_29 hQ  _ _ h
set_option maxRecDepth 100000 in
set_option maxHeartbeats 4000000 in
theorem xX2_areOpposite_24 {E : en} {ad : Nat → Nat} {Post : Int32 → hs → Prop} (hQ : isQ E ad (pI Post))    (S : hs) (h : PX2_areOpposite_24 Post   S) : X E mX2_areOpposite 0 0 ad S 24 [] [] := by
  unfold PX2_areOpposite_24 at h
  refine x_iconst (v := 1) dX2_areOpposite_24 (by decide) ?_
  refine x_goto (tgt := 29) dX2_areOpposite_25 (by decide) ?_
  refine x_lv (lv' := []) trivial ?_
  exact xX2_areOpposite_29 hQ  _ _ h
set_option maxRecDepth 100000 in
set_option maxHeartbeats 4000000 in
theorem xX2_areOpposite_12 {E : en} {ad : Nat → Nat} {Post : Int32 → hs → Prop} (hQ : isQ E ad (pI Post))   (v0 : Int64) (v2 : Int64) (S : hs) (h : PX2_areOpposite_12 Post  v0 v2 S) : X E mX2_areOpposite 0 0 ad S 12 [(0, aJ v0), (2, aJ v2)] [] := by
  unfold PX2_areOpposite_12 at h
  refine x_lload_n dX2_areOpposite_12 rfl ?_
  refine x_lconst (v := 0) dX2_areOpposite_13 (by decide) ?_
  refine x_lcmp_le (tgt := 28) dX2_areOpposite_14 dX2_areOpposite_15 (by decide) (fun c => ?_) (fun c => ?_)
  · replace h := h.1 c
    refine x_lv (lv' := []) trivial ?_
    exact xX2_areOpposite_28 hQ   _ h
  · replace h := h.2 c
    refine x_lload_n dX2_areOpposite_18 rfl ?_
    refine x_lconst (v := 0) dX2_areOpposite_19 (by decide) ?_
    refine x_lcmp_ge (tgt := 28) dX2_areOpposite_20 dX2_areOpposite_21 (by decide) (fun c => ?_) (fun c => ?_)
    · replace h := h.1 c
      refine x_lv (lv' := []) trivial ?_
      exact xX2_areOpposite_28 hQ   _ h
    · replace h := h.2 c
      refine x_lv (lv' := []) trivial ?_
      exact xX2_areOpposite_24 hQ   _ h
set_option maxRecDepth 100000 in
set_option maxHeartbeats 4000000 in
theorem ctX2_areOpposite {G : Launch × va_G × (Nat → ClassId) × Nat} {v0 : Int64} {v2 : Int64} {S : hs} {Post : Int32 → hs → Prop} (h : PX2_areOpposite v0 v2 S Post) : ctN G mX2_areOpposite [aJ v0, aJ v2] S (pI Post) := by
  refine ctN.of (by decide) (Nat.le_of_ble_eq_true rfl) (fun E ad hG hQ => ?_)
  subst hG
  unfold PX2_areOpposite at h
  refine x_lload_n dX2_areOpposite_0 rfl ?_
  refine x_lconst (v := 0) dX2_areOpposite_1 (by decide) ?_
  refine x_lcmp_ge (tgt := 12) dX2_areOpposite_2 dX2_areOpposite_3 (by decide) (fun c => ?_) (fun c => ?_)
  · replace h := h.1 c
    refine x_lv (lv' := [(0, aJ v0), (2, aJ v2)]) ⟨rfl, rfl, trivial⟩ ?_
    exact xX2_areOpposite_12 hQ  _ _ _ h
  · replace h := h.2 c
    refine x_lload_n dX2_areOpposite_6 rfl ?_
    refine x_lconst (v := 0) dX2_areOpposite_7 (by decide) ?_
    refine x_lcmp_gt (tgt := 24) dX2_areOpposite_8 dX2_areOpposite_9 (by decide) (fun c => ?_) (fun c => ?_)
    · replace h := h.1 c
      refine x_lv (lv' := []) trivial ?_
      exact xX2_areOpposite_24 hQ   _ h
    · replace h := h.2 c
      refine x_lv (lv' := [(0, aJ v0), (2, aJ v2)]) ⟨rfl, rfl, trivial⟩ ?_
      exact xX2_areOpposite_12 hQ  _ _ _ h
