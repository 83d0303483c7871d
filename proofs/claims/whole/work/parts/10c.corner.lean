set_option maxRecDepth 100000 in
set_option maxHeartbeats 4000000 in
theorem xX6_corner_47 {E : en} {ad : Nat → Nat} {Post : Int32 → hs → Prop} {PostT : hs → Prop} (hQ : isQT E ad PostT (pI Post))   (s0 : Int32) (S : hs) (h : PX6_corner_47 Post  s0 S) : X E mX6_corner 0 0 ad S 47 [] [aI s0] := by
  unfold PX6_corner_47 at h
  exact x_zretT hQ rfl dX6_corner_47 ⟨h.1, _, rfl, h.2⟩
set_option maxRecDepth 100000 in
set_option maxHeartbeats 4000000 in
theorem xX6_corner_46 {E : en} {ad : Nat → Nat} {Post : Int32 → hs → Prop} {PostT : hs → Prop} (hQ : isQT E ad PostT (pI Post))    (S : hs) (h : PX6_corner_46 Post   S) : X E mX6_corner 0 0 ad S 46 [] [] := by
  unfold PX6_corner_46 at h
  refine x_iconst (v := 0) dX6_corner_46 (by decide) ?_
  refine x_lv (lv' := []) trivial ?_
  exact xX6_corner_47 hQ  _ _ h
set_option maxRecDepth 100000 in
set_option maxHeartbeats 4000000 in
theorem xX6_corner_16 {E : en} {ad : Nat → Nat} {Post : Int32 → hs → Prop} {PostT : hs → Prop} (hQ : isQT E ad PostT (pI Post))   (v0 : Nat) (v1 : Int32) (v2 : Int64) (v4 : Int64) (S : hs) (h : PX6_corner_16 Post  v0 v1 v2 v4 S) : X E mX6_corner 0 0 ad S 16 [(0, aA v0), (1, aI v1), (2, aJ v2), (4, aJ v4)] [] := by
  unfold PX6_corner_16 at h
  refine x_lload_n dX6_corner_16 rfl ?_
  refine x_lload dX6_corner_17 rfl ?_
  refine x_callSI (As := [aJ v2, aJ v4]) (st := []) kX6_67 rfl ⟨rfl, rfl, by decide, by decide⟩ dX6_corner_19 rfl (Nat.le_of_ble_eq_true rfl) ⟨Nat.zero_le _, Nat.zero_le _⟩ (ctX6_isPlace h) (fun x_19 S_19 h => ?_)
  refine x_if_eq (tgt := 46) dX6_corner_22 (by decide) (fun c => ?_) (fun c => ?_)
  · replace h := h.1 c
    refine x_lv (lv' := []) trivial ?_
    exact xX6_corner_46 hQ   _ h
  · replace h := h.2 c
    refine x_aload_n dX6_corner_25 rfl ?_
    obtain ⟨h1, r_26, hr_26, h⟩ := h
    refine x_g6_0 rfl dX6_corner_26 h1 (x_un hr_26 ?_)
    refine x_iload_n dX6_corner_29 rfl ?_
    obtain ⟨h1, r_30, hr_30, h⟩ := h
    refine x_aald11 dX6_corner_30 h1 (x_un hr_30 ?_)
    refine x_lload_n dX6_corner_31 rfl ?_
    refine x_l2i dX6_corner_32 ?_
    refine x_lload dX6_corner_33 rfl ?_
    refine x_l2i dX6_corner_35 ?_
    obtain ⟨h1, h⟩ := h
    refine x_callVI (As := [aI (Int64.toInt32 v2), aI (Int64.toInt32 v4)]) (st := []) kX6_71 rfl ⟨rfl, rfl, by decide, by decide⟩ dX6_corner_36 rfl (Nat.le_of_ble_eq_true rfl) ⟨Nat.zero_le _, Nat.zero_le _⟩ h1 (ctX0_addCorner h) (fun x_36 S_36 h => ?_)
    refine x_if_eq (tgt := 46) dX6_corner_39 (by decide) (fun c => ?_) (fun c => ?_)
    · replace h := h.1 c
      refine x_lv (lv' := []) trivial ?_
      exact xX6_corner_46 hQ   _ h
    · replace h := h.2 c
      refine x_iconst (v := 1) dX6_corner_42 (by decide) ?_
      refine x_goto (tgt := 47) dX6_corner_43 (by decide) ?_
      refine x_lv (lv' := []) trivial ?_
      exact xX6_corner_47 hQ  _ _ h
