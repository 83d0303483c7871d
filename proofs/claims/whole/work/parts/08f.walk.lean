set_option maxRecDepth 100000 in
set_option maxHeartbeats 4000000 in
theorem xX6_isCoordinate_21 {E : en} {ad : Nat → Nat} {Post : Int32 → hs → Prop} (hQ : isQ E ad (pI Post))   (s0 : Int32) (S : hs) (h : PX6_isCoordinate_21 Post  s0 S) : X E mX6_isCoordinate 0 0 ad S 21 [] [aI s0] := by
  unfold PX6_isCoordinate_21 at h
  exact x_zret hQ rfl dX6_isCoordinate_21 ⟨h.1, _, rfl, h.2⟩
set_option maxRecDepth 100000 in
set_option maxHeartbeats 4000000 in
theorem xX6_isCoordinate_20 {E : en} {ad : Nat → Nat} {Post : Int32 → hs → Prop} (hQ : isQ E ad (pI Post))    (S : hs) (h : PX6_isCoordinate_20 Post   S) : X E mX6_isCoordinate 0 0 ad S 20 [] [] := by
  unfold PX6_isCoordinate_20 at h
  refine x_iconst (v := 0) dX6_isCoordinate_20 (by decide) ?_
  refine x_lv (lv' := []) trivial ?_
  exact xX6_isCoordinate_21 hQ  _ _ h
set_option maxRecDepth 100000 in
set_option maxHeartbeats 4000000 in
theorem ctX6_isCoordinate {G : Launch × va_G × (Nat → ClassId) × Nat} {v0 : Int64} {S : hs} {Post : Int32 → hs → Prop} (h : PX6_isCoordinate v0 S Post) : ctN G mX6_isCoordinate [aJ v0] S (pI Post) := by
  refine ctN.of (by decide) (Nat.le_of_ble_eq_true rfl) (fun E ad hG hQ => ?_)
  subst hG
  unfold PX6_isCoordinate at h
  refine x_lload_n dX6_isCoordinate_0 rfl ?_
  refine x_ldc2 (v := (-200)) dX6_isCoordinate_1 kcX6_209 ?_
  refine x_lcmp_lt (tgt := 20) dX6_isCoordinate_4 dX6_isCoordinate_5 (by decide) (fun c => ?_) (fun c => ?_)
  · replace h := h.1 c
    refine x_lv (lv' := []) trivial ?_
    exact xX6_isCoordinate_20 hQ   _ h
  · replace h := h.2 c
    refine x_lload_n dX6_isCoordinate_8 rfl ?_
    refine x_ldc2 (v := 200) dX6_isCoordinate_9 kcX6_211 ?_
    refine x_lcmp_gt (tgt := 20) dX6_isCoordinate_12 dX6_isCoordinate_13 (by decide) (fun c => ?_) (fun c => ?_)
    · replace h := h.1 c
      refine x_lv (lv' := []) trivial ?_
      exact xX6_isCoordinate_20 hQ   _ h
    · replace h := h.2 c
      refine x_iconst (v := 1) dX6_isCoordinate_16 (by decide) ?_
      refine x_goto (tgt := 21) dX6_isCoordinate_17 (by decide) ?_
      refine x_lv (lv' := []) trivial ?_
      exact xX6_isCoordinate_21 hQ  _ _ h
set_option maxRecDepth 100000 in
set_option maxHeartbeats 4000000 in
theorem xX6_isPlace_19 {E : en} {ad : Nat → Nat} {Post : Int32 → hs → Prop} (hQ : isQ E ad (pI Post))   (s0 : Int32) (S : hs) (h : PX6_isPlace_19 Post  s0 S) : X E mX6_isPlace 0 0 ad S 19 [] [aI s0] := by
  unfold PX6_isPlace_19 at h
  exact x_zret hQ rfl dX6_isPlace_19 ⟨h.1, _, rfl, h.2⟩
set_option maxRecDepth 100000 in
set_option maxHeartbeats 4000000 in
theorem xX6_isPlace_18 {E : en} {ad : Nat → Nat} {Post : Int32 → hs → Prop} (hQ : isQ E ad (pI Post))    (S : hs) (h : PX6_isPlace_18 Post   S) : X E mX6_isPlace 0 0 ad S 18 [] [] := by
  unfold PX6_isPlace_18 at h
  refine x_iconst (v := 0) dX6_isPlace_18 (by decide) ?_
  refine x_lv (lv' := []) trivial ?_
  exact xX6_isPlace_19 hQ  _ _ h
set_option maxRecDepth 100000 in
set_option maxHeartbeats 4000000 in
theorem ctX6_isPlace {G : Launch × va_G × (Nat → ClassId) × Nat} {v0 : Int64} {v2 : Int64} {S : hs} {Post : Int32 → hs → Prop} (h : PX6_isPlace v0 v2 S Post) : ctN G mX6_isPlace [aJ v0, aJ v2] S (pI Post) := by
  refine ctN.of (by decide) (Nat.le_of_ble_eq_true rfl) (fun E ad hG hQ => ?_)
  subst hG
  unfold PX6_isPlace at h
  refine x_lload_n dX6_isPlace_0 rfl ?_
  refine x_callSI (As := [aJ v0]) (st := []) kX6_205 rfl ⟨rfl, rfl, by decide, by decide⟩ dX6_isPlace_1 rfl (Nat.le_of_ble_eq_true rfl) ⟨Nat.zero_le _, Nat.zero_le _⟩ (ctX6_isCoordinate h) (fun x_1 S_1 h => ?_)
  refine x_if_eq (tgt := 18) dX6_isPlace_4 (by decide) (fun c => ?_) (fun c => ?_)
  · replace h := h.1 c
    refine x_lv (lv' := []) trivial ?_
    exact xX6_isPlace_18 hQ   _ h
  · replace h := h.2 c
    refine x_lload_n dX6_isPlace_7 rfl ?_
    refine x_callSI (As := [aJ v2]) (st := []) kX6_205 rfl ⟨rfl, rfl, by decide, by decide⟩ dX6_isPlace_8 rfl (Nat.le_of_ble_eq_true rfl) ⟨Nat.zero_le _, Nat.zero_le _⟩ (ctX6_isCoordinate h) (fun x_8 S_8 h => ?_)
    refine x_if_eq (tgt := 18) dX6_isPlace_11 (by decide) (fun c => ?_) (fun c => ?_)
    · replace h := h.1 c
      refine x_lv (lv' := []) trivial ?_
      exact xX6_isPlace_18 hQ   _ h
    · replace h := h.2 c
      refine x_iconst (v := 1) dX6_isPlace_14 (by decide) ?_
      refine x_goto (tgt := 19) dX6_isPlace_15 (by decide) ?_
      refine x_lv (lv' := []) trivial ?_
      exact xX6_isPlace_19 hQ  _ _ h
set_option maxRecDepth 100000 in
set_option maxHeartbeats 4000000 in
theorem xX6_report_120 {E : en} {ad : Nat → Nat} {Post : Int32 → hs → Prop} (hQ : isQ E ad (pI Post))   : ∀ (n : Nat) (v0 : Nat) (v5 : Int64) (v8 : Int32) (v9 : Int32) (S : hs) (_ : PX6_report_120 Post  n v0 v5 v8 v9 S), X E mX6_report 0 0 ad S 120 [(0, aA v0), (5, aJ v5), (8, aI v8), (9, aI v9)] [] := by
  intro n
  induction n with
  | zero => intro v0 v5 v8 v9 S h; exact h.elim
  | succ n ih =>
    intro v0 v5 v8 v9 S h
    have hK120 := ih
    simp only [PX6_report_120] at h
    refine x_iload dX6_report_120 rfl ?_
    refine x_bipush (v := 8) dX6_report_122 (by decide) ?_
    refine x_icmp_ge (tgt := 153) dX6_report_124 (by decide) (fun c => ?_) (fun c => ?_)
    · replace h := h.1 c
      refine x_iload dX6_report_153 rfl ?_
      exact x_iret hQ rfl dX6_report_155 ⟨_, rfl, h⟩
    · replace h := h.2 c
      refine x_aload_n dX6_report_127 rfl ?_
      obtain ⟨h1, r_128, hr_128, h⟩ := h
      refine x_g6_1 rfl dX6_report_128 h1 (x_un hr_128 ?_)
      refine x_iload dX6_report_131 rfl ?_
      refine x_iload dX6_report_133 rfl ?_
      refine x_lload dX6_report_135 rfl ?_
      refine x_l2i dX6_report_137 ?_
      refine x_lload dX6_report_138 rfl ?_
      refine x_l2i dX6_report_140 ?_
      refine x_iconst (v := 2) dX6_report_141 (by decide) ?_
      refine x_iadd dX6_report_142 ?_
      obtain ⟨h1, h⟩ := h
      refine x_callVI (As := [aI v8, aI v9, aI (Int64.toInt32 v5), aI ((Int64.toInt32 v5) + 2)]) (st := []) kX6_85 rfl ⟨rfl, rfl, by decide, by decide⟩ dX6_report_143 rfl (Nat.le_of_ble_eq_true rfl) ⟨Nat.zero_le _, Nat.zero_le _⟩ h1 (ctX3_add h) (fun x_143 S_143 h => ?_)
      refine x_pop dX6_report_146 ?_
      obtain ⟨v9_147, hv9_147⟩ : ∃ y : Int32, y = v9 + 1 := ⟨_, rfl⟩
      replace h := h v9_147 hv9_147
      refine x_iinc (v := v9_147) dX6_report_147 rfl (by rw [hv9_147]; rfl) (by decide) rfl ?_
      refine x_goto (tgt := 120) dX6_report_150 (by decide) ?_
      refine x_lv (lv' := [(0, aA v0), (5, aJ v5), (8, aI v8), (9, aI v9_147)]) ⟨rfl, rfl, rfl, rfl, trivial⟩ ?_
      exact hK120 _ _ _ _ _ h
set_option maxRecDepth 100000 in
set_option maxHeartbeats 4000000 in
theorem xX6_report_98 {E : en} {ad : Nat → Nat} {Post : Int32 → hs → Prop} (hQ : isQ E ad (pI Post))    (S : hs) (h : PX6_report_98 Post   S) : X E mX6_report 0 0 ad S 98 [] [] := by
  unfold PX6_report_98 at h
  refine x_bipush (v := (-4)) dX6_report_98 (by decide) ?_
  exact x_iret hQ rfl dX6_report_100 ⟨_, rfl, h⟩
set_option maxRecDepth 100000 in
set_option maxHeartbeats 4000000 in
theorem xX6_report_73 {E : en} {ad : Nat → Nat} {Post : Int32 → hs → Prop} (hQ : isQ E ad (pI Post))    (S : hs) (h : PX6_report_73 Post   S) : X E mX6_report 0 0 ad S 73 [] [] := by
  unfold PX6_report_73 at h
  refine x_iconst (v := (-1)) dX6_report_73 (by decide) ?_
  exact x_iret hQ rfl dX6_report_74 ⟨_, rfl, h⟩
set_option maxRecDepth 100000 in
set_option maxHeartbeats 4000000 in
theorem xX6_report_39 {E : en} {ad : Nat → Nat} {Post : Int32 → hs → Prop} (hQ : isQ E ad (pI Post))    (S : hs) (h : PX6_report_39 Post   S) : X E mX6_report 0 0 ad S 39 [] [] := by
  unfold PX6_report_39 at h
  refine x_iconst (v := (-1)) dX6_report_39 (by decide) ?_
  exact x_iret hQ rfl dX6_report_40 ⟨_, rfl, h⟩
set_option maxRecDepth 100000 in
set_option maxHeartbeats 4000000 in
theorem xX6_report_24 {E : en} {ad : Nat → Nat} {Post : Int32 → hs → Prop} (hQ : isQ E ad (pI Post))    (S : hs) (h : PX6_report_24 Post   S) : X E mX6_report 0 0 ad S 24 [] [] := by
  unfold PX6_report_24 at h
  refine x_iconst (v := (-1)) dX6_report_24 (by decide) ?_
  exact x_iret hQ rfl dX6_report_25 ⟨_, rfl, h⟩
set_option maxRecDepth 100000 in
set_option maxHeartbeats 4000000 in
theorem ctX6_report {G : Launch × va_G × (Nat → ClassId) × Nat} {v0 : Nat} {v1 : Int64} {v3 : Int64} {v5 : Int64} {v7 : Int32} {S : hs} {Post : Int32 → hs → Prop} (h : PX6_report v0 v1 v3 v5 v7 S Post) : ctN G mX6_report [aA v0, aJ v1, aJ v3, aJ v5, aI v7] S (pI Post) := by
  refine ctN.of (by decide) (Nat.le_of_ble_eq_true rfl) (fun E ad hG hQ => ?_)
  subst hG
  unfold PX6_report at h
  refine x_lload_n dX6_report_0 rfl ?_
  refine x_lload_n dX6_report_1 rfl ?_
  refine x_callSI (As := [aJ v1, aJ v3]) (st := []) kX6_67 rfl ⟨rfl, rfl, by decide, by decide⟩ dX6_report_2 rfl (Nat.le_of_ble_eq_true rfl) ⟨Nat.zero_le _, Nat.zero_le _⟩ (ctX6_isPlace h) (fun x_2 S_2 h => ?_)
  refine x_if_eq (tgt := 24) dX6_report_5 (by decide) (fun c => ?_) (fun c => ?_)
  · replace h := h.1 c
    refine x_lv (lv' := []) trivial ?_
    exact xX6_report_24 hQ   _ h
  · replace h := h.2 c
    refine x_lload dX6_report_8 rfl ?_
    refine x_lconst (v := 0) dX6_report_10 (by decide) ?_
    refine x_lcmp_lt (tgt := 24) dX6_report_11 dX6_report_12 (by decide) (fun c => ?_) (fun c => ?_)
    · replace h := h.1 c
      refine x_lv (lv' := []) trivial ?_
      exact xX6_report_24 hQ   _ h
    · replace h := h.2 c
      refine x_lload dX6_report_15 rfl ?_
      refine x_ldc2 (v := 398) dX6_report_17 kcX6_95 ?_
      refine x_lcmp_le (tgt := 26) dX6_report_20 dX6_report_21 (by decide) (fun c => ?_) (fun c => ?_)
      · replace h := h.1 c
        refine x_iload dX6_report_26 rfl ?_
        refine x_iconst (v := 1) dX6_report_28 (by decide) ?_
        refine x_icmp_lt (tgt := 39) dX6_report_29 (by decide) (fun c => ?_) (fun c => ?_)
        · replace h := h.1 c
          refine x_lv (lv' := []) trivial ?_
          exact xX6_report_39 hQ   _ h
        · replace h := h.2 c
          refine x_iload dX6_report_32 rfl ?_
          refine x_bipush (v := 20) dX6_report_34 (by decide) ?_
          refine x_icmp_le (tgt := 41) dX6_report_36 (by decide) (fun c => ?_) (fun c => ?_)
          · replace h := h.1 c
            refine x_lload_n dX6_report_41 rfl ?_
            refine x_iload dX6_report_42 rfl ?_
            refine x_i2l dX6_report_44 ?_
            refine x_lsub dX6_report_45 ?_
            refine x_lload_n dX6_report_46 rfl ?_
            refine x_iload dX6_report_47 rfl ?_
            refine x_i2l dX6_report_49 ?_
            refine x_lsub dX6_report_50 ?_
            refine x_callSI (As := [aJ (v1 - (Int32.toInt64 v7)), aJ (v3 - (Int32.toInt64 v7))]) (st := []) kX6_67 rfl ⟨rfl, rfl, by decide, by decide⟩ dX6_report_51 rfl (Nat.le_of_ble_eq_true rfl) ⟨Nat.zero_le _, Nat.zero_le _⟩ (ctX6_isPlace h) (fun x_51 S_51 h => ?_)
            refine x_if_eq (tgt := 73) dX6_report_54 (by decide) (fun c => ?_) (fun c => ?_)
            · replace h := h.1 c
              refine x_lv (lv' := []) trivial ?_
              exact xX6_report_73 hQ   _ h
            · replace h := h.2 c
              refine x_lload_n dX6_report_57 rfl ?_
              refine x_iload dX6_report_58 rfl ?_
              refine x_i2l dX6_report_60 ?_
              refine x_ladd dX6_report_61 ?_
              refine x_lload_n dX6_report_62 rfl ?_
              refine x_iload dX6_report_63 rfl ?_
              refine x_i2l dX6_report_65 ?_
              refine x_ladd dX6_report_66 ?_
              refine x_callSI (As := [aJ (v1 + (Int32.toInt64 v7)), aJ (v3 + (Int32.toInt64 v7))]) (st := []) kX6_67 rfl ⟨rfl, rfl, by decide, by decide⟩ dX6_report_67 rfl (Nat.le_of_ble_eq_true rfl) ⟨Nat.zero_le _, Nat.zero_le _⟩ (ctX6_isPlace h) (fun x_67 S_67 h => ?_)
              refine x_if_ne (tgt := 75) dX6_report_70 (by decide) (fun c => ?_) (fun c => ?_)
              · replace h := h.2 c
                refine x_aload_n dX6_report_75 rfl ?_
                obtain ⟨h1, h⟩ := h
                refine x_callVI (As := []) (st := []) kX6_97 rfl ⟨rfl, rfl, by decide, by decide⟩ dX6_report_76 rfl (Nat.le_of_ble_eq_true rfl) ⟨Nat.zero_le _, Nat.zero_le _⟩ h1 (ctX6_firstUntouchedArea h) (fun x_76 S_76 h => ?_)
                refine x_istore dX6_report_79 (by decide) rfl ?_
                refine x_iload dX6_report_81 rfl ?_
                refine x_if_lt (tgt := 98) dX6_report_83 (by decide) (fun c => ?_) (fun c => ?_)
                · replace h := h.1 c
                  refine x_lv (lv' := []) trivial ?_
                  exact xX6_report_98 hQ   _ h
                · replace h := h.2 c
                  refine x_aload_n dX6_report_86 rfl ?_
                  obtain ⟨h1, r_87, hr_87, h⟩ := h
                  refine x_g6_1 rfl dX6_report_87 h1 (x_un hr_87 ?_)
                  obtain ⟨h1, h⟩ := h
                  refine x_callVI (As := []) (st := []) kX6_101 rfl ⟨rfl, rfl, by decide, by decide⟩ dX6_report_90 rfl (Nat.le_of_ble_eq_true rfl) ⟨Nat.zero_le _, Nat.zero_le _⟩ h1 (ctX3_room h) (fun x_90 S_90 h => ?_)
                  refine x_bipush (v := 8) dX6_report_93 (by decide) ?_
                  refine x_icmp_ge (tgt := 101) dX6_report_95 (by decide) (fun c => ?_) (fun c => ?_)
                  · replace h := h.1 c
                    refine x_aload_n dX6_report_101 rfl ?_
                    obtain ⟨h1, r_102, hr_102, h⟩ := h
                    refine x_g6_0 rfl dX6_report_102 h1 (x_un hr_102 ?_)
                    refine x_iload dX6_report_105 rfl ?_
                    obtain ⟨h1, r_107, hr_107, h⟩ := h
                    refine x_aald11 dX6_report_107 h1 (x_un hr_107 ?_)
                    refine x_lload_n dX6_report_108 rfl ?_
                    refine x_l2i dX6_report_109 ?_
                    refine x_lload_n dX6_report_110 rfl ?_
                    refine x_l2i dX6_report_111 ?_
                    refine x_iload dX6_report_112 rfl ?_
                    obtain ⟨h1, h⟩ := h
                    refine x_callVV (As := [aI (Int64.toInt32 v1), aI (Int64.toInt32 v3), aI v7]) (st := []) kX6_104 rfl ⟨rfl, rfl, by decide, by decide⟩ dX6_report_114 rfl (Nat.le_of_ble_eq_true rfl) ⟨Nat.zero_le _, Nat.zero_le _⟩ h1 (ctX0_becomeSquare h) (fun S_114 h => ?_)
                    refine x_iconst (v := 0) dX6_report_117 (by decide) ?_
                    refine x_istore dX6_report_118 (by decide) rfl ?_
                    refine x_lv (lv' := [(0, aA v0), (5, aJ v5), (8, aI x_76), (9, aI 0)]) ⟨rfl, rfl, rfl, rfl, trivial⟩ ?_
                    obtain ⟨n, h⟩ := h
                    exact xX6_report_120 hQ  n _ _ _ _ _ h
                  · replace h := h.2 c
                    refine x_lv (lv' := []) trivial ?_
                    exact xX6_report_98 hQ   _ h
              · replace h := h.1 c
                refine x_lv (lv' := []) trivial ?_
                exact xX6_report_73 hQ   _ h
          · replace h := h.2 c
            refine x_lv (lv' := []) trivial ?_
            exact xX6_report_39 hQ   _ h
      · replace h := h.2 c
        refine x_lv (lv' := []) trivial ?_
        exact xX6_report_24 hQ   _ h
set_option maxRecDepth 100000 in
set_option maxHeartbeats 4000000 in
theorem ctX6_track {G : Launch × va_G × (Nat → ClassId) × Nat} {v0 : Nat} {S : hs} {Post : Int32 → hs → Prop} (h : PX6_track v0 S Post) : ctN G mX6_track [aA v0] S (pI Post) := by
  refine ctN.of (by decide) (Nat.le_of_ble_eq_true rfl) (fun E ad hG hQ => ?_)
  subst hG
  unfold PX6_track at h
  refine x_aload_n dX6_track_0 rfl ?_
  refine x_g6_3 rfl dX6_track_1 h.1 ?_
  replace h := h.2
  refine x_aload_n dX6_track_4 rfl ?_
  obtain ⟨h1, r_5, hr_5, h⟩ := h
  refine x_g6_2 rfl dX6_track_5 h1 (x_un hr_5 ?_)
  refine x_alen13 dX6_track_8 h.1 ?_
  replace h := h.2
  refine x_icmp_lt (tgt := 15) dX6_track_9 (by decide) (fun c => ?_) (fun c => ?_)
  · replace h := h.1 c
    refine x_aload_n dX6_track_15 rfl ?_
    refine x_dupR dX6_track_16 ?_
    refine x_g6_3 rfl dX6_track_17 h.1 ?_
    replace h := h.2
    refine x_nI (fun u_20 hu_20 => ?_)
    replace h := h u_20 hu_20
    refine x_dupx1 dX6_track_20 ?_
    refine x_iconst (v := 1) dX6_track_21 (by decide) ?_
    refine x_iadd dX6_track_22 ?_
    obtain ⟨h1, h⟩ := h
    refine x_p6_3 rfl dX6_track_23 h1 (x_nS (fun S_23 hS_23 => ?_))
    replace h := h S_23 hS_23
    exact x_iret hQ rfl dX6_track_26 ⟨_, rfl, h⟩
  · replace h := h.2 c
    refine x_bipush (v := (-4)) dX6_track_12 (by decide) ?_
    exact x_iret hQ rfl dX6_track_14 ⟨_, rfl, h⟩
set_option maxRecDepth 100000 in
set_option maxHeartbeats 4000000 in
theorem xX6_isTrack_26 {E : en} {ad : Nat → Nat} {Post : Int32 → hs → Prop} (hQ : isQ E ad (pI Post))   (s0 : Int32) (S : hs) (h : PX6_isTrack_26 Post  s0 S) : X E mX6_isTrack 0 0 ad S 26 [] [aI s0] := by
  unfold PX6_isTrack_26 at h
  exact x_zret hQ rfl dX6_isTrack_26 ⟨h.1, _, rfl, h.2⟩
set_option maxRecDepth 100000 in
set_option maxHeartbeats 4000000 in
theorem xX6_isTrack_25 {E : en} {ad : Nat → Nat} {Post : Int32 → hs → Prop} (hQ : isQ E ad (pI Post))    (S : hs) (h : PX6_isTrack_25 Post   S) : X E mX6_isTrack 0 0 ad S 25 [] [] := by
  unfold PX6_isTrack_25 at h
  refine x_iconst (v := 0) dX6_isTrack_25 (by decide) ?_
  refine x_lv (lv' := []) trivial ?_
  exact xX6_isTrack_26 hQ  _ _ h
set_option maxRecDepth 100000 in
set_option maxHeartbeats 4000000 in
theorem ctX6_isTrack {G : Launch × va_G × (Nat → ClassId) × Nat} {v0 : Nat} {v1 : Int32} {S : hs} {Post : Int32 → hs → Prop} (h : PX6_isTrack v0 v1 S Post) : ctN G mX6_isTrack [aA v0, aI v1] S (pI Post) := by
  refine ctN.of (by decide) (Nat.le_of_ble_eq_true rfl) (fun E ad hG hQ => ?_)
  subst hG
  unfold PX6_isTrack at h
  refine x_iload_n dX6_isTrack_0 rfl ?_
  refine x_if_lt (tgt := 25) dX6_isTrack_1 (by decide) (fun c => ?_) (fun c => ?_)
  · replace h := h.1 c
    refine x_lv (lv' := []) trivial ?_
    exact xX6_isTrack_25 hQ   _ h
  · replace h := h.2 c
    refine x_iload_n dX6_isTrack_4 rfl ?_
    refine x_aload_n dX6_isTrack_5 rfl ?_
    refine x_g6_3 rfl dX6_isTrack_6 h.1 ?_
    replace h := h.2
    refine x_icmp_ge (tgt := 25) dX6_isTrack_9 (by decide) (fun c => ?_) (fun c => ?_)
    · replace h := h.1 c
      refine x_lv (lv' := []) trivial ?_
      exact xX6_isTrack_25 hQ   _ h
    · replace h := h.2 c
      refine x_iload_n dX6_isTrack_12 rfl ?_
      refine x_aload_n dX6_isTrack_13 rfl ?_
      obtain ⟨h1, r_14, hr_14, h⟩ := h
      refine x_g6_2 rfl dX6_isTrack_14 h1 (x_un hr_14 ?_)
      refine x_alen13 dX6_isTrack_17 h.1 ?_
      replace h := h.2
      refine x_icmp_ge (tgt := 25) dX6_isTrack_18 (by decide) (fun c => ?_) (fun c => ?_)
      · replace h := h.1 c
        refine x_lv (lv' := []) trivial ?_
        exact xX6_isTrack_25 hQ   _ h
      · replace h := h.2 c
        refine x_iconst (v := 1) dX6_isTrack_21 (by decide) ?_
        refine x_goto (tgt := 26) dX6_isTrack_22 (by decide) ?_
        refine x_lv (lv' := []) trivial ?_
        exact xX6_isTrack_26 hQ  _ _ h
set_option maxRecDepth 100000 in
set_option maxHeartbeats 4000000 in
theorem xX6_place_42 {E : en} {ad : Nat → Nat} {Post : Int32 → hs → Prop} (hQ : isQ E ad (pI Post))   (s0 : Int32) (S : hs) (h : PX6_place_42 Post  s0 S) : X E mX6_place 0 0 ad S 42 [] [aI s0] := by
  unfold PX6_place_42 at h
  exact x_zret hQ rfl dX6_place_42 ⟨h.1, _, rfl, h.2⟩
set_option maxRecDepth 100000 in
set_option maxHeartbeats 4000000 in
theorem xX6_place_41 {E : en} {ad : Nat → Nat} {Post : Int32 → hs → Prop} (hQ : isQ E ad (pI Post))    (S : hs) (h : PX6_place_41 Post   S) : X E mX6_place 0 0 ad S 41 [] [] := by
  unfold PX6_place_41 at h
  refine x_iconst (v := 0) dX6_place_41 (by decide) ?_
  refine x_lv (lv' := []) trivial ?_
  exact xX6_place_42 hQ  _ _ h
set_option maxRecDepth 100000 in
set_option maxHeartbeats 4000000 in
theorem ctX6_place {G : Launch × va_G × (Nat → ClassId) × Nat} {v0 : Nat} {v1 : Int32} {v2 : Int64} {v4 : Int64} {v6 : Int64} {S : hs} {Post : Int32 → hs → Prop} (h : PX6_place v0 v1 v2 v4 v6 S Post) : ctN G mX6_place [aA v0, aI v1, aJ v2, aJ v4, aJ v6] S (pI Post) := by
  refine ctN.of (by decide) (Nat.le_of_ble_eq_true rfl) (fun E ad hG hQ => ?_)
  subst hG
  unfold PX6_place at h
  refine x_aload_n dX6_place_0 rfl ?_
  refine x_iload_n dX6_place_1 rfl ?_
  obtain ⟨h1, h⟩ := h
  refine x_callVI (As := [aI v1]) (st := []) kX6_108 rfl ⟨rfl, rfl, by decide, by decide⟩ dX6_place_2 rfl (Nat.le_of_ble_eq_true rfl) ⟨Nat.zero_le _, Nat.zero_le _⟩ h1 (ctX6_isTrack h) (fun x_2 S_2 h => ?_)
  refine x_if_eq (tgt := 41) dX6_place_5 (by decide) (fun c => ?_) (fun c => ?_)
  · replace h := h.1 c
    refine x_lv (lv' := []) trivial ?_
    exact xX6_place_41 hQ   _ h
  · replace h := h.2 c
    refine x_lload dX6_place_8 rfl ?_
    refine x_lload dX6_place_10 rfl ?_
    refine x_callSI (As := [aJ v4, aJ v6]) (st := []) kX6_67 rfl ⟨rfl, rfl, by decide, by decide⟩ dX6_place_12 rfl (Nat.le_of_ble_eq_true rfl) ⟨Nat.zero_le _, Nat.zero_le _⟩ (ctX6_isPlace h) (fun x_12 S_12 h => ?_)
    refine x_if_eq (tgt := 41) dX6_place_15 (by decide) (fun c => ?_) (fun c => ?_)
    · replace h := h.1 c
      refine x_lv (lv' := []) trivial ?_
      exact xX6_place_41 hQ   _ h
    · replace h := h.2 c
      refine x_aload_n dX6_place_18 rfl ?_
      obtain ⟨h1, r_19, hr_19, h⟩ := h
      refine x_g6_2 rfl dX6_place_19 h1 (x_un hr_19 ?_)
      refine x_iload_n dX6_place_22 rfl ?_
      obtain ⟨h1, r_23, hr_23, h⟩ := h
      refine x_aald13 dX6_place_23 h1 (x_un hr_23 ?_)
      refine x_lload_n dX6_place_24 rfl ?_
      refine x_lload dX6_place_25 rfl ?_
      refine x_l2i dX6_place_27 ?_
      refine x_lload dX6_place_28 rfl ?_
      refine x_l2i dX6_place_30 ?_
      obtain ⟨h1, h⟩ := h
      refine x_callVI (As := [aJ v2, aI (Int64.toInt32 v4), aI (Int64.toInt32 v6)]) (st := []) kX6_111 rfl ⟨rfl, rfl, by decide, by decide⟩ dX6_place_31 rfl (Nat.le_of_ble_eq_true rfl) ⟨Nat.zero_le _, Nat.zero_le _⟩ h1 (ctX5_add h) (fun x_31 S_31 h => ?_)
      refine x_if_eq (tgt := 41) dX6_place_34 (by decide) (fun c => ?_) (fun c => ?_)
      · replace h := h.1 c
        refine x_lv (lv' := []) trivial ?_
        exact xX6_place_41 hQ   _ h
      · replace h := h.2 c
        refine x_iconst (v := 1) dX6_place_37 (by decide) ?_
        refine x_goto (tgt := 42) dX6_place_38 (by decide) ?_
        refine x_lv (lv' := []) trivial ?_
        exact xX6_place_42 hQ  _ _ h
set_option maxRecDepth 100000 in
set_option maxHeartbeats 4000000 in
theorem xX6_isThere_25 {E : en} {ad : Nat → Nat} {Post : Int32 → hs → Prop} (hQ : isQ E ad (pI Post))   (s0 : Int32) (S : hs) (h : PX6_isThere_25 Post  s0 S) : X E mX6_isThere 0 0 ad S 25 [] [aI s0] := by
  unfold PX6_isThere_25 at h
  exact x_zret hQ rfl dX6_isThere_25 ⟨h.1, _, rfl, h.2⟩
set_option maxRecDepth 100000 in
set_option maxHeartbeats 4000000 in
theorem xX6_isThere_24 {E : en} {ad : Nat → Nat} {Post : Int32 → hs → Prop} (hQ : isQ E ad (pI Post))    (S : hs) (h : PX6_isThere_24 Post   S) : X E mX6_isThere 0 0 ad S 24 [] [] := by
  unfold PX6_isThere_24 at h
  refine x_iconst (v := 0) dX6_isThere_24 (by decide) ?_
  refine x_lv (lv' := []) trivial ?_
  exact xX6_isThere_25 hQ  _ _ h
set_option maxRecDepth 100000 in
set_option maxHeartbeats 4000000 in
theorem ctX6_isThere {G : Launch × va_G × (Nat → ClassId) × Nat} {v0 : Nat} {v1 : Int32} {S : hs} {Post : Int32 → hs → Prop} (h : PX6_isThere v0 v1 S Post) : ctN G mX6_isThere [aA v0, aI v1] S (pI Post) := by
  refine ctN.of (by decide) (Nat.le_of_ble_eq_true rfl) (fun E ad hG hQ => ?_)
  subst hG
  unfold PX6_isThere at h
  refine x_aload_n dX6_isThere_0 rfl ?_
  refine x_iload_n dX6_isThere_1 rfl ?_
  obtain ⟨h1, h⟩ := h
  refine x_callVI (As := [aI v1]) (st := []) kX6_60 rfl ⟨rfl, rfl, by decide, by decide⟩ dX6_isThere_2 rfl (Nat.le_of_ble_eq_true rfl) ⟨Nat.zero_le _, Nat.zero_le _⟩ h1 (ctX6_isArea h) (fun x_2 S_2 h => ?_)
  refine x_if_eq (tgt := 24) dX6_isThere_5 (by decide) (fun c => ?_) (fun c => ?_)
  · replace h := h.1 c
    refine x_lv (lv' := []) trivial ?_
    exact xX6_isThere_24 hQ   _ h
  · replace h := h.2 c
    refine x_aload_n dX6_isThere_8 rfl ?_
    obtain ⟨h1, r_9, hr_9, h⟩ := h
    refine x_g6_0 rfl dX6_isThere_9 h1 (x_un hr_9 ?_)
    refine x_iload_n dX6_isThere_12 rfl ?_
    obtain ⟨h1, r_13, hr_13, h⟩ := h
    refine x_aald11 dX6_isThere_13 h1 (x_un hr_13 ?_)
    obtain ⟨h1, h⟩ := h
    refine x_callVI (As := []) (st := []) kX6_203 rfl ⟨rfl, rfl, by decide, by decide⟩ dX6_isThere_14 rfl (Nat.le_of_ble_eq_true rfl) ⟨Nat.zero_le _, Nat.zero_le _⟩ h1 (ctX0_isThere h) (fun x_14 S_14 h => ?_)
    refine x_if_eq (tgt := 24) dX6_isThere_17 (by decide) (fun c => ?_) (fun c => ?_)
    · replace h := h.1 c
      refine x_lv (lv' := []) trivial ?_
      exact xX6_isThere_24 hQ   _ h
    · replace h := h.2 c
      refine x_iconst (v := 1) dX6_isThere_20 (by decide) ?_
      refine x_goto (tgt := 25) dX6_isThere_21 (by decide) ?_
      refine x_lv (lv' := []) trivial ?_
      exact xX6_isThere_25 hQ  _ _ h
set_option maxRecDepth 100000 in
set_option maxHeartbeats 4000000 in
theorem xX6_counts_69 {E : en} {ad : Nat → Nat} {Post : Int32 → hs → Prop} (hQ : isQ E ad (pI Post))   (s0 : Int32) (S : hs) (h : PX6_counts_69 Post  s0 S) : X E mX6_counts 0 0 ad S 69 [] [aI s0] := by
  unfold PX6_counts_69 at h
  exact x_zret hQ rfl dX6_counts_69 ⟨h.1, _, rfl, h.2⟩
set_option maxRecDepth 100000 in
set_option maxHeartbeats 4000000 in
theorem xX6_counts_68 {E : en} {ad : Nat → Nat} {Post : Int32 → hs → Prop} (hQ : isQ E ad (pI Post))    (S : hs) (h : PX6_counts_68 Post   S) : X E mX6_counts 0 0 ad S 68 [] [] := by
  unfold PX6_counts_68 at h
  refine x_iconst (v := 0) dX6_counts_68 (by decide) ?_
  refine x_lv (lv' := []) trivial ?_
  exact xX6_counts_69 hQ  _ _ h
set_option maxRecDepth 100000 in
set_option maxHeartbeats 4000000 in
theorem xX6_counts_26 {E : en} {ad : Nat → Nat} {Post : Int32 → hs → Prop} (hQ : isQ E ad (pI Post))    (S : hs) (h : PX6_counts_26 Post   S) : X E mX6_counts 0 0 ad S 26 [] [] := by
  unfold PX6_counts_26 at h
  refine x_iconst (v := 0) dX6_counts_26 (by decide) ?_
  exact x_zret hQ rfl dX6_counts_27 ⟨Or.inl rfl, _, rfl, h⟩
set_option maxRecDepth 100000 in
set_option maxHeartbeats 4000000 in
theorem ctX6_counts {G : Launch × va_G × (Nat → ClassId) × Nat} {v0 : Nat} {v1 : Int32} {v2 : Int32} {v3 : Nat} {v4 : Int32} {S : hs} {Post : Int32 → hs → Prop} (h : PX6_counts v0 v1 v2 v3 v4 S Post) : ctN G mX6_counts [aA v0, aI v1, aI v2, aA v3, aI v4] S (pI Post) := by
  refine ctN.of (by decide) (Nat.le_of_ble_eq_true rfl) (fun E ad hG hQ => ?_)
  subst hG
  unfold PX6_counts at h
  refine x_aload_n dX6_counts_0 rfl ?_
  refine x_iload_n dX6_counts_1 rfl ?_
  obtain ⟨h1, h⟩ := h
  refine x_callVI (As := [aI v1]) (st := []) kX6_154 rfl ⟨rfl, rfl, by decide, by decide⟩ dX6_counts_2 rfl (Nat.le_of_ble_eq_true rfl) ⟨Nat.zero_le _, Nat.zero_le _⟩ h1 (ctX6_isThere h) (fun x_2 S_2 h => ?_)
  refine x_if_eq (tgt := 26) dX6_counts_5 (by decide) (fun c => ?_) (fun c => ?_)
  · replace h := h.1 c
    refine x_lv (lv' := []) trivial ?_
    exact xX6_counts_26 hQ   _ h
  · replace h := h.2 c
    refine x_aload_n dX6_counts_8 rfl ?_
    refine x_iload dX6_counts_9 rfl ?_
    obtain ⟨h1, h⟩ := h
    refine x_callVI (As := [aI v4]) (st := []) kX6_216 rfl ⟨rfl, rfl, by decide, by decide⟩ dX6_counts_11 rfl (Nat.le_of_ble_eq_true rfl) ⟨Nat.zero_le _, Nat.zero_le _⟩ h1 (ctX5_hasPiece h) (fun x_11 S_11 h => ?_)
    refine x_if_eq (tgt := 26) dX6_counts_14 (by decide) (fun c => ?_) (fun c => ?_)
    · replace h := h.1 c
      refine x_lv (lv' := []) trivial ?_
      exact xX6_counts_26 hQ   _ h
    · replace h := h.2 c
      refine x_aload_n dX6_counts_17 rfl ?_
      refine x_iload dX6_counts_18 rfl ?_
      obtain ⟨h1, h⟩ := h
      refine x_callVI (As := [aI v4]) (st := []) kX6_219 rfl ⟨rfl, rfl, by decide, by decide⟩ dX6_counts_20 rfl (Nat.le_of_ble_eq_true rfl) ⟨Nat.zero_le _, Nat.zero_le _⟩ h1 (ctX5_isGap h) (fun x_20 S_20 h => ?_)
      refine x_if_eq (tgt := 28) dX6_counts_23 (by decide) (fun c => ?_) (fun c => ?_)
      · replace h := h.1 c
        refine x_aload_n dX6_counts_28 rfl ?_
        obtain ⟨h1, r_29, hr_29, h⟩ := h
        refine x_g6_1 rfl dX6_counts_29 h1 (x_un hr_29 ?_)
        refine x_iload_n dX6_counts_32 rfl ?_
        refine x_iload_n dX6_counts_33 rfl ?_
        refine x_aload_n dX6_counts_34 rfl ?_
        refine x_iload dX6_counts_35 rfl ?_
        obtain ⟨h1, h⟩ := h
        refine x_callVJ (As := [aI v4]) (st := [aI v2, aI v1, aA r_29]) kX6_222 rfl ⟨rfl, rfl, by decide, by decide⟩ dX6_counts_37 rfl (Nat.le_of_ble_eq_true rfl) ⟨Nat.zero_le _, Nat.zero_le _⟩ h1 (ctX5_dayOf h) (fun x_37 S_37 h => ?_)
        obtain ⟨h1, h⟩ := h
        refine x_callVI (As := [aI v1, aI v2, aJ x_37]) (st := []) kX6_225 rfl ⟨rfl, rfl, by decide, by decide⟩ dX6_counts_40 rfl (Nat.le_of_ble_eq_true rfl) ⟨Nat.zero_le _, Nat.zero_le _⟩ h1 (ctX3_bar h) (fun x_40 S_40 h => ?_)
        refine x_if_eq (tgt := 68) dX6_counts_43 (by decide) (fun c => ?_) (fun c => ?_)
        · replace h := h.1 c
          refine x_lv (lv' := []) trivial ?_
          exact xX6_counts_68 hQ   _ h
        · replace h := h.2 c
          refine x_aload_n dX6_counts_46 rfl ?_
          refine x_iload dX6_counts_47 rfl ?_
          refine x_aload_n dX6_counts_49 rfl ?_
          obtain ⟨h1, r_50, hr_50, h⟩ := h
          refine x_g6_0 rfl dX6_counts_50 h1 (x_un hr_50 ?_)
          refine x_iload_n dX6_counts_53 rfl ?_
          obtain ⟨h1, r_54, hr_54, h⟩ := h
          refine x_aald11 dX6_counts_54 h1 (x_un hr_54 ?_)
          obtain ⟨h1, h⟩ := h
          refine x_callVJ (As := []) (st := [aI v4, aA v3]) kX6_229 rfl ⟨rfl, rfl, by decide, by decide⟩ dX6_counts_55 rfl (Nat.le_of_ble_eq_true rfl) ⟨Nat.zero_le _, Nat.zero_le _⟩ h1 (ctX0_fastFrom h) (fun x_55 S_55 h => ?_)
          obtain ⟨h1, h⟩ := h
          refine x_callVI (As := [aI v4, aJ x_55]) (st := []) kX6_233 rfl ⟨rfl, rfl, by decide, by decide⟩ dX6_counts_58 rfl (Nat.le_of_ble_eq_true rfl) ⟨Nat.zero_le _, Nat.zero_le _⟩ h1 (ctX5_isFast h) (fun x_58 S_58 h => ?_)
          refine x_if_ne (tgt := 68) dX6_counts_61 (by decide) (fun c => ?_) (fun c => ?_)
          · replace h := h.2 c
            refine x_lv (lv' := []) trivial ?_
            exact xX6_counts_68 hQ   _ h
          · replace h := h.1 c
            refine x_iconst (v := 1) dX6_counts_64 (by decide) ?_
            refine x_goto (tgt := 69) dX6_counts_65 (by decide) ?_
            refine x_lv (lv' := []) trivial ?_
            exact xX6_counts_69 hQ  _ _ h
      · replace h := h.2 c
        refine x_lv (lv' := []) trivial ?_
        exact xX6_counts_26 hQ   _ h
set_option maxRecDepth 100000 in
set_option maxHeartbeats 4000000 in
theorem xX6_noteCrossings_187 {E : en} {ad : Nat → Nat} {Post : Int32 → hs → Prop} (hQ : isQ E ad (pI Post)) {K32 : Nat → Int32 → Int32 → Int32 → Int32 → hs → Prop} (hK32 : ∀ (v0 : Nat) (v1 : Int32) (v4 : Int32) (v5 : Int32) (v6 : Int32) (S : hs), K32 v0 v1 v4 v5 v6 S → X E mX6_noteCrossings 0 0 ad S 32 [(0, aA v0), (1, aI v1), (4, aI v4), (5, aI v5), (6, aI v6)] []) (v0 : Nat) (v1 : Int32) (v4 : Int32) (v5 : Int32) (v6 : Int32) (S : hs) (h : PX6_noteCrossings_187 Post K32 v0 v1 v4 v5 v6 S) : X E mX6_noteCrossings 0 0 ad S 187 [(0, aA v0), (1, aI v1), (4, aI v4), (5, aI v5), (6, aI v6)] [] := by
  unfold PX6_noteCrossings_187 at h
  obtain ⟨v6_187, hv6_187⟩ : ∃ y : Int32, y = v6 + 1 := ⟨_, rfl⟩
  replace h := h v6_187 hv6_187
  refine x_iinc (v := v6_187) dX6_noteCrossings_187 rfl (by rw [hv6_187]; rfl) (by decide) rfl ?_
  refine x_goto (tgt := 32) dX6_noteCrossings_190 (by decide) ?_
  refine x_lv (lv' := [(0, aA v0), (1, aI v1), (4, aI v4), (5, aI v5), (6, aI v6_187)]) ⟨rfl, rfl, rfl, rfl, rfl, trivial⟩ ?_
  exact hK32 _ _ _ _ _ _ h
set_option maxRecDepth 100000 in
set_option maxHeartbeats 4000000 in
theorem xX6_noteCrossings_146 {E : en} {ad : Nat → Nat} {Post : Int32 → hs → Prop} (hQ : isQ E ad (pI Post)) {K32 : Nat → Int32 → Int32 → Int32 → Int32 → hs → Prop} (hK32 : ∀ (v0 : Nat) (v1 : Int32) (v4 : Int32) (v5 : Int32) (v6 : Int32) (S : hs), K32 v0 v1 v4 v5 v6 S → X E mX6_noteCrossings 0 0 ad S 32 [(0, aA v0), (1, aI v1), (4, aI v4), (5, aI v5), (6, aI v6)] []) (v0 : Nat) (v1 : Int32) (v4 : Int32) (v5 : Int32) (v6 : Int32) (v8 : Int32) (s0 : Int32) (S : hs) (h : PX6_noteCrossings_146 Post K32 v0 v1 v4 v5 v6 v8 s0 S) : X E mX6_noteCrossings 0 0 ad S 146 [(0, aA v0), (1, aI v1), (4, aI v4), (5, aI v5), (6, aI v6), (8, aI v8)] [aI s0] := by
  unfold PX6_noteCrossings_146 at h
  refine x_istore dX6_noteCrossings_146 (by decide) rfl ?_
  refine x_iload dX6_noteCrossings_148 rfl ?_
  refine x_if_eq (tgt := 187) dX6_noteCrossings_150 (by decide) (fun c => ?_) (fun c => ?_)
  · replace h := h.1 c
    refine x_lv (lv' := [(0, aA v0), (1, aI v1), (4, aI v4), (5, aI v5), (6, aI v6)]) ⟨rfl, rfl, rfl, rfl, rfl, trivial⟩ ?_
    exact xX6_noteCrossings_187 hQ hK32 _ _ _ _ _ _ h
  · replace h := h.2 c
    refine x_aload_n dX6_noteCrossings_153 rfl ?_
    obtain ⟨h1, r_154, hr_154, h⟩ := h
    refine x_g6_6 rfl dX6_noteCrossings_154 h1 (x_un hr_154 ?_)
    refine x_iload dX6_noteCrossings_157 rfl ?_
    refine x_iload_n dX6_noteCrossings_159 rfl ?_
    refine x_iconst (v := 0) dX6_noteCrossings_160 (by decide) ?_
    refine x_aload_n dX6_noteCrossings_161 rfl ?_
    obtain ⟨h1, r_162, hr_162, h⟩ := h
    refine x_g6_4 rfl dX6_noteCrossings_162 h1 (x_un hr_162 ?_)
    refine x_iload dX6_noteCrossings_165 rfl ?_
    obtain ⟨h1, h⟩ := h
    refine x_callVJ (As := [aI v8]) (st := [aI 0, aI v1, aI v4, aA r_154]) kX6_250 rfl ⟨rfl, rfl, by decide, by decide⟩ dX6_noteCrossings_167 rfl (Nat.le_of_ble_eq_true rfl) ⟨Nat.zero_le _, Nat.zero_le _⟩ h1 (ctX4_overOf h) (fun x_167 S_167 h => ?_)
    refine x_aload_n dX6_noteCrossings_170 rfl ?_
    obtain ⟨h1, r_171, hr_171, h⟩ := h
    refine x_g6_4 rfl dX6_noteCrossings_171 h1 (x_un hr_171 ?_)
    refine x_iload dX6_noteCrossings_174 rfl ?_
    obtain ⟨h1, h⟩ := h
    refine x_callVJ (As := [aI v8]) (st := [aJ x_167, aI 0, aI v1, aI v4, aA r_154]) kX6_251 rfl ⟨rfl, rfl, by decide, by decide⟩ dX6_noteCrossings_176 rfl (Nat.le_of_ble_eq_true rfl) ⟨Nat.zero_le _, Nat.zero_le _⟩ h1 (ctX4_underOf h) (fun x_176 S_176 h => ?_)
    obtain ⟨h1, h⟩ := h
    refine x_callVI (As := [aI v4, aI v1, aI 0, aJ x_167, aJ x_176]) (st := []) kX6_252 rfl ⟨rfl, rfl, by decide, by decide⟩ dX6_noteCrossings_179 rfl (Nat.le_of_ble_eq_true rfl) ⟨Nat.zero_le _, Nat.zero_le _⟩ h1 (ctX1_add h) (fun x_179 S_179 h => ?_)
    refine x_if_ne (tgt := 187) dX6_noteCrossings_182 (by decide) (fun c => ?_) (fun c => ?_)
    · replace h := h.2 c
      refine x_lv (lv' := [(0, aA v0), (1, aI v1), (4, aI v4), (5, aI v5), (6, aI v6)]) ⟨rfl, rfl, rfl, rfl, rfl, trivial⟩ ?_
      exact xX6_noteCrossings_187 hQ hK32 _ _ _ _ _ _ h
    · replace h := h.1 c
      refine x_iconst (v := 0) dX6_noteCrossings_185 (by decide) ?_
      exact x_zret hQ rfl dX6_noteCrossings_186 ⟨Or.inl rfl, _, rfl, h⟩
set_option maxRecDepth 100000 in
set_option maxHeartbeats 4000000 in
theorem xX6_noteCrossings_129 {E : en} {ad : Nat → Nat} {Post : Int32 → hs → Prop} (hQ : isQ E ad (pI Post)) {K32 : Nat → Int32 → Int32 → Int32 → Int32 → hs → Prop} (hK32 : ∀ (v0 : Nat) (v1 : Int32) (v4 : Int32) (v5 : Int32) (v6 : Int32) (S : hs), K32 v0 v1 v4 v5 v6 S → X E mX6_noteCrossings 0 0 ad S 32 [(0, aA v0), (1, aI v1), (4, aI v4), (5, aI v5), (6, aI v6)] []) (v0 : Nat) (v1 : Int32) (v4 : Int32) (v5 : Int32) (v6 : Int32) (v8 : Int32) (S : hs) (h : PX6_noteCrossings_129 Post K32 v0 v1 v4 v5 v6 v8 S) : X E mX6_noteCrossings 0 0 ad S 129 [(0, aA v0), (1, aI v1), (4, aI v4), (5, aI v5), (6, aI v6), (8, aI v8)] [] := by
  unfold PX6_noteCrossings_129 at h
  refine x_aload_n dX6_noteCrossings_129 rfl ?_
  obtain ⟨h1, r_130, hr_130, h⟩ := h
  refine x_g6_4 rfl dX6_noteCrossings_130 h1 (x_un hr_130 ?_)
  refine x_iload dX6_noteCrossings_133 rfl ?_
  obtain ⟨h1, h⟩ := h
  refine x_callVI (As := [aI v8]) (st := []) kX6_255 rfl ⟨rfl, rfl, by decide, by decide⟩ dX6_noteCrossings_135 rfl (Nat.le_of_ble_eq_true rfl) ⟨Nat.zero_le _, Nat.zero_le _⟩ h1 (ctX4_isPieceEnd h) (fun x_135 S_135 h => ?_)
  refine x_if_ne (tgt := 145) dX6_noteCrossings_138 (by decide) (fun c => ?_) (fun c => ?_)
  · replace h := h.2 c
    refine x_iconst (v := 0) dX6_noteCrossings_145 (by decide) ?_
    refine x_lv (lv' := [(0, aA v0), (1, aI v1), (4, aI v4), (5, aI v5), (6, aI v6), (8, aI v8)]) ⟨rfl, rfl, rfl, rfl, rfl, rfl, trivial⟩ ?_
    exact xX6_noteCrossings_146 hQ hK32 _ _ _ _ _ _ _ _ h
  · replace h := h.1 c
    refine x_iconst (v := 1) dX6_noteCrossings_141 (by decide) ?_
    refine x_goto (tgt := 146) dX6_noteCrossings_142 (by decide) ?_
    refine x_lv (lv' := [(0, aA v0), (1, aI v1), (4, aI v4), (5, aI v5), (6, aI v6), (8, aI v8)]) ⟨rfl, rfl, rfl, rfl, rfl, rfl, trivial⟩ ?_
    exact xX6_noteCrossings_146 hQ hK32 _ _ _ _ _ _ _ _ h
set_option maxRecDepth 100000 in
set_option maxHeartbeats 4000000 in
theorem xX6_noteCrossings_88 {E : en} {ad : Nat → Nat} {Post : Int32 → hs → Prop} (hQ : isQ E ad (pI Post)) {K32 : Nat → Int32 → Int32 → Int32 → Int32 → hs → Prop} (hK32 : ∀ (v0 : Nat) (v1 : Int32) (v4 : Int32) (v5 : Int32) (v6 : Int32) (S : hs), K32 v0 v1 v4 v5 v6 S → X E mX6_noteCrossings 0 0 ad S 32 [(0, aA v0), (1, aI v1), (4, aI v4), (5, aI v5), (6, aI v6)] []) (v0 : Nat) (v1 : Int32) (v4 : Int32) (v5 : Int32) (v6 : Int32) (v7 : Int32) (v8 : Int32) (s0 : Int32) (S : hs) (h : PX6_noteCrossings_88 Post K32 v0 v1 v4 v5 v6 v7 v8 s0 S) : X E mX6_noteCrossings 0 0 ad S 88 [(0, aA v0), (1, aI v1), (4, aI v4), (5, aI v5), (6, aI v6), (7, aI v7), (8, aI v8)] [aI s0] := by
  unfold PX6_noteCrossings_88 at h
  refine x_istore dX6_noteCrossings_88 (by decide) rfl ?_
  refine x_iload dX6_noteCrossings_90 rfl ?_
  refine x_if_eq (tgt := 129) dX6_noteCrossings_92 (by decide) (fun c => ?_) (fun c => ?_)
  · replace h := h.1 c
    refine x_lv (lv' := [(0, aA v0), (1, aI v1), (4, aI v4), (5, aI v5), (6, aI v6), (8, aI v8)]) ⟨rfl, rfl, rfl, rfl, rfl, rfl, trivial⟩ ?_
    exact xX6_noteCrossings_129 hQ hK32 _ _ _ _ _ _ _ h
  · replace h := h.2 c
    refine x_aload_n dX6_noteCrossings_95 rfl ?_
    obtain ⟨h1, r_96, hr_96, h⟩ := h
    refine x_g6_6 rfl dX6_noteCrossings_96 h1 (x_un hr_96 ?_)
    refine x_iload dX6_noteCrossings_99 rfl ?_
    refine x_iload_n dX6_noteCrossings_101 rfl ?_
    refine x_iconst (v := 1) dX6_noteCrossings_102 (by decide) ?_
    refine x_aload_n dX6_noteCrossings_103 rfl ?_
    obtain ⟨h1, r_104, hr_104, h⟩ := h
    refine x_g6_4 rfl dX6_noteCrossings_104 h1 (x_un hr_104 ?_)
    refine x_iload dX6_noteCrossings_107 rfl ?_
    obtain ⟨h1, h⟩ := h
    refine x_callVJ (As := [aI v7]) (st := [aI 1, aI v1, aI v4, aA r_96]) kX6_250 rfl ⟨rfl, rfl, by decide, by decide⟩ dX6_noteCrossings_109 rfl (Nat.le_of_ble_eq_true rfl) ⟨Nat.zero_le _, Nat.zero_le _⟩ h1 (ctX4_overOf h) (fun x_109 S_109 h => ?_)
    refine x_aload_n dX6_noteCrossings_112 rfl ?_
    obtain ⟨h1, r_113, hr_113, h⟩ := h
    refine x_g6_4 rfl dX6_noteCrossings_113 h1 (x_un hr_113 ?_)
    refine x_iload dX6_noteCrossings_116 rfl ?_
    obtain ⟨h1, h⟩ := h
    refine x_callVJ (As := [aI v7]) (st := [aJ x_109, aI 1, aI v1, aI v4, aA r_96]) kX6_251 rfl ⟨rfl, rfl, by decide, by decide⟩ dX6_noteCrossings_118 rfl (Nat.le_of_ble_eq_true rfl) ⟨Nat.zero_le _, Nat.zero_le _⟩ h1 (ctX4_underOf h) (fun x_118 S_118 h => ?_)
    obtain ⟨h1, h⟩ := h
    refine x_callVI (As := [aI v4, aI v1, aI 1, aJ x_109, aJ x_118]) (st := []) kX6_252 rfl ⟨rfl, rfl, by decide, by decide⟩ dX6_noteCrossings_121 rfl (Nat.le_of_ble_eq_true rfl) ⟨Nat.zero_le _, Nat.zero_le _⟩ h1 (ctX1_add h) (fun x_121 S_121 h => ?_)
    refine x_if_ne (tgt := 129) dX6_noteCrossings_124 (by decide) (fun c => ?_) (fun c => ?_)
    · replace h := h.2 c
      refine x_lv (lv' := [(0, aA v0), (1, aI v1), (4, aI v4), (5, aI v5), (6, aI v6), (8, aI v8)]) ⟨rfl, rfl, rfl, rfl, rfl, rfl, trivial⟩ ?_
      exact xX6_noteCrossings_129 hQ hK32 _ _ _ _ _ _ _ h
    · replace h := h.1 c
      refine x_iconst (v := 0) dX6_noteCrossings_127 (by decide) ?_
      exact x_zret hQ rfl dX6_noteCrossings_128 ⟨Or.inl rfl, _, rfl, h⟩
set_option maxRecDepth 100000 in
set_option maxHeartbeats 4000000 in
theorem xX6_noteCrossings_83 {E : en} {ad : Nat → Nat} {Post : Int32 → hs → Prop} (hQ : isQ E ad (pI Post)) {K32 : Nat → Int32 → Int32 → Int32 → Int32 → hs → Prop} (hK32 : ∀ (v0 : Nat) (v1 : Int32) (v4 : Int32) (v5 : Int32) (v6 : Int32) (S : hs), K32 v0 v1 v4 v5 v6 S → X E mX6_noteCrossings 0 0 ad S 32 [(0, aA v0), (1, aI v1), (4, aI v4), (5, aI v5), (6, aI v6)] []) (v0 : Nat) (v1 : Int32) (v4 : Int32) (v5 : Int32) (v6 : Int32) (v7 : Int32) (v8 : Int32) (S : hs) (h : PX6_noteCrossings_83 Post K32 v0 v1 v4 v5 v6 v7 v8 S) : X E mX6_noteCrossings 0 0 ad S 83 [(0, aA v0), (1, aI v1), (4, aI v4), (5, aI v5), (6, aI v6), (7, aI v7), (8, aI v8)] [] := by
  unfold PX6_noteCrossings_83 at h
  refine x_iconst (v := 1) dX6_noteCrossings_83 (by decide) ?_
  refine x_goto (tgt := 88) dX6_noteCrossings_84 (by decide) ?_
  refine x_lv (lv' := [(0, aA v0), (1, aI v1), (4, aI v4), (5, aI v5), (6, aI v6), (7, aI v7), (8, aI v8)]) ⟨rfl, rfl, rfl, rfl, rfl, rfl, rfl, trivial⟩ ?_
  exact xX6_noteCrossings_88 hQ hK32 _ _ _ _ _ _ _ _ _ h
set_option maxRecDepth 100000 in
set_option maxHeartbeats 4000000 in
theorem xX6_noteCrossings_32 {E : en} {ad : Nat → Nat} {Post : Int32 → hs → Prop} (hQ : isQ E ad (pI Post))   : ∀ (n : Nat) (v0 : Nat) (v1 : Int32) (v4 : Int32) (v5 : Int32) (v6 : Int32) (S : hs) (_ : PX6_noteCrossings_32 Post  n v0 v1 v4 v5 v6 S), X E mX6_noteCrossings 0 0 ad S 32 [(0, aA v0), (1, aI v1), (4, aI v4), (5, aI v5), (6, aI v6)] [] := by
  intro n
  induction n with
  | zero => intro v0 v1 v4 v5 v6 S h; exact h.elim
  | succ n ih =>
    intro v0 v1 v4 v5 v6 S h
    have hK32 := ih
    simp only [PX6_noteCrossings_32] at h
    refine x_iload dX6_noteCrossings_32 rfl ?_
    refine x_aload_n dX6_noteCrossings_34 rfl ?_
    obtain ⟨h1, r_35, hr_35, h⟩ := h
    refine x_g6_4 rfl dX6_noteCrossings_35 h1 (x_un hr_35 ?_)
    obtain ⟨h1, h⟩ := h
    refine x_callVI (As := []) (st := [aI v6]) kX6_240 rfl ⟨rfl, rfl, by decide, by decide⟩ dX6_noteCrossings_38 rfl (Nat.le_of_ble_eq_true rfl) ⟨Nat.zero_le _, Nat.zero_le _⟩ h1 (ctX4_size h) (fun x_38 S_38 h => ?_)
    refine x_icmp_ge (tgt := 193) dX6_noteCrossings_41 (by decide) (fun c => ?_) (fun c => ?_)
    · replace h := h.1 c
      refine x_iconst (v := 1) dX6_noteCrossings_193 (by decide) ?_
      exact x_zret hQ rfl dX6_noteCrossings_194 ⟨Or.inr rfl, _, rfl, h⟩
    · replace h := h.2 c
      refine x_aload_n dX6_noteCrossings_44 rfl ?_
      obtain ⟨h1, r_45, hr_45, h⟩ := h
      refine x_g6_4 rfl dX6_noteCrossings_45 h1 (x_un hr_45 ?_)
      refine x_iload dX6_noteCrossings_48 rfl ?_
      obtain ⟨h1, h⟩ := h
      refine x_callVI (As := [aI v6]) (st := []) kX6_241 rfl ⟨rfl, rfl, by decide, by decide⟩ dX6_noteCrossings_50 rfl (Nat.le_of_ble_eq_true rfl) ⟨Nat.zero_le _, Nat.zero_le _⟩ h1 (ctX4_beginOf h) (fun x_50 S_50 h => ?_)
      refine x_istore dX6_noteCrossings_53 (by decide) rfl ?_
      refine x_aload_n dX6_noteCrossings_55 rfl ?_
      obtain ⟨h1, r_56, hr_56, h⟩ := h
      refine x_g6_4 rfl dX6_noteCrossings_56 h1 (x_un hr_56 ?_)
      refine x_iload dX6_noteCrossings_59 rfl ?_
      obtain ⟨h1, h⟩ := h
      refine x_callVI (As := [aI v6]) (st := []) kX6_244 rfl ⟨rfl, rfl, by decide, by decide⟩ dX6_noteCrossings_61 rfl (Nat.le_of_ble_eq_true rfl) ⟨Nat.zero_le _, Nat.zero_le _⟩ h1 (ctX4_endOf h) (fun x_61 S_61 h => ?_)
      refine x_istore dX6_noteCrossings_64 (by decide) rfl ?_
      refine x_iload dX6_noteCrossings_66 rfl ?_
      refine x_if_eq (tgt := 83) dX6_noteCrossings_68 (by decide) (fun c => ?_) (fun c => ?_)
      · replace h := h.1 c
        refine x_lv (lv' := [(0, aA v0), (1, aI v1), (4, aI v4), (5, aI v5), (6, aI v6), (7, aI x_50), (8, aI x_61)]) ⟨rfl, rfl, rfl, rfl, rfl, rfl, rfl, trivial⟩ ?_
        exact xX6_noteCrossings_83 hQ hK32 _ _ _ _ _ _ _ _ h
      · replace h := h.2 c
        refine x_aload_n dX6_noteCrossings_71 rfl ?_
        obtain ⟨h1, r_72, hr_72, h⟩ := h
        refine x_g6_4 rfl dX6_noteCrossings_72 h1 (x_un hr_72 ?_)
        refine x_iload dX6_noteCrossings_75 rfl ?_
        obtain ⟨h1, h⟩ := h
        refine x_callVI (As := [aI x_50]) (st := []) kX6_247 rfl ⟨rfl, rfl, by decide, by decide⟩ dX6_noteCrossings_77 rfl (Nat.le_of_ble_eq_true rfl) ⟨Nat.zero_le _, Nat.zero_le _⟩ h1 (ctX4_isPieceBegin h) (fun x_77 S_77 h => ?_)
        refine x_if_ne (tgt := 87) dX6_noteCrossings_80 (by decide) (fun c => ?_) (fun c => ?_)
        · replace h := h.2 c
          refine x_iconst (v := 0) dX6_noteCrossings_87 (by decide) ?_
          refine x_lv (lv' := [(0, aA v0), (1, aI v1), (4, aI v4), (5, aI v5), (6, aI v6), (7, aI x_50), (8, aI x_61)]) ⟨rfl, rfl, rfl, rfl, rfl, rfl, rfl, trivial⟩ ?_
          exact xX6_noteCrossings_88 hQ hK32 _ _ _ _ _ _ _ _ _ h
        · replace h := h.1 c
          refine x_lv (lv' := [(0, aA v0), (1, aI v1), (4, aI v4), (5, aI v5), (6, aI v6), (7, aI x_50), (8, aI x_61)]) ⟨rfl, rfl, rfl, rfl, rfl, rfl, rfl, trivial⟩ ?_
          exact xX6_noteCrossings_83 hQ hK32 _ _ _ _ _ _ _ _ h
set_option maxRecDepth 100000 in
set_option maxHeartbeats 4000000 in
theorem ctX6_noteCrossings {G : Launch × va_G × (Nat → ClassId) × Nat} {v0 : Nat} {v1 : Int32} {v2 : Int32} {v3 : Nat} {v4 : Int32} {S : hs} {Post : Int32 → hs → Prop} (h : PX6_noteCrossings v0 v1 v2 v3 v4 S Post) : ctN G mX6_noteCrossings [aA v0, aI v1, aI v2, aA v3, aI v4] S (pI Post) := by
  refine ctN.of (by decide) (Nat.le_of_ble_eq_true rfl) (fun E ad hG hQ => ?_)
  subst hG
  unfold PX6_noteCrossings at h
  refine x_aload_n dX6_noteCrossings_0 rfl ?_
  refine x_iload_n dX6_noteCrossings_1 rfl ?_
  refine x_iload_n dX6_noteCrossings_2 rfl ?_
  refine x_aload_n dX6_noteCrossings_3 rfl ?_
  refine x_iload dX6_noteCrossings_4 rfl ?_
  refine x_iconst (v := 1) dX6_noteCrossings_6 (by decide) ?_
  refine x_isub dX6_noteCrossings_7 ?_
  obtain ⟨h1, h⟩ := h
  refine x_callVI (As := [aI v1, aI v2, aA v3, aI (v4 - 1)]) (st := []) kX6_120 rfl ⟨rfl, rfl, by decide, by decide⟩ dX6_noteCrossings_8 rfl (Nat.le_of_ble_eq_true rfl) ⟨Nat.zero_le _, Nat.zero_le _⟩ h1 (ctX6_counts h) (fun x_8 S_8 h => ?_)
  refine x_istore dX6_noteCrossings_11 (by decide) rfl ?_
  refine x_aload_n dX6_noteCrossings_13 rfl ?_
  obtain ⟨h1, r_14, hr_14, h⟩ := h
  refine x_g6_4 rfl dX6_noteCrossings_14 h1 (x_un hr_14 ?_)
  refine x_aload_n dX6_noteCrossings_17 rfl ?_
  obtain ⟨h1, r_18, hr_18, h⟩ := h
  refine x_g6_0 rfl dX6_noteCrossings_18 h1 (x_un hr_18 ?_)
  refine x_iload_n dX6_noteCrossings_21 rfl ?_
  obtain ⟨h1, r_22, hr_22, h⟩ := h
  refine x_aald11 dX6_noteCrossings_22 h1 (x_un hr_22 ?_)
  refine x_aload_n dX6_noteCrossings_23 rfl ?_
  refine x_iload dX6_noteCrossings_24 rfl ?_
  obtain ⟨h1, h⟩ := h
  refine x_callVV (As := [aA r_22, aA v3, aI v4]) (st := []) kX6_236 rfl ⟨rfl, rfl, by decide, by decide⟩ dX6_noteCrossings_26 rfl (Nat.le_of_ble_eq_true rfl) ⟨Nat.zero_le _, Nat.zero_le _⟩ h1 (ctX4_find h) (fun S_26 h => ?_)
  refine x_iconst (v := 0) dX6_noteCrossings_29 (by decide) ?_
  refine x_istore dX6_noteCrossings_30 (by decide) rfl ?_
  refine x_lv (lv' := [(0, aA v0), (1, aI v1), (4, aI v4), (5, aI x_8), (6, aI 0)]) ⟨rfl, rfl, rfl, rfl, rfl, trivial⟩ ?_
  obtain ⟨n, h⟩ := h
  exact xX6_noteCrossings_32 hQ  n _ _ _ _ _ _ h
set_option maxRecDepth 100000 in
set_option maxHeartbeats 4000000 in
theorem xX6_run_88 {E : en} {ad : Nat → Nat} {Post : Int32 → hs → Prop} (hQ : isQ E ad (pI Post)) {K37 : Nat → Int32 → Nat → Int32 → hs → Prop} {K49 : Nat → Int32 → Nat → Int32 → Int32 → hs → Prop} (hK37 : ∀ (v0 : Nat) (v2 : Int32) (v3 : Nat) (v4 : Int32) (S : hs), K37 v0 v2 v3 v4 S → X E mX6_run 0 0 ad S 37 [(0, aA v0), (2, aI v2), (3, aA v3), (4, aI v4)] []) (hK49 : ∀ (v0 : Nat) (v2 : Int32) (v3 : Nat) (v4 : Int32) (v5 : Int32) (S : hs), K49 v0 v2 v3 v4 v5 S → X E mX6_run 0 0 ad S 49 [(0, aA v0), (2, aI v2), (3, aA v3), (4, aI v4), (5, aI v5)] []) (v0 : Nat) (v2 : Int32) (v3 : Nat) (v4 : Int32) (v5 : Int32) (S : hs) (h : PX6_run_88 Post K37 K49 v0 v2 v3 v4 v5 S) : X E mX6_run 0 0 ad S 88 [(0, aA v0), (2, aI v2), (3, aA v3), (4, aI v4), (5, aI v5)] [] := by
  unfold PX6_run_88 at h
  obtain ⟨v5_88, hv5_88⟩ : ∃ y : Int32, y = v5 + 1 := ⟨_, rfl⟩
  replace h := h v5_88 hv5_88
  refine x_iinc (v := v5_88) dX6_run_88 rfl (by rw [hv5_88]; rfl) (by decide) rfl ?_
  refine x_goto (tgt := 49) dX6_run_91 (by decide) ?_
  refine x_lv (lv' := [(0, aA v0), (2, aI v2), (3, aA v3), (4, aI v4), (5, aI v5_88)]) ⟨rfl, rfl, rfl, rfl, rfl, trivial⟩ ?_
  exact hK49 _ _ _ _ _ _ h
set_option maxRecDepth 100000 in
set_option maxHeartbeats 4000000 in
theorem xX6_run_49 {E : en} {ad : Nat → Nat} {Post : Int32 → hs → Prop} (hQ : isQ E ad (pI Post)) {K37 : Nat → Int32 → Nat → Int32 → hs → Prop} (hK37 : ∀ (v0 : Nat) (v2 : Int32) (v3 : Nat) (v4 : Int32) (S : hs), K37 v0 v2 v3 v4 S → X E mX6_run 0 0 ad S 37 [(0, aA v0), (2, aI v2), (3, aA v3), (4, aI v4)] []) : ∀ (n : Nat) (v0 : Nat) (v2 : Int32) (v3 : Nat) (v4 : Int32) (v5 : Int32) (S : hs) (_ : PX6_run_49 Post K37 n v0 v2 v3 v4 v5 S), X E mX6_run 0 0 ad S 49 [(0, aA v0), (2, aI v2), (3, aA v3), (4, aI v4), (5, aI v5)] [] := by
  intro n
  induction n with
  | zero => intro v0 v2 v3 v4 v5 S h; exact h.elim
  | succ n ih =>
    intro v0 v2 v3 v4 v5 S h
    have hK49 := ih
    simp only [PX6_run_49] at h
    refine x_iload dX6_run_49 rfl ?_
    refine x_aload_n dX6_run_51 rfl ?_
    obtain ⟨h1, r_52, hr_52, h⟩ := h
    refine x_g6_0 rfl dX6_run_52 h1 (x_un hr_52 ?_)
    refine x_alen11 dX6_run_55 h.1 ?_
    replace h := h.2
    refine x_icmp_ge (tgt := 94) dX6_run_56 (by decide) (fun c => ?_) (fun c => ?_)
    · replace h := h.1 c
      obtain ⟨v4_94, hv4_94⟩ : ∃ y : Int32, y = v4 + 1 := ⟨_, rfl⟩
      replace h := h v4_94 hv4_94
      refine x_iinc (v := v4_94) dX6_run_94 rfl (by rw [hv4_94]; rfl) (by decide) rfl ?_
      refine x_goto (tgt := 37) dX6_run_97 (by decide) ?_
      refine x_lv (lv' := [(0, aA v0), (2, aI v2), (3, aA v3), (4, aI v4_94)]) ⟨rfl, rfl, rfl, rfl, trivial⟩ ?_
      exact hK37 _ _ _ _ _ h
    · replace h := h.2 c
      refine x_aload_n dX6_run_59 rfl ?_
      refine x_iload dX6_run_60 rfl ?_
      refine x_iload_n dX6_run_62 rfl ?_
      refine x_aload_n dX6_run_63 rfl ?_
      refine x_iload dX6_run_64 rfl ?_
      obtain ⟨h1, h⟩ := h
      refine x_callVI (As := [aI v5, aI v2, aA v3, aI v4]) (st := []) kX6_120 rfl ⟨rfl, rfl, by decide, by decide⟩ dX6_run_66 rfl (Nat.le_of_ble_eq_true rfl) ⟨Nat.zero_le _, Nat.zero_le _⟩ h1 (ctX6_counts h) (fun x_66 S_66 h => ?_)
      refine x_if_eq (tgt := 88) dX6_run_69 (by decide) (fun c => ?_) (fun c => ?_)
      · replace h := h.1 c
        refine x_lv (lv' := [(0, aA v0), (2, aI v2), (3, aA v3), (4, aI v4), (5, aI v5)]) ⟨rfl, rfl, rfl, rfl, rfl, trivial⟩ ?_
        exact xX6_run_88 hQ hK37 hK49 _ _ _ _ _ _ h
      · replace h := h.2 c
        refine x_aload_n dX6_run_72 rfl ?_
        refine x_iload dX6_run_73 rfl ?_
        refine x_iload_n dX6_run_75 rfl ?_
        refine x_aload_n dX6_run_76 rfl ?_
        refine x_iload dX6_run_77 rfl ?_
        obtain ⟨h1, h⟩ := h
        refine x_callVI (As := [aI v5, aI v2, aA v3, aI v4]) (st := []) kX6_124 rfl ⟨rfl, rfl, by decide, by decide⟩ dX6_run_79 rfl (Nat.le_of_ble_eq_true rfl) ⟨Nat.zero_le _, Nat.zero_le _⟩ h1 (ctX6_noteCrossings h) (fun x_79 S_79 h => ?_)
        refine x_if_ne (tgt := 88) dX6_run_82 (by decide) (fun c => ?_) (fun c => ?_)
        · replace h := h.2 c
          refine x_lv (lv' := [(0, aA v0), (2, aI v2), (3, aA v3), (4, aI v4), (5, aI v5)]) ⟨rfl, rfl, rfl, rfl, rfl, trivial⟩ ?_
          exact xX6_run_88 hQ hK37 hK49 _ _ _ _ _ _ h
        · replace h := h.1 c
          refine x_bipush (v := (-4)) dX6_run_85 (by decide) ?_
          exact x_iret hQ rfl dX6_run_87 ⟨_, rfl, h⟩
set_option maxRecDepth 100000 in
set_option maxHeartbeats 4000000 in
theorem xX6_run_37 {E : en} {ad : Nat → Nat} {Post : Int32 → hs → Prop} (hQ : isQ E ad (pI Post))   : ∀ (n : Nat) (v0 : Nat) (v2 : Int32) (v3 : Nat) (v4 : Int32) (S : hs) (_ : PX6_run_37 Post  n v0 v2 v3 v4 S), X E mX6_run 0 0 ad S 37 [(0, aA v0), (2, aI v2), (3, aA v3), (4, aI v4)] [] := by
  intro n
  induction n with
  | zero => intro v0 v2 v3 v4 S h; exact h.elim
  | succ n ih =>
    intro v0 v2 v3 v4 S h
    have hK37 := ih
    simp only [PX6_run_37] at h
    refine x_iload dX6_run_37 rfl ?_
    refine x_aload_n dX6_run_39 rfl ?_
    obtain ⟨h1, h⟩ := h
    refine x_callVI (As := []) (st := [aI v4]) kX6_117 rfl ⟨rfl, rfl, by decide, by decide⟩ dX6_run_40 rfl (Nat.le_of_ble_eq_true rfl) ⟨Nat.zero_le _, Nat.zero_le _⟩ h1 (ctX5_pieces h) (fun x_40 S_40 h => ?_)
    refine x_icmp_ge (tgt := 100) dX6_run_43 (by decide) (fun c => ?_) (fun c => ?_)
    · replace h := h.1 c
      refine x_aload_n dX6_run_100 rfl ?_
      obtain ⟨h1, r_101, hr_101, h⟩ := h
      refine x_g6_6 rfl dX6_run_101 h1 (x_un hr_101 ?_)
      refine x_astore dX6_run_104 (by decide) rfl ?_
      refine x_aload_n dX6_run_106 rfl ?_
      refine x_aload_n dX6_run_107 rfl ?_
      obtain ⟨h1, r_108, hr_108, h⟩ := h
      refine x_g6_5 rfl dX6_run_108 h1 (x_un hr_108 ?_)
      obtain ⟨h1, h⟩ := h
      refine x_p6_6 rfl dX6_run_111 h1 (x_nS (fun S_111 hS_111 => ?_))
      replace h := h S_111 hS_111
      refine x_aload_n dX6_run_114 rfl ?_
      refine x_aload dX6_run_115 rfl ?_
      obtain ⟨h1, h⟩ := h
      refine x_p6_5 rfl dX6_run_117 h1 (x_nS (fun S_117 hS_117 => ?_))
      replace h := h S_117 hS_117
      refine x_aload_n dX6_run_120 rfl ?_
      obtain ⟨h1, r_121, hr_121, h⟩ := h
      refine x_g6_5 rfl dX6_run_121 h1 (x_un hr_121 ?_)
      obtain ⟨h1, h⟩ := h
      refine x_callVI (As := []) (st := []) kX6_127 rfl ⟨rfl, rfl, by decide, by decide⟩ dX6_run_124 rfl (Nat.le_of_ble_eq_true rfl) ⟨Nat.zero_le _, Nat.zero_le _⟩ h1 (ctX1_size h) (fun x_124 S_124 h => ?_)
      exact x_iret hQ rfl dX6_run_127 ⟨_, rfl, h⟩
    · replace h := h.2 c
      refine x_iconst (v := 0) dX6_run_46 (by decide) ?_
      refine x_istore dX6_run_47 (by decide) rfl ?_
      refine x_lv (lv' := [(0, aA v0), (2, aI v2), (3, aA v3), (4, aI v4), (5, aI 0)]) ⟨rfl, rfl, rfl, rfl, rfl, trivial⟩ ?_
      obtain ⟨n, h⟩ := h
      exact xX6_run_49 hQ hK37 n _ _ _ _ _ _ h
set_option maxRecDepth 100000 in
set_option maxHeartbeats 4000000 in
theorem ctX6_run {G : Launch × va_G × (Nat → ClassId) × Nat} {v0 : Nat} {v1 : Int32} {v2 : Int32} {S : hs} {Post : Int32 → hs → Prop} (h : PX6_run v0 v1 v2 S Post) : ctN G mX6_run [aA v0, aI v1, aI v2] S (pI Post) := by
  refine ctN.of (by decide) (Nat.le_of_ble_eq_true rfl) (fun E ad hG hQ => ?_)
  subst hG
  unfold PX6_run at h
  refine x_aload_n dX6_run_0 rfl ?_
  refine x_iload_n dX6_run_1 rfl ?_
  obtain ⟨h1, h⟩ := h
  refine x_callVI (As := [aI v1]) (st := []) kX6_108 rfl ⟨rfl, rfl, by decide, by decide⟩ dX6_run_2 rfl (Nat.le_of_ble_eq_true rfl) ⟨Nat.zero_le _, Nat.zero_le _⟩ h1 (ctX6_isTrack h) (fun x_2 S_2 h => ?_)
  refine x_if_ne (tgt := 10) dX6_run_5 (by decide) (fun c => ?_) (fun c => ?_)
  · replace h := h.2 c
    refine x_iload_n dX6_run_10 rfl ?_
    refine x_callSI (As := [aI v2]) (st := []) kX6_82 rfl ⟨rfl, rfl, by decide, by decide⟩ dX6_run_11 rfl (Nat.le_of_ble_eq_true rfl) ⟨Nat.zero_le _, Nat.zero_le _⟩ (ctX6_isGear h) (fun x_11 S_11 h => ?_)
    refine x_if_ne (tgt := 20) dX6_run_14 (by decide) (fun c => ?_) (fun c => ?_)
    · replace h := h.2 c
      refine x_aload_n dX6_run_20 rfl ?_
      obtain ⟨h1, r_21, hr_21, h⟩ := h
      refine x_g6_6 rfl dX6_run_21 h1 (x_un hr_21 ?_)
      obtain ⟨h1, h⟩ := h
      refine x_callVV (As := []) (st := []) kX6_114 rfl ⟨rfl, rfl, by decide, by decide⟩ dX6_run_24 rfl (Nat.le_of_ble_eq_true rfl) ⟨Nat.zero_le _, Nat.zero_le _⟩ h1 (ctX1_clear h) (fun S_24 h => ?_)
      refine x_aload_n dX6_run_27 rfl ?_
      obtain ⟨h1, r_28, hr_28, h⟩ := h
      refine x_g6_2 rfl dX6_run_28 h1 (x_un hr_28 ?_)
      refine x_iload_n dX6_run_31 rfl ?_
      obtain ⟨h1, r_32, hr_32, h⟩ := h
      refine x_aald13 dX6_run_32 h1 (x_un hr_32 ?_)
      refine x_astore_n dX6_run_33 (by decide) rfl ?_
      refine x_iconst (v := 0) dX6_run_34 (by decide) ?_
      refine x_istore dX6_run_35 (by decide) rfl ?_
      refine x_lv (lv' := [(0, aA v0), (2, aI v2), (3, aA r_32), (4, aI 0)]) ⟨rfl, rfl, rfl, rfl, trivial⟩ ?_
      obtain ⟨n, h⟩ := h
      exact xX6_run_37 hQ  n _ _ _ _ _ h
    · replace h := h.1 c
      refine x_bipush (v := (-2)) dX6_run_17 (by decide) ?_
      exact x_iret hQ rfl dX6_run_19 ⟨_, rfl, h⟩
  · replace h := h.1 c
    refine x_iconst (v := (-1)) dX6_run_8 (by decide) ?_
    exact x_iret hQ rfl dX6_run_9 ⟨_, rfl, h⟩
set_option maxRecDepth 100000 in
set_option maxHeartbeats 4000000 in
theorem xX6_side_29 {E : en} {ad : Nat → Nat} {Post : Int32 → hs → Prop} (hQ : isQ E ad (pI Post))   (s0 : Int32) (S : hs) (h : PX6_side_29 Post  s0 S) : X E mX6_side 0 0 ad S 29 [] [aI s0] := by
  unfold PX6_side_29 at h
  exact x_iret hQ rfl dX6_side_29 ⟨_, rfl, h⟩
set_option maxRecDepth 100000 in
set_option maxHeartbeats 4000000 in
theorem ctX6_side {G : Launch × va_G × (Nat → ClassId) × Nat} {v0 : Nat} {v1 : Int32} {S : hs} {Post : Int32 → hs → Prop} (h : PX6_side v0 v1 S Post) : ctN G mX6_side [aA v0, aI v1] S (pI Post) := by
  refine ctN.of (by decide) (Nat.le_of_ble_eq_true rfl) (fun E ad hG hQ => ?_)
  subst hG
  unfold PX6_side at h
  refine x_aload_n dX6_side_0 rfl ?_
  obtain ⟨h1, r_1, hr_1, h⟩ := h
  refine x_g6_5 rfl dX6_side_1 h1 (x_un hr_1 ?_)
  refine x_iload_n dX6_side_4 rfl ?_
  obtain ⟨h1, h⟩ := h
  refine x_callVI (As := [aI v1]) (st := []) kX6_130 rfl ⟨rfl, rfl, by decide, by decide⟩ dX6_side_5 rfl (Nat.le_of_ble_eq_true rfl) ⟨Nat.zero_le _, Nat.zero_le _⟩ h1 (ctX1_has h) (fun x_5 S_5 h => ?_)
  refine x_if_ne (tgt := 13) dX6_side_8 (by decide) (fun c => ?_) (fun c => ?_)
  · replace h := h.2 c
    refine x_aload_n dX6_side_13 rfl ?_
    obtain ⟨h1, r_14, hr_14, h⟩ := h
    refine x_g6_5 rfl dX6_side_14 h1 (x_un hr_14 ?_)
    refine x_iload_n dX6_side_17 rfl ?_
    obtain ⟨h1, h⟩ := h
    refine x_callVI (As := [aI v1]) (st := []) kX6_151 rfl ⟨rfl, rfl, by decide, by decide⟩ dX6_side_18 rfl (Nat.le_of_ble_eq_true rfl) ⟨Nat.zero_le _, Nat.zero_le _⟩ h1 (ctX1_isEntering h) (fun x_18 S_18 h => ?_)
    refine x_if_eq (tgt := 28) dX6_side_21 (by decide) (fun c => ?_) (fun c => ?_)
    · replace h := h.1 c
      refine x_iconst (v := 0) dX6_side_28 (by decide) ?_
      refine x_lv (lv' := []) trivial ?_
      exact xX6_side_29 hQ  _ _ h
    · replace h := h.2 c
      refine x_iconst (v := 1) dX6_side_24 (by decide) ?_
      refine x_goto (tgt := 29) dX6_side_25 (by decide) ?_
      refine x_lv (lv' := []) trivial ?_
      exact xX6_side_29 hQ  _ _ h
  · replace h := h.1 c
    refine x_iconst (v := (-1)) dX6_side_11 (by decide) ?_
    exact x_iret hQ rfl dX6_side_12 ⟨_, rfl, h⟩
