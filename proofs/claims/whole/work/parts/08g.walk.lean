set_option maxRecDepth 100000 in
set_option maxHeartbeats 4000000 in
theorem xX6_thousandthsIn_26 {E : en} {ad : Nat → Nat} {Post : Int64 → hs → Prop} (hQ : isQ E ad (pJ Post))   : ∀ (n : Nat) (v0 : Nat) (v2 : Nat) (v3 : Int32) (v4 : Int64) (v6 : Int32) (S : hs) (_ : PX6_thousandthsIn_26 Post  n v0 v2 v3 v4 v6 S), X E mX6_thousandthsIn 0 0 ad S 26 [(0, aA v0), (2, aA v2), (3, aI v3), (4, aJ v4), (6, aI v6)] [] := by
  intro n
  induction n with
  | zero => intro v0 v2 v3 v4 v6 S h; exact h.elim
  | succ n ih =>
    intro v0 v2 v3 v4 v6 S h
    have hK26 := ih
    simp only [PX6_thousandthsIn_26] at h
    refine x_iload dX6_thousandthsIn_26 rfl ?_
    refine x_aload_n dX6_thousandthsIn_28 rfl ?_
    obtain ⟨h1, r_29, hr_29, h⟩ := h
    refine x_g6_4 rfl dX6_thousandthsIn_29 h1 (x_un hr_29 ?_)
    obtain ⟨h1, h⟩ := h
    refine x_callVI (As := []) (st := [aI v6]) kX6_240 rfl ⟨rfl, rfl, by decide, by decide⟩ dX6_thousandthsIn_32 rfl (Nat.le_of_ble_eq_true rfl) ⟨Nat.zero_le _, Nat.zero_le _⟩ h1 (ctX4_size h) (fun x_32 S_32 h => ?_)
    refine x_icmp_ge (tgt := 67) dX6_thousandthsIn_35 (by decide) (fun c => ?_) (fun c => ?_)
    · replace h := h.1 c
      refine x_lload dX6_thousandthsIn_67 rfl ?_
      exact x_lret hQ rfl dX6_thousandthsIn_69 ⟨_, rfl, h⟩
    · replace h := h.2 c
      refine x_lload dX6_thousandthsIn_38 rfl ?_
      refine x_aload_n dX6_thousandthsIn_40 rfl ?_
      obtain ⟨h1, r_41, hr_41, h⟩ := h
      refine x_g6_4 rfl dX6_thousandthsIn_41 h1 (x_un hr_41 ?_)
      refine x_iload dX6_thousandthsIn_44 rfl ?_
      refine x_aload_n dX6_thousandthsIn_46 rfl ?_
      refine x_iload_n dX6_thousandthsIn_47 rfl ?_
      obtain ⟨h1, h⟩ := h
      refine x_callVJ (As := [aI v3]) (st := [aI v6, aA r_41, aJ v4]) kX6_258 rfl ⟨rfl, rfl, by decide, by decide⟩ dX6_thousandthsIn_48 rfl (Nat.le_of_ble_eq_true rfl) ⟨Nat.zero_le _, Nat.zero_le _⟩ h1 (ctX5_secondsOf h) (fun x_48 S_48 h => ?_)
      refine x_ldc2 (v := 1000) dX6_thousandthsIn_51 kcX6_261 ?_
      refine x_lmul dX6_thousandthsIn_54 ?_
      obtain ⟨h1, h⟩ := h
      refine x_callVJ (As := [aI v6, aJ (x_48 * 1000)]) (st := [aJ v4]) kX6_263 rfl ⟨rfl, rfl, by decide, by decide⟩ dX6_thousandthsIn_55 rfl (Nat.le_of_ble_eq_true rfl) ⟨Nat.zero_le _, Nat.zero_le _⟩ h1 (ctX4_shareOf h) (fun x_55 S_55 h => ?_)
      refine x_ladd dX6_thousandthsIn_58 ?_
      refine x_nJ (fun v4_59 hv4_59 => ?_)
      replace h := h v4_59 hv4_59
      refine x_lstore dX6_thousandthsIn_59 (by decide) rfl ?_
      obtain ⟨v6_61, hv6_61⟩ : ∃ y : Int32, y = v6 + 1 := ⟨_, rfl⟩
      replace h := h v6_61 hv6_61
      refine x_iinc (v := v6_61) dX6_thousandthsIn_61 rfl (by rw [hv6_61]; rfl) (by decide) rfl ?_
      refine x_goto (tgt := 26) dX6_thousandthsIn_64 (by decide) ?_
      refine x_lv (lv' := [(0, aA v0), (2, aA v2), (3, aI v3), (4, aJ v4_59), (6, aI v6_61)]) ⟨rfl, rfl, rfl, rfl, rfl, trivial⟩ ?_
      exact hK26 _ _ _ _ _ _ h
set_option maxRecDepth 100000 in
set_option maxHeartbeats 4000000 in
theorem ctX6_thousandthsIn {G : Launch × va_G × (Nat → ClassId) × Nat} {v0 : Nat} {v1 : Nat} {v2 : Nat} {v3 : Int32} {S : hs} {Post : Int64 → hs → Prop} (h : PX6_thousandthsIn v0 v1 v2 v3 S Post) : ctN G mX6_thousandthsIn [aA v0, aA v1, aA v2, aI v3] S (pJ Post) := by
  refine ctN.of (by decide) (Nat.le_of_ble_eq_true rfl) (fun E ad hG hQ => ?_)
  subst hG
  unfold PX6_thousandthsIn at h
  refine x_aload_n dX6_thousandthsIn_0 rfl ?_
  refine x_iload_n dX6_thousandthsIn_1 rfl ?_
  obtain ⟨h1, h⟩ := h
  refine x_callVI (As := [aI v3]) (st := []) kX6_219 rfl ⟨rfl, rfl, by decide, by decide⟩ dX6_thousandthsIn_2 rfl (Nat.le_of_ble_eq_true rfl) ⟨Nat.zero_le _, Nat.zero_le _⟩ h1 (ctX5_isGap h) (fun x_2 S_2 h => ?_)
  refine x_if_eq (tgt := 10) dX6_thousandthsIn_5 (by decide) (fun c => ?_) (fun c => ?_)
  · replace h := h.1 c
    refine x_aload_n dX6_thousandthsIn_10 rfl ?_
    obtain ⟨h1, r_11, hr_11, h⟩ := h
    refine x_g6_4 rfl dX6_thousandthsIn_11 h1 (x_un hr_11 ?_)
    refine x_aload_n dX6_thousandthsIn_14 rfl ?_
    refine x_aload_n dX6_thousandthsIn_15 rfl ?_
    refine x_iload_n dX6_thousandthsIn_16 rfl ?_
    obtain ⟨h1, h⟩ := h
    refine x_callVV (As := [aA v1, aA v2, aI v3]) (st := []) kX6_236 rfl ⟨rfl, rfl, by decide, by decide⟩ dX6_thousandthsIn_17 rfl (Nat.le_of_ble_eq_true rfl) ⟨Nat.zero_le _, Nat.zero_le _⟩ h1 (ctX4_find h) (fun S_17 h => ?_)
    refine x_lconst (v := 0) dX6_thousandthsIn_20 (by decide) ?_
    refine x_lstore dX6_thousandthsIn_21 (by decide) rfl ?_
    refine x_iconst (v := 0) dX6_thousandthsIn_23 (by decide) ?_
    refine x_istore dX6_thousandthsIn_24 (by decide) rfl ?_
    refine x_lv (lv' := [(0, aA v0), (2, aA v2), (3, aI v3), (4, aJ 0), (6, aI 0)]) ⟨rfl, rfl, rfl, rfl, rfl, trivial⟩ ?_
    obtain ⟨n, h⟩ := h
    exact xX6_thousandthsIn_26 hQ  n _ _ _ _ _ _ h
  · replace h := h.2 c
    refine x_lconst (v := 0) dX6_thousandthsIn_8 (by decide) ?_
    exact x_lret hQ rfl dX6_thousandthsIn_9 ⟨_, rfl, h⟩
set_option maxRecDepth 100000 in
set_option maxHeartbeats 4000000 in
theorem xX6_inside_70 {E : en} {ad : Nat → Nat} {Post : Int64 → hs → Prop} (hQ : isQ E ad (pJ Post))   : ∀ (n : Nat) (v0 : Nat) (v1 : Int32) (v4 : Nat) (v5 : Int64) (v7 : Int32) (S : hs) (_ : PX6_inside_70 Post  n v0 v1 v4 v5 v7 S), X E mX6_inside 0 0 ad S 70 [(0, aA v0), (1, aI v1), (4, aA v4), (5, aJ v5), (7, aI v7)] [] := by
  intro n
  induction n with
  | zero => intro v0 v1 v4 v5 v7 S h; exact h.elim
  | succ n ih =>
    intro v0 v1 v4 v5 v7 S h
    have hK70 := ih
    simp only [PX6_inside_70] at h
    refine x_iload dX6_inside_70 rfl ?_
    refine x_aload dX6_inside_72 rfl ?_
    obtain ⟨h1, h⟩ := h
    refine x_callVI (As := []) (st := [aI v7]) kX6_117 rfl ⟨rfl, rfl, by decide, by decide⟩ dX6_inside_74 rfl (Nat.le_of_ble_eq_true rfl) ⟨Nat.zero_le _, Nat.zero_le _⟩ h1 (ctX5_pieces h) (fun x_74 S_74 h => ?_)
    refine x_icmp_ge (tgt := 105) dX6_inside_77 (by decide) (fun c => ?_) (fun c => ?_)
    · replace h := h.1 c
      refine x_lload dX6_inside_105 rfl ?_
      exact x_lret hQ rfl dX6_inside_107 ⟨_, rfl, h⟩
    · replace h := h.2 c
      refine x_lload dX6_inside_80 rfl ?_
      refine x_aload_n dX6_inside_82 rfl ?_
      refine x_aload_n dX6_inside_83 rfl ?_
      obtain ⟨h1, r_84, hr_84, h⟩ := h
      refine x_g6_0 rfl dX6_inside_84 h1 (x_un hr_84 ?_)
      refine x_iload_n dX6_inside_87 rfl ?_
      obtain ⟨h1, r_88, hr_88, h⟩ := h
      refine x_aald11 dX6_inside_88 h1 (x_un hr_88 ?_)
      refine x_aload dX6_inside_89 rfl ?_
      refine x_iload dX6_inside_91 rfl ?_
      obtain ⟨h1, h⟩ := h
      refine x_callVJ (As := [aA r_88, aA v4, aI v7]) (st := [aJ v5]) kX6_157 rfl ⟨rfl, rfl, by decide, by decide⟩ dX6_inside_93 rfl (Nat.le_of_ble_eq_true rfl) ⟨Nat.zero_le _, Nat.zero_le _⟩ h1 (ctX6_thousandthsIn h) (fun x_93 S_93 h => ?_)
      refine x_ladd dX6_inside_96 ?_
      refine x_nJ (fun v5_97 hv5_97 => ?_)
      replace h := h v5_97 hv5_97
      refine x_lstore dX6_inside_97 (by decide) rfl ?_
      obtain ⟨v7_99, hv7_99⟩ : ∃ y : Int32, y = v7 + 1 := ⟨_, rfl⟩
      replace h := h v7_99 hv7_99
      refine x_iinc (v := v7_99) dX6_inside_99 rfl (by rw [hv7_99]; rfl) (by decide) rfl ?_
      refine x_goto (tgt := 70) dX6_inside_102 (by decide) ?_
      refine x_lv (lv' := [(0, aA v0), (1, aI v1), (4, aA v4), (5, aJ v5_97), (7, aI v7_99)]) ⟨rfl, rfl, rfl, rfl, rfl, trivial⟩ ?_
      exact hK70 _ _ _ _ _ _ h
set_option maxRecDepth 100000 in
set_option maxHeartbeats 4000000 in
theorem xX6_inside_55 {E : en} {ad : Nat → Nat} {Post : Int64 → hs → Prop} (hQ : isQ E ad (pJ Post))   (v0 : Nat) (v1 : Int32) (v3 : Int32) (v4 : Nat) (S : hs) (h : PX6_inside_55 Post  v0 v1 v3 v4 S) : X E mX6_inside 0 0 ad S 55 [(0, aA v0), (1, aI v1), (3, aI v3), (4, aA v4)] [] := by
  unfold PX6_inside_55 at h
  refine x_iload_n dX6_inside_55 rfl ?_
  refine x_iconst (v := (-1)) dX6_inside_56 (by decide) ?_
  refine x_icmp_eq (tgt := 64) dX6_inside_57 (by decide) (fun c => ?_) (fun c => ?_)
  · replace h := h.1 c
    refine x_lconst (v := 0) dX6_inside_64 (by decide) ?_
    refine x_lstore dX6_inside_65 (by decide) rfl ?_
    refine x_iconst (v := 0) dX6_inside_67 (by decide) ?_
    refine x_istore dX6_inside_68 (by decide) rfl ?_
    refine x_lv (lv' := [(0, aA v0), (1, aI v1), (4, aA v4), (5, aJ 0), (7, aI 0)]) ⟨rfl, rfl, rfl, rfl, rfl, trivial⟩ ?_
    obtain ⟨n, h⟩ := h
    exact xX6_inside_70 hQ  n _ _ _ _ _ _ h
  · replace h := h.2 c
    refine x_ldc2 (v := (-1)) dX6_inside_60 kcX6_133 ?_
    exact x_lret hQ rfl dX6_inside_63 ⟨_, rfl, h⟩
set_option maxRecDepth 100000 in
set_option maxHeartbeats 4000000 in
theorem xX6_inside_16 {E : en} {ad : Nat → Nat} {Post : Int64 → hs → Prop} (hQ : isQ E ad (pJ Post))    (S : hs) (h : PX6_inside_16 Post   S) : X E mX6_inside 0 0 ad S 16 [] [] := by
  unfold PX6_inside_16 at h
  refine x_ldc2 (v := (-1)) dX6_inside_16 kcX6_133 ?_
  exact x_lret hQ rfl dX6_inside_19 ⟨_, rfl, h⟩
set_option maxRecDepth 100000 in
set_option maxHeartbeats 4000000 in
theorem ctX6_inside {G : Launch × va_G × (Nat → ClassId) × Nat} {v0 : Nat} {v1 : Int32} {v2 : Int32} {v3 : Int32} {S : hs} {Post : Int64 → hs → Prop} (h : PX6_inside v0 v1 v2 v3 S Post) : ctN G mX6_inside [aA v0, aI v1, aI v2, aI v3] S (pJ Post) := by
  refine ctN.of (by decide) (Nat.le_of_ble_eq_true rfl) (fun E ad hG hQ => ?_)
  subst hG
  unfold PX6_inside at h
  refine x_aload_n dX6_inside_0 rfl ?_
  refine x_iload_n dX6_inside_1 rfl ?_
  obtain ⟨h1, h⟩ := h
  refine x_callVI (As := [aI v1]) (st := []) kX6_154 rfl ⟨rfl, rfl, by decide, by decide⟩ dX6_inside_2 rfl (Nat.le_of_ble_eq_true rfl) ⟨Nat.zero_le _, Nat.zero_le _⟩ h1 (ctX6_isThere h) (fun x_2 S_2 h => ?_)
  refine x_if_eq (tgt := 16) dX6_inside_5 (by decide) (fun c => ?_) (fun c => ?_)
  · replace h := h.1 c
    refine x_lv (lv' := []) trivial ?_
    exact xX6_inside_16 hQ   _ h
  · replace h := h.2 c
    refine x_aload_n dX6_inside_8 rfl ?_
    refine x_iload_n dX6_inside_9 rfl ?_
    obtain ⟨h1, h⟩ := h
    refine x_callVI (As := [aI v2]) (st := []) kX6_108 rfl ⟨rfl, rfl, by decide, by decide⟩ dX6_inside_10 rfl (Nat.le_of_ble_eq_true rfl) ⟨Nat.zero_le _, Nat.zero_le _⟩ h1 (ctX6_isTrack h) (fun x_10 S_10 h => ?_)
    refine x_if_ne (tgt := 20) dX6_inside_13 (by decide) (fun c => ?_) (fun c => ?_)
    · replace h := h.2 c
      refine x_aload_n dX6_inside_20 rfl ?_
      obtain ⟨h1, r_21, hr_21, h⟩ := h
      refine x_g6_2 rfl dX6_inside_21 h1 (x_un hr_21 ?_)
      refine x_iload_n dX6_inside_24 rfl ?_
      obtain ⟨h1, r_25, hr_25, h⟩ := h
      refine x_aald13 dX6_inside_25 h1 (x_un hr_25 ?_)
      refine x_astore dX6_inside_26 (by decide) rfl ?_
      refine x_iload_n dX6_inside_28 rfl ?_
      refine x_if_lt (tgt := 55) dX6_inside_29 (by decide) (fun c => ?_) (fun c => ?_)
      · replace h := h.1 c
        refine x_lv (lv' := [(0, aA v0), (1, aI v1), (3, aI v3), (4, aA r_25)]) ⟨rfl, rfl, rfl, rfl, trivial⟩ ?_
        exact xX6_inside_55 hQ  _ _ _ _ _ h
      · replace h := h.2 c
        refine x_iload_n dX6_inside_32 rfl ?_
        refine x_aload dX6_inside_33 rfl ?_
        obtain ⟨h1, h⟩ := h
        refine x_callVI (As := []) (st := [aI v3]) kX6_117 rfl ⟨rfl, rfl, by decide, by decide⟩ dX6_inside_35 rfl (Nat.le_of_ble_eq_true rfl) ⟨Nat.zero_le _, Nat.zero_le _⟩ h1 (ctX5_pieces h) (fun x_35 S_35 h => ?_)
        refine x_icmp_ge (tgt := 55) dX6_inside_38 (by decide) (fun c => ?_) (fun c => ?_)
        · replace h := h.1 c
          refine x_lv (lv' := [(0, aA v0), (1, aI v1), (3, aI v3), (4, aA r_25)]) ⟨rfl, rfl, rfl, rfl, trivial⟩ ?_
          exact xX6_inside_55 hQ  _ _ _ _ _ h
        · replace h := h.2 c
          refine x_aload_n dX6_inside_41 rfl ?_
          refine x_aload_n dX6_inside_42 rfl ?_
          obtain ⟨h1, r_43, hr_43, h⟩ := h
          refine x_g6_0 rfl dX6_inside_43 h1 (x_un hr_43 ?_)
          refine x_iload_n dX6_inside_46 rfl ?_
          obtain ⟨h1, r_47, hr_47, h⟩ := h
          refine x_aald11 dX6_inside_47 h1 (x_un hr_47 ?_)
          refine x_aload dX6_inside_48 rfl ?_
          refine x_iload_n dX6_inside_50 rfl ?_
          obtain ⟨h1, h⟩ := h
          refine x_callVJ (As := [aA r_47, aA r_25, aI v3]) (st := []) kX6_157 rfl ⟨rfl, rfl, by decide, by decide⟩ dX6_inside_51 rfl (Nat.le_of_ble_eq_true rfl) ⟨Nat.zero_le _, Nat.zero_le _⟩ h1 (ctX6_thousandthsIn h) (fun x_51 S_51 h => ?_)
          exact x_lret hQ rfl dX6_inside_54 ⟨_, rfl, h⟩
    · replace h := h.1 c
      refine x_lv (lv' := []) trivial ?_
      exact xX6_inside_16 hQ   _ h
set_option maxRecDepth 100000 in
set_option maxHeartbeats 4000000 in
theorem xX6_mayHaveBeenNear_105 {E : en} {ad : Nat → Nat} {Post : Int32 → hs → Prop} (hQ : isQ E ad (pI Post))   (s0 : Int32) (S : hs) (h : PX6_mayHaveBeenNear_105 Post  s0 S) : X E mX6_mayHaveBeenNear 0 0 ad S 105 [] [aI s0] := by
  unfold PX6_mayHaveBeenNear_105 at h
  exact x_zret hQ rfl dX6_mayHaveBeenNear_105 ⟨h.1, _, rfl, h.2⟩
set_option maxRecDepth 100000 in
set_option maxHeartbeats 4000000 in
theorem xX6_mayHaveBeenNear_104 {E : en} {ad : Nat → Nat} {Post : Int32 → hs → Prop} (hQ : isQ E ad (pI Post))    (S : hs) (h : PX6_mayHaveBeenNear_104 Post   S) : X E mX6_mayHaveBeenNear 0 0 ad S 104 [] [] := by
  unfold PX6_mayHaveBeenNear_104 at h
  refine x_iconst (v := 0) dX6_mayHaveBeenNear_104 (by decide) ?_
  refine x_lv (lv' := []) trivial ?_
  exact xX6_mayHaveBeenNear_105 hQ  _ _ h
set_option maxRecDepth 100000 in
set_option maxHeartbeats 4000000 in
theorem ctX6_mayHaveBeenNear {G : Launch × va_G × (Nat → ClassId) × Nat} {v0 : Nat} {v1 : Nat} {v2 : Int32} {S : hs} {Post : Int32 → hs → Prop} (h : PX6_mayHaveBeenNear v0 v1 v2 S Post) : ctN G mX6_mayHaveBeenNear [aA v0, aA v1, aI v2] S (pI Post) := by
  refine ctN.of (by decide) (Nat.le_of_ble_eq_true rfl) (fun E ad hG hQ => ?_)
  subst hG
  unfold PX6_mayHaveBeenNear at h
  refine x_aload_n dX6_mayHaveBeenNear_0 rfl ?_
  refine x_iload_n dX6_mayHaveBeenNear_1 rfl ?_
  obtain ⟨h1, h⟩ := h
  refine x_callVJ (As := [aI v2]) (st := []) kX6_267 rfl ⟨rfl, rfl, by decide, by decide⟩ dX6_mayHaveBeenNear_2 rfl (Nat.le_of_ble_eq_true rfl) ⟨Nat.zero_le _, Nat.zero_le _⟩ h1 (ctX5_hoursBegunOf h) (fun x_2 S_2 h => ?_)
  refine x_lstore_n dX6_mayHaveBeenNear_5 (by decide) rfl ?_
  refine x_aload_n dX6_mayHaveBeenNear_6 rfl ?_
  refine x_iload_n dX6_mayHaveBeenNear_7 rfl ?_
  obtain ⟨h1, h⟩ := h
  refine x_callVI (As := [aI v2]) (st := []) kX6_173 rfl ⟨rfl, rfl, by decide, by decide⟩ dX6_mayHaveBeenNear_8 rfl (Nat.le_of_ble_eq_true rfl) ⟨Nat.zero_le _, Nat.zero_le _⟩ h1 (ctX5_xOf h) (fun x_8 S_8 h => ?_)
  refine x_i2l dX6_mayHaveBeenNear_11 ?_
  refine x_nJ (fun v5_12 hv5_12 => ?_)
  replace h := h v5_12 hv5_12
  refine x_lstore dX6_mayHaveBeenNear_12 (by decide) rfl ?_
  refine x_aload_n dX6_mayHaveBeenNear_14 rfl ?_
  refine x_iload_n dX6_mayHaveBeenNear_15 rfl ?_
  obtain ⟨h1, h⟩ := h
  refine x_callVI (As := [aI v2]) (st := []) kX6_176 rfl ⟨rfl, rfl, by decide, by decide⟩ dX6_mayHaveBeenNear_16 rfl (Nat.le_of_ble_eq_true rfl) ⟨Nat.zero_le _, Nat.zero_le _⟩ h1 (ctX5_yOf h) (fun x_16 S_16 h => ?_)
  refine x_i2l dX6_mayHaveBeenNear_19 ?_
  refine x_nJ (fun v7_20 hv7_20 => ?_)
  replace h := h v7_20 hv7_20
  refine x_lstore dX6_mayHaveBeenNear_20 (by decide) rfl ?_
  refine x_aload_n dX6_mayHaveBeenNear_22 rfl ?_
  refine x_iload_n dX6_mayHaveBeenNear_23 rfl ?_
  refine x_iconst (v := 1) dX6_mayHaveBeenNear_24 (by decide) ?_
  refine x_iadd dX6_mayHaveBeenNear_25 ?_
  obtain ⟨h1, h⟩ := h
  refine x_callVI (As := [aI (v2 + 1)]) (st := []) kX6_173 rfl ⟨rfl, rfl, by decide, by decide⟩ dX6_mayHaveBeenNear_26 rfl (Nat.le_of_ble_eq_true rfl) ⟨Nat.zero_le _, Nat.zero_le _⟩ h1 (ctX5_xOf h) (fun x_26 S_26 h => ?_)
  refine x_i2l dX6_mayHaveBeenNear_29 ?_
  refine x_nJ (fun v9_30 hv9_30 => ?_)
  replace h := h v9_30 hv9_30
  refine x_lstore dX6_mayHaveBeenNear_30 (by decide) rfl ?_
  refine x_aload_n dX6_mayHaveBeenNear_32 rfl ?_
  refine x_iload_n dX6_mayHaveBeenNear_33 rfl ?_
  refine x_iconst (v := 1) dX6_mayHaveBeenNear_34 (by decide) ?_
  refine x_iadd dX6_mayHaveBeenNear_35 ?_
  obtain ⟨h1, h⟩ := h
  refine x_callVI (As := [aI (v2 + 1)]) (st := []) kX6_176 rfl ⟨rfl, rfl, by decide, by decide⟩ dX6_mayHaveBeenNear_36 rfl (Nat.le_of_ble_eq_true rfl) ⟨Nat.zero_le _, Nat.zero_le _⟩ h1 (ctX5_yOf h) (fun x_36 S_36 h => ?_)
  refine x_i2l dX6_mayHaveBeenNear_39 ?_
  refine x_nJ (fun v11_40 hv11_40 => ?_)
  replace h := h v11_40 hv11_40
  refine x_lstore dX6_mayHaveBeenNear_40 (by decide) rfl ?_
  refine x_aload_n dX6_mayHaveBeenNear_42 rfl ?_
  obtain ⟨h1, h⟩ := h
  refine x_callVR (As := []) (st := []) kX6_187 rfl ⟨rfl, rfl, by decide, by decide⟩ dX6_mayHaveBeenNear_43 rfl (Nat.le_of_ble_eq_true rfl) ⟨Nat.zero_le _, Nat.zero_le _⟩ h1 (ctX0_outer h) (fun x_43 S_43 h => ?_)
  obtain ⟨r_43, hr_43, h⟩ := h
  refine x_un hr_43 ?_
  refine x_astore dX6_mayHaveBeenNear_46 (by decide) rfl ?_
  refine x_aload dX6_mayHaveBeenNear_48 rfl ?_
  refine x_lload dX6_mayHaveBeenNear_50 rfl ?_
  refine x_lload dX6_mayHaveBeenNear_52 rfl ?_
  refine x_mminJ kX6_270 rfl ⟨by decide, by decide⟩ dX6_mayHaveBeenNear_54 (Nat.le_of_ble_eq_true rfl) ⟨Nat.zero_le _, Nat.zero_le _⟩ ?_
  refine x_nJ (fun u_54 hu_54 => ?_)
  replace h := h u_54 hu_54
  refine x_lload_n dX6_mayHaveBeenNear_57 rfl ?_
  refine x_lsub dX6_mayHaveBeenNear_58 ?_
  refine x_lload dX6_mayHaveBeenNear_59 rfl ?_
  refine x_lload dX6_mayHaveBeenNear_61 rfl ?_
  refine x_mmaxJ kX6_273 rfl ⟨by decide, by decide⟩ dX6_mayHaveBeenNear_63 (Nat.le_of_ble_eq_true rfl) ⟨Nat.zero_le _, Nat.zero_le _⟩ ?_
  refine x_nJ (fun u_63 hu_63 => ?_)
  replace h := h u_63 hu_63
  refine x_lload_n dX6_mayHaveBeenNear_66 rfl ?_
  refine x_ladd dX6_mayHaveBeenNear_67 ?_
  obtain ⟨h1, h⟩ := h
  refine x_callVI (As := [aJ (u_54 - x_2), aJ (u_63 + x_2)]) (st := []) kX6_275 rfl ⟨rfl, rfl, by decide, by decide⟩ dX6_mayHaveBeenNear_68 rfl (Nat.le_of_ble_eq_true rfl) ⟨Nat.zero_le _, Nat.zero_le _⟩ h1 (ctX2_reachesX h) (fun x_68 S_68 h => ?_)
  refine x_if_eq (tgt := 104) dX6_mayHaveBeenNear_71 (by decide) (fun c => ?_) (fun c => ?_)
  · replace h := h.1 c
    refine x_lv (lv' := []) trivial ?_
    exact xX6_mayHaveBeenNear_104 hQ   _ h
  · replace h := h.2 c
    refine x_aload dX6_mayHaveBeenNear_74 rfl ?_
    refine x_lload dX6_mayHaveBeenNear_76 rfl ?_
    refine x_lload dX6_mayHaveBeenNear_78 rfl ?_
    refine x_mminJ kX6_270 rfl ⟨by decide, by decide⟩ dX6_mayHaveBeenNear_80 (Nat.le_of_ble_eq_true rfl) ⟨Nat.zero_le _, Nat.zero_le _⟩ ?_
    refine x_nJ (fun u_80 hu_80 => ?_)
    replace h := h u_80 hu_80
    refine x_lload_n dX6_mayHaveBeenNear_83 rfl ?_
    refine x_lsub dX6_mayHaveBeenNear_84 ?_
    refine x_lload dX6_mayHaveBeenNear_85 rfl ?_
    refine x_lload dX6_mayHaveBeenNear_87 rfl ?_
    refine x_mmaxJ kX6_273 rfl ⟨by decide, by decide⟩ dX6_mayHaveBeenNear_89 (Nat.le_of_ble_eq_true rfl) ⟨Nat.zero_le _, Nat.zero_le _⟩ ?_
    refine x_nJ (fun u_89 hu_89 => ?_)
    replace h := h u_89 hu_89
    refine x_lload_n dX6_mayHaveBeenNear_92 rfl ?_
    refine x_ladd dX6_mayHaveBeenNear_93 ?_
    obtain ⟨h1, h⟩ := h
    refine x_callVI (As := [aJ (u_80 - x_2), aJ (u_89 + x_2)]) (st := []) kX6_278 rfl ⟨rfl, rfl, by decide, by decide⟩ dX6_mayHaveBeenNear_94 rfl (Nat.le_of_ble_eq_true rfl) ⟨Nat.zero_le _, Nat.zero_le _⟩ h1 (ctX2_reachesY h) (fun x_94 S_94 h => ?_)
    refine x_if_eq (tgt := 104) dX6_mayHaveBeenNear_97 (by decide) (fun c => ?_) (fun c => ?_)
    · replace h := h.1 c
      refine x_lv (lv' := []) trivial ?_
      exact xX6_mayHaveBeenNear_104 hQ   _ h
    · replace h := h.2 c
      refine x_iconst (v := 1) dX6_mayHaveBeenNear_100 (by decide) ?_
      refine x_goto (tgt := 105) dX6_mayHaveBeenNear_101 (by decide) ?_
      refine x_lv (lv' := []) trivial ?_
      exact xX6_mayHaveBeenNear_105 hQ  _ _ h
set_option maxRecDepth 100000 in
set_option maxHeartbeats 4000000 in
theorem xX6_maybe_71 {E : en} {ad : Nat → Nat} {Post : Int32 → hs → Prop} (hQ : isQ E ad (pI Post)) {K30 : Nat → Int32 → Int32 → Int32 → hs → Prop} (hK30 : ∀ (v0 : Nat) (v1 : Int32) (v3 : Int32) (v4 : Int32) (S : hs), K30 v0 v1 v3 v4 S → X E mX6_maybe 0 0 ad S 30 [(0, aA v0), (1, aI v1), (3, aI v3), (4, aI v4)] []) (v0 : Nat) (v1 : Int32) (v3 : Int32) (v4 : Int32) (S : hs) (h : PX6_maybe_71 Post K30 v0 v1 v3 v4 S) : X E mX6_maybe 0 0 ad S 71 [(0, aA v0), (1, aI v1), (3, aI v3), (4, aI v4)] [] := by
  unfold PX6_maybe_71 at h
  obtain ⟨v4_71, hv4_71⟩ : ∃ y : Int32, y = v4 + 1 := ⟨_, rfl⟩
  replace h := h v4_71 hv4_71
  refine x_iinc (v := v4_71) dX6_maybe_71 rfl (by rw [hv4_71]; rfl) (by decide) rfl ?_
  refine x_goto (tgt := 30) dX6_maybe_74 (by decide) ?_
  refine x_lv (lv' := [(0, aA v0), (1, aI v1), (3, aI v3), (4, aI v4_71)]) ⟨rfl, rfl, rfl, rfl, trivial⟩ ?_
  exact hK30 _ _ _ _ _ h
set_option maxRecDepth 100000 in
set_option maxHeartbeats 4000000 in
theorem xX6_maybe_30 {E : en} {ad : Nat → Nat} {Post : Int32 → hs → Prop} (hQ : isQ E ad (pI Post))   : ∀ (n : Nat) (v0 : Nat) (v1 : Int32) (v3 : Int32) (v4 : Int32) (S : hs) (_ : PX6_maybe_30 Post  n v0 v1 v3 v4 S), X E mX6_maybe 0 0 ad S 30 [(0, aA v0), (1, aI v1), (3, aI v3), (4, aI v4)] [] := by
  intro n
  induction n with
  | zero => intro v0 v1 v3 v4 S h; exact h.elim
  | succ n ih =>
    intro v0 v1 v3 v4 S h
    have hK30 := ih
    simp only [PX6_maybe_30] at h
    refine x_iload dX6_maybe_30 rfl ?_
    refine x_aload_n dX6_maybe_32 rfl ?_
    obtain ⟨h1, r_33, hr_33, h⟩ := h
    refine x_g6_0 rfl dX6_maybe_33 h1 (x_un hr_33 ?_)
    refine x_alen11 dX6_maybe_36 h.1 ?_
    replace h := h.2
    refine x_icmp_ge (tgt := 77) dX6_maybe_37 (by decide) (fun c => ?_) (fun c => ?_)
    · replace h := h.1 c
      refine x_iconst (v := 0) dX6_maybe_77 (by decide) ?_
      exact x_zret hQ rfl dX6_maybe_78 ⟨Or.inl rfl, _, rfl, h⟩
    · replace h := h.2 c
      refine x_aload_n dX6_maybe_40 rfl ?_
      refine x_iload dX6_maybe_41 rfl ?_
      obtain ⟨h1, h⟩ := h
      refine x_callVI (As := [aI v4]) (st := []) kX6_154 rfl ⟨rfl, rfl, by decide, by decide⟩ dX6_maybe_43 rfl (Nat.le_of_ble_eq_true rfl) ⟨Nat.zero_le _, Nat.zero_le _⟩ h1 (ctX6_isThere h) (fun x_43 S_43 h => ?_)
      refine x_if_eq (tgt := 71) dX6_maybe_46 (by decide) (fun c => ?_) (fun c => ?_)
      · replace h := h.1 c
        refine x_lv (lv' := [(0, aA v0), (1, aI v1), (3, aI v3), (4, aI v4)]) ⟨rfl, rfl, rfl, rfl, trivial⟩ ?_
        exact xX6_maybe_71 hQ hK30 _ _ _ _ _ h
      · replace h := h.2 c
        refine x_aload_n dX6_maybe_49 rfl ?_
        obtain ⟨h1, r_50, hr_50, h⟩ := h
        refine x_g6_0 rfl dX6_maybe_50 h1 (x_un hr_50 ?_)
        refine x_iload dX6_maybe_53 rfl ?_
        obtain ⟨h1, r_55, hr_55, h⟩ := h
        refine x_aald11 dX6_maybe_55 h1 (x_un hr_55 ?_)
        refine x_aload_n dX6_maybe_56 rfl ?_
        obtain ⟨h1, r_57, hr_57, h⟩ := h
        refine x_g6_2 rfl dX6_maybe_57 h1 (x_un hr_57 ?_)
        refine x_iload_n dX6_maybe_60 rfl ?_
        obtain ⟨h1, r_61, hr_61, h⟩ := h
        refine x_aald13 dX6_maybe_61 h1 (x_un hr_61 ?_)
        refine x_iload_n dX6_maybe_62 rfl ?_
        refine x_callSI (As := [aA r_55, aA r_61, aI v3]) (st := []) kX6_164 rfl ⟨rfl, rfl, by decide, by decide⟩ dX6_maybe_63 rfl (Nat.le_of_ble_eq_true rfl) ⟨Nat.zero_le _, Nat.zero_le _⟩ (ctX6_mayHaveBeenNear h) (fun x_63 S_63 h => ?_)
        refine x_if_eq (tgt := 71) dX6_maybe_66 (by decide) (fun c => ?_) (fun c => ?_)
        · replace h := h.1 c
          refine x_lv (lv' := [(0, aA v0), (1, aI v1), (3, aI v3), (4, aI v4)]) ⟨rfl, rfl, rfl, rfl, trivial⟩ ?_
          exact xX6_maybe_71 hQ hK30 _ _ _ _ _ h
        · replace h := h.2 c
          refine x_iconst (v := 1) dX6_maybe_69 (by decide) ?_
          exact x_zret hQ rfl dX6_maybe_70 ⟨Or.inr rfl, _, rfl, h⟩
set_option maxRecDepth 100000 in
set_option maxHeartbeats 4000000 in
theorem ctX6_maybe {G : Launch × va_G × (Nat → ClassId) × Nat} {v0 : Nat} {v1 : Int32} {v2 : Int32} {S : hs} {Post : Int32 → hs → Prop} (h : PX6_maybe v0 v1 v2 S Post) : ctN G mX6_maybe [aA v0, aI v1, aI v2] S (pI Post) := by
  refine ctN.of (by decide) (Nat.le_of_ble_eq_true rfl) (fun E ad hG hQ => ?_)
  subst hG
  unfold PX6_maybe at h
  refine x_aload_n dX6_maybe_0 rfl ?_
  refine x_iload_n dX6_maybe_1 rfl ?_
  obtain ⟨h1, h⟩ := h
  refine x_callVI (As := [aI v1]) (st := []) kX6_108 rfl ⟨rfl, rfl, by decide, by decide⟩ dX6_maybe_2 rfl (Nat.le_of_ble_eq_true rfl) ⟨Nat.zero_le _, Nat.zero_le _⟩ h1 (ctX6_isTrack h) (fun x_2 S_2 h => ?_)
  refine x_if_ne (tgt := 10) dX6_maybe_5 (by decide) (fun c => ?_) (fun c => ?_)
  · replace h := h.2 c
    refine x_aload_n dX6_maybe_10 rfl ?_
    obtain ⟨h1, r_11, hr_11, h⟩ := h
    refine x_g6_2 rfl dX6_maybe_11 h1 (x_un hr_11 ?_)
    refine x_iload_n dX6_maybe_14 rfl ?_
    obtain ⟨h1, r_15, hr_15, h⟩ := h
    refine x_aald13 dX6_maybe_15 h1 (x_un hr_15 ?_)
    refine x_iload_n dX6_maybe_16 rfl ?_
    obtain ⟨h1, h⟩ := h
    refine x_callVI (As := [aI v2]) (st := []) kX6_161 rfl ⟨rfl, rfl, by decide, by decide⟩ dX6_maybe_17 rfl (Nat.le_of_ble_eq_true rfl) ⟨Nat.zero_le _, Nat.zero_le _⟩ h1 (ctX5_pieceOfGap h) (fun x_17 S_17 h => ?_)
    refine x_istore_n dX6_maybe_20 (by decide) rfl ?_
    refine x_iload_n dX6_maybe_21 rfl ?_
    refine x_if_ge (tgt := 27) dX6_maybe_22 (by decide) (fun c => ?_) (fun c => ?_)
    · replace h := h.1 c
      refine x_iconst (v := 0) dX6_maybe_27 (by decide) ?_
      refine x_istore dX6_maybe_28 (by decide) rfl ?_
      refine x_lv (lv' := [(0, aA v0), (1, aI v1), (3, aI x_17), (4, aI 0)]) ⟨rfl, rfl, rfl, rfl, trivial⟩ ?_
      obtain ⟨n, h⟩ := h
      exact xX6_maybe_30 hQ  n _ _ _ _ _ h
    · replace h := h.2 c
      refine x_iconst (v := 0) dX6_maybe_25 (by decide) ?_
      exact x_zret hQ rfl dX6_maybe_26 ⟨Or.inl rfl, _, rfl, h⟩
  · replace h := h.1 c
    refine x_iconst (v := 0) dX6_maybe_8 (by decide) ?_
    exact x_zret hQ rfl dX6_maybe_9 ⟨Or.inl rfl, _, rfl, h⟩
set_option maxRecDepth 100000 in
set_option maxHeartbeats 4000000 in
theorem xX6_buffer_118 {E : en} {ad : Nat → Nat} {Post : Int32 → hs → Prop} (hQ : isQ E ad (pI Post))   (v4 : Int32) (S : hs) (h : PX6_buffer_118 Post  v4 S) : X E mX6_buffer 0 0 ad S 118 [(4, aI v4)] [] := by
  unfold PX6_buffer_118 at h
  refine x_iload dX6_buffer_118 rfl ?_
  exact x_iret hQ rfl dX6_buffer_120 ⟨_, rfl, h⟩
set_option maxRecDepth 100000 in
set_option maxHeartbeats 4000000 in
theorem xX6_buffer_106 {E : en} {ad : Nat → Nat} {Post : Int32 → hs → Prop} (hQ : isQ E ad (pI Post)) {K33 : Nat → Int32 → Int64 → Int32 → Int32 → hs → Prop} {K64 : Nat → Int32 → Int64 → Int32 → Int32 → Nat → Int32 → hs → Prop} (hK33 : ∀ (v0 : Nat) (v1 : Int32) (v2 : Int64) (v4 : Int32) (v5 : Int32) (S : hs), K33 v0 v1 v2 v4 v5 S → X E mX6_buffer 0 0 ad S 33 [(0, aA v0), (1, aI v1), (2, aJ v2), (4, aI v4), (5, aI v5)] []) (hK64 : ∀ (v0 : Nat) (v1 : Int32) (v2 : Int64) (v4 : Int32) (v5 : Int32) (v6 : Nat) (v7 : Int32) (S : hs), K64 v0 v1 v2 v4 v5 v6 v7 S → X E mX6_buffer 0 0 ad S 64 [(0, aA v0), (1, aI v1), (2, aJ v2), (4, aI v4), (5, aI v5), (6, aA v6), (7, aI v7)] []) (v0 : Nat) (v1 : Int32) (v2 : Int64) (v4 : Int32) (v5 : Int32) (v6 : Nat) (v7 : Int32) (S : hs) (h : PX6_buffer_106 Post K33 K64 v0 v1 v2 v4 v5 v6 v7 S) : X E mX6_buffer 0 0 ad S 106 [(0, aA v0), (1, aI v1), (2, aJ v2), (4, aI v4), (5, aI v5), (6, aA v6), (7, aI v7)] [] := by
  unfold PX6_buffer_106 at h
  obtain ⟨v7_106, hv7_106⟩ : ∃ y : Int32, y = v7 + 1 := ⟨_, rfl⟩
  replace h := h v7_106 hv7_106
  refine x_iinc (v := v7_106) dX6_buffer_106 rfl (by rw [hv7_106]; rfl) (by decide) rfl ?_
  refine x_goto (tgt := 64) dX6_buffer_109 (by decide) ?_
  refine x_lv (lv' := [(0, aA v0), (1, aI v1), (2, aJ v2), (4, aI v4), (5, aI v5), (6, aA v6), (7, aI v7_106)]) ⟨rfl, rfl, rfl, rfl, rfl, rfl, rfl, trivial⟩ ?_
  exact hK64 _ _ _ _ _ _ _ _ h
set_option maxRecDepth 100000 in
set_option maxHeartbeats 4000000 in
theorem xX6_buffer_64 {E : en} {ad : Nat → Nat} {Post : Int32 → hs → Prop} (hQ : isQ E ad (pI Post)) {K33 : Nat → Int32 → Int64 → Int32 → Int32 → hs → Prop} (hK33 : ∀ (v0 : Nat) (v1 : Int32) (v2 : Int64) (v4 : Int32) (v5 : Int32) (S : hs), K33 v0 v1 v2 v4 v5 S → X E mX6_buffer 0 0 ad S 33 [(0, aA v0), (1, aI v1), (2, aJ v2), (4, aI v4), (5, aI v5)] []) : ∀ (n : Nat) (v0 : Nat) (v1 : Int32) (v2 : Int64) (v4 : Int32) (v5 : Int32) (v6 : Nat) (v7 : Int32) (S : hs) (_ : PX6_buffer_64 Post K33 n v0 v1 v2 v4 v5 v6 v7 S), X E mX6_buffer 0 0 ad S 64 [(0, aA v0), (1, aI v1), (2, aJ v2), (4, aI v4), (5, aI v5), (6, aA v6), (7, aI v7)] [] := by
  intro n
  induction n with
  | zero => intro v0 v1 v2 v4 v5 v6 v7 S h; exact h.elim
  | succ n ih =>
    intro v0 v1 v2 v4 v5 v6 v7 S h
    have hK64 := ih
    simp only [PX6_buffer_64] at h
    refine x_iload dX6_buffer_64 rfl ?_
    refine x_aload dX6_buffer_66 rfl ?_
    obtain ⟨h1, h⟩ := h
    refine x_callVI (As := []) (st := [aI v7]) kX6_170 rfl ⟨rfl, rfl, by decide, by decide⟩ dX6_buffer_68 rfl (Nat.le_of_ble_eq_true rfl) ⟨Nat.zero_le _, Nat.zero_le _⟩ h1 (ctX5_places h) (fun x_68 S_68 h => ?_)
    refine x_icmp_ge (tgt := 112) dX6_buffer_71 (by decide) (fun c => ?_) (fun c => ?_)
    · replace h := h.1 c
      obtain ⟨v5_112, hv5_112⟩ : ∃ y : Int32, y = v5 + 1 := ⟨_, rfl⟩
      replace h := h v5_112 hv5_112
      refine x_iinc (v := v5_112) dX6_buffer_112 rfl (by rw [hv5_112]; rfl) (by decide) rfl ?_
      refine x_goto (tgt := 33) dX6_buffer_115 (by decide) ?_
      refine x_lv (lv' := [(0, aA v0), (1, aI v1), (2, aJ v2), (4, aI v4), (5, aI v5_112)]) ⟨rfl, rfl, rfl, rfl, rfl, trivial⟩ ?_
      exact hK33 _ _ _ _ _ _ h
    · replace h := h.2 c
      refine x_aload_n dX6_buffer_74 rfl ?_
      obtain ⟨h1, r_75, hr_75, h⟩ := h
      refine x_g6_0 rfl dX6_buffer_75 h1 (x_un hr_75 ?_)
      refine x_iload_n dX6_buffer_78 rfl ?_
      obtain ⟨h1, r_79, hr_79, h⟩ := h
      refine x_aald11 dX6_buffer_79 h1 (x_un hr_79 ?_)
      refine x_aload dX6_buffer_80 rfl ?_
      refine x_iload dX6_buffer_82 rfl ?_
      obtain ⟨h1, h⟩ := h
      refine x_callVI (As := [aI v7]) (st := [aA r_79]) kX6_173 rfl ⟨rfl, rfl, by decide, by decide⟩ dX6_buffer_84 rfl (Nat.le_of_ble_eq_true rfl) ⟨Nat.zero_le _, Nat.zero_le _⟩ h1 (ctX5_xOf h) (fun x_84 S_84 h => ?_)
      refine x_i2l dX6_buffer_87 ?_
      refine x_aload dX6_buffer_88 rfl ?_
      refine x_iload dX6_buffer_90 rfl ?_
      obtain ⟨h1, h⟩ := h
      refine x_callVI (As := [aI v7]) (st := [aJ (Int32.toInt64 x_84), aA r_79]) kX6_176 rfl ⟨rfl, rfl, by decide, by decide⟩ dX6_buffer_92 rfl (Nat.le_of_ble_eq_true rfl) ⟨Nat.zero_le _, Nat.zero_le _⟩ h1 (ctX5_yOf h) (fun x_92 S_92 h => ?_)
      refine x_i2l dX6_buffer_95 ?_
      refine x_lload_n dX6_buffer_96 rfl ?_
      obtain ⟨h1, h⟩ := h
      refine x_callVI (As := [aJ (Int32.toInt64 x_84), aJ (Int32.toInt64 x_92), aJ v2]) (st := []) kX6_179 rfl ⟨rfl, rfl, by decide, by decide⟩ dX6_buffer_97 rfl (Nat.le_of_ble_eq_true rfl) ⟨Nat.zero_le _, Nat.zero_le _⟩ h1 (ctX0_isInOrNear h) (fun x_97 S_97 h => ?_)
      refine x_if_eq (tgt := 106) dX6_buffer_100 (by decide) (fun c => ?_) (fun c => ?_)
      · replace h := h.1 c
        refine x_lv (lv' := [(0, aA v0), (1, aI v1), (2, aJ v2), (4, aI v4), (5, aI v5), (6, aA v6), (7, aI v7)]) ⟨rfl, rfl, rfl, rfl, rfl, rfl, rfl, trivial⟩ ?_
        exact xX6_buffer_106 hQ hK33 hK64 _ _ _ _ _ _ _ _ h
      · replace h := h.2 c
        obtain ⟨v4_103, hv4_103⟩ : ∃ y : Int32, y = v4 + 1 := ⟨_, rfl⟩
        replace h := h v4_103 hv4_103
        refine x_iinc (v := v4_103) dX6_buffer_103 rfl (by rw [hv4_103]; rfl) (by decide) rfl ?_
        refine x_lv (lv' := [(0, aA v0), (1, aI v1), (2, aJ v2), (4, aI v4_103), (5, aI v5), (6, aA v6), (7, aI v7)]) ⟨rfl, rfl, rfl, rfl, rfl, rfl, rfl, trivial⟩ ?_
        exact xX6_buffer_106 hQ hK33 hK64 _ _ _ _ _ _ _ _ h
set_option maxRecDepth 100000 in
set_option maxHeartbeats 4000000 in
theorem xX6_buffer_33 {E : en} {ad : Nat → Nat} {Post : Int32 → hs → Prop} (hQ : isQ E ad (pI Post))   : ∀ (n : Nat) (v0 : Nat) (v1 : Int32) (v2 : Int64) (v4 : Int32) (v5 : Int32) (S : hs) (_ : PX6_buffer_33 Post  n v0 v1 v2 v4 v5 S), X E mX6_buffer 0 0 ad S 33 [(0, aA v0), (1, aI v1), (2, aJ v2), (4, aI v4), (5, aI v5)] [] := by
  intro n
  induction n with
  | zero => intro v0 v1 v2 v4 v5 S h; exact h.elim
  | succ n ih =>
    intro v0 v1 v2 v4 v5 S h
    have hK33 := ih
    simp only [PX6_buffer_33] at h
    refine x_iload dX6_buffer_33 rfl ?_
    refine x_aload_n dX6_buffer_35 rfl ?_
    refine x_g6_3 rfl dX6_buffer_36 h.1 ?_
    replace h := h.2
    refine x_icmp_ge (tgt := 118) dX6_buffer_39 (by decide) (fun c => ?_) (fun c => ?_)
    · replace h := h.1 c
      refine x_lv (lv' := [(4, aI v4)]) ⟨rfl, trivial⟩ ?_
      exact xX6_buffer_118 hQ  _ _ h
    · replace h := h.2 c
      refine x_iload dX6_buffer_42 rfl ?_
      refine x_aload_n dX6_buffer_44 rfl ?_
      obtain ⟨h1, r_45, hr_45, h⟩ := h
      refine x_g6_2 rfl dX6_buffer_45 h1 (x_un hr_45 ?_)
      refine x_alen13 dX6_buffer_48 h.1 ?_
      replace h := h.2
      refine x_icmp_ge (tgt := 118) dX6_buffer_49 (by decide) (fun c => ?_) (fun c => ?_)
      · replace h := h.1 c
        refine x_lv (lv' := [(4, aI v4)]) ⟨rfl, trivial⟩ ?_
        exact xX6_buffer_118 hQ  _ _ h
      · replace h := h.2 c
        refine x_aload_n dX6_buffer_52 rfl ?_
        obtain ⟨h1, r_53, hr_53, h⟩ := h
        refine x_g6_2 rfl dX6_buffer_53 h1 (x_un hr_53 ?_)
        refine x_iload dX6_buffer_56 rfl ?_
        obtain ⟨h1, r_58, hr_58, h⟩ := h
        refine x_aald13 dX6_buffer_58 h1 (x_un hr_58 ?_)
        refine x_astore dX6_buffer_59 (by decide) rfl ?_
        refine x_iconst (v := 0) dX6_buffer_61 (by decide) ?_
        refine x_istore dX6_buffer_62 (by decide) rfl ?_
        refine x_lv (lv' := [(0, aA v0), (1, aI v1), (2, aJ v2), (4, aI v4), (5, aI v5), (6, aA r_58), (7, aI 0)]) ⟨rfl, rfl, rfl, rfl, rfl, rfl, rfl, trivial⟩ ?_
        obtain ⟨n, h⟩ := h
        exact xX6_buffer_64 hQ hK33 n _ _ _ _ _ _ _ _ h
set_option maxRecDepth 100000 in
set_option maxHeartbeats 4000000 in
theorem xX6_buffer_24 {E : en} {ad : Nat → Nat} {Post : Int32 → hs → Prop} (hQ : isQ E ad (pI Post))    (S : hs) (h : PX6_buffer_24 Post   S) : X E mX6_buffer 0 0 ad S 24 [] [] := by
  unfold PX6_buffer_24 at h
  refine x_bipush (v := (-2)) dX6_buffer_24 (by decide) ?_
  exact x_iret hQ rfl dX6_buffer_26 ⟨_, rfl, h⟩
set_option maxRecDepth 100000 in
set_option maxHeartbeats 4000000 in
theorem ctX6_buffer {G : Launch × va_G × (Nat → ClassId) × Nat} {v0 : Nat} {v1 : Int32} {v2 : Int64} {S : hs} {Post : Int32 → hs → Prop} (h : PX6_buffer v0 v1 v2 S Post) : ctN G mX6_buffer [aA v0, aI v1, aJ v2] S (pI Post) := by
  refine ctN.of (by decide) (Nat.le_of_ble_eq_true rfl) (fun E ad hG hQ => ?_)
  subst hG
  unfold PX6_buffer at h
  refine x_aload_n dX6_buffer_0 rfl ?_
  refine x_iload_n dX6_buffer_1 rfl ?_
  obtain ⟨h1, h⟩ := h
  refine x_callVI (As := [aI v1]) (st := []) kX6_154 rfl ⟨rfl, rfl, by decide, by decide⟩ dX6_buffer_2 rfl (Nat.le_of_ble_eq_true rfl) ⟨Nat.zero_le _, Nat.zero_le _⟩ h1 (ctX6_isThere h) (fun x_2 S_2 h => ?_)
  refine x_if_ne (tgt := 10) dX6_buffer_5 (by decide) (fun c => ?_) (fun c => ?_)
  · replace h := h.2 c
    refine x_lload_n dX6_buffer_10 rfl ?_
    refine x_lconst (v := 0) dX6_buffer_11 (by decide) ?_
    refine x_lcmp_lt (tgt := 24) dX6_buffer_12 dX6_buffer_13 (by decide) (fun c => ?_) (fun c => ?_)
    · replace h := h.1 c
      refine x_lv (lv' := []) trivial ?_
      exact xX6_buffer_24 hQ   _ h
    · replace h := h.2 c
      refine x_lload_n dX6_buffer_16 rfl ?_
      refine x_ldc2 (v := 400) dX6_buffer_17 kcX6_168 ?_
      refine x_lcmp_le (tgt := 27) dX6_buffer_20 dX6_buffer_21 (by decide) (fun c => ?_) (fun c => ?_)
      · replace h := h.1 c
        refine x_iconst (v := 0) dX6_buffer_27 (by decide) ?_
        refine x_istore dX6_buffer_28 (by decide) rfl ?_
        refine x_iconst (v := 0) dX6_buffer_30 (by decide) ?_
        refine x_istore dX6_buffer_31 (by decide) rfl ?_
        refine x_lv (lv' := [(0, aA v0), (1, aI v1), (2, aJ v2), (4, aI 0), (5, aI 0)]) ⟨rfl, rfl, rfl, rfl, rfl, trivial⟩ ?_
        obtain ⟨n, h⟩ := h
        exact xX6_buffer_33 hQ  n _ _ _ _ _ _ h
      · replace h := h.2 c
        refine x_lv (lv' := []) trivial ?_
        exact xX6_buffer_24 hQ   _ h
  · replace h := h.1 c
    refine x_iconst (v := (-1)) dX6_buffer_8 (by decide) ?_
    exact x_iret hQ rfl dX6_buffer_9 ⟨_, rfl, h⟩
set_option maxRecDepth 100000 in
set_option maxHeartbeats 4000000 in
theorem xX6_told_25 {E : en} {ad : Nat → Nat} {Post : Int32 → hs → Prop} (hQ : isQ E ad (pI Post))   (s0 : Int32) (S : hs) (h : PX6_told_25 Post  s0 S) : X E mX6_told 0 0 ad S 25 [] [aI s0] := by
  unfold PX6_told_25 at h
  exact x_zret hQ rfl dX6_told_25 ⟨h.1, _, rfl, h.2⟩
set_option maxRecDepth 100000 in
set_option maxHeartbeats 4000000 in
theorem xX6_told_24 {E : en} {ad : Nat → Nat} {Post : Int32 → hs → Prop} (hQ : isQ E ad (pI Post))    (S : hs) (h : PX6_told_24 Post   S) : X E mX6_told 0 0 ad S 24 [] [] := by
  unfold PX6_told_24 at h
  refine x_iconst (v := 0) dX6_told_24 (by decide) ?_
  refine x_lv (lv' := []) trivial ?_
  exact xX6_told_25 hQ  _ _ h
set_option maxRecDepth 100000 in
set_option maxHeartbeats 4000000 in
theorem ctX6_told {G : Launch × va_G × (Nat → ClassId) × Nat} {v0 : Nat} {v1 : Int32} {v2 : Int64} {S : hs} {Post : Int32 → hs → Prop} (h : PX6_told v0 v1 v2 S Post) : ctN G mX6_told [aA v0, aI v1, aJ v2] S (pI Post) := by
  refine ctN.of (by decide) (Nat.le_of_ble_eq_true rfl) (fun E ad hG hQ => ?_)
  subst hG
  unfold PX6_told at h
  refine x_aload_n dX6_told_0 rfl ?_
  refine x_iload_n dX6_told_1 rfl ?_
  obtain ⟨h1, h⟩ := h
  refine x_callVI (As := [aI v1]) (st := []) kX6_154 rfl ⟨rfl, rfl, by decide, by decide⟩ dX6_told_2 rfl (Nat.le_of_ble_eq_true rfl) ⟨Nat.zero_le _, Nat.zero_le _⟩ h1 (ctX6_isThere h) (fun x_2 S_2 h => ?_)
  refine x_if_eq (tgt := 24) dX6_told_5 (by decide) (fun c => ?_) (fun c => ?_)
  · replace h := h.1 c
    refine x_lv (lv' := []) trivial ?_
    exact xX6_told_24 hQ   _ h
  · replace h := h.2 c
    refine x_aload_n dX6_told_8 rfl ?_
    obtain ⟨h1, r_9, hr_9, h⟩ := h
    refine x_g6_1 rfl dX6_told_9 h1 (x_un hr_9 ?_)
    refine x_iload_n dX6_told_12 rfl ?_
    refine x_lload_n dX6_told_13 rfl ?_
    obtain ⟨h1, h⟩ := h
    refine x_callVI (As := [aI v1, aJ v2]) (st := []) kX6_183 rfl ⟨rfl, rfl, by decide, by decide⟩ dX6_told_14 rfl (Nat.le_of_ble_eq_true rfl) ⟨Nat.zero_le _, Nat.zero_le _⟩ h1 (ctX3_barAny h) (fun x_14 S_14 h => ?_)
    refine x_if_eq (tgt := 24) dX6_told_17 (by decide) (fun c => ?_) (fun c => ?_)
    · replace h := h.1 c
      refine x_lv (lv' := []) trivial ?_
      exact xX6_told_24 hQ   _ h
    · replace h := h.2 c
      refine x_iconst (v := 1) dX6_told_20 (by decide) ?_
      refine x_goto (tgt := 25) dX6_told_21 (by decide) ?_
      refine x_lv (lv' := []) trivial ?_
      exact xX6_told_25 hQ  _ _ h
set_option maxRecDepth 100000 in
set_option maxHeartbeats 4000000 in
theorem xX6_overlap_80 {E : en} {ad : Nat → Nat} {Post : Int32 → hs → Prop} (hQ : isQ E ad (pI Post))   (s0 : Int32) (S : hs) (h : PX6_overlap_80 Post  s0 S) : X E mX6_overlap 0 0 ad S 80 [] [aI s0] := by
  unfold PX6_overlap_80 at h
  exact x_iret hQ rfl dX6_overlap_80 ⟨_, rfl, h⟩
set_option maxRecDepth 100000 in
set_option maxHeartbeats 4000000 in
theorem xX6_overlap_21 {E : en} {ad : Nat → Nat} {Post : Int32 → hs → Prop} (hQ : isQ E ad (pI Post))    (S : hs) (h : PX6_overlap_21 Post   S) : X E mX6_overlap 0 0 ad S 21 [] [] := by
  unfold PX6_overlap_21 at h
  refine x_iconst (v := (-1)) dX6_overlap_21 (by decide) ?_
  exact x_iret hQ rfl dX6_overlap_22 ⟨_, rfl, h⟩
set_option maxRecDepth 100000 in
set_option maxHeartbeats 4000000 in
theorem ctX6_overlap {G : Launch × va_G × (Nat → ClassId) × Nat} {v0 : Nat} {v1 : Int32} {v2 : Int32} {S : hs} {Post : Int32 → hs → Prop} (h : PX6_overlap v0 v1 v2 S Post) : ctN G mX6_overlap [aA v0, aI v1, aI v2] S (pI Post) := by
  refine ctN.of (by decide) (Nat.le_of_ble_eq_true rfl) (fun E ad hG hQ => ?_)
  subst hG
  unfold PX6_overlap at h
  refine x_aload_n dX6_overlap_0 rfl ?_
  refine x_iload_n dX6_overlap_1 rfl ?_
  obtain ⟨h1, h⟩ := h
  refine x_callVI (As := [aI v1]) (st := []) kX6_154 rfl ⟨rfl, rfl, by decide, by decide⟩ dX6_overlap_2 rfl (Nat.le_of_ble_eq_true rfl) ⟨Nat.zero_le _, Nat.zero_le _⟩ h1 (ctX6_isThere h) (fun x_2 S_2 h => ?_)
  refine x_if_eq (tgt := 21) dX6_overlap_5 (by decide) (fun c => ?_) (fun c => ?_)
  · replace h := h.1 c
    refine x_lv (lv' := []) trivial ?_
    exact xX6_overlap_21 hQ   _ h
  · replace h := h.2 c
    refine x_aload_n dX6_overlap_8 rfl ?_
    refine x_iload_n dX6_overlap_9 rfl ?_
    obtain ⟨h1, h⟩ := h
    refine x_callVI (As := [aI v2]) (st := []) kX6_154 rfl ⟨rfl, rfl, by decide, by decide⟩ dX6_overlap_10 rfl (Nat.le_of_ble_eq_true rfl) ⟨Nat.zero_le _, Nat.zero_le _⟩ h1 (ctX6_isThere h) (fun x_10 S_10 h => ?_)
    refine x_if_eq (tgt := 21) dX6_overlap_13 (by decide) (fun c => ?_) (fun c => ?_)
    · replace h := h.1 c
      refine x_lv (lv' := []) trivial ?_
      exact xX6_overlap_21 hQ   _ h
    · replace h := h.2 c
      refine x_iload_n dX6_overlap_16 rfl ?_
      refine x_iload_n dX6_overlap_17 rfl ?_
      refine x_icmp_ne (tgt := 23) dX6_overlap_18 (by decide) (fun c => ?_) (fun c => ?_)
      · replace h := h.2 c
        refine x_aload_n dX6_overlap_23 rfl ?_
        obtain ⟨h1, r_24, hr_24, h⟩ := h
        refine x_g6_0 rfl dX6_overlap_24 h1 (x_un hr_24 ?_)
        refine x_iload_n dX6_overlap_27 rfl ?_
        obtain ⟨h1, r_28, hr_28, h⟩ := h
        refine x_aald11 dX6_overlap_28 h1 (x_un hr_28 ?_)
        obtain ⟨h1, h⟩ := h
        refine x_callVR (As := []) (st := []) kX6_187 rfl ⟨rfl, rfl, by decide, by decide⟩ dX6_overlap_29 rfl (Nat.le_of_ble_eq_true rfl) ⟨Nat.zero_le _, Nat.zero_le _⟩ h1 (ctX0_outer h) (fun x_29 S_29 h => ?_)
        obtain ⟨r_29, hr_29, h⟩ := h
        refine x_un hr_29 ?_
        refine x_astore_n dX6_overlap_32 (by decide) rfl ?_
        refine x_aload_n dX6_overlap_33 rfl ?_
        obtain ⟨h1, r_34, hr_34, h⟩ := h
        refine x_g6_0 rfl dX6_overlap_34 h1 (x_un hr_34 ?_)
        refine x_iload_n dX6_overlap_37 rfl ?_
        obtain ⟨h1, r_38, hr_38, h⟩ := h
        refine x_aald11 dX6_overlap_38 h1 (x_un hr_38 ?_)
        obtain ⟨h1, h⟩ := h
        refine x_callVR (As := []) (st := []) kX6_187 rfl ⟨rfl, rfl, by decide, by decide⟩ dX6_overlap_39 rfl (Nat.le_of_ble_eq_true rfl) ⟨Nat.zero_le _, Nat.zero_le _⟩ h1 (ctX0_outer h) (fun x_39 S_39 h => ?_)
        obtain ⟨r_39, hr_39, h⟩ := h
        refine x_un hr_39 ?_
        refine x_astore dX6_overlap_42 (by decide) rfl ?_
        refine x_aload_n dX6_overlap_44 rfl ?_
        refine x_aload dX6_overlap_45 rfl ?_
        obtain ⟨h1, h⟩ := h
        refine x_callVI (As := [aA r_39]) (st := []) kX6_191 rfl ⟨rfl, rfl, by decide, by decide⟩ dX6_overlap_47 rfl (Nat.le_of_ble_eq_true rfl) ⟨Nat.zero_le _, Nat.zero_le _⟩ h1 (ctX2_meets h) (fun x_47 S_47 h => ?_)
        refine x_if_eq (tgt := 55) dX6_overlap_50 (by decide) (fun c => ?_) (fun c => ?_)
        · replace h := h.1 c
          refine x_aload dX6_overlap_55 rfl ?_
          refine x_aload_n dX6_overlap_57 rfl ?_
          obtain ⟨h1, h⟩ := h
          refine x_callVI (As := [aA r_29]) (st := []) kX6_197 rfl ⟨rfl, rfl, by decide, by decide⟩ dX6_overlap_58 rfl (Nat.le_of_ble_eq_true rfl) ⟨Nat.zero_le _, Nat.zero_le _⟩ h1 (ctX2_holdsFirstCornerOf h) (fun x_58 S_58 h => ?_)
          refine x_if_eq (tgt := 66) dX6_overlap_61 (by decide) (fun c => ?_) (fun c => ?_)
          · replace h := h.1 c
            refine x_aload_n dX6_overlap_66 rfl ?_
            refine x_aload dX6_overlap_67 rfl ?_
            obtain ⟨h1, h⟩ := h
            refine x_callVI (As := [aA r_39]) (st := []) kX6_197 rfl ⟨rfl, rfl, by decide, by decide⟩ dX6_overlap_69 rfl (Nat.le_of_ble_eq_true rfl) ⟨Nat.zero_le _, Nat.zero_le _⟩ h1 (ctX2_holdsFirstCornerOf h) (fun x_69 S_69 h => ?_)
            refine x_if_eq (tgt := 79) dX6_overlap_72 (by decide) (fun c => ?_) (fun c => ?_)
            · replace h := h.1 c
              refine x_iconst (v := 0) dX6_overlap_79 (by decide) ?_
              refine x_lv (lv' := []) trivial ?_
              exact xX6_overlap_80 hQ  _ _ h
            · replace h := h.2 c
              refine x_iconst (v := 3) dX6_overlap_75 (by decide) ?_
              refine x_goto (tgt := 80) dX6_overlap_76 (by decide) ?_
              refine x_lv (lv' := []) trivial ?_
              exact xX6_overlap_80 hQ  _ _ h
          · replace h := h.2 c
            refine x_iconst (v := 2) dX6_overlap_64 (by decide) ?_
            exact x_iret hQ rfl dX6_overlap_65 ⟨_, rfl, h⟩
        · replace h := h.2 c
          refine x_iconst (v := 1) dX6_overlap_53 (by decide) ?_
          exact x_iret hQ rfl dX6_overlap_54 ⟨_, rfl, h⟩
      · replace h := h.1 c
        refine x_lv (lv' := []) trivial ?_
        exact xX6_overlap_21 hQ   _ h
set_option maxRecDepth 100000 in
set_option maxHeartbeats 4000000 in
theorem xX6_cell_71 {E : en} {ad : Nat → Nat} {Post : Int32 → hs → Prop} (hQ : isQ E ad (pI Post)) {K18 : Nat → Int32 → Int32 → Int64 → Int32 → Int32 → hs → Prop} (hK18 : ∀ (v0 : Nat) (v1 : Int32) (v2 : Int32) (v3 : Int64) (v5 : Int32) (v6 : Int32) (S : hs), K18 v0 v1 v2 v3 v5 v6 S → X E mX6_cell 0 0 ad S 18 [(0, aA v0), (1, aI v1), (2, aI v2), (3, aJ v3), (5, aI v5), (6, aI v6)] []) (v0 : Nat) (v1 : Int32) (v2 : Int32) (v3 : Int64) (v5 : Int32) (v6 : Int32) (S : hs) (h : PX6_cell_71 Post K18 v0 v1 v2 v3 v5 v6 S) : X E mX6_cell 0 0 ad S 71 [(0, aA v0), (1, aI v1), (2, aI v2), (3, aJ v3), (5, aI v5), (6, aI v6)] [] := by
  unfold PX6_cell_71 at h
  obtain ⟨v6_71, hv6_71⟩ : ∃ y : Int32, y = v6 + 1 := ⟨_, rfl⟩
  replace h := h v6_71 hv6_71
  refine x_iinc (v := v6_71) dX6_cell_71 rfl (by rw [hv6_71]; rfl) (by decide) rfl ?_
  refine x_goto (tgt := 18) dX6_cell_74 (by decide) ?_
  refine x_lv (lv' := [(0, aA v0), (1, aI v1), (2, aI v2), (3, aJ v3), (5, aI v5), (6, aI v6_71)]) ⟨rfl, rfl, rfl, rfl, rfl, rfl, trivial⟩ ?_
  exact hK18 _ _ _ _ _ _ _ h
set_option maxRecDepth 100000 in
set_option maxHeartbeats 4000000 in
theorem xX6_cell_18 {E : en} {ad : Nat → Nat} {Post : Int32 → hs → Prop} (hQ : isQ E ad (pI Post))   : ∀ (n : Nat) (v0 : Nat) (v1 : Int32) (v2 : Int32) (v3 : Int64) (v5 : Int32) (v6 : Int32) (S : hs) (_ : PX6_cell_18 Post  n v0 v1 v2 v3 v5 v6 S), X E mX6_cell 0 0 ad S 18 [(0, aA v0), (1, aI v1), (2, aI v2), (3, aJ v3), (5, aI v5), (6, aI v6)] [] := by
  intro n
  induction n with
  | zero => intro v0 v1 v2 v3 v5 v6 S h; exact h.elim
  | succ n ih =>
    intro v0 v1 v2 v3 v5 v6 S h
    have hK18 := ih
    simp only [PX6_cell_18] at h
    refine x_iload dX6_cell_18 rfl ?_
    refine x_aload_n dX6_cell_20 rfl ?_
    obtain ⟨h1, r_21, hr_21, h⟩ := h
    refine x_g6_0 rfl dX6_cell_21 h1 (x_un hr_21 ?_)
    refine x_alen11 dX6_cell_24 h.1 ?_
    replace h := h.2
    refine x_icmp_ge (tgt := 77) dX6_cell_25 (by decide) (fun c => ?_) (fun c => ?_)
    · replace h := h.1 c
      refine x_iload dX6_cell_77 rfl ?_
      exact x_iret hQ rfl dX6_cell_79 ⟨_, rfl, h⟩
    · replace h := h.2 c
      refine x_aload_n dX6_cell_28 rfl ?_
      refine x_iload dX6_cell_29 rfl ?_
      obtain ⟨h1, h⟩ := h
      refine x_callVI (As := [aI v6]) (st := []) kX6_154 rfl ⟨rfl, rfl, by decide, by decide⟩ dX6_cell_31 rfl (Nat.le_of_ble_eq_true rfl) ⟨Nat.zero_le _, Nat.zero_le _⟩ h1 (ctX6_isThere h) (fun x_31 S_31 h => ?_)
      refine x_if_eq (tgt := 71) dX6_cell_34 (by decide) (fun c => ?_) (fun c => ?_)
      · replace h := h.1 c
        refine x_lv (lv' := [(0, aA v0), (1, aI v1), (2, aI v2), (3, aJ v3), (5, aI v5), (6, aI v6)]) ⟨rfl, rfl, rfl, rfl, rfl, rfl, trivial⟩ ?_
        exact xX6_cell_71 hQ hK18 _ _ _ _ _ _ _ h
      · replace h := h.2 c
        refine x_aload_n dX6_cell_37 rfl ?_
        obtain ⟨h1, r_38, hr_38, h⟩ := h
        refine x_g6_1 rfl dX6_cell_38 h1 (x_un hr_38 ?_)
        refine x_iload dX6_cell_41 rfl ?_
        refine x_lload_n dX6_cell_43 rfl ?_
        obtain ⟨h1, h⟩ := h
        refine x_callVI (As := [aI v6, aJ v3]) (st := []) kX6_183 rfl ⟨rfl, rfl, by decide, by decide⟩ dX6_cell_44 rfl (Nat.le_of_ble_eq_true rfl) ⟨Nat.zero_le _, Nat.zero_le _⟩ h1 (ctX3_barAny h) (fun x_44 S_44 h => ?_)
        refine x_if_eq (tgt := 71) dX6_cell_47 (by decide) (fun c => ?_) (fun c => ?_)
        · replace h := h.1 c
          refine x_lv (lv' := [(0, aA v0), (1, aI v1), (2, aI v2), (3, aJ v3), (5, aI v5), (6, aI v6)]) ⟨rfl, rfl, rfl, rfl, rfl, rfl, trivial⟩ ?_
          exact xX6_cell_71 hQ hK18 _ _ _ _ _ _ _ h
        · replace h := h.2 c
          refine x_aload_n dX6_cell_50 rfl ?_
          obtain ⟨h1, r_51, hr_51, h⟩ := h
          refine x_g6_0 rfl dX6_cell_51 h1 (x_un hr_51 ?_)
          refine x_iload dX6_cell_54 rfl ?_
          obtain ⟨h1, r_56, hr_56, h⟩ := h
          refine x_aald11 dX6_cell_56 h1 (x_un hr_56 ?_)
          refine x_iload_n dX6_cell_57 rfl ?_
          refine x_i2l dX6_cell_58 ?_
          refine x_iload_n dX6_cell_59 rfl ?_
          refine x_i2l dX6_cell_60 ?_
          refine x_lconst (v := 1) dX6_cell_61 (by decide) ?_
          obtain ⟨h1, h⟩ := h
          refine x_callVI (As := [aJ (Int32.toInt64 v1), aJ (Int32.toInt64 v2), aJ 1]) (st := []) kX6_200 rfl ⟨rfl, rfl, by decide, by decide⟩ dX6_cell_62 rfl (Nat.le_of_ble_eq_true rfl) ⟨Nat.zero_le _, Nat.zero_le _⟩ h1 (ctX0_contains h) (fun x_62 S_62 h => ?_)
          refine x_if_eq (tgt := 71) dX6_cell_65 (by decide) (fun c => ?_) (fun c => ?_)
          · replace h := h.1 c
            refine x_lv (lv' := [(0, aA v0), (1, aI v1), (2, aI v2), (3, aJ v3), (5, aI v5), (6, aI v6)]) ⟨rfl, rfl, rfl, rfl, rfl, rfl, trivial⟩ ?_
            exact xX6_cell_71 hQ hK18 _ _ _ _ _ _ _ h
          · replace h := h.2 c
            obtain ⟨v5_68, hv5_68⟩ : ∃ y : Int32, y = v5 + 1 := ⟨_, rfl⟩
            replace h := h v5_68 hv5_68
            refine x_iinc (v := v5_68) dX6_cell_68 rfl (by rw [hv5_68]; rfl) (by decide) rfl ?_
            refine x_lv (lv' := [(0, aA v0), (1, aI v1), (2, aI v2), (3, aJ v3), (5, aI v5_68), (6, aI v6)]) ⟨rfl, rfl, rfl, rfl, rfl, rfl, trivial⟩ ?_
            exact xX6_cell_71 hQ hK18 _ _ _ _ _ _ _ h
set_option maxRecDepth 100000 in
set_option maxHeartbeats 4000000 in
theorem ctX6_cell {G : Launch × va_G × (Nat → ClassId) × Nat} {v0 : Nat} {v1 : Int32} {v2 : Int32} {v3 : Int64} {S : hs} {Post : Int32 → hs → Prop} (h : PX6_cell v0 v1 v2 v3 S Post) : ctN G mX6_cell [aA v0, aI v1, aI v2, aJ v3] S (pI Post) := by
  refine ctN.of (by decide) (Nat.le_of_ble_eq_true rfl) (fun E ad hG hQ => ?_)
  subst hG
  unfold PX6_cell at h
  refine x_iload_n dX6_cell_0 rfl ?_
  refine x_i2l dX6_cell_1 ?_
  refine x_iload_n dX6_cell_2 rfl ?_
  refine x_i2l dX6_cell_3 ?_
  refine x_callSI (As := [aJ (Int32.toInt64 v1), aJ (Int32.toInt64 v2)]) (st := []) kX6_67 rfl ⟨rfl, rfl, by decide, by decide⟩ dX6_cell_4 rfl (Nat.le_of_ble_eq_true rfl) ⟨Nat.zero_le _, Nat.zero_le _⟩ (ctX6_isPlace h) (fun x_4 S_4 h => ?_)
  refine x_if_ne (tgt := 12) dX6_cell_7 (by decide) (fun c => ?_) (fun c => ?_)
  · replace h := h.2 c
    refine x_iconst (v := 0) dX6_cell_12 (by decide) ?_
    refine x_istore dX6_cell_13 (by decide) rfl ?_
    refine x_iconst (v := 0) dX6_cell_15 (by decide) ?_
    refine x_istore dX6_cell_16 (by decide) rfl ?_
    refine x_lv (lv' := [(0, aA v0), (1, aI v1), (2, aI v2), (3, aJ v3), (5, aI 0), (6, aI 0)]) ⟨rfl, rfl, rfl, rfl, rfl, rfl, trivial⟩ ?_
    obtain ⟨n, h⟩ := h
    exact xX6_cell_18 hQ  n _ _ _ _ _ _ _ h
  · replace h := h.1 c
    refine x_iconst (v := 0) dX6_cell_10 (by decide) ?_
    exact x_iret hQ rfl dX6_cell_11 ⟨_, rfl, h⟩
set_option maxRecDepth 100000 in
set_option maxHeartbeats 4000000 in
theorem ctX7_thrown {G : Launch × va_G × (Nat → ClassId) × Nat} {v0 : Nat} {S : hs} {Post : Int32 → hs → Prop} (h : PX7_thrown v0 S Post) : ctN G mX7_thrown [aA v0] S (pI Post) := by
  refine ctN.of (by decide) (Nat.le_of_ble_eq_true rfl) (fun E ad hG hQ => ?_)
  subst hG
  unfold PX7_thrown at h
  refine x_aload_n dX7_thrown_0 rfl ?_
  refine x_g7_0 rfl dX7_thrown_1 h.1 ?_
  replace h := h.2
  exact x_iret hQ rfl dX7_thrown_4 ⟨_, rfl, h⟩
set_option maxRecDepth 100000 in
set_option maxHeartbeats 4000000 in
theorem xX7_isIn_18 {E : en} {ad : Nat → Nat} {Post : Int32 → hs → Prop} (hQ : isQ E ad (pI Post))   (s0 : Int32) (S : hs) (h : PX7_isIn_18 Post  s0 S) : X E mX7_isIn 0 0 ad S 18 [] [aI s0] := by
  unfold PX7_isIn_18 at h
  exact x_zret hQ rfl dX7_isIn_18 ⟨h.1, _, rfl, h.2⟩
set_option maxRecDepth 100000 in
set_option maxHeartbeats 4000000 in
theorem xX7_isIn_17 {E : en} {ad : Nat → Nat} {Post : Int32 → hs → Prop} (hQ : isQ E ad (pI Post))    (S : hs) (h : PX7_isIn_17 Post   S) : X E mX7_isIn 0 0 ad S 17 [] [] := by
  unfold PX7_isIn_17 at h
  refine x_iconst (v := 0) dX7_isIn_17 (by decide) ?_
  refine x_lv (lv' := []) trivial ?_
  exact xX7_isIn_18 hQ  _ _ h
set_option maxRecDepth 100000 in
set_option maxHeartbeats 4000000 in
theorem ctX7_isIn {G : Launch × va_G × (Nat → ClassId) × Nat} {v0 : Int64} {v2 : Int64} {v4 : Int64} {S : hs} {Post : Int32 → hs → Prop} (h : PX7_isIn v0 v2 v4 S Post) : ctN G mX7_isIn [aJ v0, aJ v2, aJ v4] S (pI Post) := by
  refine ctN.of (by decide) (Nat.le_of_ble_eq_true rfl) (fun E ad hG hQ => ?_)
  subst hG
  unfold PX7_isIn at h
  refine x_lload_n dX7_isIn_0 rfl ?_
  refine x_lload_n dX7_isIn_1 rfl ?_
  refine x_lcmp_lt (tgt := 17) dX7_isIn_2 dX7_isIn_3 (by decide) (fun c => ?_) (fun c => ?_)
  · replace h := h.1 c
    refine x_lv (lv' := []) trivial ?_
    exact xX7_isIn_17 hQ   _ h
  · replace h := h.2 c
    refine x_lload_n dX7_isIn_6 rfl ?_
    refine x_lload dX7_isIn_7 rfl ?_
    refine x_lcmp_gt (tgt := 17) dX7_isIn_9 dX7_isIn_10 (by decide) (fun c => ?_) (fun c => ?_)
    · replace h := h.1 c
      refine x_lv (lv' := []) trivial ?_
      exact xX7_isIn_17 hQ   _ h
    · replace h := h.2 c
      refine x_iconst (v := 1) dX7_isIn_13 (by decide) ?_
      refine x_goto (tgt := 18) dX7_isIn_14 (by decide) ?_
      refine x_lv (lv' := []) trivial ?_
      exact xX7_isIn_18 hQ  _ _ h
set_option maxRecDepth 100000 in
set_option maxHeartbeats 4000000 in
theorem xX7_isArea_17 {E : en} {ad : Nat → Nat} {Post : Int32 → hs → Prop} (hQ : isQ E ad (pI Post))   (s0 : Int32) (S : hs) (h : PX7_isArea_17 Post  s0 S) : X E mX7_isArea 0 0 ad S 17 [] [aI s0] := by
  unfold PX7_isArea_17 at h
  exact x_zret hQ rfl dX7_isArea_17 ⟨h.1, _, rfl, h.2⟩
set_option maxRecDepth 100000 in
set_option maxHeartbeats 4000000 in
theorem xX7_isArea_16 {E : en} {ad : Nat → Nat} {Post : Int32 → hs → Prop} (hQ : isQ E ad (pI Post))    (S : hs) (h : PX7_isArea_16 Post   S) : X E mX7_isArea 0 0 ad S 16 [] [] := by
  unfold PX7_isArea_16 at h
  refine x_iconst (v := 0) dX7_isArea_16 (by decide) ?_
  refine x_lv (lv' := []) trivial ?_
  exact xX7_isArea_17 hQ  _ _ h
set_option maxRecDepth 100000 in
set_option maxHeartbeats 4000000 in
theorem ctX7_isArea {G : Launch × va_G × (Nat → ClassId) × Nat} {v0 : Nat} {v1 : Int32} {S : hs} {Post : Int32 → hs → Prop} (h : PX7_isArea v0 v1 S Post) : ctN G mX7_isArea [aA v0, aI v1] S (pI Post) := by
  refine ctN.of (by decide) (Nat.le_of_ble_eq_true rfl) (fun E ad hG hQ => ?_)
  subst hG
  unfold PX7_isArea at h
  refine x_iload_n dX7_isArea_0 rfl ?_
  refine x_if_lt (tgt := 16) dX7_isArea_1 (by decide) (fun c => ?_) (fun c => ?_)
  · replace h := h.1 c
    refine x_lv (lv' := []) trivial ?_
    exact xX7_isArea_16 hQ   _ h
  · replace h := h.2 c
    refine x_iload_n dX7_isArea_4 rfl ?_
    refine x_aload_n dX7_isArea_5 rfl ?_
    refine x_g7_1 rfl dX7_isArea_6 h.1 ?_
    replace h := h.2
    refine x_icmp_ge (tgt := 16) dX7_isArea_9 (by decide) (fun c => ?_) (fun c => ?_)
    · replace h := h.1 c
      refine x_lv (lv' := []) trivial ?_
      exact xX7_isArea_16 hQ   _ h
    · replace h := h.2 c
      refine x_iconst (v := 1) dX7_isArea_12 (by decide) ?_
      refine x_goto (tgt := 17) dX7_isArea_13 (by decide) ?_
      refine x_lv (lv' := []) trivial ?_
      exact xX7_isArea_17 hQ  _ _ h
set_option maxRecDepth 100000 in
set_option maxHeartbeats 4000000 in
theorem xX7_isThere_22 {E : en} {ad : Nat → Nat} {Post : Int32 → hs → Prop} (hQ : isQ E ad (pI Post))   (s0 : Int32) (S : hs) (h : PX7_isThere_22 Post  s0 S) : X E mX7_isThere 0 0 ad S 22 [] [aI s0] := by
  unfold PX7_isThere_22 at h
  exact x_zret hQ rfl dX7_isThere_22 ⟨h.1, _, rfl, h.2⟩
set_option maxRecDepth 100000 in
set_option maxHeartbeats 4000000 in
theorem xX7_isThere_21 {E : en} {ad : Nat → Nat} {Post : Int32 → hs → Prop} (hQ : isQ E ad (pI Post))    (S : hs) (h : PX7_isThere_21 Post   S) : X E mX7_isThere 0 0 ad S 21 [] [] := by
  unfold PX7_isThere_21 at h
  refine x_iconst (v := 0) dX7_isThere_21 (by decide) ?_
  refine x_lv (lv' := []) trivial ?_
  exact xX7_isThere_22 hQ  _ _ h
set_option maxRecDepth 100000 in
set_option maxHeartbeats 4000000 in
theorem ctX7_isThere {G : Launch × va_G × (Nat → ClassId) × Nat} {v0 : Nat} {v1 : Int32} {S : hs} {Post : Int32 → hs → Prop} (h : PX7_isThere v0 v1 S Post) : ctN G mX7_isThere [aA v0, aI v1] S (pI Post) := by
  refine ctN.of (by decide) (Nat.le_of_ble_eq_true rfl) (fun E ad hG hQ => ?_)
  subst hG
  unfold PX7_isThere at h
  refine x_aload_n dX7_isThere_0 rfl ?_
  refine x_iload_n dX7_isThere_1 rfl ?_
  obtain ⟨h1, h⟩ := h
  refine x_callVI (As := [aI v1]) (st := []) kX7_79 rfl ⟨rfl, rfl, by decide, by decide⟩ dX7_isThere_2 rfl (Nat.le_of_ble_eq_true rfl) ⟨Nat.zero_le _, Nat.zero_le _⟩ h1 (ctX7_isArea h) (fun x_2 S_2 h => ?_)
  refine x_if_eq (tgt := 21) dX7_isThere_5 (by decide) (fun c => ?_) (fun c => ?_)
  · replace h := h.1 c
    refine x_lv (lv' := []) trivial ?_
    exact xX7_isThere_21 hQ   _ h
  · replace h := h.2 c
    refine x_aload_n dX7_isThere_8 rfl ?_
    obtain ⟨h1, r_9, hr_9, h⟩ := h
    refine x_g7_5 rfl dX7_isThere_9 h1 (x_un hr_9 ?_)
    refine x_iload_n dX7_isThere_12 rfl ?_
    refine x_iald dX7_isThere_13 h.1 ?_
    replace h := h.2
    refine x_if_le (tgt := 21) dX7_isThere_14 (by decide) (fun c => ?_) (fun c => ?_)
    · replace h := h.1 c
      refine x_lv (lv' := []) trivial ?_
      exact xX7_isThere_21 hQ   _ h
    · replace h := h.2 c
      refine x_iconst (v := 1) dX7_isThere_17 (by decide) ?_
      refine x_goto (tgt := 22) dX7_isThere_18 (by decide) ?_
      refine x_lv (lv' := []) trivial ?_
      exact xX7_isThere_22 hQ  _ _ h
set_option maxRecDepth 100000 in
set_option maxHeartbeats 4000000 in
theorem xX7_signOf_21 {E : en} {ad : Nat → Nat} {Post : Int32 → hs → Prop} (hQ : isQ E ad (pI Post))   (s0 : Int32) (S : hs) (h : PX7_signOf_21 Post  s0 S) : X E mX7_signOf 0 0 ad S 21 [] [aI s0] := by
  unfold PX7_signOf_21 at h
  exact x_iret hQ rfl dX7_signOf_21 ⟨_, rfl, h⟩
set_option maxRecDepth 100000 in
set_option maxHeartbeats 4000000 in
theorem ctX7_signOf {G : Launch × va_G × (Nat → ClassId) × Nat} {v0 : Int64} {S : hs} {Post : Int32 → hs → Prop} (h : PX7_signOf v0 S Post) : ctN G mX7_signOf [aJ v0] S (pI Post) := by
  refine ctN.of (by decide) (Nat.le_of_ble_eq_true rfl) (fun E ad hG hQ => ?_)
  subst hG
  unfold PX7_signOf at h
  refine x_lload_n dX7_signOf_0 rfl ?_
  refine x_lconst (v := 0) dX7_signOf_1 (by decide) ?_
  refine x_lcmp_le (tgt := 10) dX7_signOf_2 dX7_signOf_3 (by decide) (fun c => ?_) (fun c => ?_)
  · replace h := h.1 c
    refine x_lload_n dX7_signOf_10 rfl ?_
    refine x_lconst (v := 0) dX7_signOf_11 (by decide) ?_
    refine x_lcmp_ge (tgt := 20) dX7_signOf_12 dX7_signOf_13 (by decide) (fun c => ?_) (fun c => ?_)
    · replace h := h.1 c
      refine x_iconst (v := 0) dX7_signOf_20 (by decide) ?_
      refine x_lv (lv' := []) trivial ?_
      exact xX7_signOf_21 hQ  _ _ h
    · replace h := h.2 c
      refine x_iconst (v := (-1)) dX7_signOf_16 (by decide) ?_
      refine x_goto (tgt := 21) dX7_signOf_17 (by decide) ?_
      refine x_lv (lv' := []) trivial ?_
      exact xX7_signOf_21 hQ  _ _ h
  · replace h := h.2 c
    refine x_iconst (v := 1) dX7_signOf_6 (by decide) ?_
    refine x_goto (tgt := 21) dX7_signOf_7 (by decide) ?_
    refine x_lv (lv' := []) trivial ?_
    exact xX7_signOf_21 hQ  _ _ h
