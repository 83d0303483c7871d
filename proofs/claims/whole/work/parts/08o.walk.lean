set_option maxRecDepth 100000 in
set_option maxHeartbeats 4000000 in
theorem xX7_overlap_115 {E : en} {ad : Nat → Nat} {Post : Int32 → hs → Prop} (hQ : isQ E ad (pI Post))   (s0 : Int32) (S : hs) (h : PX7_overlap_115 Post  s0 S) : X E mX7_overlap 0 0 ad S 115 [] [aI s0] := by
  unfold PX7_overlap_115 at h
  exact x_iret hQ rfl dX7_overlap_115 ⟨_, rfl, h⟩
set_option maxRecDepth 100000 in
set_option maxHeartbeats 4000000 in
theorem xX7_overlap_26 {E : en} {ad : Nat → Nat} {Post : Int32 → hs → Prop} (hQ : isQ E ad (pI Post))    (S : hs) (h : PX7_overlap_26 Post   S) : X E mX7_overlap 0 0 ad S 26 [] [] := by
  unfold PX7_overlap_26 at h
  refine x_iconst (v := (-1)) dX7_overlap_26 (by decide) ?_
  exact x_iret hQ rfl dX7_overlap_27 ⟨_, rfl, h⟩
set_option maxRecDepth 100000 in
set_option maxHeartbeats 4000000 in
theorem ctX7_overlap {G : Launch × va_G × (Nat → ClassId) × Nat} {v0 : Nat} {v1 : Int32} {v2 : Int32} {S : hs} {Post : Int32 → hs → Prop} (h : PX7_overlap v0 v1 v2 S Post) : ctN G mX7_overlap [aA v0, aI v1, aI v2] S (pI Post) := by
  refine ctN.of (by decide) (Nat.le_of_ble_eq_true rfl) (fun E ad hG hQ => ?_)
  subst hG
  unfold PX7_overlap at h
  refine x_aload_n dX7_overlap_0 rfl ?_
  refine x_iconst (v := 0) dX7_overlap_1 (by decide) ?_
  obtain ⟨h1, h⟩ := h
  refine x_p7_0 rfl dX7_overlap_2 h1 (x_nS (fun S_2 hS_2 => ?_))
  replace h := h S_2 hS_2
  refine x_aload_n dX7_overlap_5 rfl ?_
  refine x_iload_n dX7_overlap_6 rfl ?_
  obtain ⟨h1, h⟩ := h
  refine x_callVI (As := [aI v1]) (st := []) kX7_137 rfl ⟨rfl, rfl, by decide, by decide⟩ dX7_overlap_7 rfl (Nat.le_of_ble_eq_true rfl) ⟨Nat.zero_le _, Nat.zero_le _⟩ h1 (ctX7_isThere h) (fun x_7 S_7 h => ?_)
  refine x_if_eq (tgt := 26) dX7_overlap_10 (by decide) (fun c => ?_) (fun c => ?_)
  · replace h := h.1 c
    refine x_lv (lv' := []) trivial ?_
    exact xX7_overlap_26 hQ   _ h
  · replace h := h.2 c
    refine x_aload_n dX7_overlap_13 rfl ?_
    refine x_iload_n dX7_overlap_14 rfl ?_
    obtain ⟨h1, h⟩ := h
    refine x_callVI (As := [aI v2]) (st := []) kX7_137 rfl ⟨rfl, rfl, by decide, by decide⟩ dX7_overlap_15 rfl (Nat.le_of_ble_eq_true rfl) ⟨Nat.zero_le _, Nat.zero_le _⟩ h1 (ctX7_isThere h) (fun x_15 S_15 h => ?_)
    refine x_if_eq (tgt := 26) dX7_overlap_18 (by decide) (fun c => ?_) (fun c => ?_)
    · replace h := h.1 c
      refine x_lv (lv' := []) trivial ?_
      exact xX7_overlap_26 hQ   _ h
    · replace h := h.2 c
      refine x_iload_n dX7_overlap_21 rfl ?_
      refine x_iload_n dX7_overlap_22 rfl ?_
      refine x_icmp_ne (tgt := 28) dX7_overlap_23 (by decide) (fun c => ?_) (fun c => ?_)
      · replace h := h.2 c
        refine x_iconst (v := 4) dX7_overlap_28 (by decide) ?_
        refine x_iload_n dX7_overlap_29 rfl ?_
        refine x_imul dX7_overlap_30 ?_
        refine x_nI (fun v3_31 hv3_31 => ?_)
        replace h := h v3_31 hv3_31
        refine x_istore_n dX7_overlap_31 (by decide) rfl ?_
        refine x_iconst (v := 4) dX7_overlap_32 (by decide) ?_
        refine x_iload_n dX7_overlap_33 rfl ?_
        refine x_imul dX7_overlap_34 ?_
        refine x_nI (fun v4_35 hv4_35 => ?_)
        replace h := h v4_35 hv4_35
        refine x_istore dX7_overlap_35 (by decide) rfl ?_
        refine x_aload_n dX7_overlap_37 rfl ?_
        refine x_iload_n dX7_overlap_38 rfl ?_
        refine x_iload dX7_overlap_39 rfl ?_
        obtain ⟨h1, h⟩ := h
        refine x_callVI (As := [aI v3_31, aI v4_35]) (st := []) kX7_129 rfl ⟨rfl, rfl, by decide, by decide⟩ dX7_overlap_41 rfl (Nat.le_of_ble_eq_true rfl) ⟨Nat.zero_le _, Nat.zero_le _⟩ h1 (ctX7_ringsMeet h) (fun x_41 S_41 h => ?_)
        refine x_if_eq (tgt := 49) dX7_overlap_44 (by decide) (fun c => ?_) (fun c => ?_)
        · replace h := h.1 c
          refine x_aload_n dX7_overlap_49 rfl ?_
          refine x_iload dX7_overlap_50 rfl ?_
          refine x_aload_n dX7_overlap_52 rfl ?_
          obtain ⟨h1, r_53, hr_53, h⟩ := h
          refine x_g7_2 rfl dX7_overlap_53 h1 (x_un hr_53 ?_)
          refine x_bipush (v := 12) dX7_overlap_56 (by decide) ?_
          refine x_iload_n dX7_overlap_58 rfl ?_
          refine x_imul dX7_overlap_59 ?_
          refine x_lald dX7_overlap_60 h.1 ?_
          replace h := h.2
          refine x_aload_n dX7_overlap_61 rfl ?_
          obtain ⟨h1, r_62, hr_62, h⟩ := h
          refine x_g7_3 rfl dX7_overlap_62 h1 (x_un hr_62 ?_)
          refine x_bipush (v := 12) dX7_overlap_65 (by decide) ?_
          refine x_iload_n dX7_overlap_67 rfl ?_
          refine x_imul dX7_overlap_68 ?_
          refine x_lald dX7_overlap_69 h.1 ?_
          replace h := h.2
          refine x_lconst (v := 1) dX7_overlap_70 (by decide) ?_
          obtain ⟨h1, h⟩ := h
          refine x_callVI (As := [aI v4_35, aJ (hj S_41 r_53 (Int32.toNatClampNeg (12 * v3_31))), aJ (hj S_41 r_62 (Int32.toNatClampNeg (12 * v3_31))), aJ 1]) (st := []) kX7_114 rfl ⟨rfl, rfl, by decide, by decide⟩ dX7_overlap_71 rfl (Nat.le_of_ble_eq_true rfl) ⟨Nat.zero_le _, Nat.zero_le _⟩ h1 (ctX7_where h) (fun x_71 S_71 h => ?_)
          refine x_if_le (tgt := 81) dX7_overlap_74 (by decide) (fun c => ?_) (fun c => ?_)
          · replace h := h.1 c
            refine x_aload_n dX7_overlap_81 rfl ?_
            refine x_iload_n dX7_overlap_82 rfl ?_
            refine x_aload_n dX7_overlap_83 rfl ?_
            obtain ⟨h1, r_84, hr_84, h⟩ := h
            refine x_g7_2 rfl dX7_overlap_84 h1 (x_un hr_84 ?_)
            refine x_bipush (v := 12) dX7_overlap_87 (by decide) ?_
            refine x_iload dX7_overlap_89 rfl ?_
            refine x_imul dX7_overlap_91 ?_
            refine x_lald dX7_overlap_92 h.1 ?_
            replace h := h.2
            refine x_aload_n dX7_overlap_93 rfl ?_
            obtain ⟨h1, r_94, hr_94, h⟩ := h
            refine x_g7_3 rfl dX7_overlap_94 h1 (x_un hr_94 ?_)
            refine x_bipush (v := 12) dX7_overlap_97 (by decide) ?_
            refine x_iload dX7_overlap_99 rfl ?_
            refine x_imul dX7_overlap_101 ?_
            refine x_lald dX7_overlap_102 h.1 ?_
            replace h := h.2
            refine x_lconst (v := 1) dX7_overlap_103 (by decide) ?_
            obtain ⟨h1, h⟩ := h
            refine x_callVI (As := [aI v3_31, aJ (hj S_71 r_84 (Int32.toNatClampNeg (12 * v4_35))), aJ (hj S_71 r_94 (Int32.toNatClampNeg (12 * v4_35))), aJ 1]) (st := []) kX7_114 rfl ⟨rfl, rfl, by decide, by decide⟩ dX7_overlap_104 rfl (Nat.le_of_ble_eq_true rfl) ⟨Nat.zero_le _, Nat.zero_le _⟩ h1 (ctX7_where h) (fun x_104 S_104 h => ?_)
            refine x_if_le (tgt := 114) dX7_overlap_107 (by decide) (fun c => ?_) (fun c => ?_)
            · replace h := h.1 c
              refine x_iconst (v := 0) dX7_overlap_114 (by decide) ?_
              refine x_lv (lv' := []) trivial ?_
              exact xX7_overlap_115 hQ  _ _ h
            · replace h := h.2 c
              refine x_iconst (v := 3) dX7_overlap_110 (by decide) ?_
              refine x_goto (tgt := 115) dX7_overlap_111 (by decide) ?_
              refine x_lv (lv' := []) trivial ?_
              exact xX7_overlap_115 hQ  _ _ h
          · replace h := h.2 c
            refine x_iconst (v := 2) dX7_overlap_77 (by decide) ?_
            refine x_goto (tgt := 115) dX7_overlap_78 (by decide) ?_
            refine x_lv (lv' := []) trivial ?_
            exact xX7_overlap_115 hQ  _ _ h
        · replace h := h.2 c
          refine x_iconst (v := 1) dX7_overlap_47 (by decide) ?_
          exact x_iret hQ rfl dX7_overlap_48 ⟨_, rfl, h⟩
      · replace h := h.1 c
        refine x_lv (lv' := []) trivial ?_
        exact xX7_overlap_26 hQ   _ h
set_option maxRecDepth 100000 in
set_option maxHeartbeats 4000000 in
theorem xX7_cell_64 {E : en} {ad : Nat → Nat} {Post : Int32 → hs → Prop} (hQ : isQ E ad (pI Post)) {K11 : Nat → Int32 → Int32 → Int64 → Int32 → Int32 → hs → Prop} (hK11 : ∀ (v0 : Nat) (v1 : Int32) (v2 : Int32) (v3 : Int64) (v5 : Int32) (v6 : Int32) (S : hs), K11 v0 v1 v2 v3 v5 v6 S → X E mX7_cell 0 0 ad S 11 [(0, aA v0), (1, aI v1), (2, aI v2), (3, aJ v3), (5, aI v5), (6, aI v6)] []) (v0 : Nat) (v1 : Int32) (v2 : Int32) (v3 : Int64) (v6 : Int32) (s0 : Int32) (S : hs) (h : PX7_cell_64 Post K11 v0 v1 v2 v3 v6 s0 S) : X E mX7_cell 0 0 ad S 64 [(0, aA v0), (1, aI v1), (2, aI v2), (3, aJ v3), (6, aI v6)] [aI s0] := by
  unfold PX7_cell_64 at h
  refine x_istore dX7_cell_64 (by decide) rfl ?_
  obtain ⟨v6_66, hv6_66⟩ : ∃ y : Int32, y = v6 + 1 := ⟨_, rfl⟩
  replace h := h v6_66 hv6_66
  refine x_iinc (v := v6_66) dX7_cell_66 rfl (by rw [hv6_66]; rfl) (by decide) rfl ?_
  refine x_goto (tgt := 11) dX7_cell_69 (by decide) ?_
  refine x_lv (lv' := [(0, aA v0), (1, aI v1), (2, aI v2), (3, aJ v3), (5, aI s0), (6, aI v6_66)]) ⟨rfl, rfl, rfl, rfl, rfl, rfl, trivial⟩ ?_
  exact hK11 _ _ _ _ _ _ _ h
set_option maxRecDepth 100000 in
set_option maxHeartbeats 4000000 in
theorem xX7_cell_62 {E : en} {ad : Nat → Nat} {Post : Int32 → hs → Prop} (hQ : isQ E ad (pI Post)) {K11 : Nat → Int32 → Int32 → Int64 → Int32 → Int32 → hs → Prop} (hK11 : ∀ (v0 : Nat) (v1 : Int32) (v2 : Int32) (v3 : Int64) (v5 : Int32) (v6 : Int32) (S : hs), K11 v0 v1 v2 v3 v5 v6 S → X E mX7_cell 0 0 ad S 11 [(0, aA v0), (1, aI v1), (2, aI v2), (3, aJ v3), (5, aI v5), (6, aI v6)] []) (v0 : Nat) (v1 : Int32) (v2 : Int32) (v3 : Int64) (v5 : Int32) (v6 : Int32) (S : hs) (h : PX7_cell_62 Post K11 v0 v1 v2 v3 v5 v6 S) : X E mX7_cell 0 0 ad S 62 [(0, aA v0), (1, aI v1), (2, aI v2), (3, aJ v3), (5, aI v5), (6, aI v6)] [] := by
  unfold PX7_cell_62 at h
  refine x_iload dX7_cell_62 rfl ?_
  refine x_lv (lv' := [(0, aA v0), (1, aI v1), (2, aI v2), (3, aJ v3), (6, aI v6)]) ⟨rfl, rfl, rfl, rfl, rfl, trivial⟩ ?_
  exact xX7_cell_64 hQ hK11 _ _ _ _ _ _ _ h
set_option maxRecDepth 100000 in
set_option maxHeartbeats 4000000 in
theorem xX7_cell_11 {E : en} {ad : Nat → Nat} {Post : Int32 → hs → Prop} (hQ : isQ E ad (pI Post))   : ∀ (n : Nat) (v0 : Nat) (v1 : Int32) (v2 : Int32) (v3 : Int64) (v5 : Int32) (v6 : Int32) (S : hs) (_ : PX7_cell_11 Post  n v0 v1 v2 v3 v5 v6 S), X E mX7_cell 0 0 ad S 11 [(0, aA v0), (1, aI v1), (2, aI v2), (3, aJ v3), (5, aI v5), (6, aI v6)] [] := by
  intro n
  induction n with
  | zero => intro v0 v1 v2 v3 v5 v6 S h; exact h.elim
  | succ n ih =>
    intro v0 v1 v2 v3 v5 v6 S h
    have hK11 := ih
    simp only [PX7_cell_11] at h
    refine x_iload dX7_cell_11 rfl ?_
    refine x_aload_n dX7_cell_13 rfl ?_
    refine x_g7_1 rfl dX7_cell_14 h.1 ?_
    replace h := h.2
    refine x_icmp_ge (tgt := 72) dX7_cell_17 (by decide) (fun c => ?_) (fun c => ?_)
    · replace h := h.1 c
      refine x_iload dX7_cell_72 rfl ?_
      exact x_iret hQ rfl dX7_cell_74 ⟨_, rfl, h⟩
    · replace h := h.2 c
      refine x_aload_n dX7_cell_20 rfl ?_
      obtain ⟨h1, r_21, hr_21, h⟩ := h
      refine x_g7_5 rfl dX7_cell_21 h1 (x_un hr_21 ?_)
      refine x_iload dX7_cell_24 rfl ?_
      refine x_iald dX7_cell_26 h.1 ?_
      replace h := h.2
      refine x_if_le (tgt := 62) dX7_cell_27 (by decide) (fun c => ?_) (fun c => ?_)
      · replace h := h.1 c
        refine x_lv (lv' := [(0, aA v0), (1, aI v1), (2, aI v2), (3, aJ v3), (5, aI v5), (6, aI v6)]) ⟨rfl, rfl, rfl, rfl, rfl, rfl, trivial⟩ ?_
        exact xX7_cell_62 hQ hK11 _ _ _ _ _ _ _ h
      · replace h := h.2 c
        refine x_aload_n dX7_cell_30 rfl ?_
        refine x_iload dX7_cell_31 rfl ?_
        refine x_iload_n dX7_cell_33 rfl ?_
        refine x_i2l dX7_cell_34 ?_
        refine x_iload_n dX7_cell_35 rfl ?_
        refine x_i2l dX7_cell_36 ?_
        refine x_lconst (v := 1) dX7_cell_37 (by decide) ?_
        obtain ⟨h1, h⟩ := h
        refine x_callVI (As := [aI v6, aJ (Int32.toInt64 v1), aJ (Int32.toInt64 v2), aJ 1]) (st := []) kX7_133 rfl ⟨rfl, rfl, by decide, by decide⟩ dX7_cell_38 rfl (Nat.le_of_ble_eq_true rfl) ⟨Nat.zero_le _, Nat.zero_le _⟩ h1 (ctX7_has h) (fun x_38 S_38 h => ?_)
        refine x_if_eq (tgt := 62) dX7_cell_41 (by decide) (fun c => ?_) (fun c => ?_)
        · replace h := h.1 c
          refine x_lv (lv' := [(0, aA v0), (1, aI v1), (2, aI v2), (3, aJ v3), (5, aI v5), (6, aI v6)]) ⟨rfl, rfl, rfl, rfl, rfl, rfl, trivial⟩ ?_
          exact xX7_cell_62 hQ hK11 _ _ _ _ _ _ _ h
        · replace h := h.2 c
          refine x_aload_n dX7_cell_44 rfl ?_
          refine x_iload dX7_cell_45 rfl ?_
          refine x_iconst (v := (-1)) dX7_cell_47 (by decide) ?_
          refine x_lload_n dX7_cell_48 rfl ?_
          obtain ⟨h1, h⟩ := h
          refine x_callVI (As := [aI v6, aI (-1), aJ v3]) (st := []) kX7_157 rfl ⟨rfl, rfl, by decide, by decide⟩ dX7_cell_49 rfl (Nat.le_of_ble_eq_true rfl) ⟨Nat.zero_le _, Nat.zero_le _⟩ h1 (ctX7_isBarred h) (fun x_49 S_49 h => ?_)
          refine x_if_eq (tgt := 62) dX7_cell_52 (by decide) (fun c => ?_) (fun c => ?_)
          · replace h := h.1 c
            refine x_lv (lv' := [(0, aA v0), (1, aI v1), (2, aI v2), (3, aJ v3), (5, aI v5), (6, aI v6)]) ⟨rfl, rfl, rfl, rfl, rfl, rfl, trivial⟩ ?_
            exact xX7_cell_62 hQ hK11 _ _ _ _ _ _ _ h
          · replace h := h.2 c
            refine x_iload dX7_cell_55 rfl ?_
            refine x_iconst (v := 1) dX7_cell_57 (by decide) ?_
            refine x_iadd dX7_cell_58 ?_
            refine x_goto (tgt := 64) dX7_cell_59 (by decide) ?_
            refine x_lv (lv' := [(0, aA v0), (1, aI v1), (2, aI v2), (3, aJ v3), (6, aI v6)]) ⟨rfl, rfl, rfl, rfl, rfl, trivial⟩ ?_
            exact xX7_cell_64 hQ hK11 _ _ _ _ _ _ _ h
set_option maxRecDepth 100000 in
set_option maxHeartbeats 4000000 in
theorem ctX7_cell {G : Launch × va_G × (Nat → ClassId) × Nat} {v0 : Nat} {v1 : Int32} {v2 : Int32} {v3 : Int64} {S : hs} {Post : Int32 → hs → Prop} (h : PX7_cell v0 v1 v2 v3 S Post) : ctN G mX7_cell [aA v0, aI v1, aI v2, aJ v3] S (pI Post) := by
  refine ctN.of (by decide) (Nat.le_of_ble_eq_true rfl) (fun E ad hG hQ => ?_)
  subst hG
  unfold PX7_cell at h
  refine x_aload_n dX7_cell_0 rfl ?_
  refine x_iconst (v := 0) dX7_cell_1 (by decide) ?_
  obtain ⟨h1, h⟩ := h
  refine x_p7_0 rfl dX7_cell_2 h1 (x_nS (fun S_2 hS_2 => ?_))
  replace h := h S_2 hS_2
  refine x_iconst (v := 0) dX7_cell_5 (by decide) ?_
  refine x_istore dX7_cell_6 (by decide) rfl ?_
  refine x_iconst (v := 0) dX7_cell_8 (by decide) ?_
  refine x_istore dX7_cell_9 (by decide) rfl ?_
  refine x_lv (lv' := [(0, aA v0), (1, aI v1), (2, aI v2), (3, aJ v3), (5, aI 0), (6, aI 0)]) ⟨rfl, rfl, rfl, rfl, rfl, rfl, trivial⟩ ?_
  obtain ⟨n, h⟩ := h
  exact xX7_cell_11 hQ  n _ _ _ _ _ _ _ h
