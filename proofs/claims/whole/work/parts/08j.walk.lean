set_option maxRecDepth 100000 in
set_option maxHeartbeats 4000000 in
theorem xX7_has_72 {E : en} {ad : Nat → Nat} {Post : Int32 → hs → Prop} (hQ : isQ E ad (pI Post))   (v8 : Int32) (S : hs) (h : PX7_has_72 Post  v8 S) : X E mX7_has 0 0 ad S 72 [(8, aI v8)] [] := by
  unfold PX7_has_72 at h
  refine x_iload dX7_has_72 rfl ?_
  exact x_zret hQ rfl dX7_has_74 ⟨h.1, _, rfl, h.2⟩
set_option maxRecDepth 100000 in
set_option maxHeartbeats 4000000 in
theorem xX7_has_64 {E : en} {ad : Nat → Nat} {Post : Int32 → hs → Prop} (hQ : isQ E ad (pI Post)) {K25 : Nat → Int32 → Int64 → Int64 → Int64 → Int32 → Int32 → hs → Prop} (hK25 : ∀ (v0 : Nat) (v1 : Int32) (v2 : Int64) (v4 : Int64) (v6 : Int64) (v8 : Int32) (v9 : Int32) (S : hs), K25 v0 v1 v2 v4 v6 v8 v9 S → X E mX7_has 0 0 ad S 25 [(0, aA v0), (1, aI v1), (2, aJ v2), (4, aJ v4), (6, aJ v6), (8, aI v8), (9, aI v9)] []) (v0 : Nat) (v1 : Int32) (v2 : Int64) (v4 : Int64) (v6 : Int64) (v9 : Int32) (s0 : Int32) (S : hs) (h : PX7_has_64 Post K25 v0 v1 v2 v4 v6 v9 s0 S) : X E mX7_has 0 0 ad S 64 [(0, aA v0), (1, aI v1), (2, aJ v2), (4, aJ v4), (6, aJ v6), (9, aI v9)] [aI s0] := by
  unfold PX7_has_64 at h
  refine x_istore dX7_has_64 (by decide) rfl ?_
  obtain ⟨v9_66, hv9_66⟩ : ∃ y : Int32, y = v9 + 1 := ⟨_, rfl⟩
  replace h := h v9_66 hv9_66
  refine x_iinc (v := v9_66) dX7_has_66 rfl (by rw [hv9_66]; rfl) (by decide) rfl ?_
  refine x_goto (tgt := 25) dX7_has_69 (by decide) ?_
  refine x_lv (lv' := [(0, aA v0), (1, aI v1), (2, aJ v2), (4, aJ v4), (6, aJ v6), (8, aI s0), (9, aI v9_66)]) ⟨rfl, rfl, rfl, rfl, rfl, rfl, rfl, trivial⟩ ?_
  exact hK25 _ _ _ _ _ _ _ _ h
set_option maxRecDepth 100000 in
set_option maxHeartbeats 4000000 in
theorem xX7_has_25 {E : en} {ad : Nat → Nat} {Post : Int32 → hs → Prop} (hQ : isQ E ad (pI Post))   : ∀ (n : Nat) (v0 : Nat) (v1 : Int32) (v2 : Int64) (v4 : Int64) (v6 : Int64) (v8 : Int32) (v9 : Int32) (S : hs) (_ : PX7_has_25 Post  n v0 v1 v2 v4 v6 v8 v9 S), X E mX7_has 0 0 ad S 25 [(0, aA v0), (1, aI v1), (2, aJ v2), (4, aJ v4), (6, aJ v6), (8, aI v8), (9, aI v9)] [] := by
  intro n
  induction n with
  | zero => intro v0 v1 v2 v4 v6 v8 v9 S h; exact h.elim
  | succ n ih =>
    intro v0 v1 v2 v4 v6 v8 v9 S h
    have hK25 := ih
    simp only [PX7_has_25] at h
    refine x_iload dX7_has_25 rfl ?_
    refine x_aload_n dX7_has_27 rfl ?_
    obtain ⟨h1, r_28, hr_28, h⟩ := h
    refine x_g7_5 rfl dX7_has_28 h1 (x_un hr_28 ?_)
    refine x_iload_n dX7_has_31 rfl ?_
    refine x_iald dX7_has_32 h.1 ?_
    replace h := h.2
    refine x_icmp_ge (tgt := 72) dX7_has_33 (by decide) (fun c => ?_) (fun c => ?_)
    · replace h := h.1 c
      refine x_lv (lv' := [(8, aI v8)]) ⟨rfl, trivial⟩ ?_
      exact xX7_has_72 hQ  _ _ h
    · replace h := h.2 c
      refine x_iload dX7_has_36 rfl ?_
      refine x_if_eq (tgt := 72) dX7_has_38 (by decide) (fun c => ?_) (fun c => ?_)
      · replace h := h.1 c
        refine x_lv (lv' := [(8, aI v8)]) ⟨rfl, trivial⟩ ?_
        exact xX7_has_72 hQ  _ _ h
      · replace h := h.2 c
        refine x_aload_n dX7_has_41 rfl ?_
        refine x_iconst (v := 4) dX7_has_42 (by decide) ?_
        refine x_iload_n dX7_has_43 rfl ?_
        refine x_imul dX7_has_44 ?_
        refine x_iload dX7_has_45 rfl ?_
        refine x_iadd dX7_has_47 ?_
        refine x_lload_n dX7_has_48 rfl ?_
        refine x_lload dX7_has_49 rfl ?_
        refine x_lload dX7_has_51 rfl ?_
        obtain ⟨h1, h⟩ := h
        refine x_callVI (As := [aI ((4 * v1) + v9), aJ v2, aJ v4, aJ v6]) (st := []) kX7_114 rfl ⟨rfl, rfl, by decide, by decide⟩ dX7_has_53 rfl (Nat.le_of_ble_eq_true rfl) ⟨Nat.zero_le _, Nat.zero_le _⟩ h1 (ctX7_where h) (fun x_53 S_53 h => ?_)
        refine x_if_gt (tgt := 63) dX7_has_56 (by decide) (fun c => ?_) (fun c => ?_)
        · replace h := h.1 c
          refine x_iconst (v := 0) dX7_has_63 (by decide) ?_
          refine x_lv (lv' := [(0, aA v0), (1, aI v1), (2, aJ v2), (4, aJ v4), (6, aJ v6), (9, aI v9)]) ⟨rfl, rfl, rfl, rfl, rfl, rfl, trivial⟩ ?_
          exact xX7_has_64 hQ hK25 _ _ _ _ _ _ _ _ h
        · replace h := h.2 c
          refine x_iconst (v := 1) dX7_has_59 (by decide) ?_
          refine x_goto (tgt := 64) dX7_has_60 (by decide) ?_
          refine x_lv (lv' := [(0, aA v0), (1, aI v1), (2, aJ v2), (4, aJ v4), (6, aJ v6), (9, aI v9)]) ⟨rfl, rfl, rfl, rfl, rfl, rfl, trivial⟩ ?_
          exact xX7_has_64 hQ hK25 _ _ _ _ _ _ _ _ h
set_option maxRecDepth 100000 in
set_option maxHeartbeats 4000000 in
theorem xX7_has_20 {E : en} {ad : Nat → Nat} {Post : Int32 → hs → Prop} (hQ : isQ E ad (pI Post))   (v0 : Nat) (v1 : Int32) (v2 : Int64) (v4 : Int64) (v6 : Int64) (s0 : Int32) (S : hs) (h : PX7_has_20 Post  v0 v1 v2 v4 v6 s0 S) : X E mX7_has 0 0 ad S 20 [(0, aA v0), (1, aI v1), (2, aJ v2), (4, aJ v4), (6, aJ v6)] [aI s0] := by
  unfold PX7_has_20 at h
  refine x_istore dX7_has_20 (by decide) rfl ?_
  refine x_iconst (v := 1) dX7_has_22 (by decide) ?_
  refine x_istore dX7_has_23 (by decide) rfl ?_
  refine x_lv (lv' := [(0, aA v0), (1, aI v1), (2, aJ v2), (4, aJ v4), (6, aJ v6), (8, aI s0), (9, aI 1)]) ⟨rfl, rfl, rfl, rfl, rfl, rfl, rfl, trivial⟩ ?_
  obtain ⟨n, h⟩ := h
  exact xX7_has_25 hQ  n _ _ _ _ _ _ _ _ h
set_option maxRecDepth 100000 in
set_option maxHeartbeats 4000000 in
theorem ctX7_has {G : Launch × va_G × (Nat → ClassId) × Nat} {v0 : Nat} {v1 : Int32} {v2 : Int64} {v4 : Int64} {v6 : Int64} {S : hs} {Post : Int32 → hs → Prop} (h : PX7_has v0 v1 v2 v4 v6 S Post) : ctN G mX7_has [aA v0, aI v1, aJ v2, aJ v4, aJ v6] S (pI Post) := by
  refine ctN.of (by decide) (Nat.le_of_ble_eq_true rfl) (fun E ad hG hQ => ?_)
  subst hG
  unfold PX7_has at h
  refine x_aload_n dX7_has_0 rfl ?_
  refine x_iconst (v := 4) dX7_has_1 (by decide) ?_
  refine x_iload_n dX7_has_2 rfl ?_
  refine x_imul dX7_has_3 ?_
  refine x_lload_n dX7_has_4 rfl ?_
  refine x_lload dX7_has_5 rfl ?_
  refine x_lload dX7_has_7 rfl ?_
  obtain ⟨h1, h⟩ := h
  refine x_callVI (As := [aI (4 * v1), aJ v2, aJ v4, aJ v6]) (st := []) kX7_114 rfl ⟨rfl, rfl, by decide, by decide⟩ dX7_has_9 rfl (Nat.le_of_ble_eq_true rfl) ⟨Nat.zero_le _, Nat.zero_le _⟩ h1 (ctX7_where h) (fun x_9 S_9 h => ?_)
  refine x_if_lt (tgt := 19) dX7_has_12 (by decide) (fun c => ?_) (fun c => ?_)
  · replace h := h.1 c
    refine x_iconst (v := 0) dX7_has_19 (by decide) ?_
    refine x_lv (lv' := [(0, aA v0), (1, aI v1), (2, aJ v2), (4, aJ v4), (6, aJ v6)]) ⟨rfl, rfl, rfl, rfl, rfl, trivial⟩ ?_
    exact xX7_has_20 hQ  _ _ _ _ _ _ _ h
  · replace h := h.2 c
    refine x_iconst (v := 1) dX7_has_15 (by decide) ?_
    refine x_goto (tgt := 20) dX7_has_16 (by decide) ?_
    refine x_lv (lv' := [(0, aA v0), (1, aI v1), (2, aJ v2), (4, aJ v4), (6, aJ v6)]) ⟨rfl, rfl, rfl, rfl, rfl, trivial⟩ ?_
    exact xX7_has_20 hQ  _ _ _ _ _ _ _ h
set_option maxRecDepth 100000 in
set_option maxHeartbeats 4000000 in
theorem xX7_corner_60 {E : en} {ad : Nat → Nat} {Post : Int32 → hs → Prop} (hQ : isQ E ad (pI Post))    (S : hs) (h : PX7_corner_60 Post   S) : X E mX7_corner 0 0 ad S 60 [] [] := by
  unfold PX7_corner_60 at h
  refine x_iconst (v := 0) dX7_corner_60 (by decide) ?_
  exact x_zret hQ rfl dX7_corner_61 ⟨Or.inl rfl, _, rfl, h⟩
set_option maxRecDepth 100000 in
set_option maxHeartbeats 4000000 in
theorem xX7_corner_14 {E : en} {ad : Nat → Nat} {Post : Int32 → hs → Prop} (hQ : isQ E ad (pI Post))   (v0 : Nat) (v1 : Int32) (v2 : Int64) (v4 : Int64) (s0 : Nat) (s1 : Int32) (S : hs) (h : PX7_corner_14 Post  v0 v1 v2 v4 s0 s1 S) : X E mX7_corner 0 0 ad S 14 [(0, aA v0), (1, aI v1), (2, aJ v2), (4, aJ v4)] [aI s1, aA s0] := by
  unfold PX7_corner_14 at h
  obtain ⟨h1, h⟩ := h
  refine x_p7_0 rfl dX7_corner_14 h1 (x_nS (fun S_14 hS_14 => ?_))
  replace h := h S_14 hS_14
  refine x_aload_n dX7_corner_17 rfl ?_
  refine x_g7_0 rfl dX7_corner_18 h.1 ?_
  replace h := h.2
  refine x_if_gt (tgt := 60) dX7_corner_21 (by decide) (fun c => ?_) (fun c => ?_)
  · replace h := h.1 c
    refine x_lv (lv' := []) trivial ?_
    exact xX7_corner_60 hQ   _ h
  · replace h := h.2 c
    refine x_aload_n dX7_corner_24 rfl ?_
    obtain ⟨h1, r_25, hr_25, h⟩ := h
    refine x_g7_6 rfl dX7_corner_25 h1 (x_un hr_25 ?_)
    refine x_iload_n dX7_corner_28 rfl ?_
    refine x_zald dX7_corner_29 h.1 ?_
    replace h := h.2
    refine x_if_eq (tgt := 60) dX7_corner_30 (by decide) (fun c => ?_) (fun c => ?_)
    · replace h := h.1 c
      refine x_lv (lv' := []) trivial ?_
      exact xX7_corner_60 hQ   _ h
    · replace h := h.2 c
      refine x_lload_n dX7_corner_33 rfl ?_
      refine x_ldc2 (v := (-200)) dX7_corner_34 kcX7_118 ?_
      refine x_ldc2 (v := 200) dX7_corner_37 kcX7_120 ?_
      refine x_callSI (As := [aJ v2, aJ (-200), aJ 200]) (st := []) kX7_122 rfl ⟨rfl, rfl, by decide, by decide⟩ dX7_corner_40 rfl (Nat.le_of_ble_eq_true rfl) ⟨Nat.zero_le _, Nat.zero_le _⟩ (ctX7_isIn h) (fun x_40 S_40 h => ?_)
      refine x_if_eq (tgt := 60) dX7_corner_43 (by decide) (fun c => ?_) (fun c => ?_)
      · replace h := h.1 c
        refine x_lv (lv' := []) trivial ?_
        exact xX7_corner_60 hQ   _ h
      · replace h := h.2 c
        refine x_lload dX7_corner_46 rfl ?_
        refine x_ldc2 (v := (-200)) dX7_corner_48 kcX7_118 ?_
        refine x_ldc2 (v := 200) dX7_corner_51 kcX7_120 ?_
        refine x_callSI (As := [aJ v4, aJ (-200), aJ 200]) (st := []) kX7_122 rfl ⟨rfl, rfl, by decide, by decide⟩ dX7_corner_54 rfl (Nat.le_of_ble_eq_true rfl) ⟨Nat.zero_le _, Nat.zero_le _⟩ (ctX7_isIn h) (fun x_54 S_54 h => ?_)
        refine x_if_ne (tgt := 62) dX7_corner_57 (by decide) (fun c => ?_) (fun c => ?_)
        · replace h := h.2 c
          refine x_iconst (v := 4) dX7_corner_62 (by decide) ?_
          refine x_iload_n dX7_corner_63 rfl ?_
          refine x_imul dX7_corner_64 ?_
          refine x_aload_n dX7_corner_65 rfl ?_
          obtain ⟨h1, r_66, hr_66, h⟩ := h
          refine x_g7_5 rfl dX7_corner_66 h1 (x_un hr_66 ?_)
          refine x_iload_n dX7_corner_69 rfl ?_
          refine x_iald dX7_corner_70 h.1 ?_
          replace h := h.2
          refine x_iadd dX7_corner_71 ?_
          refine x_nI (fun v6_72 hv6_72 => ?_)
          replace h := h v6_72 hv6_72
          refine x_istore dX7_corner_72 (by decide) rfl ?_
          refine x_aload_n dX7_corner_74 rfl ?_
          obtain ⟨h1, r_75, hr_75, h⟩ := h
          refine x_g7_4 rfl dX7_corner_75 h1 (x_un hr_75 ?_)
          refine x_iload dX7_corner_78 rfl ?_
          refine x_iald dX7_corner_80 h.1 ?_
          replace h := h.2
          refine x_bipush (v := 12) dX7_corner_81 (by decide) ?_
          refine x_icmp_ne (tgt := 88) dX7_corner_83 (by decide) (fun c => ?_) (fun c => ?_)
          · replace h := h.2 c
            refine x_aload_n dX7_corner_88 rfl ?_
            obtain ⟨h1, r_89, hr_89, h⟩ := h
            refine x_g7_2 rfl dX7_corner_89 h1 (x_un hr_89 ?_)
            refine x_bipush (v := 12) dX7_corner_92 (by decide) ?_
            refine x_iload dX7_corner_94 rfl ?_
            refine x_imul dX7_corner_96 ?_
            refine x_aload_n dX7_corner_97 rfl ?_
            obtain ⟨h1, r_98, hr_98, h⟩ := h
            refine x_g7_4 rfl dX7_corner_98 h1 (x_un hr_98 ?_)
            refine x_iload dX7_corner_101 rfl ?_
            refine x_iald dX7_corner_103 h.1 ?_
            replace h := h.2
            refine x_iadd dX7_corner_104 ?_
            refine x_lload_n dX7_corner_105 rfl ?_
            obtain ⟨h1, h⟩ := h
            refine x_last dX7_corner_106 h1 (x_nS (fun S_106 hS_106 => ?_))
            replace h := h S_106 hS_106
            refine x_aload_n dX7_corner_107 rfl ?_
            obtain ⟨h1, r_108, hr_108, h⟩ := h
            refine x_g7_3 rfl dX7_corner_108 h1 (x_un hr_108 ?_)
            refine x_bipush (v := 12) dX7_corner_111 (by decide) ?_
            refine x_iload dX7_corner_113 rfl ?_
            refine x_imul dX7_corner_115 ?_
            refine x_aload_n dX7_corner_116 rfl ?_
            obtain ⟨h1, r_117, hr_117, h⟩ := h
            refine x_g7_4 rfl dX7_corner_117 h1 (x_un hr_117 ?_)
            refine x_iload dX7_corner_120 rfl ?_
            refine x_iald dX7_corner_122 h.1 ?_
            replace h := h.2
            refine x_iadd dX7_corner_123 ?_
            refine x_lload dX7_corner_124 rfl ?_
            obtain ⟨h1, h⟩ := h
            refine x_last dX7_corner_126 h1 (x_nS (fun S_126 hS_126 => ?_))
            replace h := h S_126 hS_126
            refine x_aload_n dX7_corner_127 rfl ?_
            obtain ⟨h1, r_128, hr_128, h⟩ := h
            refine x_g7_4 rfl dX7_corner_128 h1 (x_un hr_128 ?_)
            refine x_iload dX7_corner_131 rfl ?_
            refine x_dup2 dX7_corner_133 ?_
            refine x_iald dX7_corner_134 h.1 ?_
            replace h := h.2
            refine x_iconst (v := 1) dX7_corner_135 (by decide) ?_
            refine x_iadd dX7_corner_136 ?_
            obtain ⟨h1, h⟩ := h
            refine x_iast dX7_corner_137 h1 (x_nS (fun S_137 hS_137 => ?_))
            replace h := h S_137 hS_137
            refine x_iconst (v := 1) dX7_corner_138 (by decide) ?_
            exact x_zret hQ rfl dX7_corner_139 ⟨Or.inr rfl, _, rfl, h⟩
          · replace h := h.1 c
            refine x_iconst (v := 0) dX7_corner_86 (by decide) ?_
            exact x_zret hQ rfl dX7_corner_87 ⟨Or.inl rfl, _, rfl, h⟩
        · replace h := h.1 c
          refine x_lv (lv' := []) trivial ?_
          exact xX7_corner_60 hQ   _ h
set_option maxRecDepth 100000 in
set_option maxHeartbeats 4000000 in
theorem ctX7_corner {G : Launch × va_G × (Nat → ClassId) × Nat} {v0 : Nat} {v1 : Int32} {v2 : Int64} {v4 : Int64} {S : hs} {Post : Int32 → hs → Prop} (h : PX7_corner v0 v1 v2 v4 S Post) : ctN G mX7_corner [aA v0, aI v1, aJ v2, aJ v4] S (pI Post) := by
  refine ctN.of (by decide) (Nat.le_of_ble_eq_true rfl) (fun E ad hG hQ => ?_)
  subst hG
  unfold PX7_corner at h
  refine x_aload_n dX7_corner_0 rfl ?_
  refine x_aload_n dX7_corner_1 rfl ?_
  refine x_iload_n dX7_corner_2 rfl ?_
  obtain ⟨h1, h⟩ := h
  refine x_callVI (As := [aI v1]) (st := [aA v0]) kX7_79 rfl ⟨rfl, rfl, by decide, by decide⟩ dX7_corner_3 rfl (Nat.le_of_ble_eq_true rfl) ⟨Nat.zero_le _, Nat.zero_le _⟩ h1 (ctX7_isArea h) (fun x_3 S_3 h => ?_)
  refine x_if_eq (tgt := 13) dX7_corner_6 (by decide) (fun c => ?_) (fun c => ?_)
  · replace h := h.1 c
    refine x_iconst (v := 1) dX7_corner_13 (by decide) ?_
    refine x_lv (lv' := [(0, aA v0), (1, aI v1), (2, aJ v2), (4, aJ v4)]) ⟨rfl, rfl, rfl, rfl, trivial⟩ ?_
    exact xX7_corner_14 hQ  _ _ _ _ _ _ _ h
  · replace h := h.2 c
    refine x_iconst (v := 0) dX7_corner_9 (by decide) ?_
    refine x_goto (tgt := 14) dX7_corner_10 (by decide) ?_
    refine x_lv (lv' := [(0, aA v0), (1, aI v1), (2, aJ v2), (4, aJ v4)]) ⟨rfl, rfl, rfl, rfl, trivial⟩ ?_
    exact xX7_corner_14 hQ  _ _ _ _ _ _ _ h
set_option maxRecDepth 100000 in
set_option maxHeartbeats 4000000 in
theorem xX7_ring_161 {E : en} {ad : Nat → Nat} {Post : Int32 → hs → Prop} (hQ : isQ E ad (pI Post))   (s0 : Nat) (s1 : Int32) (s2 : Int32) (S : hs) (h : PX7_ring_161 Post  s0 s1 s2 S) : X E mX7_ring 0 0 ad S 161 [] [aI s2, aI s1, aA s0] := by
  unfold PX7_ring_161 at h
  obtain ⟨h1, h2, h⟩ := h
  refine x_zast dX7_ring_161 h1 h2 (x_nS (fun S_161 hS_161 => ?_))
  replace h := h S_161 hS_161
  refine x_iconst (v := 0) dX7_ring_162 (by decide) ?_
  exact x_zret hQ rfl dX7_ring_163 ⟨Or.inl rfl, _, rfl, h⟩
set_option maxRecDepth 100000 in
set_option maxHeartbeats 4000000 in
theorem xX7_ring_130 {E : en} {ad : Nat → Nat} {Post : Int32 → hs → Prop} (hQ : isQ E ad (pI Post))   (v0 : Nat) (v1 : Int32) (v2 : Int32) (s0 : Int32) (S : hs) (h : PX7_ring_130 Post  v0 v1 v2 s0 S) : X E mX7_ring 0 0 ad S 130 [(0, aA v0), (1, aI v1), (2, aI v2)] [aI s0] := by
  unfold PX7_ring_130 at h
  refine x_istore_n dX7_ring_130 (by decide) rfl ?_
  refine x_iload_n dX7_ring_131 rfl ?_
  refine x_if_ne (tgt := 164) dX7_ring_132 (by decide) (fun c => ?_) (fun c => ?_)
  · replace h := h.2 c
    refine x_aload_n dX7_ring_164 rfl ?_
    obtain ⟨h1, r_165, hr_165, h⟩ := h
    refine x_g7_5 rfl dX7_ring_165 h1 (x_un hr_165 ?_)
    refine x_iload_n dX7_ring_168 rfl ?_
    refine x_dup2 dX7_ring_169 ?_
    refine x_iald dX7_ring_170 h.1 ?_
    replace h := h.2
    refine x_iconst (v := 1) dX7_ring_171 (by decide) ?_
    refine x_iadd dX7_ring_172 ?_
    obtain ⟨h1, h⟩ := h
    refine x_iast dX7_ring_173 h1 (x_nS (fun S_173 hS_173 => ?_))
    replace h := h S_173 hS_173
    refine x_aload_n dX7_ring_174 rfl ?_
    obtain ⟨h1, r_175, hr_175, h⟩ := h
    refine x_g7_6 rfl dX7_ring_175 h1 (x_un hr_175 ?_)
    refine x_iload_n dX7_ring_178 rfl ?_
    refine x_iconst (v := 0) dX7_ring_179 (by decide) ?_
    obtain ⟨h1, h⟩ := h
    refine x_zast dX7_ring_180 h1 (Or.inl rfl) (x_nS (fun S_180 hS_180 => ?_))
    replace h := h S_180 hS_180
    refine x_iconst (v := 1) dX7_ring_181 (by decide) ?_
    exact x_zret hQ rfl dX7_ring_182 ⟨Or.inr rfl, _, rfl, h⟩
  · replace h := h.1 c
    refine x_aload_n dX7_ring_135 rfl ?_
    obtain ⟨h1, r_136, hr_136, h⟩ := h
    refine x_g7_4 rfl dX7_ring_136 h1 (x_un hr_136 ?_)
    refine x_iload_n dX7_ring_139 rfl ?_
    refine x_iconst (v := 0) dX7_ring_140 (by decide) ?_
    obtain ⟨h1, h⟩ := h
    refine x_iast dX7_ring_141 h1 (x_nS (fun S_141 hS_141 => ?_))
    replace h := h S_141 hS_141
    refine x_aload_n dX7_ring_142 rfl ?_
    obtain ⟨h1, r_143, hr_143, h⟩ := h
    refine x_g7_6 rfl dX7_ring_143 h1 (x_un hr_143 ?_)
    refine x_iload_n dX7_ring_146 rfl ?_
    refine x_aload_n dX7_ring_147 rfl ?_
    obtain ⟨h1, r_148, hr_148, h⟩ := h
    refine x_g7_5 rfl dX7_ring_148 h1 (x_un hr_148 ?_)
    refine x_iload_n dX7_ring_151 rfl ?_
    refine x_iald dX7_ring_152 h.1 ?_
    replace h := h.2
    refine x_if_ne (tgt := 160) dX7_ring_153 (by decide) (fun c => ?_) (fun c => ?_)
    · replace h := h.2 c
      refine x_iconst (v := 0) dX7_ring_160 (by decide) ?_
      refine x_lv (lv' := []) trivial ?_
      exact xX7_ring_161 hQ  _ _ _ _ h
    · replace h := h.1 c
      refine x_iconst (v := 1) dX7_ring_156 (by decide) ?_
      refine x_goto (tgt := 161) dX7_ring_157 (by decide) ?_
      refine x_lv (lv' := []) trivial ?_
      exact xX7_ring_161 hQ  _ _ _ _ h
set_option maxRecDepth 100000 in
set_option maxHeartbeats 4000000 in
theorem xX7_ring_129 {E : en} {ad : Nat → Nat} {Post : Int32 → hs → Prop} (hQ : isQ E ad (pI Post))   (v0 : Nat) (v1 : Int32) (v2 : Int32) (S : hs) (h : PX7_ring_129 Post  v0 v1 v2 S) : X E mX7_ring 0 0 ad S 129 [(0, aA v0), (1, aI v1), (2, aI v2)] [] := by
  unfold PX7_ring_129 at h
  refine x_iconst (v := 0) dX7_ring_129 (by decide) ?_
  refine x_lv (lv' := [(0, aA v0), (1, aI v1), (2, aI v2)]) ⟨rfl, rfl, rfl, trivial⟩ ?_
  exact xX7_ring_130 hQ  _ _ _ _ _ h
set_option maxRecDepth 100000 in
set_option maxHeartbeats 4000000 in
theorem xX7_ring_125 {E : en} {ad : Nat → Nat} {Post : Int32 → hs → Prop} (hQ : isQ E ad (pI Post))   (v0 : Nat) (v1 : Int32) (v2 : Int32) (S : hs) (h : PX7_ring_125 Post  v0 v1 v2 S) : X E mX7_ring 0 0 ad S 125 [(0, aA v0), (1, aI v1), (2, aI v2)] [] := by
  unfold PX7_ring_125 at h
  refine x_iconst (v := 1) dX7_ring_125 (by decide) ?_
  refine x_goto (tgt := 130) dX7_ring_126 (by decide) ?_
  refine x_lv (lv' := [(0, aA v0), (1, aI v1), (2, aI v2)]) ⟨rfl, rfl, rfl, trivial⟩ ?_
  exact xX7_ring_130 hQ  _ _ _ _ _ h
set_option maxRecDepth 100000 in
set_option maxHeartbeats 4000000 in
theorem xX7_ring_85 {E : en} {ad : Nat → Nat} {Post : Int32 → hs → Prop} (hQ : isQ E ad (pI Post))   (v0 : Nat) (v1 : Int32) (v2 : Int32) (v3 : Int32) (S : hs) (h : PX7_ring_85 Post  v0 v1 v2 v3 S) : X E mX7_ring 0 0 ad S 85 [(0, aA v0), (1, aI v1), (2, aI v2), (3, aI v3)] [] := by
  unfold PX7_ring_85 at h
  refine x_iload_n dX7_ring_85 rfl ?_
  refine x_if_eq (tgt := 129) dX7_ring_86 (by decide) (fun c => ?_) (fun c => ?_)
  · replace h := h.1 c
    refine x_lv (lv' := [(0, aA v0), (1, aI v1), (2, aI v2)]) ⟨rfl, rfl, rfl, trivial⟩ ?_
    exact xX7_ring_129 hQ  _ _ _ _ h
  · replace h := h.2 c
    refine x_aload_n dX7_ring_89 rfl ?_
    obtain ⟨h1, r_90, hr_90, h⟩ := h
    refine x_g7_5 rfl dX7_ring_90 h1 (x_un hr_90 ?_)
    refine x_iload_n dX7_ring_93 rfl ?_
    refine x_iald dX7_ring_94 h.1 ?_
    replace h := h.2
    refine x_if_eq (tgt := 125) dX7_ring_95 (by decide) (fun c => ?_) (fun c => ?_)
    · replace h := h.1 c
      refine x_lv (lv' := [(0, aA v0), (1, aI v1), (2, aI v2)]) ⟨rfl, rfl, rfl, trivial⟩ ?_
      exact xX7_ring_125 hQ  _ _ _ _ h
    · replace h := h.2 c
      refine x_aload_n dX7_ring_98 rfl ?_
      refine x_iload_n dX7_ring_99 rfl ?_
      refine x_aload_n dX7_ring_100 rfl ?_
      obtain ⟨h1, r_101, hr_101, h⟩ := h
      refine x_g7_2 rfl dX7_ring_101 h1 (x_un hr_101 ?_)
      refine x_bipush (v := 12) dX7_ring_104 (by decide) ?_
      refine x_iload_n dX7_ring_106 rfl ?_
      refine x_imul dX7_ring_107 ?_
      refine x_lald dX7_ring_108 h.1 ?_
      replace h := h.2
      refine x_aload_n dX7_ring_109 rfl ?_
      obtain ⟨h1, r_110, hr_110, h⟩ := h
      refine x_g7_3 rfl dX7_ring_110 h1 (x_un hr_110 ?_)
      refine x_bipush (v := 12) dX7_ring_113 (by decide) ?_
      refine x_iload_n dX7_ring_115 rfl ?_
      refine x_imul dX7_ring_116 ?_
      refine x_lald dX7_ring_117 h.1 ?_
      replace h := h.2
      refine x_lconst (v := 1) dX7_ring_118 (by decide) ?_
      obtain ⟨h1, h⟩ := h
      refine x_callVI (As := [aI v1, aJ (hj S r_101 (Int32.toNatClampNeg (12 * v2))), aJ (hj S r_110 (Int32.toNatClampNeg (12 * v2))), aJ 1]) (st := []) kX7_133 rfl ⟨rfl, rfl, by decide, by decide⟩ dX7_ring_119 rfl (Nat.le_of_ble_eq_true rfl) ⟨Nat.zero_le _, Nat.zero_le _⟩ h1 (ctX7_has h) (fun x_119 S_119 h => ?_)
      refine x_if_eq (tgt := 129) dX7_ring_122 (by decide) (fun c => ?_) (fun c => ?_)
      · replace h := h.1 c
        refine x_lv (lv' := [(0, aA v0), (1, aI v1), (2, aI v2)]) ⟨rfl, rfl, rfl, trivial⟩ ?_
        exact xX7_ring_129 hQ  _ _ _ _ h
      · replace h := h.2 c
        refine x_lv (lv' := [(0, aA v0), (1, aI v1), (2, aI v2)]) ⟨rfl, rfl, rfl, trivial⟩ ?_
        exact xX7_ring_125 hQ  _ _ _ _ h
set_option maxRecDepth 100000 in
set_option maxHeartbeats 4000000 in
theorem xX7_ring_78 {E : en} {ad : Nat → Nat} {Post : Int32 → hs → Prop} (hQ : isQ E ad (pI Post)) {K44 : Nat → Int32 → Int32 → Int32 → Int32 → hs → Prop} (hK44 : ∀ (v0 : Nat) (v1 : Int32) (v2 : Int32) (v3 : Int32) (v4 : Int32) (S : hs), K44 v0 v1 v2 v3 v4 S → X E mX7_ring 0 0 ad S 44 [(0, aA v0), (1, aI v1), (2, aI v2), (3, aI v3), (4, aI v4)] []) (v0 : Nat) (v1 : Int32) (v2 : Int32) (v4 : Int32) (s0 : Int32) (S : hs) (h : PX7_ring_78 Post K44 v0 v1 v2 v4 s0 S) : X E mX7_ring 0 0 ad S 78 [(0, aA v0), (1, aI v1), (2, aI v2), (4, aI v4)] [aI s0] := by
  unfold PX7_ring_78 at h
  refine x_istore_n dX7_ring_78 (by decide) rfl ?_
  obtain ⟨v4_79, hv4_79⟩ : ∃ y : Int32, y = v4 + 1 := ⟨_, rfl⟩
  replace h := h v4_79 hv4_79
  refine x_iinc (v := v4_79) dX7_ring_79 rfl (by rw [hv4_79]; rfl) (by decide) rfl ?_
  refine x_goto (tgt := 44) dX7_ring_82 (by decide) ?_
  refine x_lv (lv' := [(0, aA v0), (1, aI v1), (2, aI v2), (3, aI s0), (4, aI v4_79)]) ⟨rfl, rfl, rfl, rfl, rfl, trivial⟩ ?_
  exact hK44 _ _ _ _ _ _ h
set_option maxRecDepth 100000 in
set_option maxHeartbeats 4000000 in
theorem xX7_ring_44 {E : en} {ad : Nat → Nat} {Post : Int32 → hs → Prop} (hQ : isQ E ad (pI Post))   : ∀ (n : Nat) (v0 : Nat) (v1 : Int32) (v2 : Int32) (v3 : Int32) (v4 : Int32) (S : hs) (_ : PX7_ring_44 Post  n v0 v1 v2 v3 v4 S), X E mX7_ring 0 0 ad S 44 [(0, aA v0), (1, aI v1), (2, aI v2), (3, aI v3), (4, aI v4)] [] := by
  intro n
  induction n with
  | zero => intro v0 v1 v2 v3 v4 S h; exact h.elim
  | succ n ih =>
    intro v0 v1 v2 v3 v4 S h
    have hK44 := ih
    simp only [PX7_ring_44] at h
    refine x_iload dX7_ring_44 rfl ?_
    refine x_aload_n dX7_ring_46 rfl ?_
    obtain ⟨h1, r_47, hr_47, h⟩ := h
    refine x_g7_5 rfl dX7_ring_47 h1 (x_un hr_47 ?_)
    refine x_iload_n dX7_ring_50 rfl ?_
    refine x_iald dX7_ring_51 h.1 ?_
    replace h := h.2
    refine x_icmp_ge (tgt := 85) dX7_ring_52 (by decide) (fun c => ?_) (fun c => ?_)
    · replace h := h.1 c
      refine x_lv (lv' := [(0, aA v0), (1, aI v1), (2, aI v2), (3, aI v3)]) ⟨rfl, rfl, rfl, rfl, trivial⟩ ?_
      exact xX7_ring_85 hQ  _ _ _ _ _ h
    · replace h := h.2 c
      refine x_iload_n dX7_ring_55 rfl ?_
      refine x_if_eq (tgt := 85) dX7_ring_56 (by decide) (fun c => ?_) (fun c => ?_)
      · replace h := h.1 c
        refine x_lv (lv' := [(0, aA v0), (1, aI v1), (2, aI v2), (3, aI v3)]) ⟨rfl, rfl, rfl, rfl, trivial⟩ ?_
        exact xX7_ring_85 hQ  _ _ _ _ _ h
      · replace h := h.2 c
        refine x_aload_n dX7_ring_59 rfl ?_
        refine x_iload_n dX7_ring_60 rfl ?_
        refine x_iconst (v := 4) dX7_ring_61 (by decide) ?_
        refine x_iload_n dX7_ring_62 rfl ?_
        refine x_imul dX7_ring_63 ?_
        refine x_iload dX7_ring_64 rfl ?_
        refine x_iadd dX7_ring_66 ?_
        obtain ⟨h1, h⟩ := h
        refine x_callVI (As := [aI v2, aI ((4 * v1) + v4)]) (st := []) kX7_129 rfl ⟨rfl, rfl, by decide, by decide⟩ dX7_ring_67 rfl (Nat.le_of_ble_eq_true rfl) ⟨Nat.zero_le _, Nat.zero_le _⟩ h1 (ctX7_ringsMeet h) (fun x_67 S_67 h => ?_)
        refine x_if_ne (tgt := 77) dX7_ring_70 (by decide) (fun c => ?_) (fun c => ?_)
        · replace h := h.2 c
          refine x_iconst (v := 0) dX7_ring_77 (by decide) ?_
          refine x_lv (lv' := [(0, aA v0), (1, aI v1), (2, aI v2), (4, aI v4)]) ⟨rfl, rfl, rfl, rfl, trivial⟩ ?_
          exact xX7_ring_78 hQ hK44 _ _ _ _ _ _ h
        · replace h := h.1 c
          refine x_iconst (v := 1) dX7_ring_73 (by decide) ?_
          refine x_goto (tgt := 78) dX7_ring_74 (by decide) ?_
          refine x_lv (lv' := [(0, aA v0), (1, aI v1), (2, aI v2), (4, aI v4)]) ⟨rfl, rfl, rfl, rfl, trivial⟩ ?_
          exact xX7_ring_78 hQ hK44 _ _ _ _ _ _ h
set_option maxRecDepth 100000 in
set_option maxHeartbeats 4000000 in
theorem xX7_ring_22 {E : en} {ad : Nat → Nat} {Post : Int32 → hs → Prop} (hQ : isQ E ad (pI Post))    (S : hs) (h : PX7_ring_22 Post   S) : X E mX7_ring 0 0 ad S 22 [] [] := by
  unfold PX7_ring_22 at h
  refine x_iconst (v := 0) dX7_ring_22 (by decide) ?_
  exact x_zret hQ rfl dX7_ring_23 ⟨Or.inl rfl, _, rfl, h⟩
set_option maxRecDepth 100000 in
set_option maxHeartbeats 4000000 in
theorem ctX7_ring {G : Launch × va_G × (Nat → ClassId) × Nat} {v0 : Nat} {v1 : Int32} {S : hs} {Post : Int32 → hs → Prop} (h : PX7_ring v0 v1 S Post) : ctN G mX7_ring [aA v0, aI v1] S (pI Post) := by
  refine ctN.of (by decide) (Nat.le_of_ble_eq_true rfl) (fun E ad hG hQ => ?_)
  subst hG
  unfold PX7_ring at h
  refine x_aload_n dX7_ring_0 rfl ?_
  refine x_iconst (v := 0) dX7_ring_1 (by decide) ?_
  obtain ⟨h1, h⟩ := h
  refine x_p7_0 rfl dX7_ring_2 h1 (x_nS (fun S_2 hS_2 => ?_))
  replace h := h S_2 hS_2
  refine x_aload_n dX7_ring_5 rfl ?_
  refine x_iload_n dX7_ring_6 rfl ?_
  obtain ⟨h1, h⟩ := h
  refine x_callVI (As := [aI v1]) (st := []) kX7_79 rfl ⟨rfl, rfl, by decide, by decide⟩ dX7_ring_7 rfl (Nat.le_of_ble_eq_true rfl) ⟨Nat.zero_le _, Nat.zero_le _⟩ h1 (ctX7_isArea h) (fun x_7 S_7 h => ?_)
  refine x_if_eq (tgt := 22) dX7_ring_10 (by decide) (fun c => ?_) (fun c => ?_)
  · replace h := h.1 c
    refine x_lv (lv' := []) trivial ?_
    exact xX7_ring_22 hQ   _ h
  · replace h := h.2 c
    refine x_aload_n dX7_ring_13 rfl ?_
    obtain ⟨h1, r_14, hr_14, h⟩ := h
    refine x_g7_6 rfl dX7_ring_14 h1 (x_un hr_14 ?_)
    refine x_iload_n dX7_ring_17 rfl ?_
    refine x_zald dX7_ring_18 h.1 ?_
    replace h := h.2
    refine x_if_ne (tgt := 24) dX7_ring_19 (by decide) (fun c => ?_) (fun c => ?_)
    · replace h := h.2 c
      refine x_iconst (v := 4) dX7_ring_24 (by decide) ?_
      refine x_iload_n dX7_ring_25 rfl ?_
      refine x_imul dX7_ring_26 ?_
      refine x_aload_n dX7_ring_27 rfl ?_
      obtain ⟨h1, r_28, hr_28, h⟩ := h
      refine x_g7_5 rfl dX7_ring_28 h1 (x_un hr_28 ?_)
      refine x_iload_n dX7_ring_31 rfl ?_
      refine x_iald dX7_ring_32 h.1 ?_
      replace h := h.2
      refine x_iadd dX7_ring_33 ?_
      refine x_nI (fun v2_34 hv2_34 => ?_)
      replace h := h v2_34 hv2_34
      refine x_istore_n dX7_ring_34 (by decide) rfl ?_
      refine x_aload_n dX7_ring_35 rfl ?_
      refine x_iload_n dX7_ring_36 rfl ?_
      obtain ⟨h1, h⟩ := h
      refine x_callVI (As := [aI v2_34]) (st := []) kX7_126 rfl ⟨rfl, rfl, by decide, by decide⟩ dX7_ring_37 rfl (Nat.le_of_ble_eq_true rfl) ⟨Nat.zero_le _, Nat.zero_le _⟩ h1 (ctX7_isSimple h) (fun x_37 S_37 h => ?_)
      refine x_istore_n dX7_ring_40 (by decide) rfl ?_
      refine x_iconst (v := 0) dX7_ring_41 (by decide) ?_
      refine x_istore dX7_ring_42 (by decide) rfl ?_
      refine x_lv (lv' := [(0, aA v0), (1, aI v1), (2, aI v2_34), (3, aI x_37), (4, aI 0)]) ⟨rfl, rfl, rfl, rfl, rfl, trivial⟩ ?_
      obtain ⟨n, h⟩ := h
      exact xX7_ring_44 hQ  n _ _ _ _ _ _ h
    · replace h := h.1 c
      refine x_lv (lv' := []) trivial ?_
      exact xX7_ring_22 hQ   _ h
set_option maxRecDepth 100000 in
set_option maxHeartbeats 4000000 in
theorem xX7_hole_32 {E : en} {ad : Nat → Nat} {Post : Int32 → hs → Prop} (hQ : isQ E ad (pI Post))    (S : hs) (h : PX7_hole_32 Post   S) : X E mX7_hole 0 0 ad S 32 [] [] := by
  unfold PX7_hole_32 at h
  refine x_iconst (v := 0) dX7_hole_32 (by decide) ?_
  exact x_zret hQ rfl dX7_hole_33 ⟨Or.inl rfl, _, rfl, h⟩
set_option maxRecDepth 100000 in
set_option maxHeartbeats 4000000 in
theorem ctX7_hole {G : Launch × va_G × (Nat → ClassId) × Nat} {v0 : Nat} {v1 : Int32} {S : hs} {Post : Int32 → hs → Prop} (h : PX7_hole v0 v1 S Post) : ctN G mX7_hole [aA v0, aI v1] S (pI Post) := by
  refine ctN.of (by decide) (Nat.le_of_ble_eq_true rfl) (fun E ad hG hQ => ?_)
  subst hG
  unfold PX7_hole at h
  refine x_aload_n dX7_hole_0 rfl ?_
  refine x_iconst (v := 0) dX7_hole_1 (by decide) ?_
  obtain ⟨h1, h⟩ := h
  refine x_p7_0 rfl dX7_hole_2 h1 (x_nS (fun S_2 hS_2 => ?_))
  replace h := h S_2 hS_2
  refine x_aload_n dX7_hole_5 rfl ?_
  refine x_iload_n dX7_hole_6 rfl ?_
  obtain ⟨h1, h⟩ := h
  refine x_callVI (As := [aI v1]) (st := []) kX7_137 rfl ⟨rfl, rfl, by decide, by decide⟩ dX7_hole_7 rfl (Nat.le_of_ble_eq_true rfl) ⟨Nat.zero_le _, Nat.zero_le _⟩ h1 (ctX7_isThere h) (fun x_7 S_7 h => ?_)
  refine x_if_eq (tgt := 32) dX7_hole_10 (by decide) (fun c => ?_) (fun c => ?_)
  · replace h := h.1 c
    refine x_lv (lv' := []) trivial ?_
    exact xX7_hole_32 hQ   _ h
  · replace h := h.2 c
    refine x_aload_n dX7_hole_13 rfl ?_
    obtain ⟨h1, r_14, hr_14, h⟩ := h
    refine x_g7_6 rfl dX7_hole_14 h1 (x_un hr_14 ?_)
    refine x_iload_n dX7_hole_17 rfl ?_
    refine x_zald dX7_hole_18 h.1 ?_
    replace h := h.2
    refine x_if_ne (tgt := 32) dX7_hole_19 (by decide) (fun c => ?_) (fun c => ?_)
    · replace h := h.2 c
      refine x_lv (lv' := []) trivial ?_
      exact xX7_hole_32 hQ   _ h
    · replace h := h.1 c
      refine x_aload_n dX7_hole_22 rfl ?_
      obtain ⟨h1, r_23, hr_23, h⟩ := h
      refine x_g7_5 rfl dX7_hole_23 h1 (x_un hr_23 ?_)
      refine x_iload_n dX7_hole_26 rfl ?_
      refine x_iald dX7_hole_27 h.1 ?_
      replace h := h.2
      refine x_iconst (v := 4) dX7_hole_28 (by decide) ?_
      refine x_icmp_ne (tgt := 34) dX7_hole_29 (by decide) (fun c => ?_) (fun c => ?_)
      · replace h := h.2 c
        refine x_aload_n dX7_hole_34 rfl ?_
        obtain ⟨h1, r_35, hr_35, h⟩ := h
        refine x_g7_6 rfl dX7_hole_35 h1 (x_un hr_35 ?_)
        refine x_iload_n dX7_hole_38 rfl ?_
        refine x_iconst (v := 1) dX7_hole_39 (by decide) ?_
        obtain ⟨h1, h⟩ := h
        refine x_zast dX7_hole_40 h1 (Or.inr rfl) (x_nS (fun S_40 hS_40 => ?_))
        replace h := h S_40 hS_40
        refine x_aload_n dX7_hole_41 rfl ?_
        obtain ⟨h1, r_42, hr_42, h⟩ := h
        refine x_g7_4 rfl dX7_hole_42 h1 (x_un hr_42 ?_)
        refine x_iconst (v := 4) dX7_hole_45 (by decide) ?_
        refine x_iload_n dX7_hole_46 rfl ?_
        refine x_imul dX7_hole_47 ?_
        refine x_aload_n dX7_hole_48 rfl ?_
        obtain ⟨h1, r_49, hr_49, h⟩ := h
        refine x_g7_5 rfl dX7_hole_49 h1 (x_un hr_49 ?_)
        refine x_iload_n dX7_hole_52 rfl ?_
        refine x_iald dX7_hole_53 h.1 ?_
        replace h := h.2
        refine x_iadd dX7_hole_54 ?_
        refine x_iconst (v := 0) dX7_hole_55 (by decide) ?_
        obtain ⟨h1, h⟩ := h
        refine x_iast dX7_hole_56 h1 (x_nS (fun S_56 hS_56 => ?_))
        replace h := h S_56 hS_56
        refine x_iconst (v := 1) dX7_hole_57 (by decide) ?_
        exact x_zret hQ rfl dX7_hole_58 ⟨Or.inr rfl, _, rfl, h⟩
      · replace h := h.1 c
        refine x_lv (lv' := []) trivial ?_
        exact xX7_hole_32 hQ   _ h
set_option maxRecDepth 100000 in
set_option maxHeartbeats 4000000 in
theorem ctX7_rule {G : Launch × va_G × (Nat → ClassId) × Nat} {v0 : Nat} {v1 : Int32} {v2 : Int32} {v3 : Int32} {v4 : Int32} {S : hs} {Post : hs → Prop} (h : PX7_rule v0 v1 v2 v3 v4 S Post) : ctN G mX7_rule [aA v0, aI v1, aI v2, aI v3, aI v4] S (pV Post) := by
  refine ctN.of (by decide) (Nat.le_of_ble_eq_true rfl) (fun E ad hG hQ => ?_)
  subst hG
  unfold PX7_rule at h
  refine x_aload_n dX7_rule_0 rfl ?_
  obtain ⟨h1, r_1, hr_1, h⟩ := h
  refine x_g7_9 rfl dX7_rule_1 h1 (x_un hr_1 ?_)
  refine x_aload_n dX7_rule_4 rfl ?_
  refine x_g7_8 rfl dX7_rule_5 h.1 ?_
  replace h := h.2
  refine x_iload_n dX7_rule_8 rfl ?_
  obtain ⟨h1, h⟩ := h
  refine x_iast dX7_rule_9 h1 (x_nS (fun S_9 hS_9 => ?_))
  replace h := h S_9 hS_9
  refine x_aload_n dX7_rule_10 rfl ?_
  obtain ⟨h1, r_11, hr_11, h⟩ := h
  refine x_g7_10 rfl dX7_rule_11 h1 (x_un hr_11 ?_)
  refine x_aload_n dX7_rule_14 rfl ?_
  refine x_g7_8 rfl dX7_rule_15 h.1 ?_
  replace h := h.2
  refine x_iload_n dX7_rule_18 rfl ?_
  obtain ⟨h1, h⟩ := h
  refine x_iast dX7_rule_19 h1 (x_nS (fun S_19 hS_19 => ?_))
  replace h := h S_19 hS_19
  refine x_aload_n dX7_rule_20 rfl ?_
  obtain ⟨h1, r_21, hr_21, h⟩ := h
  refine x_g7_11 rfl dX7_rule_21 h1 (x_un hr_21 ?_)
  refine x_aload_n dX7_rule_24 rfl ?_
  refine x_g7_8 rfl dX7_rule_25 h.1 ?_
  replace h := h.2
  refine x_iload_n dX7_rule_28 rfl ?_
  obtain ⟨h1, h⟩ := h
  refine x_iast dX7_rule_29 h1 (x_nS (fun S_29 hS_29 => ?_))
  replace h := h S_29 hS_29
  refine x_aload_n dX7_rule_30 rfl ?_
  obtain ⟨h1, r_31, hr_31, h⟩ := h
  refine x_g7_12 rfl dX7_rule_31 h1 (x_un hr_31 ?_)
  refine x_aload_n dX7_rule_34 rfl ?_
  refine x_g7_8 rfl dX7_rule_35 h.1 ?_
  replace h := h.2
  refine x_iload dX7_rule_38 rfl ?_
  obtain ⟨h1, h⟩ := h
  refine x_iast dX7_rule_40 h1 (x_nS (fun S_40 hS_40 => ?_))
  replace h := h S_40 hS_40
  refine x_aload_n dX7_rule_41 rfl ?_
  refine x_dupR dX7_rule_42 ?_
  refine x_g7_8 rfl dX7_rule_43 h.1 ?_
  replace h := h.2
  refine x_iconst (v := 1) dX7_rule_46 (by decide) ?_
  refine x_iadd dX7_rule_47 ?_
  obtain ⟨h1, h⟩ := h
  refine x_p7_8 rfl dX7_rule_48 h1 (x_nS (fun S_48 hS_48 => ?_))
  replace h := h S_48 hS_48
  exact x_vret hQ rfl dX7_rule_51 ⟨rfl, h⟩
set_option maxRecDepth 100000 in
set_option maxHeartbeats 4000000 in
theorem xX7_bars_60 {E : en} {ad : Nat → Nat} {Post : Int32 → hs → Prop} (hQ : isQ E ad (pI Post))    (S : hs) (h : PX7_bars_60 Post   S) : X E mX7_bars 0 0 ad S 60 [] [] := by
  unfold PX7_bars_60 at h
  refine x_iconst (v := 0) dX7_bars_60 (by decide) ?_
  exact x_zret hQ rfl dX7_bars_61 ⟨Or.inl rfl, _, rfl, h⟩
set_option maxRecDepth 100000 in
set_option maxHeartbeats 4000000 in
theorem ctX7_bars {G : Launch × va_G × (Nat → ClassId) × Nat} {v0 : Nat} {v1 : Int32} {v2 : Int32} {v3 : Int32} {v4 : Int32} {S : hs} {Post : Int32 → hs → Prop} (h : PX7_bars v0 v1 v2 v3 v4 S Post) : ctN G mX7_bars [aA v0, aI v1, aI v2, aI v3, aI v4] S (pI Post) := by
  refine ctN.of (by decide) (Nat.le_of_ble_eq_true rfl) (fun E ad hG hQ => ?_)
  subst hG
  unfold PX7_bars at h
  refine x_aload_n dX7_bars_0 rfl ?_
  refine x_iconst (v := 0) dX7_bars_1 (by decide) ?_
  obtain ⟨h1, h⟩ := h
  refine x_p7_0 rfl dX7_bars_2 h1 (x_nS (fun S_2 hS_2 => ?_))
  replace h := h S_2 hS_2
  refine x_aload_n dX7_bars_5 rfl ?_
  refine x_iload_n dX7_bars_6 rfl ?_
  obtain ⟨h1, h⟩ := h
  refine x_callVI (As := [aI v1]) (st := []) kX7_79 rfl ⟨rfl, rfl, by decide, by decide⟩ dX7_bars_7 rfl (Nat.le_of_ble_eq_true rfl) ⟨Nat.zero_le _, Nat.zero_le _⟩ h1 (ctX7_isArea h) (fun x_7 S_7 h => ?_)
  refine x_if_eq (tgt := 60) dX7_bars_10 (by decide) (fun c => ?_) (fun c => ?_)
  · replace h := h.1 c
    refine x_lv (lv' := []) trivial ?_
    exact xX7_bars_60 hQ   _ h
  · replace h := h.2 c
    refine x_iload_n dX7_bars_13 rfl ?_
    refine x_i2l dX7_bars_14 ?_
    refine x_lconst (v := 0) dX7_bars_15 (by decide) ?_
    refine x_ldc2 (v := 7) dX7_bars_16 kcX7_143 ?_
    refine x_callSI (As := [aJ (Int32.toInt64 v2), aJ 0, aJ 7]) (st := []) kX7_122 rfl ⟨rfl, rfl, by decide, by decide⟩ dX7_bars_19 rfl (Nat.le_of_ble_eq_true rfl) ⟨Nat.zero_le _, Nat.zero_le _⟩ (ctX7_isIn h) (fun x_19 S_19 h => ?_)
    refine x_if_eq (tgt := 60) dX7_bars_22 (by decide) (fun c => ?_) (fun c => ?_)
    · replace h := h.1 c
      refine x_lv (lv' := []) trivial ?_
      exact xX7_bars_60 hQ   _ h
    · replace h := h.2 c
      refine x_iload_n dX7_bars_25 rfl ?_
      refine x_i2l dX7_bars_26 ?_
      refine x_lconst (v := 0) dX7_bars_27 (by decide) ?_
      refine x_ldc2 (v := 400) dX7_bars_28 kcX7_145 ?_
      refine x_callSI (As := [aJ (Int32.toInt64 v3), aJ 0, aJ 400]) (st := []) kX7_122 rfl ⟨rfl, rfl, by decide, by decide⟩ dX7_bars_31 rfl (Nat.le_of_ble_eq_true rfl) ⟨Nat.zero_le _, Nat.zero_le _⟩ (ctX7_isIn h) (fun x_31 S_31 h => ?_)
      refine x_if_eq (tgt := 60) dX7_bars_34 (by decide) (fun c => ?_) (fun c => ?_)
      · replace h := h.1 c
        refine x_lv (lv' := []) trivial ?_
        exact xX7_bars_60 hQ   _ h
      · replace h := h.2 c
        refine x_iload dX7_bars_37 rfl ?_
        refine x_i2l dX7_bars_39 ?_
        refine x_iload_n dX7_bars_40 rfl ?_
        refine x_i2l dX7_bars_41 ?_
        refine x_ldc2 (v := 400) dX7_bars_42 kcX7_145 ?_
        refine x_callSI (As := [aJ (Int32.toInt64 v4), aJ (Int32.toInt64 v3), aJ 400]) (st := []) kX7_122 rfl ⟨rfl, rfl, by decide, by decide⟩ dX7_bars_45 rfl (Nat.le_of_ble_eq_true rfl) ⟨Nat.zero_le _, Nat.zero_le _⟩ (ctX7_isIn h) (fun x_45 S_45 h => ?_)
        refine x_if_eq (tgt := 60) dX7_bars_48 (by decide) (fun c => ?_) (fun c => ?_)
        · replace h := h.1 c
          refine x_lv (lv' := []) trivial ?_
          exact xX7_bars_60 hQ   _ h
        · replace h := h.2 c
          refine x_aload_n dX7_bars_51 rfl ?_
          refine x_g7_8 rfl dX7_bars_52 h.1 ?_
          replace h := h.2
          refine x_bipush (v := 40) dX7_bars_55 (by decide) ?_
          refine x_icmp_ne (tgt := 62) dX7_bars_57 (by decide) (fun c => ?_) (fun c => ?_)
          · replace h := h.2 c
            refine x_aload_n dX7_bars_62 rfl ?_
            refine x_iload_n dX7_bars_63 rfl ?_
            refine x_iload_n dX7_bars_64 rfl ?_
            refine x_iload_n dX7_bars_65 rfl ?_
            refine x_iload dX7_bars_66 rfl ?_
            obtain ⟨h1, h⟩ := h
            refine x_callVV (As := [aI v1, aI v2, aI v3, aI v4]) (st := []) kX7_147 rfl ⟨rfl, rfl, by decide, by decide⟩ dX7_bars_68 rfl (Nat.le_of_ble_eq_true rfl) ⟨Nat.zero_le _, Nat.zero_le _⟩ h1 (ctX7_rule h) (fun S_68 h => ?_)
            refine x_iconst (v := 1) dX7_bars_71 (by decide) ?_
            exact x_zret hQ rfl dX7_bars_72 ⟨Or.inr rfl, _, rfl, h⟩
          · replace h := h.1 c
            refine x_lv (lv' := []) trivial ?_
            exact xX7_bars_60 hQ   _ h
set_option maxRecDepth 100000 in
set_option maxHeartbeats 4000000 in
theorem xX7_speed_24 {E : en} {ad : Nat → Nat} {Post : Int32 → hs → Prop} (hQ : isQ E ad (pI Post))    (S : hs) (h : PX7_speed_24 Post   S) : X E mX7_speed 0 0 ad S 24 [] [] := by
  unfold PX7_speed_24 at h
  refine x_iconst (v := 0) dX7_speed_24 (by decide) ?_
  exact x_zret hQ rfl dX7_speed_25 ⟨Or.inl rfl, _, rfl, h⟩
set_option maxRecDepth 100000 in
set_option maxHeartbeats 4000000 in
theorem ctX7_speed {G : Launch × va_G × (Nat → ClassId) × Nat} {v0 : Nat} {v1 : Int32} {v2 : Int64} {S : hs} {Post : Int32 → hs → Prop} (h : PX7_speed v0 v1 v2 S Post) : ctN G mX7_speed [aA v0, aI v1, aJ v2] S (pI Post) := by
  refine ctN.of (by decide) (Nat.le_of_ble_eq_true rfl) (fun E ad hG hQ => ?_)
  subst hG
  unfold PX7_speed at h
  refine x_aload_n dX7_speed_0 rfl ?_
  refine x_iconst (v := 0) dX7_speed_1 (by decide) ?_
  obtain ⟨h1, h⟩ := h
  refine x_p7_0 rfl dX7_speed_2 h1 (x_nS (fun S_2 hS_2 => ?_))
  replace h := h S_2 hS_2
  refine x_aload_n dX7_speed_5 rfl ?_
  refine x_iload_n dX7_speed_6 rfl ?_
  obtain ⟨h1, h⟩ := h
  refine x_callVI (As := [aI v1]) (st := []) kX7_79 rfl ⟨rfl, rfl, by decide, by decide⟩ dX7_speed_7 rfl (Nat.le_of_ble_eq_true rfl) ⟨Nat.zero_le _, Nat.zero_le _⟩ h1 (ctX7_isArea h) (fun x_7 S_7 h => ?_)
  refine x_if_eq (tgt := 24) dX7_speed_10 (by decide) (fun c => ?_) (fun c => ?_)
  · replace h := h.1 c
    refine x_lv (lv' := []) trivial ?_
    exact xX7_speed_24 hQ   _ h
  · replace h := h.2 c
    refine x_lload_n dX7_speed_13 rfl ?_
    refine x_lconst (v := 0) dX7_speed_14 (by decide) ?_
    refine x_ldc2 (v := 100000) dX7_speed_15 kcX7_151 ?_
    refine x_callSI (As := [aJ v2, aJ 0, aJ 100000]) (st := []) kX7_122 rfl ⟨rfl, rfl, by decide, by decide⟩ dX7_speed_18 rfl (Nat.le_of_ble_eq_true rfl) ⟨Nat.zero_le _, Nat.zero_le _⟩ (ctX7_isIn h) (fun x_18 S_18 h => ?_)
    refine x_if_ne (tgt := 26) dX7_speed_21 (by decide) (fun c => ?_) (fun c => ?_)
    · replace h := h.2 c
      refine x_aload_n dX7_speed_26 rfl ?_
      obtain ⟨h1, r_27, hr_27, h⟩ := h
      refine x_g7_7 rfl dX7_speed_27 h1 (x_un hr_27 ?_)
      refine x_iload_n dX7_speed_30 rfl ?_
      refine x_lload_n dX7_speed_31 rfl ?_
      obtain ⟨h1, h⟩ := h
      refine x_last dX7_speed_32 h1 (x_nS (fun S_32 hS_32 => ?_))
      replace h := h S_32 hS_32
      refine x_iconst (v := 1) dX7_speed_33 (by decide) ?_
      exact x_zret hQ rfl dX7_speed_34 ⟨Or.inr rfl, _, rfl, h⟩
    · replace h := h.1 c
      refine x_lv (lv' := []) trivial ?_
      exact xX7_speed_24 hQ   _ h
