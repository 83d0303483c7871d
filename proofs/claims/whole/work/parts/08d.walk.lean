set_option maxRecDepth 100000 in
set_option maxHeartbeats 4000000 in
theorem xX3_barAny_3 {E : en} {ad : Nat → Nat} {Post : Int32 → hs → Prop} (hQ : isQ E ad (pI Post))   : ∀ (n : Nat) (v0 : Nat) (v1 : Int32) (v2 : Int64) (v4 : Int32) (S : hs) (_ : PX3_barAny_3 Post  n v0 v1 v2 v4 S), X E mX3_barAny 0 0 ad S 3 [(0, aA v0), (1, aI v1), (2, aJ v2), (4, aI v4)] [] := by
  intro n
  induction n with
  | zero => intro v0 v1 v2 v4 S h; exact h.elim
  | succ n ih =>
    intro v0 v1 v2 v4 S h
    have hK3 := ih
    simp only [PX3_barAny_3] at h
    refine x_iload dX3_barAny_3 rfl ?_
    refine x_aload_n dX3_barAny_5 rfl ?_
    refine x_g3_4 rfl dX3_barAny_6 h.1 ?_
    replace h := h.2
    refine x_icmp_ge (tgt := 31) dX3_barAny_9 (by decide) (fun c => ?_) (fun c => ?_)
    · replace h := h.1 c
      refine x_iconst (v := 0) dX3_barAny_31 (by decide) ?_
      exact x_zret hQ rfl dX3_barAny_32 ⟨Or.inl rfl, _, rfl, h⟩
    · replace h := h.2 c
      refine x_aload_n dX3_barAny_12 rfl ?_
      refine x_iload dX3_barAny_13 rfl ?_
      refine x_iload_n dX3_barAny_15 rfl ?_
      refine x_lload_n dX3_barAny_16 rfl ?_
      obtain ⟨h1, h⟩ := h
      refine x_callVI (As := [aI v4, aI v1, aJ v2]) (st := []) kX3_26 rfl ⟨rfl, rfl, by decide, by decide⟩ dX3_barAny_17 rfl (Nat.le_of_ble_eq_true rfl) ⟨Nat.zero_le _, Nat.zero_le _⟩ h1 (ctX3_applies h) (fun x_17 S_17 h => ?_)
      refine x_if_eq (tgt := 25) dX3_barAny_20 (by decide) (fun c => ?_) (fun c => ?_)
      · replace h := h.1 c
        obtain ⟨v4_25, hv4_25⟩ : ∃ y : Int32, y = v4 + 1 := ⟨_, rfl⟩
        replace h := h v4_25 hv4_25
        refine x_iinc (v := v4_25) dX3_barAny_25 rfl (by rw [hv4_25]; rfl) (by decide) rfl ?_
        refine x_goto (tgt := 3) dX3_barAny_28 (by decide) ?_
        refine x_lv (lv' := [(0, aA v0), (1, aI v1), (2, aJ v2), (4, aI v4_25)]) ⟨rfl, rfl, rfl, rfl, trivial⟩ ?_
        exact hK3 _ _ _ _ _ h
      · replace h := h.2 c
        refine x_iconst (v := 1) dX3_barAny_23 (by decide) ?_
        exact x_zret hQ rfl dX3_barAny_24 ⟨Or.inr rfl, _, rfl, h⟩
set_option maxRecDepth 100000 in
set_option maxHeartbeats 4000000 in
theorem ctX3_barAny {G : Launch × va_G × (Nat → ClassId) × Nat} {v0 : Nat} {v1 : Int32} {v2 : Int64} {S : hs} {Post : Int32 → hs → Prop} (h : PX3_barAny v0 v1 v2 S Post) : ctN G mX3_barAny [aA v0, aI v1, aJ v2] S (pI Post) := by
  refine ctN.of (by decide) (Nat.le_of_ble_eq_true rfl) (fun E ad hG hQ => ?_)
  subst hG
  unfold PX3_barAny at h
  refine x_iconst (v := 0) dX3_barAny_0 (by decide) ?_
  refine x_istore dX3_barAny_1 (by decide) rfl ?_
  refine x_lv (lv' := [(0, aA v0), (1, aI v1), (2, aJ v2), (4, aI 0)]) ⟨rfl, rfl, rfl, rfl, trivial⟩ ?_
  obtain ⟨n, h⟩ := h
  exact xX3_barAny_3 hQ  n _ _ _ _ _ h
set_option maxRecDepth 100000 in
set_option maxHeartbeats 4000000 in
theorem xX4_greatestDivisor_44 {E : en} {ad : Nat → Nat} {Post : Int64 → hs → Prop} (hQ : isQ E ad (pJ Post))   (v4 : Int64) (S : hs) (h : PX4_greatestDivisor_44 Post  v4 S) : X E mX4_greatestDivisor 0 0 ad S 44 [(4, aJ v4)] [] := by
  unfold PX4_greatestDivisor_44 at h
  refine x_lload dX4_greatestDivisor_44 rfl ?_
  exact x_lret hQ rfl dX4_greatestDivisor_46 ⟨_, rfl, h⟩
set_option maxRecDepth 100000 in
set_option maxHeartbeats 4000000 in
theorem xX4_greatestDivisor_9 {E : en} {ad : Nat → Nat} {Post : Int64 → hs → Prop} (hQ : isQ E ad (pJ Post))   : ∀ (n : Nat) (v4 : Int64) (v6 : Int64) (v8 : Int32) (S : hs) (_ : PX4_greatestDivisor_9 Post  n v4 v6 v8 S), X E mX4_greatestDivisor 0 0 ad S 9 [(4, aJ v4), (6, aJ v6), (8, aI v8)] [] := by
  intro n
  induction n with
  | zero => intro v4 v6 v8 S h; exact h.elim
  | succ n ih =>
    intro v4 v6 v8 S h
    have hK9 := ih
    simp only [PX4_greatestDivisor_9] at h
    refine x_iload dX4_greatestDivisor_9 rfl ?_
    refine x_bipush (v := 100) dX4_greatestDivisor_11 (by decide) ?_
    refine x_icmp_ge (tgt := 44) dX4_greatestDivisor_13 (by decide) (fun c => ?_) (fun c => ?_)
    · replace h := h.1 c
      refine x_lv (lv' := [(4, aJ v4)]) ⟨rfl, trivial⟩ ?_
      exact xX4_greatestDivisor_44 hQ  _ _ h
    · replace h := h.2 c
      refine x_lload dX4_greatestDivisor_16 rfl ?_
      refine x_lconst (v := 0) dX4_greatestDivisor_18 (by decide) ?_
      refine x_lcmp_eq (tgt := 44) dX4_greatestDivisor_19 dX4_greatestDivisor_20 (by decide) (fun c => ?_) (fun c => ?_)
      · replace h := h.1 c
        refine x_lv (lv' := [(4, aJ v4)]) ⟨rfl, trivial⟩ ?_
        exact xX4_greatestDivisor_44 hQ  _ _ h
      · replace h := h.2 c
        refine x_lload dX4_greatestDivisor_23 rfl ?_
        refine x_lload dX4_greatestDivisor_25 rfl ?_
        refine x_lrem dX4_greatestDivisor_27 h.1 ?_
        replace h := h.2
        refine x_nJ (fun v9_28 hv9_28 => ?_)
        replace h := h v9_28 hv9_28
        refine x_lstore dX4_greatestDivisor_28 (by decide) rfl ?_
        refine x_lload dX4_greatestDivisor_30 rfl ?_
        refine x_lstore dX4_greatestDivisor_32 (by decide) rfl ?_
        refine x_lload dX4_greatestDivisor_34 rfl ?_
        refine x_lstore dX4_greatestDivisor_36 (by decide) rfl ?_
        obtain ⟨v8_38, hv8_38⟩ : ∃ y : Int32, y = v8 + 1 := ⟨_, rfl⟩
        replace h := h v8_38 hv8_38
        refine x_iinc (v := v8_38) dX4_greatestDivisor_38 rfl (by rw [hv8_38]; rfl) (by decide) rfl ?_
        refine x_goto (tgt := 9) dX4_greatestDivisor_41 (by decide) ?_
        refine x_lv (lv' := [(4, aJ v6), (6, aJ v9_28), (8, aI v8_38)]) ⟨rfl, rfl, rfl, trivial⟩ ?_
        exact hK9 _ _ _ _ h
set_option maxRecDepth 100000 in
set_option maxHeartbeats 4000000 in
theorem ctX4_greatestDivisor {G : Launch × va_G × (Nat → ClassId) × Nat} {v0 : Int64} {v2 : Int64} {S : hs} {Post : Int64 → hs → Prop} (h : PX4_greatestDivisor v0 v2 S Post) : ctN G mX4_greatestDivisor [aJ v0, aJ v2] S (pJ Post) := by
  refine ctN.of (by decide) (Nat.le_of_ble_eq_true rfl) (fun E ad hG hQ => ?_)
  subst hG
  unfold PX4_greatestDivisor at h
  refine x_lload_n dX4_greatestDivisor_0 rfl ?_
  refine x_lstore dX4_greatestDivisor_1 (by decide) rfl ?_
  refine x_lload_n dX4_greatestDivisor_3 rfl ?_
  refine x_lstore dX4_greatestDivisor_4 (by decide) rfl ?_
  refine x_iconst (v := 0) dX4_greatestDivisor_6 (by decide) ?_
  refine x_istore dX4_greatestDivisor_7 (by decide) rfl ?_
  refine x_lv (lv' := [(4, aJ v2), (6, aJ v0), (8, aI 0)]) ⟨rfl, rfl, rfl, trivial⟩ ?_
  obtain ⟨n, h⟩ := h
  exact xX4_greatestDivisor_9 hQ  n _ _ _ _ h
set_option maxRecDepth 100000 in
set_option maxHeartbeats 4000000 in
theorem xX4_isShare_23 {E : en} {ad : Nat → Nat} {Post : Int32 → hs → Prop} (hQ : isQ E ad (pI Post))   (s0 : Int32) (S : hs) (h : PX4_isShare_23 Post  s0 S) : X E mX4_isShare 0 0 ad S 23 [] [aI s0] := by
  unfold PX4_isShare_23 at h
  exact x_zret hQ rfl dX4_isShare_23 ⟨h.1, _, rfl, h.2⟩
set_option maxRecDepth 100000 in
set_option maxHeartbeats 4000000 in
theorem xX4_isShare_22 {E : en} {ad : Nat → Nat} {Post : Int32 → hs → Prop} (hQ : isQ E ad (pI Post))    (S : hs) (h : PX4_isShare_22 Post   S) : X E mX4_isShare 0 0 ad S 22 [] [] := by
  unfold PX4_isShare_22 at h
  refine x_iconst (v := 0) dX4_isShare_22 (by decide) ?_
  refine x_lv (lv' := []) trivial ?_
  exact xX4_isShare_23 hQ  _ _ h
set_option maxRecDepth 100000 in
set_option maxHeartbeats 4000000 in
theorem ctX4_isShare {G : Launch × va_G × (Nat → ClassId) × Nat} {v0 : Int64} {v2 : Int64} {S : hs} {Post : Int32 → hs → Prop} (h : PX4_isShare v0 v2 S Post) : ctN G mX4_isShare [aJ v0, aJ v2] S (pI Post) := by
  refine ctN.of (by decide) (Nat.le_of_ble_eq_true rfl) (fun E ad hG hQ => ?_)
  subst hG
  unfold PX4_isShare at h
  refine x_lload_n dX4_isShare_0 rfl ?_
  refine x_lconst (v := 0) dX4_isShare_1 (by decide) ?_
  refine x_lcmp_le (tgt := 22) dX4_isShare_2 dX4_isShare_3 (by decide) (fun c => ?_) (fun c => ?_)
  · replace h := h.1 c
    refine x_lv (lv' := []) trivial ?_
    exact xX4_isShare_22 hQ   _ h
  · replace h := h.2 c
    refine x_lload_n dX4_isShare_6 rfl ?_
    refine x_lconst (v := 0) dX4_isShare_7 (by decide) ?_
    refine x_lcmp_lt (tgt := 22) dX4_isShare_8 dX4_isShare_9 (by decide) (fun c => ?_) (fun c => ?_)
    · replace h := h.1 c
      refine x_lv (lv' := []) trivial ?_
      exact xX4_isShare_22 hQ   _ h
    · replace h := h.2 c
      refine x_lload_n dX4_isShare_12 rfl ?_
      refine x_lload_n dX4_isShare_13 rfl ?_
      refine x_lcmp_gt (tgt := 22) dX4_isShare_14 dX4_isShare_15 (by decide) (fun c => ?_) (fun c => ?_)
      · replace h := h.1 c
        refine x_lv (lv' := []) trivial ?_
        exact xX4_isShare_22 hQ   _ h
      · replace h := h.2 c
        refine x_iconst (v := 1) dX4_isShare_18 (by decide) ?_
        refine x_goto (tgt := 23) dX4_isShare_19 (by decide) ?_
        refine x_lv (lv' := []) trivial ?_
        exact xX4_isShare_23 hQ  _ _ h
set_option maxRecDepth 100000 in
set_option maxHeartbeats 4000000 in
theorem xX4_addCut_202 {E : en} {ad : Nat → Nat} {Post : hs → Prop} (hQ : isQ E ad (pV Post))   (v0 : Nat) (s0 : Nat) (s1 : Int32) (s2 : Int64) (S : hs) (h : PX4_addCut_202 Post  v0 s0 s1 s2 S) : X E mX4_addCut 0 0 ad S 202 [(0, aA v0)] [aJ s2, aI s1, aA s0] := by
  unfold PX4_addCut_202 at h
  obtain ⟨h1, h⟩ := h
  refine x_last dX4_addCut_202 h1 (x_nS (fun S_202 hS_202 => ?_))
  replace h := h S_202 hS_202
  refine x_aload_n dX4_addCut_203 rfl ?_
  refine x_dupR dX4_addCut_204 ?_
  refine x_g4_2 rfl dX4_addCut_205 h.1 ?_
  replace h := h.2
  refine x_iconst (v := 1) dX4_addCut_208 (by decide) ?_
  refine x_iadd dX4_addCut_209 ?_
  obtain ⟨h1, h⟩ := h
  refine x_p4_2 rfl dX4_addCut_210 h1 (x_nS (fun S_210 hS_210 => ?_))
  replace h := h S_210 hS_210
  exact x_vret hQ rfl dX4_addCut_213 ⟨rfl, h⟩
set_option maxRecDepth 100000 in
set_option maxHeartbeats 4000000 in
theorem xX4_addCut_180 {E : en} {ad : Nat → Nat} {Post : hs → Prop} (hQ : isQ E ad (pV Post))   (v0 : Nat) (v3 : Int64) (v5 : Int32) (v6 : Int64) (s0 : Nat) (s1 : Int32) (s2 : Int64) (S : hs) (h : PX4_addCut_180 Post  v0 v3 v5 v6 s0 s1 s2 S) : X E mX4_addCut 0 0 ad S 180 [(0, aA v0), (3, aJ v3), (5, aI v5), (6, aJ v6)] [aJ s2, aI s1, aA s0] := by
  unfold PX4_addCut_180 at h
  obtain ⟨h1, h⟩ := h
  refine x_last dX4_addCut_180 h1 (x_nS (fun S_180 hS_180 => ?_))
  replace h := h S_180 hS_180
  refine x_aload_n dX4_addCut_181 rfl ?_
  obtain ⟨h1, r_182, hr_182, h⟩ := h
  refine x_g4_1 rfl dX4_addCut_182 h1 (x_un hr_182 ?_)
  refine x_iload dX4_addCut_185 rfl ?_
  refine x_lload dX4_addCut_187 rfl ?_
  refine x_lconst (v := 0) dX4_addCut_189 (by decide) ?_
  refine x_lcmp_le (tgt := 201) dX4_addCut_190 dX4_addCut_191 (by decide) (fun c => ?_) (fun c => ?_)
  · replace h := h.1 c
    refine x_lload_n dX4_addCut_201 rfl ?_
    refine x_lv (lv' := [(0, aA v0)]) ⟨rfl, trivial⟩ ?_
    exact xX4_addCut_202 hQ  _ _ _ _ _ h
  · replace h := h.2 c
    refine x_lload_n dX4_addCut_194 rfl ?_
    refine x_lload dX4_addCut_195 rfl ?_
    refine x_ldiv dX4_addCut_197 h.1 ?_
    replace h := h.2
    refine x_goto (tgt := 202) dX4_addCut_198 (by decide) ?_
    refine x_lv (lv' := [(0, aA v0)]) ⟨rfl, trivial⟩ ?_
    exact xX4_addCut_202 hQ  _ _ _ _ _ h
set_option maxRecDepth 100000 in
set_option maxHeartbeats 4000000 in
theorem xX4_addCut_107 {E : en} {ad : Nat → Nat} {Post : hs → Prop} (hQ : isQ E ad (pV Post))   : ∀ (n : Nat) (v0 : Nat) (v1 : Int64) (v3 : Int64) (v5 : Int32) (v6 : Int32) (S : hs) (_ : PX4_addCut_107 Post  n v0 v1 v3 v5 v6 S), X E mX4_addCut 0 0 ad S 107 [(0, aA v0), (1, aJ v1), (3, aJ v3), (5, aI v5), (6, aI v6)] [] := by
  intro n
  induction n with
  | zero => intro v0 v1 v3 v5 v6 S h; exact h.elim
  | succ n ih =>
    intro v0 v1 v3 v5 v6 S h
    have hK107 := ih
    simp only [PX4_addCut_107] at h
    refine x_iload dX4_addCut_107 rfl ?_
    refine x_iload dX4_addCut_109 rfl ?_
    refine x_icmp_le (tgt := 152) dX4_addCut_111 (by decide) (fun c => ?_) (fun c => ?_)
    · replace h := h.1 c
      refine x_lload_n dX4_addCut_152 rfl ?_
      refine x_lload_n dX4_addCut_153 rfl ?_
      refine x_callSJ (As := [aJ v1, aJ v3]) (st := []) kX4_100 rfl ⟨rfl, rfl, by decide, by decide⟩ dX4_addCut_154 rfl (Nat.le_of_ble_eq_true rfl) ⟨Nat.zero_le _, Nat.zero_le _⟩ (ctX4_greatestDivisor h) (fun x_154 S_154 h => ?_)
      refine x_lstore dX4_addCut_157 (by decide) rfl ?_
      refine x_aload_n dX4_addCut_159 rfl ?_
      obtain ⟨h1, r_160, hr_160, h⟩ := h
      refine x_g4_0 rfl dX4_addCut_160 h1 (x_un hr_160 ?_)
      refine x_iload dX4_addCut_163 rfl ?_
      refine x_lload dX4_addCut_165 rfl ?_
      refine x_lconst (v := 0) dX4_addCut_167 (by decide) ?_
      refine x_lcmp_le (tgt := 179) dX4_addCut_168 dX4_addCut_169 (by decide) (fun c => ?_) (fun c => ?_)
      · replace h := h.1 c
        refine x_lload_n dX4_addCut_179 rfl ?_
        refine x_lv (lv' := [(0, aA v0), (3, aJ v3), (5, aI v5), (6, aJ x_154)]) ⟨rfl, rfl, rfl, rfl, trivial⟩ ?_
        exact xX4_addCut_180 hQ  _ _ _ _ _ _ _ _ h
      · replace h := h.2 c
        refine x_lload_n dX4_addCut_172 rfl ?_
        refine x_lload dX4_addCut_173 rfl ?_
        refine x_ldiv dX4_addCut_175 h.1 ?_
        replace h := h.2
        refine x_goto (tgt := 180) dX4_addCut_176 (by decide) ?_
        refine x_lv (lv' := [(0, aA v0), (3, aJ v3), (5, aI v5), (6, aJ x_154)]) ⟨rfl, rfl, rfl, rfl, trivial⟩ ?_
        exact xX4_addCut_180 hQ  _ _ _ _ _ _ _ _ h
    · replace h := h.2 c
      refine x_aload_n dX4_addCut_114 rfl ?_
      obtain ⟨h1, r_115, hr_115, h⟩ := h
      refine x_g4_0 rfl dX4_addCut_115 h1 (x_un hr_115 ?_)
      refine x_iload dX4_addCut_118 rfl ?_
      refine x_aload_n dX4_addCut_120 rfl ?_
      obtain ⟨h1, r_121, hr_121, h⟩ := h
      refine x_g4_0 rfl dX4_addCut_121 h1 (x_un hr_121 ?_)
      refine x_iload dX4_addCut_124 rfl ?_
      refine x_iconst (v := 1) dX4_addCut_126 (by decide) ?_
      refine x_isub dX4_addCut_127 ?_
      refine x_lald dX4_addCut_128 h.1 ?_
      replace h := h.2
      obtain ⟨h1, h⟩ := h
      refine x_last dX4_addCut_129 h1 (x_nS (fun S_129 hS_129 => ?_))
      replace h := h S_129 hS_129
      refine x_aload_n dX4_addCut_130 rfl ?_
      obtain ⟨h1, r_131, hr_131, h⟩ := h
      refine x_g4_1 rfl dX4_addCut_131 h1 (x_un hr_131 ?_)
      refine x_iload dX4_addCut_134 rfl ?_
      refine x_aload_n dX4_addCut_136 rfl ?_
      obtain ⟨h1, r_137, hr_137, h⟩ := h
      refine x_g4_1 rfl dX4_addCut_137 h1 (x_un hr_137 ?_)
      refine x_iload dX4_addCut_140 rfl ?_
      refine x_iconst (v := 1) dX4_addCut_142 (by decide) ?_
      refine x_isub dX4_addCut_143 ?_
      refine x_lald dX4_addCut_144 h.1 ?_
      replace h := h.2
      obtain ⟨h1, h⟩ := h
      refine x_last dX4_addCut_145 h1 (x_nS (fun S_145 hS_145 => ?_))
      replace h := h S_145 hS_145
      obtain ⟨v6_146, hv6_146⟩ : ∃ y : Int32, y = v6 + (-1) := ⟨_, rfl⟩
      replace h := h v6_146 hv6_146
      refine x_iinc (v := v6_146) dX4_addCut_146 rfl (by rw [hv6_146]; rfl) (by decide) rfl ?_
      refine x_goto (tgt := 107) dX4_addCut_149 (by decide) ?_
      refine x_lv (lv' := [(0, aA v0), (1, aJ v1), (3, aJ v3), (5, aI v5), (6, aI v6_146)]) ⟨rfl, rfl, rfl, rfl, rfl, trivial⟩ ?_
      exact hK107 _ _ _ _ _ _ h
set_option maxRecDepth 100000 in
set_option maxHeartbeats 4000000 in
theorem xX4_addCut_101 {E : en} {ad : Nat → Nat} {Post : hs → Prop} (hQ : isQ E ad (pV Post))   (v0 : Nat) (v1 : Int64) (v3 : Int64) (v5 : Int32) (S : hs) (h : PX4_addCut_101 Post  v0 v1 v3 v5 S) : X E mX4_addCut 0 0 ad S 101 [(0, aA v0), (1, aJ v1), (3, aJ v3), (5, aI v5)] [] := by
  unfold PX4_addCut_101 at h
  refine x_aload_n dX4_addCut_101 rfl ?_
  refine x_g4_2 rfl dX4_addCut_102 h.1 ?_
  replace h := h.2
  refine x_nI (fun v6_105 hv6_105 => ?_)
  replace h := h v6_105 hv6_105
  refine x_istore dX4_addCut_105 (by decide) rfl ?_
  refine x_lv (lv' := [(0, aA v0), (1, aJ v1), (3, aJ v3), (5, aI v5), (6, aI v6_105)]) ⟨rfl, rfl, rfl, rfl, rfl, trivial⟩ ?_
  obtain ⟨n, h⟩ := h
  exact xX4_addCut_107 hQ  n _ _ _ _ _ _ h
set_option maxRecDepth 100000 in
set_option maxHeartbeats 4000000 in
theorem xX4_addCut_69 {E : en} {ad : Nat → Nat} {Post : hs → Prop} (hQ : isQ E ad (pV Post))   (v0 : Nat) (v1 : Int64) (v3 : Int64) (v5 : Int32) (S : hs) (h : PX4_addCut_69 Post  v0 v1 v3 v5 S) : X E mX4_addCut 0 0 ad S 69 [(0, aA v0), (1, aJ v1), (3, aJ v3), (5, aI v5)] [] := by
  unfold PX4_addCut_69 at h
  refine x_iload dX4_addCut_69 rfl ?_
  refine x_aload_n dX4_addCut_71 rfl ?_
  refine x_g4_2 rfl dX4_addCut_72 h.1 ?_
  replace h := h.2
  refine x_icmp_ge (tgt := 101) dX4_addCut_75 (by decide) (fun c => ?_) (fun c => ?_)
  · replace h := h.1 c
    refine x_lv (lv' := [(0, aA v0), (1, aJ v1), (3, aJ v3), (5, aI v5)]) ⟨rfl, rfl, rfl, rfl, trivial⟩ ?_
    exact xX4_addCut_101 hQ  _ _ _ _ _ h
  · replace h := h.2 c
    refine x_lload_n dX4_addCut_78 rfl ?_
    refine x_aload_n dX4_addCut_79 rfl ?_
    obtain ⟨h1, r_80, hr_80, h⟩ := h
    refine x_g4_1 rfl dX4_addCut_80 h1 (x_un hr_80 ?_)
    refine x_iload dX4_addCut_83 rfl ?_
    refine x_lald dX4_addCut_85 h.1 ?_
    replace h := h.2
    refine x_lmul dX4_addCut_86 ?_
    refine x_aload_n dX4_addCut_87 rfl ?_
    obtain ⟨h1, r_88, hr_88, h⟩ := h
    refine x_g4_0 rfl dX4_addCut_88 h1 (x_un hr_88 ?_)
    refine x_iload dX4_addCut_91 rfl ?_
    refine x_lald dX4_addCut_93 h.1 ?_
    replace h := h.2
    refine x_lload_n dX4_addCut_94 rfl ?_
    refine x_lmul dX4_addCut_95 ?_
    refine x_lcmp_ne (tgt := 101) dX4_addCut_96 dX4_addCut_97 (by decide) (fun c => ?_) (fun c => ?_)
    · replace h := h.2 c
      refine x_lv (lv' := [(0, aA v0), (1, aJ v1), (3, aJ v3), (5, aI v5)]) ⟨rfl, rfl, rfl, rfl, trivial⟩ ?_
      exact xX4_addCut_101 hQ  _ _ _ _ _ h
    · replace h := h.1 c
      exact x_vret hQ rfl dX4_addCut_100 ⟨rfl, h⟩
set_option maxRecDepth 100000 in
set_option maxHeartbeats 4000000 in
theorem xX4_addCut_32 {E : en} {ad : Nat → Nat} {Post : hs → Prop} (hQ : isQ E ad (pV Post))   : ∀ (n : Nat) (v0 : Nat) (v1 : Int64) (v3 : Int64) (v5 : Int32) (v6 : Int32) (S : hs) (_ : PX4_addCut_32 Post  n v0 v1 v3 v5 v6 S), X E mX4_addCut 0 0 ad S 32 [(0, aA v0), (1, aJ v1), (3, aJ v3), (5, aI v5), (6, aI v6)] [] := by
  intro n
  induction n with
  | zero => intro v0 v1 v3 v5 v6 S h; exact h.elim
  | succ n ih =>
    intro v0 v1 v3 v5 v6 S h
    have hK32 := ih
    simp only [PX4_addCut_32] at h
    refine x_iload dX4_addCut_32 rfl ?_
    refine x_if_lt (tgt := 69) dX4_addCut_34 (by decide) (fun c => ?_) (fun c => ?_)
    · replace h := h.1 c
      refine x_lv (lv' := [(0, aA v0), (1, aJ v1), (3, aJ v3), (5, aI v5)]) ⟨rfl, rfl, rfl, rfl, trivial⟩ ?_
      exact xX4_addCut_69 hQ  _ _ _ _ _ h
    · replace h := h.2 c
      refine x_lload_n dX4_addCut_37 rfl ?_
      refine x_aload_n dX4_addCut_38 rfl ?_
      obtain ⟨h1, r_39, hr_39, h⟩ := h
      refine x_g4_1 rfl dX4_addCut_39 h1 (x_un hr_39 ?_)
      refine x_iload dX4_addCut_42 rfl ?_
      refine x_lald dX4_addCut_44 h.1 ?_
      replace h := h.2
      refine x_lmul dX4_addCut_45 ?_
      refine x_aload_n dX4_addCut_46 rfl ?_
      obtain ⟨h1, r_47, hr_47, h⟩ := h
      refine x_g4_0 rfl dX4_addCut_47 h1 (x_un hr_47 ?_)
      refine x_iload dX4_addCut_50 rfl ?_
      refine x_lald dX4_addCut_52 h.1 ?_
      replace h := h.2
      refine x_lload_n dX4_addCut_53 rfl ?_
      refine x_lmul dX4_addCut_54 ?_
      refine x_lcmp_gt (tgt := 69) dX4_addCut_55 dX4_addCut_56 (by decide) (fun c => ?_) (fun c => ?_)
      · replace h := h.1 c
        refine x_lv (lv' := [(0, aA v0), (1, aJ v1), (3, aJ v3), (5, aI v5)]) ⟨rfl, rfl, rfl, rfl, trivial⟩ ?_
        exact xX4_addCut_69 hQ  _ _ _ _ _ h
      · replace h := h.2 c
        refine x_iload dX4_addCut_59 rfl ?_
        refine x_istore dX4_addCut_61 (by decide) rfl ?_
        obtain ⟨v6_63, hv6_63⟩ : ∃ y : Int32, y = v6 + (-1) := ⟨_, rfl⟩
        replace h := h v6_63 hv6_63
        refine x_iinc (v := v6_63) dX4_addCut_63 rfl (by rw [hv6_63]; rfl) (by decide) rfl ?_
        refine x_goto (tgt := 32) dX4_addCut_66 (by decide) ?_
        refine x_lv (lv' := [(0, aA v0), (1, aJ v1), (3, aJ v3), (5, aI v6), (6, aI v6_63)]) ⟨rfl, rfl, rfl, rfl, rfl, trivial⟩ ?_
        exact hK32 _ _ _ _ _ _ h
set_option maxRecDepth 100000 in
set_option maxHeartbeats 4000000 in
theorem xX4_addCut_17 {E : en} {ad : Nat → Nat} {Post : hs → Prop} (hQ : isQ E ad (pV Post))    (S : hs) (h : PX4_addCut_17 Post   S) : X E mX4_addCut 0 0 ad S 17 [] [] := by
  unfold PX4_addCut_17 at h
  exact x_vret hQ rfl dX4_addCut_17 ⟨rfl, h⟩
set_option maxRecDepth 100000 in
set_option maxHeartbeats 4000000 in
theorem ctX4_addCut {G : Launch × va_G × (Nat → ClassId) × Nat} {v0 : Nat} {v1 : Int64} {v3 : Int64} {S : hs} {Post : hs → Prop} (h : PX4_addCut v0 v1 v3 S Post) : ctN G mX4_addCut [aA v0, aJ v1, aJ v3] S (pV Post) := by
  refine ctN.of (by decide) (Nat.le_of_ble_eq_true rfl) (fun E ad hG hQ => ?_)
  subst hG
  unfold PX4_addCut at h
  refine x_lload_n dX4_addCut_0 rfl ?_
  refine x_lload_n dX4_addCut_1 rfl ?_
  refine x_callSI (As := [aJ v1, aJ v3]) (st := []) kX4_96 rfl ⟨rfl, rfl, by decide, by decide⟩ dX4_addCut_2 rfl (Nat.le_of_ble_eq_true rfl) ⟨Nat.zero_le _, Nat.zero_le _⟩ (ctX4_isShare h) (fun x_2 S_2 h => ?_)
  refine x_if_eq (tgt := 17) dX4_addCut_5 (by decide) (fun c => ?_) (fun c => ?_)
  · replace h := h.1 c
    refine x_lv (lv' := []) trivial ?_
    exact xX4_addCut_17 hQ   _ h
  · replace h := h.2 c
    refine x_aload_n dX4_addCut_8 rfl ?_
    refine x_g4_2 rfl dX4_addCut_9 h.1 ?_
    replace h := h.2
    refine x_bipush (v := 50) dX4_addCut_12 (by decide) ?_
    refine x_icmp_lt (tgt := 18) dX4_addCut_14 (by decide) (fun c => ?_) (fun c => ?_)
    · replace h := h.1 c
      refine x_aload_n dX4_addCut_18 rfl ?_
      refine x_g4_2 rfl dX4_addCut_19 h.1 ?_
      replace h := h.2
      refine x_nI (fun v5_22 hv5_22 => ?_)
      replace h := h v5_22 hv5_22
      refine x_istore dX4_addCut_22 (by decide) rfl ?_
      refine x_aload_n dX4_addCut_24 rfl ?_
      refine x_g4_2 rfl dX4_addCut_25 h.1 ?_
      replace h := h.2
      refine x_iconst (v := 1) dX4_addCut_28 (by decide) ?_
      refine x_isub dX4_addCut_29 ?_
      refine x_nI (fun v6_30 hv6_30 => ?_)
      replace h := h v6_30 hv6_30
      refine x_istore dX4_addCut_30 (by decide) rfl ?_
      refine x_lv (lv' := [(0, aA v0), (1, aJ v1), (3, aJ v3), (5, aI v5_22), (6, aI v6_30)]) ⟨rfl, rfl, rfl, rfl, rfl, trivial⟩ ?_
      obtain ⟨n, h⟩ := h
      exact xX4_addCut_32 hQ  n _ _ _ _ _ _ h
    · replace h := h.2 c
      refine x_lv (lv' := []) trivial ?_
      exact xX4_addCut_17 hQ   _ h
set_option maxRecDepth 100000 in
set_option maxHeartbeats 4000000 in
theorem xX4_cutAtSide_153 {E : en} {ad : Nat → Nat} {Post : hs → Prop} (hQ : isQ E ad (pV Post))    (S : hs) (h : PX4_cutAtSide_153 Post   S) : X E mX4_cutAtSide 0 0 ad S 153 [] [] := by
  unfold PX4_cutAtSide_153 at h
  exact x_vret hQ rfl dX4_cutAtSide_153 ⟨rfl, h⟩
set_option maxRecDepth 100000 in
set_option maxHeartbeats 4000000 in
theorem xX4_cutAtSide_121 {E : en} {ad : Nat → Nat} {Post : hs → Prop} (hQ : isQ E ad (pV Post))   (v0 : Nat) (v12 : Int64) (v14 : Int64) (v16 : Int64) (s0 : Int64) (S : hs) (h : PX4_cutAtSide_121 Post  v0 v12 v14 v16 s0 S) : X E mX4_cutAtSide 0 0 ad S 121 [(0, aA v0), (12, aJ v12), (14, aJ v14), (16, aJ v16)] [aJ s0] := by
  unfold PX4_cutAtSide_121 at h
  refine x_lstore dX4_cutAtSide_121 (by decide) rfl ?_
  refine x_lload dX4_cutAtSide_123 rfl ?_
  refine x_lload dX4_cutAtSide_125 rfl ?_
  refine x_lmul dX4_cutAtSide_127 ?_
  refine x_lload dX4_cutAtSide_128 rfl ?_
  refine x_lload dX4_cutAtSide_130 rfl ?_
  refine x_lmul dX4_cutAtSide_132 ?_
  refine x_callSI (As := [aJ (v16 * s0), aJ (v12 * s0)]) (st := []) kX4_96 rfl ⟨rfl, rfl, by decide, by decide⟩ dX4_cutAtSide_133 rfl (Nat.le_of_ble_eq_true rfl) ⟨Nat.zero_le _, Nat.zero_le _⟩ (ctX4_isShare h) (fun x_133 S_133 h => ?_)
  refine x_if_eq (tgt := 153) dX4_cutAtSide_136 (by decide) (fun c => ?_) (fun c => ?_)
  · replace h := h.1 c
    refine x_lv (lv' := []) trivial ?_
    exact xX4_cutAtSide_153 hQ   _ h
  · replace h := h.2 c
    refine x_aload_n dX4_cutAtSide_139 rfl ?_
    refine x_lload dX4_cutAtSide_140 rfl ?_
    refine x_lload dX4_cutAtSide_142 rfl ?_
    refine x_lmul dX4_cutAtSide_144 ?_
    refine x_lload dX4_cutAtSide_145 rfl ?_
    refine x_lload dX4_cutAtSide_147 rfl ?_
    refine x_lmul dX4_cutAtSide_149 ?_
    obtain ⟨h1, h⟩ := h
    refine x_callVV (As := [aJ (v14 * s0), aJ (v12 * s0)]) (st := []) kX4_71 rfl ⟨rfl, rfl, by decide, by decide⟩ dX4_cutAtSide_150 rfl (Nat.le_of_ble_eq_true rfl) ⟨Nat.zero_le _, Nat.zero_le _⟩ h1 (ctX4_addCut h) (fun S_150 h => ?_)
    refine x_lv (lv' := []) trivial ?_
    exact xX4_cutAtSide_153 hQ   _ h
set_option maxRecDepth 100000 in
set_option maxHeartbeats 4000000 in
theorem ctX4_cutAtSide {G : Launch × va_G × (Nat → ClassId) × Nat} {v0 : Nat} {v1 : Nat} {v2 : Int32} {S : hs} {Post : hs → Prop} (h : PX4_cutAtSide v0 v1 v2 S Post) : ctN G mX4_cutAtSide [aA v0, aA v1, aI v2] S (pV Post) := by
  refine ctN.of (by decide) (Nat.le_of_ble_eq_true rfl) (fun E ad hG hQ => ?_)
  subst hG
  unfold PX4_cutAtSide at h
  refine x_aload_n dX4_cutAtSide_0 rfl ?_
  refine x_iload_n dX4_cutAtSide_1 rfl ?_
  obtain ⟨h1, h⟩ := h
  refine x_callVI (As := [aI v2]) (st := []) kX4_89 rfl ⟨rfl, rfl, by decide, by decide⟩ dX4_cutAtSide_2 rfl (Nat.le_of_ble_eq_true rfl) ⟨Nat.zero_le _, Nat.zero_le _⟩ h1 (ctX2_next h) (fun x_2 S_2 h => ?_)
  refine x_istore_n dX4_cutAtSide_5 (by decide) rfl ?_
  refine x_aload_n dX4_cutAtSide_6 rfl ?_
  refine x_iload_n dX4_cutAtSide_7 rfl ?_
  obtain ⟨h1, h⟩ := h
  refine x_callVI (As := [aI x_2]) (st := []) kX4_92 rfl ⟨rfl, rfl, by decide, by decide⟩ dX4_cutAtSide_8 rfl (Nat.le_of_ble_eq_true rfl) ⟨Nat.zero_le _, Nat.zero_le _⟩ h1 (ctX2_xOf h) (fun x_8 S_8 h => ?_)
  refine x_aload_n dX4_cutAtSide_11 rfl ?_
  refine x_iload_n dX4_cutAtSide_12 rfl ?_
  obtain ⟨h1, h⟩ := h
  refine x_callVI (As := [aI v2]) (st := [aI x_8]) kX4_92 rfl ⟨rfl, rfl, by decide, by decide⟩ dX4_cutAtSide_13 rfl (Nat.le_of_ble_eq_true rfl) ⟨Nat.zero_le _, Nat.zero_le _⟩ h1 (ctX2_xOf h) (fun x_13 S_13 h => ?_)
  refine x_isub dX4_cutAtSide_16 ?_
  refine x_i2l dX4_cutAtSide_17 ?_
  refine x_nJ (fun v4_18 hv4_18 => ?_)
  replace h := h v4_18 hv4_18
  refine x_lstore dX4_cutAtSide_18 (by decide) rfl ?_
  refine x_aload_n dX4_cutAtSide_20 rfl ?_
  refine x_iload_n dX4_cutAtSide_21 rfl ?_
  obtain ⟨h1, h⟩ := h
  refine x_callVI (As := [aI x_2]) (st := []) kX4_93 rfl ⟨rfl, rfl, by decide, by decide⟩ dX4_cutAtSide_22 rfl (Nat.le_of_ble_eq_true rfl) ⟨Nat.zero_le _, Nat.zero_le _⟩ h1 (ctX2_yOf h) (fun x_22 S_22 h => ?_)
  refine x_aload_n dX4_cutAtSide_25 rfl ?_
  refine x_iload_n dX4_cutAtSide_26 rfl ?_
  obtain ⟨h1, h⟩ := h
  refine x_callVI (As := [aI v2]) (st := [aI x_22]) kX4_93 rfl ⟨rfl, rfl, by decide, by decide⟩ dX4_cutAtSide_27 rfl (Nat.le_of_ble_eq_true rfl) ⟨Nat.zero_le _, Nat.zero_le _⟩ h1 (ctX2_yOf h) (fun x_27 S_27 h => ?_)
  refine x_isub dX4_cutAtSide_30 ?_
  refine x_i2l dX4_cutAtSide_31 ?_
  refine x_nJ (fun v6_32 hv6_32 => ?_)
  replace h := h v6_32 hv6_32
  refine x_lstore dX4_cutAtSide_32 (by decide) rfl ?_
  refine x_aload_n dX4_cutAtSide_34 rfl ?_
  refine x_iload_n dX4_cutAtSide_35 rfl ?_
  obtain ⟨h1, h⟩ := h
  refine x_callVI (As := [aI v2]) (st := []) kX4_92 rfl ⟨rfl, rfl, by decide, by decide⟩ dX4_cutAtSide_36 rfl (Nat.le_of_ble_eq_true rfl) ⟨Nat.zero_le _, Nat.zero_le _⟩ h1 (ctX2_xOf h) (fun x_36 S_36 h => ?_)
  refine x_i2l dX4_cutAtSide_39 ?_
  refine x_aload_n dX4_cutAtSide_40 rfl ?_
  refine x_g4_6 rfl dX4_cutAtSide_41 h.1 ?_
  replace h := h.2
  refine x_lsub dX4_cutAtSide_44 ?_
  refine x_nJ (fun v8_45 hv8_45 => ?_)
  replace h := h v8_45 hv8_45
  refine x_lstore dX4_cutAtSide_45 (by decide) rfl ?_
  refine x_aload_n dX4_cutAtSide_47 rfl ?_
  refine x_iload_n dX4_cutAtSide_48 rfl ?_
  obtain ⟨h1, h⟩ := h
  refine x_callVI (As := [aI v2]) (st := []) kX4_93 rfl ⟨rfl, rfl, by decide, by decide⟩ dX4_cutAtSide_49 rfl (Nat.le_of_ble_eq_true rfl) ⟨Nat.zero_le _, Nat.zero_le _⟩ h1 (ctX2_yOf h) (fun x_49 S_49 h => ?_)
  refine x_i2l dX4_cutAtSide_52 ?_
  refine x_aload_n dX4_cutAtSide_53 rfl ?_
  refine x_g4_7 rfl dX4_cutAtSide_54 h.1 ?_
  replace h := h.2
  refine x_lsub dX4_cutAtSide_57 ?_
  refine x_nJ (fun v10_58 hv10_58 => ?_)
  replace h := h v10_58 hv10_58
  refine x_lstore dX4_cutAtSide_58 (by decide) rfl ?_
  refine x_aload_n dX4_cutAtSide_60 rfl ?_
  refine x_g4_8 rfl dX4_cutAtSide_61 h.1 ?_
  replace h := h.2
  refine x_lload dX4_cutAtSide_64 rfl ?_
  refine x_lmul dX4_cutAtSide_66 ?_
  refine x_aload_n dX4_cutAtSide_67 rfl ?_
  refine x_g4_9 rfl dX4_cutAtSide_68 h.1 ?_
  replace h := h.2
  refine x_lload dX4_cutAtSide_71 rfl ?_
  refine x_lmul dX4_cutAtSide_73 ?_
  refine x_lsub dX4_cutAtSide_74 ?_
  refine x_nJ (fun v12_75 hv12_75 => ?_)
  replace h := h v12_75 hv12_75
  refine x_lstore dX4_cutAtSide_75 (by decide) rfl ?_
  refine x_lload dX4_cutAtSide_77 rfl ?_
  refine x_lload dX4_cutAtSide_79 rfl ?_
  refine x_lmul dX4_cutAtSide_81 ?_
  refine x_lload dX4_cutAtSide_82 rfl ?_
  refine x_lload dX4_cutAtSide_84 rfl ?_
  refine x_lmul dX4_cutAtSide_86 ?_
  refine x_lsub dX4_cutAtSide_87 ?_
  refine x_nJ (fun v14_88 hv14_88 => ?_)
  replace h := h v14_88 hv14_88
  refine x_lstore dX4_cutAtSide_88 (by decide) rfl ?_
  refine x_lload dX4_cutAtSide_90 rfl ?_
  refine x_aload_n dX4_cutAtSide_92 rfl ?_
  refine x_g4_9 rfl dX4_cutAtSide_93 h.1 ?_
  replace h := h.2
  refine x_lmul dX4_cutAtSide_96 ?_
  refine x_lload dX4_cutAtSide_97 rfl ?_
  refine x_aload_n dX4_cutAtSide_99 rfl ?_
  refine x_g4_8 rfl dX4_cutAtSide_100 h.1 ?_
  replace h := h.2
  refine x_lmul dX4_cutAtSide_103 ?_
  refine x_lsub dX4_cutAtSide_104 ?_
  refine x_nJ (fun v16_105 hv16_105 => ?_)
  replace h := h v16_105 hv16_105
  refine x_lstore dX4_cutAtSide_105 (by decide) rfl ?_
  refine x_lload dX4_cutAtSide_107 rfl ?_
  refine x_lconst (v := 0) dX4_cutAtSide_109 (by decide) ?_
  refine x_lcmp_ge (tgt := 120) dX4_cutAtSide_110 dX4_cutAtSide_111 (by decide) (fun c => ?_) (fun c => ?_)
  · replace h := h.1 c
    refine x_lconst (v := 1) dX4_cutAtSide_120 (by decide) ?_
    refine x_lv (lv' := [(0, aA v0), (12, aJ v12_75), (14, aJ v14_88), (16, aJ v16_105)]) ⟨rfl, rfl, rfl, rfl, trivial⟩ ?_
    exact xX4_cutAtSide_121 hQ  _ _ _ _ _ _ h
  · replace h := h.2 c
    refine x_ldc2 (v := (-1)) dX4_cutAtSide_114 kcX4_94 ?_
    refine x_goto (tgt := 121) dX4_cutAtSide_117 (by decide) ?_
    refine x_lv (lv' := [(0, aA v0), (12, aJ v12_75), (14, aJ v14_88), (16, aJ v16_105)]) ⟨rfl, rfl, rfl, rfl, trivial⟩ ?_
    exact xX4_cutAtSide_121 hQ  _ _ _ _ _ _ h
set_option maxRecDepth 100000 in
set_option maxHeartbeats 4000000 in
theorem xX5_xOf_22 {E : en} {ad : Nat → Nat} {Post : Int32 → hs → Prop} (hQ : isQ E ad (pI Post))   (s0 : Int32) (S : hs) (h : PX5_xOf_22 Post  s0 S) : X E mX5_xOf 0 0 ad S 22 [] [aI s0] := by
  unfold PX5_xOf_22 at h
  exact x_iret hQ rfl dX5_xOf_22 ⟨_, rfl, h⟩
set_option maxRecDepth 100000 in
set_option maxHeartbeats 4000000 in
theorem xX5_xOf_21 {E : en} {ad : Nat → Nat} {Post : Int32 → hs → Prop} (hQ : isQ E ad (pI Post))    (S : hs) (h : PX5_xOf_21 Post   S) : X E mX5_xOf 0 0 ad S 21 [] [] := by
  unfold PX5_xOf_21 at h
  refine x_iconst (v := 0) dX5_xOf_21 (by decide) ?_
  refine x_lv (lv' := []) trivial ?_
  exact xX5_xOf_22 hQ  _ _ h
set_option maxRecDepth 100000 in
set_option maxHeartbeats 4000000 in
theorem ctX5_xOf {G : Launch × va_G × (Nat → ClassId) × Nat} {v0 : Nat} {v1 : Int32} {S : hs} {Post : Int32 → hs → Prop} (h : PX5_xOf v0 v1 S Post) : ctN G mX5_xOf [aA v0, aI v1] S (pI Post) := by
  refine ctN.of (by decide) (Nat.le_of_ble_eq_true rfl) (fun E ad hG hQ => ?_)
  subst hG
  unfold PX5_xOf at h
  refine x_iload_n dX5_xOf_0 rfl ?_
  refine x_if_lt (tgt := 21) dX5_xOf_1 (by decide) (fun c => ?_) (fun c => ?_)
  · replace h := h.1 c
    refine x_lv (lv' := []) trivial ?_
    exact xX5_xOf_21 hQ   _ h
  · replace h := h.2 c
    refine x_iload_n dX5_xOf_4 rfl ?_
    refine x_aload_n dX5_xOf_5 rfl ?_
    refine x_g5_3 rfl dX5_xOf_6 h.1 ?_
    replace h := h.2
    refine x_icmp_ge (tgt := 21) dX5_xOf_9 (by decide) (fun c => ?_) (fun c => ?_)
    · replace h := h.1 c
      refine x_lv (lv' := []) trivial ?_
      exact xX5_xOf_21 hQ   _ h
    · replace h := h.2 c
      refine x_aload_n dX5_xOf_12 rfl ?_
      obtain ⟨h1, r_13, hr_13, h⟩ := h
      refine x_g5_1 rfl dX5_xOf_13 h1 (x_un hr_13 ?_)
      refine x_iload_n dX5_xOf_16 rfl ?_
      refine x_iald dX5_xOf_17 h.1 ?_
      replace h := h.2
      refine x_goto (tgt := 22) dX5_xOf_18 (by decide) ?_
      refine x_lv (lv' := []) trivial ?_
      exact xX5_xOf_22 hQ  _ _ h
set_option maxRecDepth 100000 in
set_option maxHeartbeats 4000000 in
theorem xX5_yOf_22 {E : en} {ad : Nat → Nat} {Post : Int32 → hs → Prop} (hQ : isQ E ad (pI Post))   (s0 : Int32) (S : hs) (h : PX5_yOf_22 Post  s0 S) : X E mX5_yOf 0 0 ad S 22 [] [aI s0] := by
  unfold PX5_yOf_22 at h
  exact x_iret hQ rfl dX5_yOf_22 ⟨_, rfl, h⟩
set_option maxRecDepth 100000 in
set_option maxHeartbeats 4000000 in
theorem xX5_yOf_21 {E : en} {ad : Nat → Nat} {Post : Int32 → hs → Prop} (hQ : isQ E ad (pI Post))    (S : hs) (h : PX5_yOf_21 Post   S) : X E mX5_yOf 0 0 ad S 21 [] [] := by
  unfold PX5_yOf_21 at h
  refine x_iconst (v := 0) dX5_yOf_21 (by decide) ?_
  refine x_lv (lv' := []) trivial ?_
  exact xX5_yOf_22 hQ  _ _ h
set_option maxRecDepth 100000 in
set_option maxHeartbeats 4000000 in
theorem ctX5_yOf {G : Launch × va_G × (Nat → ClassId) × Nat} {v0 : Nat} {v1 : Int32} {S : hs} {Post : Int32 → hs → Prop} (h : PX5_yOf v0 v1 S Post) : ctN G mX5_yOf [aA v0, aI v1] S (pI Post) := by
  refine ctN.of (by decide) (Nat.le_of_ble_eq_true rfl) (fun E ad hG hQ => ?_)
  subst hG
  unfold PX5_yOf at h
  refine x_iload_n dX5_yOf_0 rfl ?_
  refine x_if_lt (tgt := 21) dX5_yOf_1 (by decide) (fun c => ?_) (fun c => ?_)
  · replace h := h.1 c
    refine x_lv (lv' := []) trivial ?_
    exact xX5_yOf_21 hQ   _ h
  · replace h := h.2 c
    refine x_iload_n dX5_yOf_4 rfl ?_
    refine x_aload_n dX5_yOf_5 rfl ?_
    refine x_g5_3 rfl dX5_yOf_6 h.1 ?_
    replace h := h.2
    refine x_icmp_ge (tgt := 21) dX5_yOf_9 (by decide) (fun c => ?_) (fun c => ?_)
    · replace h := h.1 c
      refine x_lv (lv' := []) trivial ?_
      exact xX5_yOf_21 hQ   _ h
    · replace h := h.2 c
      refine x_aload_n dX5_yOf_12 rfl ?_
      obtain ⟨h1, r_13, hr_13, h⟩ := h
      refine x_g5_2 rfl dX5_yOf_13 h1 (x_un hr_13 ?_)
      refine x_iload_n dX5_yOf_16 rfl ?_
      refine x_iald dX5_yOf_17 h.1 ?_
      replace h := h.2
      refine x_goto (tgt := 22) dX5_yOf_18 (by decide) ?_
      refine x_lv (lv' := []) trivial ?_
      exact xX5_yOf_22 hQ  _ _ h
set_option maxRecDepth 100000 in
set_option maxHeartbeats 4000000 in
theorem xX4_cutPiece_94 {E : en} {ad : Nat → Nat} {Post : hs → Prop} (hQ : isQ E ad (pV Post)) {K74 : Nat → Nat → Int32 → hs → Prop} (hK74 : ∀ (v0 : Nat) (v1 : Nat) (v4 : Int32) (S : hs), K74 v0 v1 v4 S → X E mX4_cutPiece 0 0 ad S 74 [(0, aA v0), (1, aA v1), (4, aI v4)] []) : ∀ (n : Nat) (v0 : Nat) (v1 : Nat) (v4 : Int32) (v5 : Nat) (v6 : Int32) (S : hs) (_ : PX4_cutPiece_94 Post K74 n v0 v1 v4 v5 v6 S), X E mX4_cutPiece 0 0 ad S 94 [(0, aA v0), (1, aA v1), (4, aI v4), (5, aA v5), (6, aI v6)] [] := by
  intro n
  induction n with
  | zero => intro v0 v1 v4 v5 v6 S h; exact h.elim
  | succ n ih =>
    intro v0 v1 v4 v5 v6 S h
    have hK94 := ih
    simp only [PX4_cutPiece_94] at h
    refine x_iload dX4_cutPiece_94 rfl ?_
    refine x_aload dX4_cutPiece_96 rfl ?_
    obtain ⟨h1, h⟩ := h
    refine x_callVI (As := []) (st := [aI v6]) kX4_83 rfl ⟨rfl, rfl, by decide, by decide⟩ dX4_cutPiece_98 rfl (Nat.le_of_ble_eq_true rfl) ⟨Nat.zero_le _, Nat.zero_le _⟩ h1 (ctX2_size h) (fun x_98 S_98 h => ?_)
    refine x_icmp_ge (tgt := 118) dX4_cutPiece_101 (by decide) (fun c => ?_) (fun c => ?_)
    · replace h := h.1 c
      obtain ⟨v4_118, hv4_118⟩ : ∃ y : Int32, y = v4 + 1 := ⟨_, rfl⟩
      replace h := h v4_118 hv4_118
      refine x_iinc (v := v4_118) dX4_cutPiece_118 rfl (by rw [hv4_118]; rfl) (by decide) rfl ?_
      refine x_goto (tgt := 74) dX4_cutPiece_121 (by decide) ?_
      refine x_lv (lv' := [(0, aA v0), (1, aA v1), (4, aI v4_118)]) ⟨rfl, rfl, rfl, trivial⟩ ?_
      exact hK74 _ _ _ _ h
    · replace h := h.2 c
      refine x_aload_n dX4_cutPiece_104 rfl ?_
      refine x_aload dX4_cutPiece_105 rfl ?_
      refine x_iload dX4_cutPiece_107 rfl ?_
      obtain ⟨h1, h⟩ := h
      refine x_callVV (As := [aA v5, aI v6]) (st := []) kX4_85 rfl ⟨rfl, rfl, by decide, by decide⟩ dX4_cutPiece_109 rfl (Nat.le_of_ble_eq_true rfl) ⟨Nat.zero_le _, Nat.zero_le _⟩ h1 (ctX4_cutAtSide h) (fun S_109 h => ?_)
      obtain ⟨v6_112, hv6_112⟩ : ∃ y : Int32, y = v6 + 1 := ⟨_, rfl⟩
      replace h := h v6_112 hv6_112
      refine x_iinc (v := v6_112) dX4_cutPiece_112 rfl (by rw [hv6_112]; rfl) (by decide) rfl ?_
      refine x_goto (tgt := 94) dX4_cutPiece_115 (by decide) ?_
      refine x_lv (lv' := [(0, aA v0), (1, aA v1), (4, aI v4), (5, aA v5), (6, aI v6_112)]) ⟨rfl, rfl, rfl, rfl, rfl, trivial⟩ ?_
      exact hK94 _ _ _ _ _ _ h
set_option maxRecDepth 100000 in
set_option maxHeartbeats 4000000 in
theorem xX4_cutPiece_74 {E : en} {ad : Nat → Nat} {Post : hs → Prop} (hQ : isQ E ad (pV Post))   : ∀ (n : Nat) (v0 : Nat) (v1 : Nat) (v4 : Int32) (S : hs) (_ : PX4_cutPiece_74 Post  n v0 v1 v4 S), X E mX4_cutPiece 0 0 ad S 74 [(0, aA v0), (1, aA v1), (4, aI v4)] [] := by
  intro n
  induction n with
  | zero => intro v0 v1 v4 S h; exact h.elim
  | succ n ih =>
    intro v0 v1 v4 S h
    have hK74 := ih
    simp only [PX4_cutPiece_74] at h
    refine x_iload dX4_cutPiece_74 rfl ?_
    refine x_aload_n dX4_cutPiece_76 rfl ?_
    obtain ⟨h1, h⟩ := h
    refine x_callVI (As := []) (st := [aI v4]) kX4_75 rfl ⟨rfl, rfl, by decide, by decide⟩ dX4_cutPiece_77 rfl (Nat.le_of_ble_eq_true rfl) ⟨Nat.zero_le _, Nat.zero_le _⟩ h1 (ctX0_closedRings h) (fun x_77 S_77 h => ?_)
    refine x_icmp_ge (tgt := 124) dX4_cutPiece_80 (by decide) (fun c => ?_) (fun c => ?_)
    · replace h := h.1 c
      exact x_vret hQ rfl dX4_cutPiece_124 ⟨rfl, h⟩
    · replace h := h.2 c
      refine x_aload_n dX4_cutPiece_83 rfl ?_
      refine x_iload dX4_cutPiece_84 rfl ?_
      obtain ⟨h1, h⟩ := h
      refine x_callVR (As := [aI v4]) (st := []) kX4_79 rfl ⟨rfl, rfl, by decide, by decide⟩ dX4_cutPiece_86 rfl (Nat.le_of_ble_eq_true rfl) ⟨Nat.zero_le _, Nat.zero_le _⟩ h1 (ctX0_ringOf h) (fun x_86 S_86 h => ?_)
      obtain ⟨r_86, hr_86, h⟩ := h
      refine x_un hr_86 ?_
      refine x_astore dX4_cutPiece_89 (by decide) rfl ?_
      refine x_iconst (v := 0) dX4_cutPiece_91 (by decide) ?_
      refine x_istore dX4_cutPiece_92 (by decide) rfl ?_
      refine x_lv (lv' := [(0, aA v0), (1, aA v1), (4, aI v4), (5, aA r_86), (6, aI 0)]) ⟨rfl, rfl, rfl, rfl, rfl, trivial⟩ ?_
      obtain ⟨n, h⟩ := h
      exact xX4_cutPiece_94 hQ hK74 n _ _ _ _ _ _ h
set_option maxRecDepth 100000 in
set_option maxHeartbeats 4000000 in
theorem ctX4_cutPiece {G : Launch × va_G × (Nat → ClassId) × Nat} {v0 : Nat} {v1 : Nat} {v2 : Nat} {v3 : Int32} {S : hs} {Post : hs → Prop} (h : PX4_cutPiece v0 v1 v2 v3 S Post) : ctN G mX4_cutPiece [aA v0, aA v1, aA v2, aI v3] S (pV Post) := by
  refine ctN.of (by decide) (Nat.le_of_ble_eq_true rfl) (fun E ad hG hQ => ?_)
  subst hG
  unfold PX4_cutPiece at h
  refine x_aload_n dX4_cutPiece_0 rfl ?_
  refine x_aload_n dX4_cutPiece_1 rfl ?_
  refine x_iload_n dX4_cutPiece_2 rfl ?_
  obtain ⟨h1, h⟩ := h
  refine x_callVI (As := [aI v3]) (st := [aA v0]) kX4_62 rfl ⟨rfl, rfl, by decide, by decide⟩ dX4_cutPiece_3 rfl (Nat.le_of_ble_eq_true rfl) ⟨Nat.zero_le _, Nat.zero_le _⟩ h1 (ctX5_xOf h) (fun x_3 S_3 h => ?_)
  refine x_i2l dX4_cutPiece_6 ?_
  obtain ⟨h1, h⟩ := h
  refine x_p4_6 rfl dX4_cutPiece_7 h1 (x_nS (fun S_7 hS_7 => ?_))
  replace h := h S_7 hS_7
  refine x_aload_n dX4_cutPiece_10 rfl ?_
  refine x_aload_n dX4_cutPiece_11 rfl ?_
  refine x_iload_n dX4_cutPiece_12 rfl ?_
  obtain ⟨h1, h⟩ := h
  refine x_callVI (As := [aI v3]) (st := [aA v0]) kX4_68 rfl ⟨rfl, rfl, by decide, by decide⟩ dX4_cutPiece_13 rfl (Nat.le_of_ble_eq_true rfl) ⟨Nat.zero_le _, Nat.zero_le _⟩ h1 (ctX5_yOf h) (fun x_13 S_13 h => ?_)
  refine x_i2l dX4_cutPiece_16 ?_
  obtain ⟨h1, h⟩ := h
  refine x_p4_7 rfl dX4_cutPiece_17 h1 (x_nS (fun S_17 hS_17 => ?_))
  replace h := h S_17 hS_17
  refine x_aload_n dX4_cutPiece_20 rfl ?_
  refine x_aload_n dX4_cutPiece_21 rfl ?_
  refine x_iload_n dX4_cutPiece_22 rfl ?_
  refine x_iconst (v := 1) dX4_cutPiece_23 (by decide) ?_
  refine x_iadd dX4_cutPiece_24 ?_
  obtain ⟨h1, h⟩ := h
  refine x_callVI (As := [aI (v3 + 1)]) (st := [aA v0]) kX4_62 rfl ⟨rfl, rfl, by decide, by decide⟩ dX4_cutPiece_25 rfl (Nat.le_of_ble_eq_true rfl) ⟨Nat.zero_le _, Nat.zero_le _⟩ h1 (ctX5_xOf h) (fun x_25 S_25 h => ?_)
  refine x_i2l dX4_cutPiece_28 ?_
  refine x_aload_n dX4_cutPiece_29 rfl ?_
  refine x_g4_6 rfl dX4_cutPiece_30 h.1 ?_
  replace h := h.2
  refine x_lsub dX4_cutPiece_33 ?_
  obtain ⟨h1, h⟩ := h
  refine x_p4_8 rfl dX4_cutPiece_34 h1 (x_nS (fun S_34 hS_34 => ?_))
  replace h := h S_34 hS_34
  refine x_aload_n dX4_cutPiece_37 rfl ?_
  refine x_aload_n dX4_cutPiece_38 rfl ?_
  refine x_iload_n dX4_cutPiece_39 rfl ?_
  refine x_iconst (v := 1) dX4_cutPiece_40 (by decide) ?_
  refine x_iadd dX4_cutPiece_41 ?_
  obtain ⟨h1, h⟩ := h
  refine x_callVI (As := [aI (v3 + 1)]) (st := [aA v0]) kX4_68 rfl ⟨rfl, rfl, by decide, by decide⟩ dX4_cutPiece_42 rfl (Nat.le_of_ble_eq_true rfl) ⟨Nat.zero_le _, Nat.zero_le _⟩ h1 (ctX5_yOf h) (fun x_42 S_42 h => ?_)
  refine x_i2l dX4_cutPiece_45 ?_
  refine x_aload_n dX4_cutPiece_46 rfl ?_
  refine x_g4_7 rfl dX4_cutPiece_47 h.1 ?_
  replace h := h.2
  refine x_lsub dX4_cutPiece_50 ?_
  obtain ⟨h1, h⟩ := h
  refine x_p4_9 rfl dX4_cutPiece_51 h1 (x_nS (fun S_51 hS_51 => ?_))
  replace h := h S_51 hS_51
  refine x_aload_n dX4_cutPiece_54 rfl ?_
  refine x_iconst (v := 0) dX4_cutPiece_55 (by decide) ?_
  obtain ⟨h1, h⟩ := h
  refine x_p4_2 rfl dX4_cutPiece_56 h1 (x_nS (fun S_56 hS_56 => ?_))
  replace h := h S_56 hS_56
  refine x_aload_n dX4_cutPiece_59 rfl ?_
  refine x_lconst (v := 0) dX4_cutPiece_60 (by decide) ?_
  refine x_lconst (v := 1) dX4_cutPiece_61 (by decide) ?_
  obtain ⟨h1, h⟩ := h
  refine x_callVV (As := [aJ 0, aJ 1]) (st := []) kX4_71 rfl ⟨rfl, rfl, by decide, by decide⟩ dX4_cutPiece_62 rfl (Nat.le_of_ble_eq_true rfl) ⟨Nat.zero_le _, Nat.zero_le _⟩ h1 (ctX4_addCut h) (fun S_62 h => ?_)
  refine x_aload_n dX4_cutPiece_65 rfl ?_
  refine x_lconst (v := 1) dX4_cutPiece_66 (by decide) ?_
  refine x_lconst (v := 1) dX4_cutPiece_67 (by decide) ?_
  obtain ⟨h1, h⟩ := h
  refine x_callVV (As := [aJ 1, aJ 1]) (st := []) kX4_71 rfl ⟨rfl, rfl, by decide, by decide⟩ dX4_cutPiece_68 rfl (Nat.le_of_ble_eq_true rfl) ⟨Nat.zero_le _, Nat.zero_le _⟩ h1 (ctX4_addCut h) (fun S_68 h => ?_)
  refine x_iconst (v := 0) dX4_cutPiece_71 (by decide) ?_
  refine x_istore dX4_cutPiece_72 (by decide) rfl ?_
  refine x_lv (lv' := [(0, aA v0), (1, aA v1), (4, aI 0)]) ⟨rfl, rfl, rfl, trivial⟩ ?_
  obtain ⟨n, h⟩ := h
  exact xX4_cutPiece_74 hQ  n _ _ _ _ h
set_option maxRecDepth 100000 in
set_option maxHeartbeats 4000000 in
theorem ctX4_isIn {G : Launch × va_G × (Nat → ClassId) × Nat} {v0 : Nat} {v1 : Nat} {v2 : Int64} {v4 : Int64} {S : hs} {Post : Int32 → hs → Prop} (h : PX4_isIn v0 v1 v2 v4 S Post) : ctN G mX4_isIn [aA v0, aA v1, aJ v2, aJ v4] S (pI Post) := by
  refine ctN.of (by decide) (Nat.le_of_ble_eq_true rfl) (fun E ad hG hQ => ?_)
  subst hG
  unfold PX4_isIn at h
  refine x_aload_n dX4_isIn_0 rfl ?_
  refine x_aload_n dX4_isIn_1 rfl ?_
  refine x_g4_6 rfl dX4_isIn_2 h.1 ?_
  replace h := h.2
  refine x_lload dX4_isIn_5 rfl ?_
  refine x_lmul dX4_isIn_7 ?_
  refine x_aload_n dX4_isIn_8 rfl ?_
  refine x_g4_8 rfl dX4_isIn_9 h.1 ?_
  replace h := h.2
  refine x_lload_n dX4_isIn_12 rfl ?_
  refine x_lmul dX4_isIn_13 ?_
  refine x_ladd dX4_isIn_14 ?_
  refine x_aload_n dX4_isIn_15 rfl ?_
  refine x_g4_7 rfl dX4_isIn_16 h.1 ?_
  replace h := h.2
  refine x_lload dX4_isIn_19 rfl ?_
  refine x_lmul dX4_isIn_21 ?_
  refine x_aload_n dX4_isIn_22 rfl ?_
  refine x_g4_9 rfl dX4_isIn_23 h.1 ?_
  replace h := h.2
  refine x_lload_n dX4_isIn_26 rfl ?_
  refine x_lmul dX4_isIn_27 ?_
  refine x_ladd dX4_isIn_28 ?_
  refine x_lload dX4_isIn_29 rfl ?_
  obtain ⟨h1, h⟩ := h
  refine x_callVI (As := [aJ (((hj S v0 6) * v4) + ((hj S v0 8) * v2)), aJ (((hj S v0 7) * v4) + ((hj S v0 9) * v2)), aJ v4]) (st := []) kX4_106 rfl ⟨rfl, rfl, by decide, by decide⟩ dX4_isIn_31 rfl (Nat.le_of_ble_eq_true rfl) ⟨Nat.zero_le _, Nat.zero_le _⟩ h1 (ctX0_contains h) (fun x_31 S_31 h => ?_)
  exact x_zret hQ rfl dX4_isIn_34 ⟨h.1, _, rfl, h.2⟩
set_option maxRecDepth 100000 in
set_option maxHeartbeats 4000000 in
theorem ctX4_middleOver {G : Launch × va_G × (Nat → ClassId) × Nat} {v0 : Nat} {v1 : Int32} {S : hs} {Post : Int64 → hs → Prop} (h : PX4_middleOver v0 v1 S Post) : ctN G mX4_middleOver [aA v0, aI v1] S (pJ Post) := by
  refine ctN.of (by decide) (Nat.le_of_ble_eq_true rfl) (fun E ad hG hQ => ?_)
  subst hG
  unfold PX4_middleOver at h
  refine x_aload_n dX4_middleOver_0 rfl ?_
  obtain ⟨h1, r_1, hr_1, h⟩ := h
  refine x_g4_0 rfl dX4_middleOver_1 h1 (x_un hr_1 ?_)
  refine x_iload_n dX4_middleOver_4 rfl ?_
  refine x_lald dX4_middleOver_5 h.1 ?_
  replace h := h.2
  refine x_aload_n dX4_middleOver_6 rfl ?_
  obtain ⟨h1, r_7, hr_7, h⟩ := h
  refine x_g4_1 rfl dX4_middleOver_7 h1 (x_un hr_7 ?_)
  refine x_iload_n dX4_middleOver_10 rfl ?_
  refine x_iconst (v := 1) dX4_middleOver_11 (by decide) ?_
  refine x_iadd dX4_middleOver_12 ?_
  refine x_lald dX4_middleOver_13 h.1 ?_
  replace h := h.2
  refine x_lmul dX4_middleOver_14 ?_
  refine x_aload_n dX4_middleOver_15 rfl ?_
  obtain ⟨h1, r_16, hr_16, h⟩ := h
  refine x_g4_0 rfl dX4_middleOver_16 h1 (x_un hr_16 ?_)
  refine x_iload_n dX4_middleOver_19 rfl ?_
  refine x_iconst (v := 1) dX4_middleOver_20 (by decide) ?_
  refine x_iadd dX4_middleOver_21 ?_
  refine x_lald dX4_middleOver_22 h.1 ?_
  replace h := h.2
  refine x_aload_n dX4_middleOver_23 rfl ?_
  obtain ⟨h1, r_24, hr_24, h⟩ := h
  refine x_g4_1 rfl dX4_middleOver_24 h1 (x_un hr_24 ?_)
  refine x_iload_n dX4_middleOver_27 rfl ?_
  refine x_lald dX4_middleOver_28 h.1 ?_
  replace h := h.2
  refine x_lmul dX4_middleOver_29 ?_
  refine x_ladd dX4_middleOver_30 ?_
  exact x_lret hQ rfl dX4_middleOver_31 ⟨_, rfl, h⟩
set_option maxRecDepth 100000 in
set_option maxHeartbeats 4000000 in
theorem ctX4_middleUnder {G : Launch × va_G × (Nat → ClassId) × Nat} {v0 : Nat} {v1 : Int32} {S : hs} {Post : Int64 → hs → Prop} (h : PX4_middleUnder v0 v1 S Post) : ctN G mX4_middleUnder [aA v0, aI v1] S (pJ Post) := by
  refine ctN.of (by decide) (Nat.le_of_ble_eq_true rfl) (fun E ad hG hQ => ?_)
  subst hG
  unfold PX4_middleUnder at h
  refine x_ldc2 (v := 2) dX4_middleUnder_0 kcX4_104 ?_
  refine x_aload_n dX4_middleUnder_3 rfl ?_
  obtain ⟨h1, r_4, hr_4, h⟩ := h
  refine x_g4_1 rfl dX4_middleUnder_4 h1 (x_un hr_4 ?_)
  refine x_iload_n dX4_middleUnder_7 rfl ?_
  refine x_lald dX4_middleUnder_8 h.1 ?_
  replace h := h.2
  refine x_lmul dX4_middleUnder_9 ?_
  refine x_aload_n dX4_middleUnder_10 rfl ?_
  obtain ⟨h1, r_11, hr_11, h⟩ := h
  refine x_g4_1 rfl dX4_middleUnder_11 h1 (x_un hr_11 ?_)
  refine x_iload_n dX4_middleUnder_14 rfl ?_
  refine x_iconst (v := 1) dX4_middleUnder_15 (by decide) ?_
  refine x_iadd dX4_middleUnder_16 ?_
  refine x_lald dX4_middleUnder_17 h.1 ?_
  replace h := h.2
  refine x_lmul dX4_middleUnder_18 ?_
  exact x_lret hQ rfl dX4_middleUnder_19 ⟨_, rfl, h⟩
set_option maxRecDepth 100000 in
set_option maxHeartbeats 4000000 in
theorem xX4_find_145 {E : en} {ad : Nat → Nat} {Post : hs → Prop} (hQ : isQ E ad (pV Post)) {K18 : Nat → Nat → Int32 → Int32 → hs → Prop} (hK18 : ∀ (v0 : Nat) (v1 : Nat) (v4 : Int32) (v5 : Int32) (S : hs), K18 v0 v1 v4 v5 S → X E mX4_find 0 0 ad S 18 [(0, aA v0), (1, aA v1), (4, aI v4), (5, aI v5)] []) (v0 : Nat) (v1 : Nat) (v4 : Int32) (v5 : Int32) (S : hs) (h : PX4_find_145 Post K18 v0 v1 v4 v5 S) : X E mX4_find 0 0 ad S 145 [(0, aA v0), (1, aA v1), (4, aI v4), (5, aI v5)] [] := by
  unfold PX4_find_145 at h
  obtain ⟨v5_145, hv5_145⟩ : ∃ y : Int32, y = v5 + 1 := ⟨_, rfl⟩
  replace h := h v5_145 hv5_145
  refine x_iinc (v := v5_145) dX4_find_145 rfl (by rw [hv5_145]; rfl) (by decide) rfl ?_
  refine x_goto (tgt := 18) dX4_find_148 (by decide) ?_
  refine x_lv (lv' := [(0, aA v0), (1, aA v1), (4, aI v4), (5, aI v5_145)]) ⟨rfl, rfl, rfl, rfl, trivial⟩ ?_
  exact hK18 _ _ _ _ _ h
set_option maxRecDepth 100000 in
set_option maxHeartbeats 4000000 in
theorem xX4_find_109 {E : en} {ad : Nat → Nat} {Post : hs → Prop} (hQ : isQ E ad (pV Post)) {K18 : Nat → Nat → Int32 → Int32 → hs → Prop} (hK18 : ∀ (v0 : Nat) (v1 : Nat) (v4 : Int32) (v5 : Int32) (S : hs), K18 v0 v1 v4 v5 S → X E mX4_find 0 0 ad S 18 [(0, aA v0), (1, aA v1), (4, aI v4), (5, aI v5)] []) (v0 : Nat) (v1 : Nat) (v4 : Int32) (v5 : Int32) (s0 : Int32) (S : hs) (h : PX4_find_109 Post K18 v0 v1 v4 v5 s0 S) : X E mX4_find 0 0 ad S 109 [(0, aA v0), (1, aA v1), (4, aI v4), (5, aI v5)] [aI s0] := by
  unfold PX4_find_109 at h
  refine x_istore dX4_find_109 (by decide) rfl ?_
  refine x_iload dX4_find_111 rfl ?_
  refine x_if_eq (tgt := 145) dX4_find_113 (by decide) (fun c => ?_) (fun c => ?_)
  · replace h := h.1 c
    refine x_lv (lv' := [(0, aA v0), (1, aA v1), (4, aI v4), (5, aI v5)]) ⟨rfl, rfl, rfl, rfl, trivial⟩ ?_
    exact xX4_find_145 hQ hK18 _ _ _ _ _ h
  · replace h := h.2 c
    refine x_iload dX4_find_116 rfl ?_
    refine x_if_ne (tgt := 145) dX4_find_118 (by decide) (fun c => ?_) (fun c => ?_)
    · replace h := h.2 c
      refine x_lv (lv' := [(0, aA v0), (1, aA v1), (4, aI v4), (5, aI v5)]) ⟨rfl, rfl, rfl, rfl, trivial⟩ ?_
      exact xX4_find_145 hQ hK18 _ _ _ _ _ h
    · replace h := h.1 c
      refine x_aload_n dX4_find_121 rfl ?_
      obtain ⟨h1, r_122, hr_122, h⟩ := h
      refine x_g4_4 rfl dX4_find_122 h1 (x_un hr_122 ?_)
      refine x_aload_n dX4_find_125 rfl ?_
      refine x_g4_5 rfl dX4_find_126 h.1 ?_
      replace h := h.2
      refine x_iload dX4_find_129 rfl ?_
      obtain ⟨h1, h⟩ := h
      refine x_iast dX4_find_131 h1 (x_nS (fun S_131 hS_131 => ?_))
      replace h := h S_131 hS_131
      refine x_aload_n dX4_find_132 rfl ?_
      refine x_dupR dX4_find_133 ?_
      refine x_g4_5 rfl dX4_find_134 h.1 ?_
      replace h := h.2
      refine x_iconst (v := 1) dX4_find_137 (by decide) ?_
      refine x_iadd dX4_find_138 ?_
      obtain ⟨h1, h⟩ := h
      refine x_p4_5 rfl dX4_find_139 h1 (x_nS (fun S_139 hS_139 => ?_))
      replace h := h S_139 hS_139
      refine x_iconst (v := 0) dX4_find_142 (by decide) ?_
      refine x_istore dX4_find_143 (by decide) rfl ?_
      refine x_lv (lv' := [(0, aA v0), (1, aA v1), (4, aI 0), (5, aI v5)]) ⟨rfl, rfl, rfl, rfl, trivial⟩ ?_
      exact xX4_find_145 hQ hK18 _ _ _ _ _ h
set_option maxRecDepth 100000 in
set_option maxHeartbeats 4000000 in
theorem xX4_find_108 {E : en} {ad : Nat → Nat} {Post : hs → Prop} (hQ : isQ E ad (pV Post)) {K18 : Nat → Nat → Int32 → Int32 → hs → Prop} (hK18 : ∀ (v0 : Nat) (v1 : Nat) (v4 : Int32) (v5 : Int32) (S : hs), K18 v0 v1 v4 v5 S → X E mX4_find 0 0 ad S 18 [(0, aA v0), (1, aA v1), (4, aI v4), (5, aI v5)] []) (v0 : Nat) (v1 : Nat) (v4 : Int32) (v5 : Int32) (S : hs) (h : PX4_find_108 Post K18 v0 v1 v4 v5 S) : X E mX4_find 0 0 ad S 108 [(0, aA v0), (1, aA v1), (4, aI v4), (5, aI v5)] [] := by
  unfold PX4_find_108 at h
  refine x_iconst (v := 0) dX4_find_108 (by decide) ?_
  refine x_lv (lv' := [(0, aA v0), (1, aA v1), (4, aI v4), (5, aI v5)]) ⟨rfl, rfl, rfl, rfl, trivial⟩ ?_
  exact xX4_find_109 hQ hK18 _ _ _ _ _ _ h
set_option maxRecDepth 100000 in
set_option maxHeartbeats 4000000 in
theorem xX4_find_68 {E : en} {ad : Nat → Nat} {Post : hs → Prop} (hQ : isQ E ad (pV Post)) {K18 : Nat → Nat → Int32 → Int32 → hs → Prop} (hK18 : ∀ (v0 : Nat) (v1 : Nat) (v4 : Int32) (v5 : Int32) (S : hs), K18 v0 v1 v4 v5 S → X E mX4_find 0 0 ad S 18 [(0, aA v0), (1, aA v1), (4, aI v4), (5, aI v5)] []) (v0 : Nat) (v1 : Nat) (v4 : Int32) (v5 : Int32) (S : hs) (h : PX4_find_68 Post K18 v0 v1 v4 v5 S) : X E mX4_find 0 0 ad S 68 [(0, aA v0), (1, aA v1), (4, aI v4), (5, aI v5)] [] := by
  unfold PX4_find_68 at h
  refine x_iload dX4_find_68 rfl ?_
  refine x_if_eq (tgt := 108) dX4_find_70 (by decide) (fun c => ?_) (fun c => ?_)
  · replace h := h.1 c
    refine x_lv (lv' := [(0, aA v0), (1, aA v1), (4, aI v4), (5, aI v5)]) ⟨rfl, rfl, rfl, rfl, trivial⟩ ?_
    exact xX4_find_108 hQ hK18 _ _ _ _ _ h
  · replace h := h.2 c
    refine x_iload dX4_find_73 rfl ?_
    refine x_iconst (v := 1) dX4_find_75 (by decide) ?_
    refine x_iadd dX4_find_76 ?_
    refine x_aload_n dX4_find_77 rfl ?_
    refine x_g4_2 rfl dX4_find_78 h.1 ?_
    replace h := h.2
    refine x_icmp_ge (tgt := 108) dX4_find_81 (by decide) (fun c => ?_) (fun c => ?_)
    · replace h := h.1 c
      refine x_lv (lv' := [(0, aA v0), (1, aA v1), (4, aI v4), (5, aI v5)]) ⟨rfl, rfl, rfl, rfl, trivial⟩ ?_
      exact xX4_find_108 hQ hK18 _ _ _ _ _ h
    · replace h := h.2 c
      refine x_aload_n dX4_find_84 rfl ?_
      refine x_aload_n dX4_find_85 rfl ?_
      refine x_aload_n dX4_find_86 rfl ?_
      refine x_iload dX4_find_87 rfl ?_
      obtain ⟨h1, h⟩ := h
      refine x_callVJ (As := [aI v5]) (st := [aA v1, aA v0]) kX4_55 rfl ⟨rfl, rfl, by decide, by decide⟩ dX4_find_89 rfl (Nat.le_of_ble_eq_true rfl) ⟨Nat.zero_le _, Nat.zero_le _⟩ h1 (ctX4_middleOver h) (fun x_89 S_89 h => ?_)
      refine x_aload_n dX4_find_92 rfl ?_
      refine x_iload dX4_find_93 rfl ?_
      obtain ⟨h1, h⟩ := h
      refine x_callVJ (As := [aI v5]) (st := [aJ x_89, aA v1, aA v0]) kX4_59 rfl ⟨rfl, rfl, by decide, by decide⟩ dX4_find_95 rfl (Nat.le_of_ble_eq_true rfl) ⟨Nat.zero_le _, Nat.zero_le _⟩ h1 (ctX4_middleUnder h) (fun x_95 S_95 h => ?_)
      obtain ⟨h1, h⟩ := h
      refine x_callVI (As := [aA v1, aJ x_89, aJ x_95]) (st := []) kX4_51 rfl ⟨rfl, rfl, by decide, by decide⟩ dX4_find_98 rfl (Nat.le_of_ble_eq_true rfl) ⟨Nat.zero_le _, Nat.zero_le _⟩ h1 (ctX4_isIn h) (fun x_98 S_98 h => ?_)
      refine x_if_eq (tgt := 108) dX4_find_101 (by decide) (fun c => ?_) (fun c => ?_)
      · replace h := h.1 c
        refine x_lv (lv' := [(0, aA v0), (1, aA v1), (4, aI v4), (5, aI v5)]) ⟨rfl, rfl, rfl, rfl, trivial⟩ ?_
        exact xX4_find_108 hQ hK18 _ _ _ _ _ h
      · replace h := h.2 c
        refine x_iconst (v := 1) dX4_find_104 (by decide) ?_
        refine x_goto (tgt := 109) dX4_find_105 (by decide) ?_
        refine x_lv (lv' := [(0, aA v0), (1, aA v1), (4, aI v4), (5, aI v5)]) ⟨rfl, rfl, rfl, rfl, trivial⟩ ?_
        exact xX4_find_109 hQ hK18 _ _ _ _ _ _ h
set_option maxRecDepth 100000 in
set_option maxHeartbeats 4000000 in
theorem xX4_find_18 {E : en} {ad : Nat → Nat} {Post : hs → Prop} (hQ : isQ E ad (pV Post))   : ∀ (n : Nat) (v0 : Nat) (v1 : Nat) (v4 : Int32) (v5 : Int32) (S : hs) (_ : PX4_find_18 Post  n v0 v1 v4 v5 S), X E mX4_find 0 0 ad S 18 [(0, aA v0), (1, aA v1), (4, aI v4), (5, aI v5)] [] := by
  intro n
  induction n with
  | zero => intro v0 v1 v4 v5 S h; exact h.elim
  | succ n ih =>
    intro v0 v1 v4 v5 S h
    have hK18 := ih
    simp only [PX4_find_18] at h
    refine x_iload dX4_find_18 rfl ?_
    refine x_aload_n dX4_find_20 rfl ?_
    refine x_g4_2 rfl dX4_find_21 h.1 ?_
    replace h := h.2
    refine x_icmp_ge (tgt := 151) dX4_find_24 (by decide) (fun c => ?_) (fun c => ?_)
    · replace h := h.1 c
      exact x_vret hQ rfl dX4_find_151 ⟨rfl, h⟩
    · replace h := h.2 c
      refine x_iload dX4_find_27 rfl ?_
      refine x_if_ne (tgt := 68) dX4_find_29 (by decide) (fun c => ?_) (fun c => ?_)
      · replace h := h.2 c
        refine x_lv (lv' := [(0, aA v0), (1, aA v1), (4, aI v4), (5, aI v5)]) ⟨rfl, rfl, rfl, rfl, trivial⟩ ?_
        exact xX4_find_68 hQ hK18 _ _ _ _ _ h
      · replace h := h.1 c
        refine x_aload_n dX4_find_32 rfl ?_
        refine x_aload_n dX4_find_33 rfl ?_
        refine x_aload_n dX4_find_34 rfl ?_
        obtain ⟨h1, r_35, hr_35, h⟩ := h
        refine x_g4_0 rfl dX4_find_35 h1 (x_un hr_35 ?_)
        refine x_iload dX4_find_38 rfl ?_
        refine x_lald dX4_find_40 h.1 ?_
        replace h := h.2
        refine x_aload_n dX4_find_41 rfl ?_
        obtain ⟨h1, r_42, hr_42, h⟩ := h
        refine x_g4_1 rfl dX4_find_42 h1 (x_un hr_42 ?_)
        refine x_iload dX4_find_45 rfl ?_
        refine x_lald dX4_find_47 h.1 ?_
        replace h := h.2
        obtain ⟨h1, h⟩ := h
        refine x_callVI (As := [aA v1, aJ (hj S r_35 (Int32.toNatClampNeg v5)), aJ (hj S r_42 (Int32.toNatClampNeg v5))]) (st := []) kX4_51 rfl ⟨rfl, rfl, by decide, by decide⟩ dX4_find_48 rfl (Nat.le_of_ble_eq_true rfl) ⟨Nat.zero_le _, Nat.zero_le _⟩ h1 (ctX4_isIn h) (fun x_48 S_48 h => ?_)
        refine x_if_eq (tgt := 68) dX4_find_51 (by decide) (fun c => ?_) (fun c => ?_)
        · replace h := h.1 c
          refine x_lv (lv' := [(0, aA v0), (1, aA v1), (4, aI v4), (5, aI v5)]) ⟨rfl, rfl, rfl, rfl, trivial⟩ ?_
          exact xX4_find_68 hQ hK18 _ _ _ _ _ h
        · replace h := h.2 c
          refine x_aload_n dX4_find_54 rfl ?_
          obtain ⟨h1, r_55, hr_55, h⟩ := h
          refine x_g4_3 rfl dX4_find_55 h1 (x_un hr_55 ?_)
          refine x_aload_n dX4_find_58 rfl ?_
          refine x_g4_5 rfl dX4_find_59 h.1 ?_
          replace h := h.2
          refine x_iload dX4_find_62 rfl ?_
          obtain ⟨h1, h⟩ := h
          refine x_iast dX4_find_64 h1 (x_nS (fun S_64 hS_64 => ?_))
          replace h := h S_64 hS_64
          refine x_iconst (v := 1) dX4_find_65 (by decide) ?_
          refine x_istore dX4_find_66 (by decide) rfl ?_
          refine x_lv (lv' := [(0, aA v0), (1, aA v1), (4, aI 1), (5, aI v5)]) ⟨rfl, rfl, rfl, rfl, trivial⟩ ?_
          exact xX4_find_68 hQ hK18 _ _ _ _ _ h
set_option maxRecDepth 100000 in
set_option maxHeartbeats 4000000 in
theorem ctX4_find {G : Launch × va_G × (Nat → ClassId) × Nat} {v0 : Nat} {v1 : Nat} {v2 : Nat} {v3 : Int32} {S : hs} {Post : hs → Prop} (h : PX4_find v0 v1 v2 v3 S Post) : ctN G mX4_find [aA v0, aA v1, aA v2, aI v3] S (pV Post) := by
  refine ctN.of (by decide) (Nat.le_of_ble_eq_true rfl) (fun E ad hG hQ => ?_)
  subst hG
  unfold PX4_find at h
  refine x_aload_n dX4_find_0 rfl ?_
  refine x_aload_n dX4_find_1 rfl ?_
  refine x_aload_n dX4_find_2 rfl ?_
  refine x_iload_n dX4_find_3 rfl ?_
  obtain ⟨h1, h⟩ := h
  refine x_callVV (As := [aA v1, aA v2, aI v3]) (st := []) kX4_47 rfl ⟨rfl, rfl, by decide, by decide⟩ dX4_find_4 rfl (Nat.le_of_ble_eq_true rfl) ⟨Nat.zero_le _, Nat.zero_le _⟩ h1 (ctX4_cutPiece h) (fun S_4 h => ?_)
  refine x_aload_n dX4_find_7 rfl ?_
  refine x_iconst (v := 0) dX4_find_8 (by decide) ?_
  obtain ⟨h1, h⟩ := h
  refine x_p4_5 rfl dX4_find_9 h1 (x_nS (fun S_9 hS_9 => ?_))
  replace h := h S_9 hS_9
  refine x_iconst (v := 0) dX4_find_12 (by decide) ?_
  refine x_istore dX4_find_13 (by decide) rfl ?_
  refine x_iconst (v := 0) dX4_find_15 (by decide) ?_
  refine x_istore dX4_find_16 (by decide) rfl ?_
  refine x_lv (lv' := [(0, aA v0), (1, aA v1), (4, aI 0), (5, aI 0)]) ⟨rfl, rfl, rfl, rfl, trivial⟩ ?_
  obtain ⟨n, h⟩ := h
  exact xX4_find_18 hQ  n _ _ _ _ _ h
set_option maxRecDepth 100000 in
set_option maxHeartbeats 4000000 in
theorem ctX4_size {G : Launch × va_G × (Nat → ClassId) × Nat} {v0 : Nat} {S : hs} {Post : Int32 → hs → Prop} (h : PX4_size v0 S Post) : ctN G mX4_size [aA v0] S (pI Post) := by
  refine ctN.of (by decide) (Nat.le_of_ble_eq_true rfl) (fun E ad hG hQ => ?_)
  subst hG
  unfold PX4_size at h
  refine x_aload_n dX4_size_0 rfl ?_
  refine x_g4_5 rfl dX4_size_1 h.1 ?_
  replace h := h.2
  exact x_iret hQ rfl dX4_size_4 ⟨_, rfl, h⟩
