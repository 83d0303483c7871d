set_option maxRecDepth 100000 in
set_option maxHeartbeats 4000000 in
theorem xX7_isSimple_242 {E : en} {ad : Nat → Nat} {Post : Int32 → hs → Prop} (hQ : isQ E ad (pI Post))   (v3 : Int32) (S : hs) (h : PX7_isSimple_242 Post  v3 S) : X E mX7_isSimple 0 0 ad S 242 [(3, aI v3)] [] := by
  unfold PX7_isSimple_242 at h
  refine x_iload_n dX7_isSimple_242 rfl ?_
  exact x_zret hQ rfl dX7_isSimple_243 ⟨h.1, _, rfl, h.2⟩
set_option maxRecDepth 100000 in
set_option maxHeartbeats 4000000 in
theorem xX7_isSimple_236 {E : en} {ad : Nat → Nat} {Post : Int32 → hs → Prop} (hQ : isQ E ad (pI Post)) {K21 : Nat → Int32 → Int32 → Int32 → Int32 → hs → Prop} (hK21 : ∀ (v0 : Nat) (v1 : Int32) (v2 : Int32) (v3 : Int32) (v4 : Int32) (S : hs), K21 v0 v1 v2 v3 v4 S → X E mX7_isSimple 0 0 ad S 21 [(0, aA v0), (1, aI v1), (2, aI v2), (3, aI v3), (4, aI v4)] []) (v0 : Nat) (v1 : Int32) (v2 : Int32) (v3 : Int32) (v4 : Int32) (S : hs) (h : PX7_isSimple_236 Post K21 v0 v1 v2 v3 v4 S) : X E mX7_isSimple 0 0 ad S 236 [(0, aA v0), (1, aI v1), (2, aI v2), (3, aI v3), (4, aI v4)] [] := by
  unfold PX7_isSimple_236 at h
  obtain ⟨v4_236, hv4_236⟩ : ∃ y : Int32, y = v4 + 1 := ⟨_, rfl⟩
  replace h := h v4_236 hv4_236
  refine x_iinc (v := v4_236) dX7_isSimple_236 rfl (by rw [hv4_236]; rfl) (by decide) rfl ?_
  refine x_goto (tgt := 21) dX7_isSimple_239 (by decide) ?_
  refine x_lv (lv' := [(0, aA v0), (1, aI v1), (2, aI v2), (3, aI v3), (4, aI v4_236)]) ⟨rfl, rfl, rfl, rfl, rfl, trivial⟩ ?_
  exact hK21 _ _ _ _ _ _ h
set_option maxRecDepth 100000 in
set_option maxHeartbeats 4000000 in
theorem xX7_isSimple_229 {E : en} {ad : Nat → Nat} {Post : Int32 → hs → Prop} (hQ : isQ E ad (pI Post)) {K21 : Nat → Int32 → Int32 → Int32 → Int32 → hs → Prop} {K75 : Nat → Int32 → Int32 → Int32 → Int32 → Int32 → hs → Prop} (hK21 : ∀ (v0 : Nat) (v1 : Int32) (v2 : Int32) (v3 : Int32) (v4 : Int32) (S : hs), K21 v0 v1 v2 v3 v4 S → X E mX7_isSimple 0 0 ad S 21 [(0, aA v0), (1, aI v1), (2, aI v2), (3, aI v3), (4, aI v4)] []) (hK75 : ∀ (v0 : Nat) (v1 : Int32) (v2 : Int32) (v3 : Int32) (v4 : Int32) (v5 : Int32) (S : hs), K75 v0 v1 v2 v3 v4 v5 S → X E mX7_isSimple 0 0 ad S 75 [(0, aA v0), (1, aI v1), (2, aI v2), (3, aI v3), (4, aI v4), (5, aI v5)] []) (v0 : Nat) (v1 : Int32) (v2 : Int32) (v4 : Int32) (v5 : Int32) (s0 : Int32) (S : hs) (h : PX7_isSimple_229 Post K21 K75 v0 v1 v2 v4 v5 s0 S) : X E mX7_isSimple 0 0 ad S 229 [(0, aA v0), (1, aI v1), (2, aI v2), (4, aI v4), (5, aI v5)] [aI s0] := by
  unfold PX7_isSimple_229 at h
  refine x_istore_n dX7_isSimple_229 (by decide) rfl ?_
  obtain ⟨v5_230, hv5_230⟩ : ∃ y : Int32, y = v5 + 1 := ⟨_, rfl⟩
  replace h := h v5_230 hv5_230
  refine x_iinc (v := v5_230) dX7_isSimple_230 rfl (by rw [hv5_230]; rfl) (by decide) rfl ?_
  refine x_goto (tgt := 75) dX7_isSimple_233 (by decide) ?_
  refine x_lv (lv' := [(0, aA v0), (1, aI v1), (2, aI v2), (3, aI s0), (4, aI v4), (5, aI v5_230)]) ⟨rfl, rfl, rfl, rfl, rfl, rfl, trivial⟩ ?_
  exact hK75 _ _ _ _ _ _ _ h
set_option maxRecDepth 100000 in
set_option maxHeartbeats 4000000 in
theorem xX7_isSimple_228 {E : en} {ad : Nat → Nat} {Post : Int32 → hs → Prop} (hQ : isQ E ad (pI Post)) {K21 : Nat → Int32 → Int32 → Int32 → Int32 → hs → Prop} {K75 : Nat → Int32 → Int32 → Int32 → Int32 → Int32 → hs → Prop} (hK21 : ∀ (v0 : Nat) (v1 : Int32) (v2 : Int32) (v3 : Int32) (v4 : Int32) (S : hs), K21 v0 v1 v2 v3 v4 S → X E mX7_isSimple 0 0 ad S 21 [(0, aA v0), (1, aI v1), (2, aI v2), (3, aI v3), (4, aI v4)] []) (hK75 : ∀ (v0 : Nat) (v1 : Int32) (v2 : Int32) (v3 : Int32) (v4 : Int32) (v5 : Int32) (S : hs), K75 v0 v1 v2 v3 v4 v5 S → X E mX7_isSimple 0 0 ad S 75 [(0, aA v0), (1, aI v1), (2, aI v2), (3, aI v3), (4, aI v4), (5, aI v5)] []) (v0 : Nat) (v1 : Int32) (v2 : Int32) (v4 : Int32) (v5 : Int32) (S : hs) (h : PX7_isSimple_228 Post K21 K75 v0 v1 v2 v4 v5 S) : X E mX7_isSimple 0 0 ad S 228 [(0, aA v0), (1, aI v1), (2, aI v2), (4, aI v4), (5, aI v5)] [] := by
  unfold PX7_isSimple_228 at h
  refine x_iconst (v := 0) dX7_isSimple_228 (by decide) ?_
  refine x_lv (lv' := [(0, aA v0), (1, aI v1), (2, aI v2), (4, aI v4), (5, aI v5)]) ⟨rfl, rfl, rfl, rfl, rfl, trivial⟩ ?_
  exact xX7_isSimple_229 hQ hK21 hK75 _ _ _ _ _ _ _ h
set_option maxRecDepth 100000 in
set_option maxHeartbeats 4000000 in
theorem xX7_isSimple_224 {E : en} {ad : Nat → Nat} {Post : Int32 → hs → Prop} (hQ : isQ E ad (pI Post)) {K21 : Nat → Int32 → Int32 → Int32 → Int32 → hs → Prop} {K75 : Nat → Int32 → Int32 → Int32 → Int32 → Int32 → hs → Prop} (hK21 : ∀ (v0 : Nat) (v1 : Int32) (v2 : Int32) (v3 : Int32) (v4 : Int32) (S : hs), K21 v0 v1 v2 v3 v4 S → X E mX7_isSimple 0 0 ad S 21 [(0, aA v0), (1, aI v1), (2, aI v2), (3, aI v3), (4, aI v4)] []) (hK75 : ∀ (v0 : Nat) (v1 : Int32) (v2 : Int32) (v3 : Int32) (v4 : Int32) (v5 : Int32) (S : hs), K75 v0 v1 v2 v3 v4 v5 S → X E mX7_isSimple 0 0 ad S 75 [(0, aA v0), (1, aI v1), (2, aI v2), (3, aI v3), (4, aI v4), (5, aI v5)] []) (v0 : Nat) (v1 : Int32) (v2 : Int32) (v4 : Int32) (v5 : Int32) (S : hs) (h : PX7_isSimple_224 Post K21 K75 v0 v1 v2 v4 v5 S) : X E mX7_isSimple 0 0 ad S 224 [(0, aA v0), (1, aI v1), (2, aI v2), (4, aI v4), (5, aI v5)] [] := by
  unfold PX7_isSimple_224 at h
  refine x_iconst (v := 1) dX7_isSimple_224 (by decide) ?_
  refine x_goto (tgt := 229) dX7_isSimple_225 (by decide) ?_
  refine x_lv (lv' := [(0, aA v0), (1, aI v1), (2, aI v2), (4, aI v4), (5, aI v5)]) ⟨rfl, rfl, rfl, rfl, rfl, trivial⟩ ?_
  exact xX7_isSimple_229 hQ hK21 hK75 _ _ _ _ _ _ _ h
set_option maxRecDepth 100000 in
set_option maxHeartbeats 4000000 in
theorem xX7_isSimple_174 {E : en} {ad : Nat → Nat} {Post : Int32 → hs → Prop} (hQ : isQ E ad (pI Post)) {K21 : Nat → Int32 → Int32 → Int32 → Int32 → hs → Prop} {K75 : Nat → Int32 → Int32 → Int32 → Int32 → Int32 → hs → Prop} (hK21 : ∀ (v0 : Nat) (v1 : Int32) (v2 : Int32) (v3 : Int32) (v4 : Int32) (S : hs), K21 v0 v1 v2 v3 v4 S → X E mX7_isSimple 0 0 ad S 21 [(0, aA v0), (1, aI v1), (2, aI v2), (3, aI v3), (4, aI v4)] []) (hK75 : ∀ (v0 : Nat) (v1 : Int32) (v2 : Int32) (v3 : Int32) (v4 : Int32) (v5 : Int32) (S : hs), K75 v0 v1 v2 v3 v4 v5 S → X E mX7_isSimple 0 0 ad S 75 [(0, aA v0), (1, aI v1), (2, aI v2), (3, aI v3), (4, aI v4), (5, aI v5)] []) (v0 : Nat) (v1 : Int32) (v2 : Int32) (v3 : Int32) (v4 : Int32) (v5 : Int32) (s0 : Int32) (S : hs) (h : PX7_isSimple_174 Post K21 K75 v0 v1 v2 v3 v4 v5 s0 S) : X E mX7_isSimple 0 0 ad S 174 [(0, aA v0), (1, aI v1), (2, aI v2), (3, aI v3), (4, aI v4), (5, aI v5)] [aI s0] := by
  unfold PX7_isSimple_174 at h
  refine x_istore dX7_isSimple_174 (by decide) rfl ?_
  refine x_iload_n dX7_isSimple_176 rfl ?_
  refine x_if_eq (tgt := 228) dX7_isSimple_177 (by decide) (fun c => ?_) (fun c => ?_)
  · replace h := h.1 c
    refine x_lv (lv' := [(0, aA v0), (1, aI v1), (2, aI v2), (4, aI v4), (5, aI v5)]) ⟨rfl, rfl, rfl, rfl, rfl, trivial⟩ ?_
    exact xX7_isSimple_228 hQ hK21 hK75 _ _ _ _ _ _ h
  · replace h := h.2 c
    refine x_iload dX7_isSimple_180 rfl ?_
    refine x_if_ne (tgt := 224) dX7_isSimple_182 (by decide) (fun c => ?_) (fun c => ?_)
    · replace h := h.2 c
      refine x_lv (lv' := [(0, aA v0), (1, aI v1), (2, aI v2), (4, aI v4), (5, aI v5)]) ⟨rfl, rfl, rfl, rfl, rfl, trivial⟩ ?_
      exact xX7_isSimple_224 hQ hK21 hK75 _ _ _ _ _ _ h
    · replace h := h.1 c
      refine x_aload_n dX7_isSimple_185 rfl ?_
      refine x_aload_n dX7_isSimple_186 rfl ?_
      refine x_iload_n dX7_isSimple_187 rfl ?_
      refine x_iload dX7_isSimple_188 rfl ?_
      obtain ⟨h1, h⟩ := h
      refine x_callVI (As := [aI v1, aI v4]) (st := [aA v0]) kX7_102 rfl ⟨rfl, rfl, by decide, by decide⟩ dX7_isSimple_190 rfl (Nat.le_of_ble_eq_true rfl) ⟨Nat.zero_le _, Nat.zero_le _⟩ h1 (ctX7_at h) (fun x_190 S_190 h => ?_)
      refine x_aload_n dX7_isSimple_193 rfl ?_
      refine x_iload_n dX7_isSimple_194 rfl ?_
      refine x_iload dX7_isSimple_195 rfl ?_
      refine x_iconst (v := 1) dX7_isSimple_197 (by decide) ?_
      refine x_iadd dX7_isSimple_198 ?_
      obtain ⟨h1, h⟩ := h
      refine x_callVI (As := [aI v1, aI (v4 + 1)]) (st := [aI x_190, aA v0]) kX7_102 rfl ⟨rfl, rfl, by decide, by decide⟩ dX7_isSimple_199 rfl (Nat.le_of_ble_eq_true rfl) ⟨Nat.zero_le _, Nat.zero_le _⟩ h1 (ctX7_at h) (fun x_199 S_199 h => ?_)
      refine x_aload_n dX7_isSimple_202 rfl ?_
      refine x_iload_n dX7_isSimple_203 rfl ?_
      refine x_iload dX7_isSimple_204 rfl ?_
      obtain ⟨h1, h⟩ := h
      refine x_callVI (As := [aI v1, aI v5]) (st := [aI x_199, aI x_190, aA v0]) kX7_102 rfl ⟨rfl, rfl, by decide, by decide⟩ dX7_isSimple_206 rfl (Nat.le_of_ble_eq_true rfl) ⟨Nat.zero_le _, Nat.zero_le _⟩ h1 (ctX7_at h) (fun x_206 S_206 h => ?_)
      refine x_aload_n dX7_isSimple_209 rfl ?_
      refine x_iload_n dX7_isSimple_210 rfl ?_
      refine x_iload dX7_isSimple_211 rfl ?_
      refine x_iconst (v := 1) dX7_isSimple_213 (by decide) ?_
      refine x_iadd dX7_isSimple_214 ?_
      obtain ⟨h1, h⟩ := h
      refine x_callVI (As := [aI v1, aI (v5 + 1)]) (st := [aI x_206, aI x_199, aI x_190, aA v0]) kX7_102 rfl ⟨rfl, rfl, by decide, by decide⟩ dX7_isSimple_215 rfl (Nat.le_of_ble_eq_true rfl) ⟨Nat.zero_le _, Nat.zero_le _⟩ h1 (ctX7_at h) (fun x_215 S_215 h => ?_)
      obtain ⟨h1, h⟩ := h
      refine x_callVI (As := [aI x_190, aI x_199, aI x_206, aI x_215]) (st := []) kX7_110 rfl ⟨rfl, rfl, by decide, by decide⟩ dX7_isSimple_218 rfl (Nat.le_of_ble_eq_true rfl) ⟨Nat.zero_le _, Nat.zero_le _⟩ h1 (ctX7_doMeet h) (fun x_218 S_218 h => ?_)
      refine x_if_ne (tgt := 228) dX7_isSimple_221 (by decide) (fun c => ?_) (fun c => ?_)
      · replace h := h.2 c
        refine x_lv (lv' := [(0, aA v0), (1, aI v1), (2, aI v2), (4, aI v4), (5, aI v5)]) ⟨rfl, rfl, rfl, rfl, rfl, trivial⟩ ?_
        exact xX7_isSimple_228 hQ hK21 hK75 _ _ _ _ _ _ h
      · replace h := h.1 c
        refine x_lv (lv' := [(0, aA v0), (1, aI v1), (2, aI v2), (4, aI v4), (5, aI v5)]) ⟨rfl, rfl, rfl, rfl, rfl, trivial⟩ ?_
        exact xX7_isSimple_224 hQ hK21 hK75 _ _ _ _ _ _ h
set_option maxRecDepth 100000 in
set_option maxHeartbeats 4000000 in
theorem xX7_isSimple_173 {E : en} {ad : Nat → Nat} {Post : Int32 → hs → Prop} (hQ : isQ E ad (pI Post)) {K21 : Nat → Int32 → Int32 → Int32 → Int32 → hs → Prop} {K75 : Nat → Int32 → Int32 → Int32 → Int32 → Int32 → hs → Prop} (hK21 : ∀ (v0 : Nat) (v1 : Int32) (v2 : Int32) (v3 : Int32) (v4 : Int32) (S : hs), K21 v0 v1 v2 v3 v4 S → X E mX7_isSimple 0 0 ad S 21 [(0, aA v0), (1, aI v1), (2, aI v2), (3, aI v3), (4, aI v4)] []) (hK75 : ∀ (v0 : Nat) (v1 : Int32) (v2 : Int32) (v3 : Int32) (v4 : Int32) (v5 : Int32) (S : hs), K75 v0 v1 v2 v3 v4 v5 S → X E mX7_isSimple 0 0 ad S 75 [(0, aA v0), (1, aI v1), (2, aI v2), (3, aI v3), (4, aI v4), (5, aI v5)] []) (v0 : Nat) (v1 : Int32) (v2 : Int32) (v3 : Int32) (v4 : Int32) (v5 : Int32) (S : hs) (h : PX7_isSimple_173 Post K21 K75 v0 v1 v2 v3 v4 v5 S) : X E mX7_isSimple 0 0 ad S 173 [(0, aA v0), (1, aI v1), (2, aI v2), (3, aI v3), (4, aI v4), (5, aI v5)] [] := by
  unfold PX7_isSimple_173 at h
  refine x_iconst (v := 0) dX7_isSimple_173 (by decide) ?_
  refine x_lv (lv' := [(0, aA v0), (1, aI v1), (2, aI v2), (3, aI v3), (4, aI v4), (5, aI v5)]) ⟨rfl, rfl, rfl, rfl, rfl, rfl, trivial⟩ ?_
  exact xX7_isSimple_174 hQ hK21 hK75 _ _ _ _ _ _ _ _ h
set_option maxRecDepth 100000 in
set_option maxHeartbeats 4000000 in
theorem xX7_isSimple_169 {E : en} {ad : Nat → Nat} {Post : Int32 → hs → Prop} (hQ : isQ E ad (pI Post)) {K21 : Nat → Int32 → Int32 → Int32 → Int32 → hs → Prop} {K75 : Nat → Int32 → Int32 → Int32 → Int32 → Int32 → hs → Prop} (hK21 : ∀ (v0 : Nat) (v1 : Int32) (v2 : Int32) (v3 : Int32) (v4 : Int32) (S : hs), K21 v0 v1 v2 v3 v4 S → X E mX7_isSimple 0 0 ad S 21 [(0, aA v0), (1, aI v1), (2, aI v2), (3, aI v3), (4, aI v4)] []) (hK75 : ∀ (v0 : Nat) (v1 : Int32) (v2 : Int32) (v3 : Int32) (v4 : Int32) (v5 : Int32) (S : hs), K75 v0 v1 v2 v3 v4 v5 S → X E mX7_isSimple 0 0 ad S 75 [(0, aA v0), (1, aI v1), (2, aI v2), (3, aI v3), (4, aI v4), (5, aI v5)] []) (v0 : Nat) (v1 : Int32) (v2 : Int32) (v3 : Int32) (v4 : Int32) (v5 : Int32) (S : hs) (h : PX7_isSimple_169 Post K21 K75 v0 v1 v2 v3 v4 v5 S) : X E mX7_isSimple 0 0 ad S 169 [(0, aA v0), (1, aI v1), (2, aI v2), (3, aI v3), (4, aI v4), (5, aI v5)] [] := by
  unfold PX7_isSimple_169 at h
  refine x_iconst (v := 1) dX7_isSimple_169 (by decide) ?_
  refine x_goto (tgt := 174) dX7_isSimple_170 (by decide) ?_
  refine x_lv (lv' := [(0, aA v0), (1, aI v1), (2, aI v2), (3, aI v3), (4, aI v4), (5, aI v5)]) ⟨rfl, rfl, rfl, rfl, rfl, rfl, trivial⟩ ?_
  exact xX7_isSimple_174 hQ hK21 hK75 _ _ _ _ _ _ _ _ h
set_option maxRecDepth 100000 in
set_option maxHeartbeats 4000000 in
theorem xX7_isSimple_146 {E : en} {ad : Nat → Nat} {Post : Int32 → hs → Prop} (hQ : isQ E ad (pI Post)) {K21 : Nat → Int32 → Int32 → Int32 → Int32 → hs → Prop} {K75 : Nat → Int32 → Int32 → Int32 → Int32 → Int32 → hs → Prop} (hK21 : ∀ (v0 : Nat) (v1 : Int32) (v2 : Int32) (v3 : Int32) (v4 : Int32) (S : hs), K21 v0 v1 v2 v3 v4 S → X E mX7_isSimple 0 0 ad S 21 [(0, aA v0), (1, aI v1), (2, aI v2), (3, aI v3), (4, aI v4)] []) (hK75 : ∀ (v0 : Nat) (v1 : Int32) (v2 : Int32) (v3 : Int32) (v4 : Int32) (v5 : Int32) (S : hs), K75 v0 v1 v2 v3 v4 v5 S → X E mX7_isSimple 0 0 ad S 75 [(0, aA v0), (1, aI v1), (2, aI v2), (3, aI v3), (4, aI v4), (5, aI v5)] []) (v0 : Nat) (v1 : Int32) (v2 : Int32) (v4 : Int32) (v5 : Int32) (s0 : Int32) (S : hs) (h : PX7_isSimple_146 Post K21 K75 v0 v1 v2 v4 v5 s0 S) : X E mX7_isSimple 0 0 ad S 146 [(0, aA v0), (1, aI v1), (2, aI v2), (4, aI v4), (5, aI v5)] [aI s0] := by
  unfold PX7_isSimple_146 at h
  refine x_istore_n dX7_isSimple_146 (by decide) rfl ?_
  refine x_iload dX7_isSimple_147 rfl ?_
  refine x_iload dX7_isSimple_149 rfl ?_
  refine x_iconst (v := 1) dX7_isSimple_151 (by decide) ?_
  refine x_iadd dX7_isSimple_152 ?_
  refine x_icmp_eq (tgt := 169) dX7_isSimple_153 (by decide) (fun c => ?_) (fun c => ?_)
  · replace h := h.1 c
    refine x_lv (lv' := [(0, aA v0), (1, aI v1), (2, aI v2), (3, aI s0), (4, aI v4), (5, aI v5)]) ⟨rfl, rfl, rfl, rfl, rfl, rfl, trivial⟩ ?_
    exact xX7_isSimple_169 hQ hK21 hK75 _ _ _ _ _ _ _ h
  · replace h := h.2 c
    refine x_iload dX7_isSimple_156 rfl ?_
    refine x_if_ne (tgt := 173) dX7_isSimple_158 (by decide) (fun c => ?_) (fun c => ?_)
    · replace h := h.2 c
      refine x_lv (lv' := [(0, aA v0), (1, aI v1), (2, aI v2), (3, aI s0), (4, aI v4), (5, aI v5)]) ⟨rfl, rfl, rfl, rfl, rfl, rfl, trivial⟩ ?_
      exact xX7_isSimple_173 hQ hK21 hK75 _ _ _ _ _ _ _ h
    · replace h := h.1 c
      refine x_iload dX7_isSimple_161 rfl ?_
      refine x_iload_n dX7_isSimple_163 rfl ?_
      refine x_iconst (v := 1) dX7_isSimple_164 (by decide) ?_
      refine x_isub dX7_isSimple_165 ?_
      refine x_icmp_ne (tgt := 173) dX7_isSimple_166 (by decide) (fun c => ?_) (fun c => ?_)
      · replace h := h.2 c
        refine x_lv (lv' := [(0, aA v0), (1, aI v1), (2, aI v2), (3, aI s0), (4, aI v4), (5, aI v5)]) ⟨rfl, rfl, rfl, rfl, rfl, rfl, trivial⟩ ?_
        exact xX7_isSimple_173 hQ hK21 hK75 _ _ _ _ _ _ _ h
      · replace h := h.1 c
        refine x_lv (lv' := [(0, aA v0), (1, aI v1), (2, aI v2), (3, aI s0), (4, aI v4), (5, aI v5)]) ⟨rfl, rfl, rfl, rfl, rfl, rfl, trivial⟩ ?_
        exact xX7_isSimple_169 hQ hK21 hK75 _ _ _ _ _ _ _ h
set_option maxRecDepth 100000 in
set_option maxHeartbeats 4000000 in
theorem xX7_isSimple_141 {E : en} {ad : Nat → Nat} {Post : Int32 → hs → Prop} (hQ : isQ E ad (pI Post)) {K21 : Nat → Int32 → Int32 → Int32 → Int32 → hs → Prop} {K75 : Nat → Int32 → Int32 → Int32 → Int32 → Int32 → hs → Prop} (hK21 : ∀ (v0 : Nat) (v1 : Int32) (v2 : Int32) (v3 : Int32) (v4 : Int32) (S : hs), K21 v0 v1 v2 v3 v4 S → X E mX7_isSimple 0 0 ad S 21 [(0, aA v0), (1, aI v1), (2, aI v2), (3, aI v3), (4, aI v4)] []) (hK75 : ∀ (v0 : Nat) (v1 : Int32) (v2 : Int32) (v3 : Int32) (v4 : Int32) (v5 : Int32) (S : hs), K75 v0 v1 v2 v3 v4 v5 S → X E mX7_isSimple 0 0 ad S 75 [(0, aA v0), (1, aI v1), (2, aI v2), (3, aI v3), (4, aI v4), (5, aI v5)] []) (v0 : Nat) (v1 : Int32) (v2 : Int32) (v4 : Int32) (v5 : Int32) (S : hs) (h : PX7_isSimple_141 Post K21 K75 v0 v1 v2 v4 v5 S) : X E mX7_isSimple 0 0 ad S 141 [(0, aA v0), (1, aI v1), (2, aI v2), (4, aI v4), (5, aI v5)] [] := by
  unfold PX7_isSimple_141 at h
  refine x_iconst (v := 1) dX7_isSimple_141 (by decide) ?_
  refine x_goto (tgt := 146) dX7_isSimple_142 (by decide) ?_
  refine x_lv (lv' := [(0, aA v0), (1, aI v1), (2, aI v2), (4, aI v4), (5, aI v5)]) ⟨rfl, rfl, rfl, rfl, rfl, trivial⟩ ?_
  exact xX7_isSimple_146 hQ hK21 hK75 _ _ _ _ _ _ _ h
set_option maxRecDepth 100000 in
set_option maxHeartbeats 4000000 in
theorem xX7_isSimple_75 {E : en} {ad : Nat → Nat} {Post : Int32 → hs → Prop} (hQ : isQ E ad (pI Post)) {K21 : Nat → Int32 → Int32 → Int32 → Int32 → hs → Prop} (hK21 : ∀ (v0 : Nat) (v1 : Int32) (v2 : Int32) (v3 : Int32) (v4 : Int32) (S : hs), K21 v0 v1 v2 v3 v4 S → X E mX7_isSimple 0 0 ad S 21 [(0, aA v0), (1, aI v1), (2, aI v2), (3, aI v3), (4, aI v4)] []) : ∀ (n : Nat) (v0 : Nat) (v1 : Int32) (v2 : Int32) (v3 : Int32) (v4 : Int32) (v5 : Int32) (S : hs) (_ : PX7_isSimple_75 Post K21 n v0 v1 v2 v3 v4 v5 S), X E mX7_isSimple 0 0 ad S 75 [(0, aA v0), (1, aI v1), (2, aI v2), (3, aI v3), (4, aI v4), (5, aI v5)] [] := by
  intro n
  induction n with
  | zero => intro v0 v1 v2 v3 v4 v5 S h; exact h.elim
  | succ n ih =>
    intro v0 v1 v2 v3 v4 v5 S h
    have hK75 := ih
    simp only [PX7_isSimple_75] at h
    refine x_iload dX7_isSimple_75 rfl ?_
    refine x_iload_n dX7_isSimple_77 rfl ?_
    refine x_icmp_ge (tgt := 236) dX7_isSimple_78 (by decide) (fun c => ?_) (fun c => ?_)
    · replace h := h.1 c
      refine x_lv (lv' := [(0, aA v0), (1, aI v1), (2, aI v2), (3, aI v3), (4, aI v4)]) ⟨rfl, rfl, rfl, rfl, rfl, trivial⟩ ?_
      exact xX7_isSimple_236 hQ hK21 _ _ _ _ _ _ h
    · replace h := h.2 c
      refine x_iload_n dX7_isSimple_81 rfl ?_
      refine x_if_eq (tgt := 236) dX7_isSimple_82 (by decide) (fun c => ?_) (fun c => ?_)
      · replace h := h.1 c
        refine x_lv (lv' := [(0, aA v0), (1, aI v1), (2, aI v2), (3, aI v3), (4, aI v4)]) ⟨rfl, rfl, rfl, rfl, rfl, trivial⟩ ?_
        exact xX7_isSimple_236 hQ hK21 _ _ _ _ _ _ h
      · replace h := h.2 c
        refine x_aload_n dX7_isSimple_85 rfl ?_
        obtain ⟨h1, r_86, hr_86, h⟩ := h
        refine x_g7_2 rfl dX7_isSimple_86 h1 (x_un hr_86 ?_)
        refine x_aload_n dX7_isSimple_89 rfl ?_
        refine x_iload_n dX7_isSimple_90 rfl ?_
        refine x_iload dX7_isSimple_91 rfl ?_
        obtain ⟨h1, h⟩ := h
        refine x_callVI (As := [aI v1, aI v4]) (st := [aA r_86]) kX7_102 rfl ⟨rfl, rfl, by decide, by decide⟩ dX7_isSimple_93 rfl (Nat.le_of_ble_eq_true rfl) ⟨Nat.zero_le _, Nat.zero_le _⟩ h1 (ctX7_at h) (fun x_93 S_93 h => ?_)
        refine x_lald dX7_isSimple_96 h.1 ?_
        replace h := h.2
        refine x_aload_n dX7_isSimple_97 rfl ?_
        obtain ⟨h1, r_98, hr_98, h⟩ := h
        refine x_g7_2 rfl dX7_isSimple_98 h1 (x_un hr_98 ?_)
        refine x_aload_n dX7_isSimple_101 rfl ?_
        refine x_iload_n dX7_isSimple_102 rfl ?_
        refine x_iload dX7_isSimple_103 rfl ?_
        obtain ⟨h1, h⟩ := h
        refine x_callVI (As := [aI v1, aI v5]) (st := [aA r_98, aJ (hj S_93 r_86 (Int32.toNatClampNeg x_93))]) kX7_102 rfl ⟨rfl, rfl, by decide, by decide⟩ dX7_isSimple_105 rfl (Nat.le_of_ble_eq_true rfl) ⟨Nat.zero_le _, Nat.zero_le _⟩ h1 (ctX7_at h) (fun x_105 S_105 h => ?_)
        refine x_lald dX7_isSimple_108 h.1 ?_
        replace h := h.2
        refine x_lcmp_ne (tgt := 141) dX7_isSimple_109 dX7_isSimple_110 (by decide) (fun c => ?_) (fun c => ?_)
        · replace h := h.2 c
          refine x_lv (lv' := [(0, aA v0), (1, aI v1), (2, aI v2), (4, aI v4), (5, aI v5)]) ⟨rfl, rfl, rfl, rfl, rfl, trivial⟩ ?_
          exact xX7_isSimple_141 hQ hK21 hK75 _ _ _ _ _ _ h
        · replace h := h.1 c
          refine x_aload_n dX7_isSimple_113 rfl ?_
          obtain ⟨h1, r_114, hr_114, h⟩ := h
          refine x_g7_3 rfl dX7_isSimple_114 h1 (x_un hr_114 ?_)
          refine x_aload_n dX7_isSimple_117 rfl ?_
          refine x_iload_n dX7_isSimple_118 rfl ?_
          refine x_iload dX7_isSimple_119 rfl ?_
          obtain ⟨h1, h⟩ := h
          refine x_callVI (As := [aI v1, aI v4]) (st := [aA r_114]) kX7_102 rfl ⟨rfl, rfl, by decide, by decide⟩ dX7_isSimple_121 rfl (Nat.le_of_ble_eq_true rfl) ⟨Nat.zero_le _, Nat.zero_le _⟩ h1 (ctX7_at h) (fun x_121 S_121 h => ?_)
          refine x_lald dX7_isSimple_124 h.1 ?_
          replace h := h.2
          refine x_aload_n dX7_isSimple_125 rfl ?_
          obtain ⟨h1, r_126, hr_126, h⟩ := h
          refine x_g7_3 rfl dX7_isSimple_126 h1 (x_un hr_126 ?_)
          refine x_aload_n dX7_isSimple_129 rfl ?_
          refine x_iload_n dX7_isSimple_130 rfl ?_
          refine x_iload dX7_isSimple_131 rfl ?_
          obtain ⟨h1, h⟩ := h
          refine x_callVI (As := [aI v1, aI v5]) (st := [aA r_126, aJ (hj S_121 r_114 (Int32.toNatClampNeg x_121))]) kX7_102 rfl ⟨rfl, rfl, by decide, by decide⟩ dX7_isSimple_133 rfl (Nat.le_of_ble_eq_true rfl) ⟨Nat.zero_le _, Nat.zero_le _⟩ h1 (ctX7_at h) (fun x_133 S_133 h => ?_)
          refine x_lald dX7_isSimple_136 h.1 ?_
          replace h := h.2
          refine x_lcmp_eq (tgt := 145) dX7_isSimple_137 dX7_isSimple_138 (by decide) (fun c => ?_) (fun c => ?_)
          · replace h := h.1 c
            refine x_iconst (v := 0) dX7_isSimple_145 (by decide) ?_
            refine x_lv (lv' := [(0, aA v0), (1, aI v1), (2, aI v2), (4, aI v4), (5, aI v5)]) ⟨rfl, rfl, rfl, rfl, rfl, trivial⟩ ?_
            exact xX7_isSimple_146 hQ hK21 hK75 _ _ _ _ _ _ _ h
          · replace h := h.2 c
            refine x_lv (lv' := [(0, aA v0), (1, aI v1), (2, aI v2), (4, aI v4), (5, aI v5)]) ⟨rfl, rfl, rfl, rfl, rfl, trivial⟩ ?_
            exact xX7_isSimple_141 hQ hK21 hK75 _ _ _ _ _ _ h
set_option maxRecDepth 100000 in
set_option maxHeartbeats 4000000 in
theorem xX7_isSimple_68 {E : en} {ad : Nat → Nat} {Post : Int32 → hs → Prop} (hQ : isQ E ad (pI Post)) {K21 : Nat → Int32 → Int32 → Int32 → Int32 → hs → Prop} (hK21 : ∀ (v0 : Nat) (v1 : Int32) (v2 : Int32) (v3 : Int32) (v4 : Int32) (S : hs), K21 v0 v1 v2 v3 v4 S → X E mX7_isSimple 0 0 ad S 21 [(0, aA v0), (1, aI v1), (2, aI v2), (3, aI v3), (4, aI v4)] []) (v0 : Nat) (v1 : Int32) (v2 : Int32) (v4 : Int32) (s0 : Int32) (S : hs) (h : PX7_isSimple_68 Post K21 v0 v1 v2 v4 s0 S) : X E mX7_isSimple 0 0 ad S 68 [(0, aA v0), (1, aI v1), (2, aI v2), (4, aI v4)] [aI s0] := by
  unfold PX7_isSimple_68 at h
  refine x_istore_n dX7_isSimple_68 (by decide) rfl ?_
  refine x_iload dX7_isSimple_69 rfl ?_
  refine x_iconst (v := 1) dX7_isSimple_71 (by decide) ?_
  refine x_iadd dX7_isSimple_72 ?_
  refine x_nI (fun v5_73 hv5_73 => ?_)
  replace h := h v5_73 hv5_73
  refine x_istore dX7_isSimple_73 (by decide) rfl ?_
  refine x_lv (lv' := [(0, aA v0), (1, aI v1), (2, aI v2), (3, aI s0), (4, aI v4), (5, aI v5_73)]) ⟨rfl, rfl, rfl, rfl, rfl, rfl, trivial⟩ ?_
  obtain ⟨n, h⟩ := h
  exact xX7_isSimple_75 hQ hK21 n _ _ _ _ _ _ _ h
set_option maxRecDepth 100000 in
set_option maxHeartbeats 4000000 in
theorem xX7_isSimple_21 {E : en} {ad : Nat → Nat} {Post : Int32 → hs → Prop} (hQ : isQ E ad (pI Post))   : ∀ (n : Nat) (v0 : Nat) (v1 : Int32) (v2 : Int32) (v3 : Int32) (v4 : Int32) (S : hs) (_ : PX7_isSimple_21 Post  n v0 v1 v2 v3 v4 S), X E mX7_isSimple 0 0 ad S 21 [(0, aA v0), (1, aI v1), (2, aI v2), (3, aI v3), (4, aI v4)] [] := by
  intro n
  induction n with
  | zero => intro v0 v1 v2 v3 v4 S h; exact h.elim
  | succ n ih =>
    intro v0 v1 v2 v3 v4 S h
    have hK21 := ih
    simp only [PX7_isSimple_21] at h
    refine x_iload dX7_isSimple_21 rfl ?_
    refine x_iload_n dX7_isSimple_23 rfl ?_
    refine x_icmp_ge (tgt := 242) dX7_isSimple_24 (by decide) (fun c => ?_) (fun c => ?_)
    · replace h := h.1 c
      refine x_lv (lv' := [(3, aI v3)]) ⟨rfl, trivial⟩ ?_
      exact xX7_isSimple_242 hQ  _ _ h
    · replace h := h.2 c
      refine x_iload_n dX7_isSimple_27 rfl ?_
      refine x_if_eq (tgt := 242) dX7_isSimple_28 (by decide) (fun c => ?_) (fun c => ?_)
      · replace h := h.1 c
        refine x_lv (lv' := [(3, aI v3)]) ⟨rfl, trivial⟩ ?_
        exact xX7_isSimple_242 hQ  _ _ h
      · replace h := h.2 c
        refine x_aload_n dX7_isSimple_31 rfl ?_
        refine x_aload_n dX7_isSimple_32 rfl ?_
        refine x_iload_n dX7_isSimple_33 rfl ?_
        refine x_iload dX7_isSimple_34 rfl ?_
        obtain ⟨h1, h⟩ := h
        refine x_callVI (As := [aI v1, aI v4]) (st := [aA v0]) kX7_102 rfl ⟨rfl, rfl, by decide, by decide⟩ dX7_isSimple_36 rfl (Nat.le_of_ble_eq_true rfl) ⟨Nat.zero_le _, Nat.zero_le _⟩ h1 (ctX7_at h) (fun x_36 S_36 h => ?_)
        refine x_aload_n dX7_isSimple_39 rfl ?_
        refine x_iload_n dX7_isSimple_40 rfl ?_
        refine x_iload dX7_isSimple_41 rfl ?_
        refine x_iconst (v := 1) dX7_isSimple_43 (by decide) ?_
        refine x_iadd dX7_isSimple_44 ?_
        obtain ⟨h1, h⟩ := h
        refine x_callVI (As := [aI v1, aI (v4 + 1)]) (st := [aI x_36, aA v0]) kX7_102 rfl ⟨rfl, rfl, by decide, by decide⟩ dX7_isSimple_45 rfl (Nat.le_of_ble_eq_true rfl) ⟨Nat.zero_le _, Nat.zero_le _⟩ h1 (ctX7_at h) (fun x_45 S_45 h => ?_)
        refine x_aload_n dX7_isSimple_48 rfl ?_
        refine x_iload_n dX7_isSimple_49 rfl ?_
        refine x_iload dX7_isSimple_50 rfl ?_
        refine x_iconst (v := 2) dX7_isSimple_52 (by decide) ?_
        refine x_iadd dX7_isSimple_53 ?_
        obtain ⟨h1, h⟩ := h
        refine x_callVI (As := [aI v1, aI (v4 + 2)]) (st := [aI x_45, aI x_36, aA v0]) kX7_102 rfl ⟨rfl, rfl, by decide, by decide⟩ dX7_isSimple_54 rfl (Nat.le_of_ble_eq_true rfl) ⟨Nat.zero_le _, Nat.zero_le _⟩ h1 (ctX7_at h) (fun x_54 S_54 h => ?_)
        obtain ⟨h1, h⟩ := h
        refine x_callVI (As := [aI x_36, aI x_45, aI x_54]) (st := []) kX7_106 rfl ⟨rfl, rfl, by decide, by decide⟩ dX7_isSimple_57 rfl (Nat.le_of_ble_eq_true rfl) ⟨Nat.zero_le _, Nat.zero_le _⟩ h1 (ctX7_doFold h) (fun x_57 S_57 h => ?_)
        refine x_if_ne (tgt := 67) dX7_isSimple_60 (by decide) (fun c => ?_) (fun c => ?_)
        · replace h := h.2 c
          refine x_iconst (v := 0) dX7_isSimple_67 (by decide) ?_
          refine x_lv (lv' := [(0, aA v0), (1, aI v1), (2, aI v2), (4, aI v4)]) ⟨rfl, rfl, rfl, rfl, trivial⟩ ?_
          exact xX7_isSimple_68 hQ hK21 _ _ _ _ _ _ h
        · replace h := h.1 c
          refine x_iconst (v := 1) dX7_isSimple_63 (by decide) ?_
          refine x_goto (tgt := 68) dX7_isSimple_64 (by decide) ?_
          refine x_lv (lv' := [(0, aA v0), (1, aI v1), (2, aI v2), (4, aI v4)]) ⟨rfl, rfl, rfl, rfl, trivial⟩ ?_
          exact xX7_isSimple_68 hQ hK21 _ _ _ _ _ _ h
set_option maxRecDepth 100000 in
set_option maxHeartbeats 4000000 in
theorem xX7_isSimple_17 {E : en} {ad : Nat → Nat} {Post : Int32 → hs → Prop} (hQ : isQ E ad (pI Post))   (v0 : Nat) (v1 : Int32) (v2 : Int32) (s0 : Int32) (S : hs) (h : PX7_isSimple_17 Post  v0 v1 v2 s0 S) : X E mX7_isSimple 0 0 ad S 17 [(0, aA v0), (1, aI v1), (2, aI v2)] [aI s0] := by
  unfold PX7_isSimple_17 at h
  refine x_istore_n dX7_isSimple_17 (by decide) rfl ?_
  refine x_iconst (v := 0) dX7_isSimple_18 (by decide) ?_
  refine x_istore dX7_isSimple_19 (by decide) rfl ?_
  refine x_lv (lv' := [(0, aA v0), (1, aI v1), (2, aI v2), (3, aI s0), (4, aI 0)]) ⟨rfl, rfl, rfl, rfl, rfl, trivial⟩ ?_
  obtain ⟨n, h⟩ := h
  exact xX7_isSimple_21 hQ  n _ _ _ _ _ _ h
set_option maxRecDepth 100000 in
set_option maxHeartbeats 4000000 in
theorem ctX7_isSimple {G : Launch × va_G × (Nat → ClassId) × Nat} {v0 : Nat} {v1 : Int32} {S : hs} {Post : Int32 → hs → Prop} (h : PX7_isSimple v0 v1 S Post) : ctN G mX7_isSimple [aA v0, aI v1] S (pI Post) := by
  refine ctN.of (by decide) (Nat.le_of_ble_eq_true rfl) (fun E ad hG hQ => ?_)
  subst hG
  unfold PX7_isSimple at h
  refine x_aload_n dX7_isSimple_0 rfl ?_
  obtain ⟨h1, r_1, hr_1, h⟩ := h
  refine x_g7_4 rfl dX7_isSimple_1 h1 (x_un hr_1 ?_)
  refine x_iload_n dX7_isSimple_4 rfl ?_
  refine x_iald dX7_isSimple_5 h.1 ?_
  replace h := h.2
  refine x_nI (fun v2_6 hv2_6 => ?_)
  replace h := h v2_6 hv2_6
  refine x_istore_n dX7_isSimple_6 (by decide) rfl ?_
  refine x_iload_n dX7_isSimple_7 rfl ?_
  refine x_iconst (v := 2) dX7_isSimple_8 (by decide) ?_
  refine x_icmp_le (tgt := 16) dX7_isSimple_9 (by decide) (fun c => ?_) (fun c => ?_)
  · replace h := h.1 c
    refine x_iconst (v := 0) dX7_isSimple_16 (by decide) ?_
    refine x_lv (lv' := [(0, aA v0), (1, aI v1), (2, aI v2_6)]) ⟨rfl, rfl, rfl, trivial⟩ ?_
    exact xX7_isSimple_17 hQ  _ _ _ _ _ h
  · replace h := h.2 c
    refine x_iconst (v := 1) dX7_isSimple_12 (by decide) ?_
    refine x_goto (tgt := 17) dX7_isSimple_13 (by decide) ?_
    refine x_lv (lv' := [(0, aA v0), (1, aI v1), (2, aI v2_6)]) ⟨rfl, rfl, rfl, trivial⟩ ?_
    exact xX7_isSimple_17 hQ  _ _ _ _ _ h
set_option maxRecDepth 100000 in
set_option maxHeartbeats 4000000 in
theorem xX7_ringsMeet_15 {E : en} {ad : Nat → Nat} {Post : Int32 → hs → Prop} (hQ : isQ E ad (pI Post)) {K2 : Nat → Int32 → Int32 → Int32 → hs → Prop} (hK2 : ∀ (v0 : Nat) (v1 : Int32) (v2 : Int32) (v3 : Int32) (S : hs), K2 v0 v1 v2 v3 S → X E mX7_ringsMeet 0 0 ad S 2 [(0, aA v0), (1, aI v1), (2, aI v2), (3, aI v3)] []) : ∀ (n : Nat) (v0 : Nat) (v1 : Int32) (v2 : Int32) (v3 : Int32) (v4 : Int32) (S : hs) (_ : PX7_ringsMeet_15 Post K2 n v0 v1 v2 v3 v4 S), X E mX7_ringsMeet 0 0 ad S 15 [(0, aA v0), (1, aI v1), (2, aI v2), (3, aI v3), (4, aI v4)] [] := by
  intro n
  induction n with
  | zero => intro v0 v1 v2 v3 v4 S h; exact h.elim
  | succ n ih =>
    intro v0 v1 v2 v3 v4 S h
    have hK15 := ih
    simp only [PX7_ringsMeet_15] at h
    refine x_iload dX7_ringsMeet_15 rfl ?_
    refine x_aload_n dX7_ringsMeet_17 rfl ?_
    obtain ⟨h1, r_18, hr_18, h⟩ := h
    refine x_g7_4 rfl dX7_ringsMeet_18 h1 (x_un hr_18 ?_)
    refine x_iload_n dX7_ringsMeet_21 rfl ?_
    refine x_iald dX7_ringsMeet_22 h.1 ?_
    replace h := h.2
    refine x_icmp_ge (tgt := 71) dX7_ringsMeet_23 (by decide) (fun c => ?_) (fun c => ?_)
    · replace h := h.1 c
      obtain ⟨v3_71, hv3_71⟩ : ∃ y : Int32, y = v3 + 1 := ⟨_, rfl⟩
      replace h := h v3_71 hv3_71
      refine x_iinc (v := v3_71) dX7_ringsMeet_71 rfl (by rw [hv3_71]; rfl) (by decide) rfl ?_
      refine x_goto (tgt := 2) dX7_ringsMeet_74 (by decide) ?_
      refine x_lv (lv' := [(0, aA v0), (1, aI v1), (2, aI v2), (3, aI v3_71)]) ⟨rfl, rfl, rfl, rfl, trivial⟩ ?_
      exact hK2 _ _ _ _ _ h
    · replace h := h.2 c
      refine x_aload_n dX7_ringsMeet_26 rfl ?_
      refine x_aload_n dX7_ringsMeet_27 rfl ?_
      refine x_iload_n dX7_ringsMeet_28 rfl ?_
      refine x_iload_n dX7_ringsMeet_29 rfl ?_
      obtain ⟨h1, h⟩ := h
      refine x_callVI (As := [aI v1, aI v3]) (st := [aA v0]) kX7_102 rfl ⟨rfl, rfl, by decide, by decide⟩ dX7_ringsMeet_30 rfl (Nat.le_of_ble_eq_true rfl) ⟨Nat.zero_le _, Nat.zero_le _⟩ h1 (ctX7_at h) (fun x_30 S_30 h => ?_)
      refine x_aload_n dX7_ringsMeet_33 rfl ?_
      refine x_iload_n dX7_ringsMeet_34 rfl ?_
      refine x_iload_n dX7_ringsMeet_35 rfl ?_
      refine x_iconst (v := 1) dX7_ringsMeet_36 (by decide) ?_
      refine x_iadd dX7_ringsMeet_37 ?_
      obtain ⟨h1, h⟩ := h
      refine x_callVI (As := [aI v1, aI (v3 + 1)]) (st := [aI x_30, aA v0]) kX7_102 rfl ⟨rfl, rfl, by decide, by decide⟩ dX7_ringsMeet_38 rfl (Nat.le_of_ble_eq_true rfl) ⟨Nat.zero_le _, Nat.zero_le _⟩ h1 (ctX7_at h) (fun x_38 S_38 h => ?_)
      refine x_aload_n dX7_ringsMeet_41 rfl ?_
      refine x_iload_n dX7_ringsMeet_42 rfl ?_
      refine x_iload dX7_ringsMeet_43 rfl ?_
      obtain ⟨h1, h⟩ := h
      refine x_callVI (As := [aI v2, aI v4]) (st := [aI x_38, aI x_30, aA v0]) kX7_102 rfl ⟨rfl, rfl, by decide, by decide⟩ dX7_ringsMeet_45 rfl (Nat.le_of_ble_eq_true rfl) ⟨Nat.zero_le _, Nat.zero_le _⟩ h1 (ctX7_at h) (fun x_45 S_45 h => ?_)
      refine x_aload_n dX7_ringsMeet_48 rfl ?_
      refine x_iload_n dX7_ringsMeet_49 rfl ?_
      refine x_iload dX7_ringsMeet_50 rfl ?_
      refine x_iconst (v := 1) dX7_ringsMeet_52 (by decide) ?_
      refine x_iadd dX7_ringsMeet_53 ?_
      obtain ⟨h1, h⟩ := h
      refine x_callVI (As := [aI v2, aI (v4 + 1)]) (st := [aI x_45, aI x_38, aI x_30, aA v0]) kX7_102 rfl ⟨rfl, rfl, by decide, by decide⟩ dX7_ringsMeet_54 rfl (Nat.le_of_ble_eq_true rfl) ⟨Nat.zero_le _, Nat.zero_le _⟩ h1 (ctX7_at h) (fun x_54 S_54 h => ?_)
      obtain ⟨h1, h⟩ := h
      refine x_callVI (As := [aI x_30, aI x_38, aI x_45, aI x_54]) (st := []) kX7_110 rfl ⟨rfl, rfl, by decide, by decide⟩ dX7_ringsMeet_57 rfl (Nat.le_of_ble_eq_true rfl) ⟨Nat.zero_le _, Nat.zero_le _⟩ h1 (ctX7_doMeet h) (fun x_57 S_57 h => ?_)
      refine x_if_eq (tgt := 65) dX7_ringsMeet_60 (by decide) (fun c => ?_) (fun c => ?_)
      · replace h := h.1 c
        obtain ⟨v4_65, hv4_65⟩ : ∃ y : Int32, y = v4 + 1 := ⟨_, rfl⟩
        replace h := h v4_65 hv4_65
        refine x_iinc (v := v4_65) dX7_ringsMeet_65 rfl (by rw [hv4_65]; rfl) (by decide) rfl ?_
        refine x_goto (tgt := 15) dX7_ringsMeet_68 (by decide) ?_
        refine x_lv (lv' := [(0, aA v0), (1, aI v1), (2, aI v2), (3, aI v3), (4, aI v4_65)]) ⟨rfl, rfl, rfl, rfl, rfl, trivial⟩ ?_
        exact hK15 _ _ _ _ _ _ h
      · replace h := h.2 c
        refine x_iconst (v := 1) dX7_ringsMeet_63 (by decide) ?_
        exact x_zret hQ rfl dX7_ringsMeet_64 ⟨Or.inr rfl, _, rfl, h⟩
set_option maxRecDepth 100000 in
set_option maxHeartbeats 4000000 in
theorem xX7_ringsMeet_2 {E : en} {ad : Nat → Nat} {Post : Int32 → hs → Prop} (hQ : isQ E ad (pI Post))   : ∀ (n : Nat) (v0 : Nat) (v1 : Int32) (v2 : Int32) (v3 : Int32) (S : hs) (_ : PX7_ringsMeet_2 Post  n v0 v1 v2 v3 S), X E mX7_ringsMeet 0 0 ad S 2 [(0, aA v0), (1, aI v1), (2, aI v2), (3, aI v3)] [] := by
  intro n
  induction n with
  | zero => intro v0 v1 v2 v3 S h; exact h.elim
  | succ n ih =>
    intro v0 v1 v2 v3 S h
    have hK2 := ih
    simp only [PX7_ringsMeet_2] at h
    refine x_iload_n dX7_ringsMeet_2 rfl ?_
    refine x_aload_n dX7_ringsMeet_3 rfl ?_
    obtain ⟨h1, r_4, hr_4, h⟩ := h
    refine x_g7_4 rfl dX7_ringsMeet_4 h1 (x_un hr_4 ?_)
    refine x_iload_n dX7_ringsMeet_7 rfl ?_
    refine x_iald dX7_ringsMeet_8 h.1 ?_
    replace h := h.2
    refine x_icmp_ge (tgt := 77) dX7_ringsMeet_9 (by decide) (fun c => ?_) (fun c => ?_)
    · replace h := h.1 c
      refine x_iconst (v := 0) dX7_ringsMeet_77 (by decide) ?_
      exact x_zret hQ rfl dX7_ringsMeet_78 ⟨Or.inl rfl, _, rfl, h⟩
    · replace h := h.2 c
      refine x_iconst (v := 0) dX7_ringsMeet_12 (by decide) ?_
      refine x_istore dX7_ringsMeet_13 (by decide) rfl ?_
      refine x_lv (lv' := [(0, aA v0), (1, aI v1), (2, aI v2), (3, aI v3), (4, aI 0)]) ⟨rfl, rfl, rfl, rfl, rfl, trivial⟩ ?_
      obtain ⟨n, h⟩ := h
      exact xX7_ringsMeet_15 hQ hK2 n _ _ _ _ _ _ h
set_option maxRecDepth 100000 in
set_option maxHeartbeats 4000000 in
theorem ctX7_ringsMeet {G : Launch × va_G × (Nat → ClassId) × Nat} {v0 : Nat} {v1 : Int32} {v2 : Int32} {S : hs} {Post : Int32 → hs → Prop} (h : PX7_ringsMeet v0 v1 v2 S Post) : ctN G mX7_ringsMeet [aA v0, aI v1, aI v2] S (pI Post) := by
  refine ctN.of (by decide) (Nat.le_of_ble_eq_true rfl) (fun E ad hG hQ => ?_)
  subst hG
  unfold PX7_ringsMeet at h
  refine x_iconst (v := 0) dX7_ringsMeet_0 (by decide) ?_
  refine x_istore_n dX7_ringsMeet_1 (by decide) rfl ?_
  refine x_lv (lv' := [(0, aA v0), (1, aI v1), (2, aI v2), (3, aI 0)]) ⟨rfl, rfl, rfl, rfl, trivial⟩ ?_
  obtain ⟨n, h⟩ := h
  exact xX7_ringsMeet_2 hQ  n _ _ _ _ _ h
set_option maxRecDepth 100000 in
set_option maxHeartbeats 4000000 in
theorem xX7_where_262 {E : en} {ad : Nat → Nat} {Post : Int32 → hs → Prop} (hQ : isQ E ad (pI Post))   (s0 : Int32) (S : hs) (h : PX7_where_262 Post  s0 S) : X E mX7_where 0 0 ad S 262 [] [aI s0] := by
  unfold PX7_where_262 at h
  exact x_iret hQ rfl dX7_where_262 ⟨_, rfl, h⟩
set_option maxRecDepth 100000 in
set_option maxHeartbeats 4000000 in
theorem xX7_where_246 {E : en} {ad : Nat → Nat} {Post : Int32 → hs → Prop} (hQ : isQ E ad (pI Post)) {K6 : Nat → Int32 → Int64 → Int64 → Int64 → Int32 → Int32 → hs → Prop} (hK6 : ∀ (v0 : Nat) (v1 : Int32) (v2 : Int64) (v4 : Int64) (v6 : Int64) (v8 : Int32) (v9 : Int32) (S : hs), K6 v0 v1 v2 v4 v6 v8 v9 S → X E mX7_where 0 0 ad S 6 [(0, aA v0), (1, aI v1), (2, aJ v2), (4, aJ v4), (6, aJ v6), (8, aI v8), (9, aI v9)] []) (v0 : Nat) (v1 : Int32) (v2 : Int64) (v4 : Int64) (v6 : Int64) (v8 : Int32) (v9 : Int32) (S : hs) (h : PX7_where_246 Post K6 v0 v1 v2 v4 v6 v8 v9 S) : X E mX7_where 0 0 ad S 246 [(0, aA v0), (1, aI v1), (2, aJ v2), (4, aJ v4), (6, aJ v6), (8, aI v8), (9, aI v9)] [] := by
  unfold PX7_where_246 at h
  obtain ⟨v9_246, hv9_246⟩ : ∃ y : Int32, y = v9 + 1 := ⟨_, rfl⟩
  replace h := h v9_246 hv9_246
  refine x_iinc (v := v9_246) dX7_where_246 rfl (by rw [hv9_246]; rfl) (by decide) rfl ?_
  refine x_goto (tgt := 6) dX7_where_249 (by decide) ?_
  refine x_lv (lv' := [(0, aA v0), (1, aI v1), (2, aJ v2), (4, aJ v4), (6, aJ v6), (8, aI v8), (9, aI v9_246)]) ⟨rfl, rfl, rfl, rfl, rfl, rfl, rfl, trivial⟩ ?_
  exact hK6 _ _ _ _ _ _ _ _ h
set_option maxRecDepth 100000 in
set_option maxHeartbeats 4000000 in
theorem xX7_where_244 {E : en} {ad : Nat → Nat} {Post : Int32 → hs → Prop} (hQ : isQ E ad (pI Post)) {K6 : Nat → Int32 → Int64 → Int64 → Int64 → Int32 → Int32 → hs → Prop} (hK6 : ∀ (v0 : Nat) (v1 : Int32) (v2 : Int64) (v4 : Int64) (v6 : Int64) (v8 : Int32) (v9 : Int32) (S : hs), K6 v0 v1 v2 v4 v6 v8 v9 S → X E mX7_where 0 0 ad S 6 [(0, aA v0), (1, aI v1), (2, aJ v2), (4, aJ v4), (6, aJ v6), (8, aI v8), (9, aI v9)] []) (v0 : Nat) (v1 : Int32) (v2 : Int64) (v4 : Int64) (v6 : Int64) (v9 : Int32) (s0 : Int32) (S : hs) (h : PX7_where_244 Post K6 v0 v1 v2 v4 v6 v9 s0 S) : X E mX7_where 0 0 ad S 244 [(0, aA v0), (1, aI v1), (2, aJ v2), (4, aJ v4), (6, aJ v6), (9, aI v9)] [aI s0] := by
  unfold PX7_where_244 at h
  refine x_istore dX7_where_244 (by decide) rfl ?_
  refine x_lv (lv' := [(0, aA v0), (1, aI v1), (2, aJ v2), (4, aJ v4), (6, aJ v6), (8, aI s0), (9, aI v9)]) ⟨rfl, rfl, rfl, rfl, rfl, rfl, rfl, trivial⟩ ?_
  exact xX7_where_246 hQ hK6 _ _ _ _ _ _ _ _ h
set_option maxRecDepth 100000 in
set_option maxHeartbeats 4000000 in
theorem xX7_where_234 {E : en} {ad : Nat → Nat} {Post : Int32 → hs → Prop} (hQ : isQ E ad (pI Post)) {K6 : Nat → Int32 → Int64 → Int64 → Int64 → Int32 → Int32 → hs → Prop} (hK6 : ∀ (v0 : Nat) (v1 : Int32) (v2 : Int64) (v4 : Int64) (v6 : Int64) (v8 : Int32) (v9 : Int32) (S : hs), K6 v0 v1 v2 v4 v6 v8 v9 S → X E mX7_where 0 0 ad S 6 [(0, aA v0), (1, aI v1), (2, aJ v2), (4, aJ v4), (6, aJ v6), (8, aI v8), (9, aI v9)] []) (v0 : Nat) (v1 : Int32) (v2 : Int64) (v4 : Int64) (v6 : Int64) (v8 : Int32) (v9 : Int32) (S : hs) (h : PX7_where_234 Post K6 v0 v1 v2 v4 v6 v8 v9 S) : X E mX7_where 0 0 ad S 234 [(0, aA v0), (1, aI v1), (2, aJ v2), (4, aJ v4), (6, aJ v6), (8, aI v8), (9, aI v9)] [] := by
  unfold PX7_where_234 at h
  refine x_iload dX7_where_234 rfl ?_
  refine x_if_ne (tgt := 243) dX7_where_236 (by decide) (fun c => ?_) (fun c => ?_)
  · replace h := h.2 c
    refine x_iconst (v := 0) dX7_where_243 (by decide) ?_
    refine x_lv (lv' := [(0, aA v0), (1, aI v1), (2, aJ v2), (4, aJ v4), (6, aJ v6), (9, aI v9)]) ⟨rfl, rfl, rfl, rfl, rfl, rfl, trivial⟩ ?_
    exact xX7_where_244 hQ hK6 _ _ _ _ _ _ _ _ h
  · replace h := h.1 c
    refine x_iconst (v := 1) dX7_where_239 (by decide) ?_
    refine x_goto (tgt := 244) dX7_where_240 (by decide) ?_
    refine x_lv (lv' := [(0, aA v0), (1, aI v1), (2, aJ v2), (4, aJ v4), (6, aJ v6), (9, aI v9)]) ⟨rfl, rfl, rfl, rfl, rfl, rfl, trivial⟩ ?_
    exact xX7_where_244 hQ hK6 _ _ _ _ _ _ _ _ h
set_option maxRecDepth 100000 in
set_option maxHeartbeats 4000000 in
theorem xX7_where_213 {E : en} {ad : Nat → Nat} {Post : Int32 → hs → Prop} (hQ : isQ E ad (pI Post)) {K6 : Nat → Int32 → Int64 → Int64 → Int64 → Int32 → Int32 → hs → Prop} (hK6 : ∀ (v0 : Nat) (v1 : Int32) (v2 : Int64) (v4 : Int64) (v6 : Int64) (v8 : Int32) (v9 : Int32) (S : hs), K6 v0 v1 v2 v4 v6 v8 v9 S → X E mX7_where 0 0 ad S 6 [(0, aA v0), (1, aI v1), (2, aJ v2), (4, aJ v4), (6, aJ v6), (8, aI v8), (9, aI v9)] []) (v0 : Nat) (v1 : Int32) (v2 : Int64) (v4 : Int64) (v6 : Int64) (v8 : Int32) (v9 : Int32) (v12 : Int64) (v16 : Int64) (v22 : Int32) (S : hs) (h : PX7_where_213 Post K6 v0 v1 v2 v4 v6 v8 v9 v12 v16 v22 S) : X E mX7_where 0 0 ad S 213 [(0, aA v0), (1, aI v1), (2, aJ v2), (4, aJ v4), (6, aJ v6), (8, aI v8), (9, aI v9), (12, aJ v12), (16, aJ v16), (22, aI v22)] [] := by
  unfold PX7_where_213 at h
  refine x_lload dX7_where_213 rfl ?_
  refine x_lload dX7_where_215 rfl ?_
  refine x_lcmp_gt (tgt := 246) dX7_where_217 dX7_where_218 (by decide) (fun c => ?_) (fun c => ?_)
  · replace h := h.1 c
    refine x_lv (lv' := [(0, aA v0), (1, aI v1), (2, aJ v2), (4, aJ v4), (6, aJ v6), (8, aI v8), (9, aI v9)]) ⟨rfl, rfl, rfl, rfl, rfl, rfl, rfl, trivial⟩ ?_
    exact xX7_where_246 hQ hK6 _ _ _ _ _ _ _ _ h
  · replace h := h.2 c
    refine x_lload dX7_where_221 rfl ?_
    refine x_lload dX7_where_223 rfl ?_
    refine x_lcmp_le (tgt := 246) dX7_where_225 dX7_where_226 (by decide) (fun c => ?_) (fun c => ?_)
    · replace h := h.1 c
      refine x_lv (lv' := [(0, aA v0), (1, aI v1), (2, aJ v2), (4, aJ v4), (6, aJ v6), (8, aI v8), (9, aI v9)]) ⟨rfl, rfl, rfl, rfl, rfl, rfl, rfl, trivial⟩ ?_
      exact xX7_where_246 hQ hK6 _ _ _ _ _ _ _ _ h
    · replace h := h.2 c
      refine x_iload dX7_where_229 rfl ?_
      refine x_if_ge (tgt := 246) dX7_where_231 (by decide) (fun c => ?_) (fun c => ?_)
      · replace h := h.1 c
        refine x_lv (lv' := [(0, aA v0), (1, aI v1), (2, aJ v2), (4, aJ v4), (6, aJ v6), (8, aI v8), (9, aI v9)]) ⟨rfl, rfl, rfl, rfl, rfl, rfl, rfl, trivial⟩ ?_
        exact xX7_where_246 hQ hK6 _ _ _ _ _ _ _ _ h
      · replace h := h.2 c
        refine x_lv (lv' := [(0, aA v0), (1, aI v1), (2, aJ v2), (4, aJ v4), (6, aJ v6), (8, aI v8), (9, aI v9)]) ⟨rfl, rfl, rfl, rfl, rfl, rfl, rfl, trivial⟩ ?_
        exact xX7_where_234 hQ hK6 _ _ _ _ _ _ _ _ h
set_option maxRecDepth 100000 in
set_option maxHeartbeats 4000000 in
theorem xX7_where_192 {E : en} {ad : Nat → Nat} {Post : Int32 → hs → Prop} (hQ : isQ E ad (pI Post)) {K6 : Nat → Int32 → Int64 → Int64 → Int64 → Int32 → Int32 → hs → Prop} (hK6 : ∀ (v0 : Nat) (v1 : Int32) (v2 : Int64) (v4 : Int64) (v6 : Int64) (v8 : Int32) (v9 : Int32) (S : hs), K6 v0 v1 v2 v4 v6 v8 v9 S → X E mX7_where 0 0 ad S 6 [(0, aA v0), (1, aI v1), (2, aJ v2), (4, aJ v4), (6, aJ v6), (8, aI v8), (9, aI v9)] []) (v0 : Nat) (v1 : Int32) (v2 : Int64) (v4 : Int64) (v6 : Int64) (v8 : Int32) (v9 : Int32) (v12 : Int64) (v16 : Int64) (v22 : Int32) (S : hs) (h : PX7_where_192 Post K6 v0 v1 v2 v4 v6 v8 v9 v12 v16 v22 S) : X E mX7_where 0 0 ad S 192 [(0, aA v0), (1, aI v1), (2, aJ v2), (4, aJ v4), (6, aJ v6), (8, aI v8), (9, aI v9), (12, aJ v12), (16, aJ v16), (22, aI v22)] [] := by
  unfold PX7_where_192 at h
  refine x_lload dX7_where_192 rfl ?_
  refine x_lload dX7_where_194 rfl ?_
  refine x_lcmp_gt (tgt := 213) dX7_where_196 dX7_where_197 (by decide) (fun c => ?_) (fun c => ?_)
  · replace h := h.1 c
    refine x_lv (lv' := [(0, aA v0), (1, aI v1), (2, aJ v2), (4, aJ v4), (6, aJ v6), (8, aI v8), (9, aI v9), (12, aJ v12), (16, aJ v16), (22, aI v22)]) ⟨rfl, rfl, rfl, rfl, rfl, rfl, rfl, rfl, rfl, rfl, trivial⟩ ?_
    exact xX7_where_213 hQ hK6 _ _ _ _ _ _ _ _ _ _ _ h
  · replace h := h.2 c
    refine x_lload dX7_where_200 rfl ?_
    refine x_lload dX7_where_202 rfl ?_
    refine x_lcmp_le (tgt := 213) dX7_where_204 dX7_where_205 (by decide) (fun c => ?_) (fun c => ?_)
    · replace h := h.1 c
      refine x_lv (lv' := [(0, aA v0), (1, aI v1), (2, aJ v2), (4, aJ v4), (6, aJ v6), (8, aI v8), (9, aI v9), (12, aJ v12), (16, aJ v16), (22, aI v22)]) ⟨rfl, rfl, rfl, rfl, rfl, rfl, rfl, rfl, rfl, rfl, trivial⟩ ?_
      exact xX7_where_213 hQ hK6 _ _ _ _ _ _ _ _ _ _ _ h
    · replace h := h.2 c
      refine x_iload dX7_where_208 rfl ?_
      refine x_if_gt (tgt := 234) dX7_where_210 (by decide) (fun c => ?_) (fun c => ?_)
      · replace h := h.1 c
        refine x_lv (lv' := [(0, aA v0), (1, aI v1), (2, aJ v2), (4, aJ v4), (6, aJ v6), (8, aI v8), (9, aI v9)]) ⟨rfl, rfl, rfl, rfl, rfl, rfl, rfl, trivial⟩ ?_
        exact xX7_where_234 hQ hK6 _ _ _ _ _ _ _ _ h
      · replace h := h.2 c
        refine x_lv (lv' := [(0, aA v0), (1, aI v1), (2, aJ v2), (4, aJ v4), (6, aJ v6), (8, aI v8), (9, aI v9), (12, aJ v12), (16, aJ v16), (22, aI v22)]) ⟨rfl, rfl, rfl, rfl, rfl, rfl, rfl, rfl, rfl, rfl, trivial⟩ ?_
        exact xX7_where_213 hQ hK6 _ _ _ _ _ _ _ _ _ _ _ h
set_option maxRecDepth 100000 in
set_option maxHeartbeats 4000000 in
theorem xX7_where_6 {E : en} {ad : Nat → Nat} {Post : Int32 → hs → Prop} (hQ : isQ E ad (pI Post))   : ∀ (n : Nat) (v0 : Nat) (v1 : Int32) (v2 : Int64) (v4 : Int64) (v6 : Int64) (v8 : Int32) (v9 : Int32) (S : hs) (_ : PX7_where_6 Post  n v0 v1 v2 v4 v6 v8 v9 S), X E mX7_where 0 0 ad S 6 [(0, aA v0), (1, aI v1), (2, aJ v2), (4, aJ v4), (6, aJ v6), (8, aI v8), (9, aI v9)] [] := by
  intro n
  induction n with
  | zero => intro v0 v1 v2 v4 v6 v8 v9 S h; exact h.elim
  | succ n ih =>
    intro v0 v1 v2 v4 v6 v8 v9 S h
    have hK6 := ih
    simp only [PX7_where_6] at h
    refine x_iload dX7_where_6 rfl ?_
    refine x_aload_n dX7_where_8 rfl ?_
    obtain ⟨h1, r_9, hr_9, h⟩ := h
    refine x_g7_4 rfl dX7_where_9 h1 (x_un hr_9 ?_)
    refine x_iload_n dX7_where_12 rfl ?_
    refine x_iald dX7_where_13 h.1 ?_
    replace h := h.2
    refine x_icmp_ge (tgt := 252) dX7_where_14 (by decide) (fun c => ?_) (fun c => ?_)
    · replace h := h.1 c
      refine x_iload dX7_where_252 rfl ?_
      refine x_if_eq (tgt := 261) dX7_where_254 (by decide) (fun c => ?_) (fun c => ?_)
      · replace h := h.1 c
        refine x_iconst (v := (-1)) dX7_where_261 (by decide) ?_
        refine x_lv (lv' := []) trivial ?_
        exact xX7_where_262 hQ  _ _ h
      · replace h := h.2 c
        refine x_iconst (v := 1) dX7_where_257 (by decide) ?_
        refine x_goto (tgt := 262) dX7_where_258 (by decide) ?_
        refine x_lv (lv' := []) trivial ?_
        exact xX7_where_262 hQ  _ _ h
    · replace h := h.2 c
      refine x_lload dX7_where_17 rfl ?_
      refine x_aload_n dX7_where_19 rfl ?_
      obtain ⟨h1, r_20, hr_20, h⟩ := h
      refine x_g7_2 rfl dX7_where_20 h1 (x_un hr_20 ?_)
      refine x_aload_n dX7_where_23 rfl ?_
      refine x_iload_n dX7_where_24 rfl ?_
      refine x_iload dX7_where_25 rfl ?_
      obtain ⟨h1, h⟩ := h
      refine x_callVI (As := [aI v1, aI v9]) (st := [aA r_20, aJ v6]) kX7_102 rfl ⟨rfl, rfl, by decide, by decide⟩ dX7_where_27 rfl (Nat.le_of_ble_eq_true rfl) ⟨Nat.zero_le _, Nat.zero_le _⟩ h1 (ctX7_at h) (fun x_27 S_27 h => ?_)
      refine x_lald dX7_where_30 h.1 ?_
      replace h := h.2
      refine x_lmul dX7_where_31 ?_
      refine x_nJ (fun v10_32 hv10_32 => ?_)
      replace h := h v10_32 hv10_32
      refine x_lstore dX7_where_32 (by decide) rfl ?_
      refine x_lload dX7_where_34 rfl ?_
      refine x_aload_n dX7_where_36 rfl ?_
      obtain ⟨h1, r_37, hr_37, h⟩ := h
      refine x_g7_3 rfl dX7_where_37 h1 (x_un hr_37 ?_)
      refine x_aload_n dX7_where_40 rfl ?_
      refine x_iload_n dX7_where_41 rfl ?_
      refine x_iload dX7_where_42 rfl ?_
      obtain ⟨h1, h⟩ := h
      refine x_callVI (As := [aI v1, aI v9]) (st := [aA r_37, aJ v6]) kX7_102 rfl ⟨rfl, rfl, by decide, by decide⟩ dX7_where_44 rfl (Nat.le_of_ble_eq_true rfl) ⟨Nat.zero_le _, Nat.zero_le _⟩ h1 (ctX7_at h) (fun x_44 S_44 h => ?_)
      refine x_lald dX7_where_47 h.1 ?_
      replace h := h.2
      refine x_lmul dX7_where_48 ?_
      refine x_nJ (fun v12_49 hv12_49 => ?_)
      replace h := h v12_49 hv12_49
      refine x_lstore dX7_where_49 (by decide) rfl ?_
      refine x_lload dX7_where_51 rfl ?_
      refine x_aload_n dX7_where_53 rfl ?_
      obtain ⟨h1, r_54, hr_54, h⟩ := h
      refine x_g7_2 rfl dX7_where_54 h1 (x_un hr_54 ?_)
      refine x_aload_n dX7_where_57 rfl ?_
      refine x_iload_n dX7_where_58 rfl ?_
      refine x_iload dX7_where_59 rfl ?_
      refine x_iconst (v := 1) dX7_where_61 (by decide) ?_
      refine x_iadd dX7_where_62 ?_
      obtain ⟨h1, h⟩ := h
      refine x_callVI (As := [aI v1, aI (v9 + 1)]) (st := [aA r_54, aJ v6]) kX7_102 rfl ⟨rfl, rfl, by decide, by decide⟩ dX7_where_63 rfl (Nat.le_of_ble_eq_true rfl) ⟨Nat.zero_le _, Nat.zero_le _⟩ h1 (ctX7_at h) (fun x_63 S_63 h => ?_)
      refine x_lald dX7_where_66 h.1 ?_
      replace h := h.2
      refine x_lmul dX7_where_67 ?_
      refine x_nJ (fun v14_68 hv14_68 => ?_)
      replace h := h v14_68 hv14_68
      refine x_lstore dX7_where_68 (by decide) rfl ?_
      refine x_lload dX7_where_70 rfl ?_
      refine x_aload_n dX7_where_72 rfl ?_
      obtain ⟨h1, r_73, hr_73, h⟩ := h
      refine x_g7_3 rfl dX7_where_73 h1 (x_un hr_73 ?_)
      refine x_aload_n dX7_where_76 rfl ?_
      refine x_iload_n dX7_where_77 rfl ?_
      refine x_iload dX7_where_78 rfl ?_
      refine x_iconst (v := 1) dX7_where_80 (by decide) ?_
      refine x_iadd dX7_where_81 ?_
      obtain ⟨h1, h⟩ := h
      refine x_callVI (As := [aI v1, aI (v9 + 1)]) (st := [aA r_73, aJ v6]) kX7_102 rfl ⟨rfl, rfl, by decide, by decide⟩ dX7_where_82 rfl (Nat.le_of_ble_eq_true rfl) ⟨Nat.zero_le _, Nat.zero_le _⟩ h1 (ctX7_at h) (fun x_82 S_82 h => ?_)
      refine x_lald dX7_where_85 h.1 ?_
      replace h := h.2
      refine x_lmul dX7_where_86 ?_
      refine x_nJ (fun v16_87 hv16_87 => ?_)
      replace h := h v16_87 hv16_87
      refine x_lstore dX7_where_87 (by decide) rfl ?_
      refine x_aload_n dX7_where_89 rfl ?_
      obtain ⟨h1, r_90, hr_90, h⟩ := h
      refine x_g7_2 rfl dX7_where_90 h1 (x_un hr_90 ?_)
      refine x_aload_n dX7_where_93 rfl ?_
      refine x_iload_n dX7_where_94 rfl ?_
      refine x_iload dX7_where_95 rfl ?_
      refine x_iconst (v := 1) dX7_where_97 (by decide) ?_
      refine x_iadd dX7_where_98 ?_
      obtain ⟨h1, h⟩ := h
      refine x_callVI (As := [aI v1, aI (v9 + 1)]) (st := [aA r_90]) kX7_102 rfl ⟨rfl, rfl, by decide, by decide⟩ dX7_where_99 rfl (Nat.le_of_ble_eq_true rfl) ⟨Nat.zero_le _, Nat.zero_le _⟩ h1 (ctX7_at h) (fun x_99 S_99 h => ?_)
      refine x_lald dX7_where_102 h.1 ?_
      replace h := h.2
      refine x_aload_n dX7_where_103 rfl ?_
      obtain ⟨h1, r_104, hr_104, h⟩ := h
      refine x_g7_2 rfl dX7_where_104 h1 (x_un hr_104 ?_)
      refine x_aload_n dX7_where_107 rfl ?_
      refine x_iload_n dX7_where_108 rfl ?_
      refine x_iload dX7_where_109 rfl ?_
      obtain ⟨h1, h⟩ := h
      refine x_callVI (As := [aI v1, aI v9]) (st := [aA r_104, aJ (hj S_99 r_90 (Int32.toNatClampNeg x_99))]) kX7_102 rfl ⟨rfl, rfl, by decide, by decide⟩ dX7_where_111 rfl (Nat.le_of_ble_eq_true rfl) ⟨Nat.zero_le _, Nat.zero_le _⟩ h1 (ctX7_at h) (fun x_111 S_111 h => ?_)
      refine x_lald dX7_where_114 h.1 ?_
      replace h := h.2
      refine x_lsub dX7_where_115 ?_
      refine x_nJ (fun v18_116 hv18_116 => ?_)
      replace h := h v18_116 hv18_116
      refine x_lstore dX7_where_116 (by decide) rfl ?_
      refine x_aload_n dX7_where_118 rfl ?_
      obtain ⟨h1, r_119, hr_119, h⟩ := h
      refine x_g7_3 rfl dX7_where_119 h1 (x_un hr_119 ?_)
      refine x_aload_n dX7_where_122 rfl ?_
      refine x_iload_n dX7_where_123 rfl ?_
      refine x_iload dX7_where_124 rfl ?_
      refine x_iconst (v := 1) dX7_where_126 (by decide) ?_
      refine x_iadd dX7_where_127 ?_
      obtain ⟨h1, h⟩ := h
      refine x_callVI (As := [aI v1, aI (v9 + 1)]) (st := [aA r_119]) kX7_102 rfl ⟨rfl, rfl, by decide, by decide⟩ dX7_where_128 rfl (Nat.le_of_ble_eq_true rfl) ⟨Nat.zero_le _, Nat.zero_le _⟩ h1 (ctX7_at h) (fun x_128 S_128 h => ?_)
      refine x_lald dX7_where_131 h.1 ?_
      replace h := h.2
      refine x_aload_n dX7_where_132 rfl ?_
      obtain ⟨h1, r_133, hr_133, h⟩ := h
      refine x_g7_3 rfl dX7_where_133 h1 (x_un hr_133 ?_)
      refine x_aload_n dX7_where_136 rfl ?_
      refine x_iload_n dX7_where_137 rfl ?_
      refine x_iload dX7_where_138 rfl ?_
      obtain ⟨h1, h⟩ := h
      refine x_callVI (As := [aI v1, aI v9]) (st := [aA r_133, aJ (hj S_128 r_119 (Int32.toNatClampNeg x_128))]) kX7_102 rfl ⟨rfl, rfl, by decide, by decide⟩ dX7_where_140 rfl (Nat.le_of_ble_eq_true rfl) ⟨Nat.zero_le _, Nat.zero_le _⟩ h1 (ctX7_at h) (fun x_140 S_140 h => ?_)
      refine x_lald dX7_where_143 h.1 ?_
      replace h := h.2
      refine x_lsub dX7_where_144 ?_
      refine x_nJ (fun v20_145 hv20_145 => ?_)
      replace h := h v20_145 hv20_145
      refine x_lstore dX7_where_145 (by decide) rfl ?_
      refine x_lload dX7_where_147 rfl ?_
      refine x_lload dX7_where_149 rfl ?_
      refine x_lload dX7_where_151 rfl ?_
      refine x_lsub dX7_where_153 ?_
      refine x_lmul dX7_where_154 ?_
      refine x_lload dX7_where_155 rfl ?_
      refine x_lload_n dX7_where_157 rfl ?_
      refine x_lload dX7_where_158 rfl ?_
      refine x_lsub dX7_where_160 ?_
      refine x_lmul dX7_where_161 ?_
      refine x_lsub dX7_where_162 ?_
      refine x_callSI (As := [aJ ((v18_116 * (v4 - v12_49)) - (v20_145 * (v2 - v10_32)))]) (st := []) kX7_83 rfl ⟨rfl, rfl, by decide, by decide⟩ dX7_where_163 rfl (Nat.le_of_ble_eq_true rfl) ⟨Nat.zero_le _, Nat.zero_le _⟩ (ctX7_signOf h) (fun x_163 S_163 h => ?_)
      refine x_istore dX7_where_166 (by decide) rfl ?_
      refine x_iload dX7_where_168 rfl ?_
      refine x_if_ne (tgt := 192) dX7_where_170 (by decide) (fun c => ?_) (fun c => ?_)
      · replace h := h.2 c
        refine x_lv (lv' := [(0, aA v0), (1, aI v1), (2, aJ v2), (4, aJ v4), (6, aJ v6), (8, aI v8), (9, aI v9), (12, aJ v12_49), (16, aJ v16_87), (22, aI x_163)]) ⟨rfl, rfl, rfl, rfl, rfl, rfl, rfl, rfl, rfl, rfl, trivial⟩ ?_
        exact xX7_where_192 hQ hK6 _ _ _ _ _ _ _ _ _ _ _ h
      · replace h := h.1 c
        refine x_lload dX7_where_173 rfl ?_
        refine x_lload dX7_where_175 rfl ?_
        refine x_lload dX7_where_177 rfl ?_
        refine x_lload dX7_where_179 rfl ?_
        refine x_lload_n dX7_where_181 rfl ?_
        refine x_lload dX7_where_182 rfl ?_
        refine x_callSI (As := [aJ v10_32, aJ v12_49, aJ v14_68, aJ v16_87, aJ v2, aJ v4]) (st := []) kX7_98 rfl ⟨rfl, rfl, by decide, by decide⟩ dX7_where_184 rfl (Nat.le_of_ble_eq_true rfl) ⟨Nat.zero_le _, Nat.zero_le _⟩ (ctX7_isBetween h) (fun x_184 S_184 h => ?_)
        refine x_if_eq (tgt := 192) dX7_where_187 (by decide) (fun c => ?_) (fun c => ?_)
        · replace h := h.1 c
          refine x_lv (lv' := [(0, aA v0), (1, aI v1), (2, aJ v2), (4, aJ v4), (6, aJ v6), (8, aI v8), (9, aI v9), (12, aJ v12_49), (16, aJ v16_87), (22, aI x_163)]) ⟨rfl, rfl, rfl, rfl, rfl, rfl, rfl, rfl, rfl, rfl, trivial⟩ ?_
          exact xX7_where_192 hQ hK6 _ _ _ _ _ _ _ _ _ _ _ h
        · replace h := h.2 c
          refine x_iconst (v := 0) dX7_where_190 (by decide) ?_
          exact x_iret hQ rfl dX7_where_191 ⟨_, rfl, h⟩
set_option maxRecDepth 100000 in
set_option maxHeartbeats 4000000 in
theorem ctX7_where {G : Launch × va_G × (Nat → ClassId) × Nat} {v0 : Nat} {v1 : Int32} {v2 : Int64} {v4 : Int64} {v6 : Int64} {S : hs} {Post : Int32 → hs → Prop} (h : PX7_where v0 v1 v2 v4 v6 S Post) : ctN G mX7_where [aA v0, aI v1, aJ v2, aJ v4, aJ v6] S (pI Post) := by
  refine ctN.of (by decide) (Nat.le_of_ble_eq_true rfl) (fun E ad hG hQ => ?_)
  subst hG
  unfold PX7_where at h
  refine x_iconst (v := 0) dX7_where_0 (by decide) ?_
  refine x_istore dX7_where_1 (by decide) rfl ?_
  refine x_iconst (v := 0) dX7_where_3 (by decide) ?_
  refine x_istore dX7_where_4 (by decide) rfl ?_
  refine x_lv (lv' := [(0, aA v0), (1, aI v1), (2, aJ v2), (4, aJ v4), (6, aJ v6), (8, aI 0), (9, aI 0)]) ⟨rfl, rfl, rfl, rfl, rfl, rfl, rfl, trivial⟩ ?_
  obtain ⟨n, h⟩ := h
  exact xX7_where_6 hQ  n _ _ _ _ _ _ _ _ h
