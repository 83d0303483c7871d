/-! Contracts over the heap picture: what makes no cell (ctN); returns; calls. -/
def qN (G : Launch × va_G × (Nat → ClassId) × Nat) (ad : Nat → Nat) (Post : Option av → hs → Prop) : Array Value → State → Outcome → State → Prop := fun _ st o t => (∃ r S', o = .returned (r.map (vl ad)) ∧ Post r S' ∧ va_P G.2.1 vwCl (wld G.2.2.1 ad S') t.heap ∧ va_K G.2.1 vwCl (tyl G.2.2.1) t ∧ va_D (fun q => G.2.2.2 ≤ q) (wld G.2.2.1 ad S')) ∧ va_F (fun q => G.2.2.2 ≤ q) st t
def pN (G : Launch × va_G × (Nat → ClassId) × Nat) (ad : Nat → Nat) (As : List av) (S : hs) : Array Value → State → Prop := va_Pc (As.map (vl ad)) (fun U => G.2.2.2 ≤ U.heap.size ∧ va_P G.2.1 vwCl (wld G.2.2.1 ad S) U.heap ∧ va_K G.2.1 vwCl (tyl G.2.2.1) U ∧ va_D (fun q => G.2.2.2 ≤ q) (wld G.2.2.1 ad S))
/-- y, called with As in the picture S, returns, with Post; it makes no cell -/
def ctN (G : Launch × va_G × (Nat → ClassId) × Nat) (M : mt) (As : List av) (S : hs) (Post : Option av → hs → Prop) : Prop :=
  ∀ ad, Met G.1 M.1 (Cond.code M.1 M.2.1 M.2.2.1 M.2.2.2.2 :: tbG) M.2.2.2.1 (pN G ad As S) (qN G ad Post) 0 0 (fun q => G.2.2.2 ≤ q)
def isQ (E : en) (ad : Nat → Nat) (Post : Option av → hs → Prop) : Prop := E.2.2.2 = MQ E.2.1.2.2.2.2.1 (qN E.1 ad Post) E.2.2.1 E.2.1.2.2.1 0 0 (fun q => E.1.2.2.2 ≤ q)
def ents : Nat → List av → List (Nat × av)
  | _, [] => []
  | i, v :: vs => (i, v) :: ents (match v with | .inr (.inl _) => i + 2 | _ => i + 1) vs
def acat (v : av) : Nat := match v with | .inr (.inl _) => 2 | _ => 1
def slen : List av → Nat
  | [] => 0
  | v :: vs => acat v + slen vs
theorem vl_cat (ad : Nat → Nat) (v : av) : (vl ad v).category = acat v := by
  match v with
  | .inl _ => rfl
  | .inr (.inl _) => rfl
  | .inr (.inr none) => rfl
  | .inr (.inr (some _)) => rfl
theorem slen_sum (ad : Nat → Nat) : ∀ (vs : List av), ((vs.map (vl ad)).map fun v => v.category).sum = slen vs
  | [] => rfl
  | v :: vs => by
    rw [List.map_cons, List.map_cons, List.sum_cons, slen_sum ad vs, vl_cat]
    rfl
theorem lg_sl_len (ad : Nat → Nat) : ∀ (vs : List av), (lg_sl (vs.map (vl ad))).length = slen vs
  | [] => rfl
  | v :: vs => by
    have ih := lg_sl_len ad vs
    simp only [lg_sl] at ih
    simp only [lg_sl, List.map_cons, List.flatMap_cons, List.length_append, ih, slen, vl_cat]
    match v with
    | .inl _ => rfl
    | .inr (.inl _) => rfl
    | .inr (.inr none) => rfl
    | .inr (.inr (some _)) => rfl
theorem ents_lk (ad : Nat → Nat) : ∀ (vs : List av) (i k : Nat) (v : av), lkp (ents i vs) k = some v → (k, vl ad v) ∈ lv_args i (vs.map (vl ad))
  | [], _, _, _, h => by simp [ents, lkp] at h
  | w :: vs, i, k, v, h => by
    by_cases hk : k = i
    · subst hk
      simp only [ents] at h
      rw [lkp_cons_eq] at h
      cases h
      exact List.mem_cons_self
    · simp only [ents] at h
      rw [lkp_cons_ne _ _ hk] at h
      have h2 := ents_lk ad vs _ k v h
      refine List.mem_cons_of_mem _ ?_
      match w, h2 with
      | .inl _, h2 => exact h2
      | .inr (.inl _), h2 => exact h2
      | .inr (.inr none), h2 => exact h2
      | .inr (.inr (some _)), h2 => exact h2
theorem ctN.of {G : Launch × va_G × (Nat → ClassId) × Nat} {M : mt} {As : List av} {S : hs} {Post : Option av → hs → Prop} (hy : plainName M.1.cls = true) (hlen : slen As ≤ M.2.2.1)
    (body : ∀ (E : en) (ad : Nat → Nat), E.1 = G → isQ E ad Post → X E M 0 0 ad S 0 (ents 0 As) []) : ctN G M As S Post := by
  intro ad
  refine Met.ofW (cc := M.2.1) (maxL := M.2.2.1) (ret := M.2.2.2.2) hy rfl ?_
  intro p e s m args below meth c s₁ B hml hv
  obtain ⟨rfl, hsz, hP, hK, hD⟩ := hv
  have hts := atoms_spec (ws := Cond.code M.1 M.2.1 M.2.2.1 M.2.2.2.2 :: tbG) B.pre
  have hl := lv_entry (As.map (vl ad)) (n := M.2.2.1) (by rw [lg_sl_len]; exact hlen)
  rw [lg_entry_eq]
  refine body (G, (p, e, s, m, below, meth, c), (As.map (vl ad)).toArray, MQ below (qN G ad Post) (As.map (vl ad)).toArray s 0 0 (fun q => G.2.2.2 ≤ q)) ad rfl rfl ⟨B.exec, B.bytes, hml, findClass_of_methodNamed B.named, fun w hw => hts w (List.mem_cons_of_mem _ hw), hK, hsz, (name_of_methodNamed B.named B.method).1, B.returns, B.notSynchronized⟩ s.heap [] _ ⟨hP, hD, va_S.rf⟩ ⟨hl.1, hl.2.1, fun i v hv => hl.2.2 (i, vl ad v) (ents_lk ad As 0 i v hv)⟩
theorem ctN.mono {G : Launch × va_G × (Nat → ClassId) × Nat} {M : mt} {As : List av} {S : hs} {Post : Option av → hs → Prop} (h : ctN G M As S Post) : ctN G M As S Post := h
section
variable {E : en} {M : mt} {n1 n2 : Nat} {ad : Nat → Nat} {S : hs} {pc : Nat} {lv : List (Nat × av)} {st : List av} {Post : Option av → hs → Prop}
theorem qN_of {r : Option av} (hO : okE E M) {H : Heap} {locs : List Loc} (hW : wd E ad S H locs) (h : Post r S) : ∀ t : State, t.heap = H → E.2.1.2.2.1.WarmedH t.vm → qN E.1 ad Post E.2.2.1 E.2.1.2.2.1 (.returned (r.map (vl ad))) t := fun t ht hv => ⟨⟨r, S, rfl, h, by rw [ht]; exact hW.1, va_K.moved hv.alike hO.2.2.2.2.2.1, hW.2.1⟩, hW.2.2.F ht⟩
theorem x_iret {x : Int32} (hQ : isQ E ad Post) (hr0 : M.2.2.2.2 = some .int) (hd : decode M.2.1 pc = .ok (.ireturn, 1)) (h : Post (some (aI x)) S) : X E M 0 0 ad S pc lv [aI x] := by
  intro hO H locs ls hW hl
  rw [show E.2.2.2 = _ from hQ]
  exact W.iret hO.1 hO.2.1 (hO.2.2.2.2.2.2.2.2.1.trans hr0) (qN_of (r := some (aI x)) hO hW h) hW.2.2.2.2 hd hO.2.2.2.2.2.2.2.2.2
theorem x_zret {x : Int32} (hQ : isQ E ad Post) (hr0 : M.2.2.2.2 = some .boolean) (hd : decode M.2.1 pc = .ok (.ireturn, 1)) (h : (x = 0 ∨ x = 1) ∧ Post (some (aI x)) S) : X E M 0 0 ad S pc lv [aI x] := by
  intro hO H locs ls hW hl
  rw [show E.2.2.2 = _ from hQ]
  exact W.zret hO.1 hO.2.1 (hO.2.2.2.2.2.2.2.2.1.trans hr0) (by rcases h.1 with rfl | rfl <;> rfl) (qN_of (r := some (aI x)) hO hW h.2) hW.2.2.2.2 hd hO.2.2.2.2.2.2.2.2.2
theorem x_lret {x : Int64} (hQ : isQ E ad Post) (hr0 : M.2.2.2.2 = some .long) (hd : decode M.2.1 pc = .ok (.lreturn, 1)) (h : Post (some (aJ x)) S) : X E M 0 0 ad S pc lv [aJ x] := by
  intro hO H locs ls hW hl
  rw [show E.2.2.2 = _ from hQ]
  exact W.lret hO.1 hO.2.1 (hO.2.2.2.2.2.2.2.2.1.trans hr0) (qN_of (r := some (aJ x)) hO hW h) hW.2.2.2.2 hd hO.2.2.2.2.2.2.2.2.2
theorem x_vret (hQ : isQ E ad Post) (hr0 : M.2.2.2.2 = none) (hd : decode M.2.1 pc = .ok (.return_, 1)) (h : Post none S) : X E M 0 0 ad S pc lv [] := by
  intro hO H locs ls hW hl
  rw [show E.2.2.2 = _ from hQ]
  exact W.vret hO.1 hO.2.1 (hO.2.2.2.2.2.2.2.2.1.trans hr0) (qN_of (r := none) hO hW h) hW.2.2.2.2 hd hO.2.2.2.2.2.2.2.2.2
theorem x_rret {x : Option Nat} {C : String} (hQ : isQ E ad Post) (hr0 : M.2.2.2.2 = some (.object C)) (hd : decode M.2.1 pc = .ok (.areturn, 1)) (h : Post (some (aR x)) S) : X E M 0 0 ad S pc lv [aR x] := by
  intro hO H locs ls hW hl
  rw [show E.2.2.2 = _ from hQ]
  refine W.aret hO.1 hO.2.1 (hO.2.2.2.2.2.2.2.2.1.trans hr0) (Or.inl ⟨C, rfl⟩) ?_ (qN_of (r := some (aR x)) hO hW h) hW.2.2.2.2 hd hO.2.2.2.2.2.2.2.2.2
  cases x with
  | none => exact Or.inl rfl
  | some a => exact Or.inr ⟨_, rfl⟩
/-- behind a call that makes no cell -/
theorem x_back {Mc : mt} {As : List av} {stk : List Value} (hr : ∀ H locs ls, okE E M → wd E ad S H locs → lvh ad M.2.2.1 ls lv → va_Run E.2.1.1 E.1.1 E.2.1.2.1 M.2.2.2.1 E.2.1.2.2.1 E.2.1.2.2.2.1 E.2.2.1 E.2.1.2.2.2.2.1 E.2.1.2.2.2.2.2.1 E.2.1.2.2.2.2.2.2 H locs n1 n2 0 0 (F0 E.2.1.2.2.2.1 pc ls stk) (st.map (vl ad)) (qN E.1 ad Post (As.map (vl ad)).toArray) (fun q => E.1.2.2.2 ≤ q))
    (kk : ∀ r S', Post r S' → X E M n1 n2 ad S' (pc + 3) lv (r.toList ++ st)) (hO : okE E M) (H : Heap) (locs : List Loc) (ls : Array Slot) (hW : wd E ad S H locs) (hl : lvh ad M.2.2.1 ls lv) : W E.2.1.1 E.1.1 E.2.1.2.1 M.2.2.2.1 E.2.1.2.2.1 E.2.1.2.2.2.1 E.2.2.1 E.2.1.2.2.2.2.1 E.2.1.2.2.2.2.2.1 E.2.1.2.2.2.2.2.2 H locs n1 n2 E.2.2.2 (F0 E.2.1.2.2.2.1 pc ls stk) := by
  intro T hT XX
  obtain ⟨v, st₀, t, T', L, h0, X', hL, e1, e2, ⟨⟨r, S', hv, hp, hP, hK, hD⟩, hz, hk⟩, hst⟩ := hr H locs ls hO hW hl T hT XX
  have hv : v = r.map (vl ad) := Outcome.returned.inj hv
  subst hv
  rw [h0] at hz hk
  have hS := hW.2.2
  have hS' : va_S (fun q => E.1.2.2.2 ≤ q) E.2.1.2.2.1.heap T'.heap (locs ++ L) := ⟨Nat.le_trans hS.1 (by rw [e1]; exact hz), fun q h1 h2 => by rw [e1, hk q (Nat.lt_of_lt_of_le h1 hS.1) h2]; exact hS.2.1 q h1 h2, fun q hq => by
      rcases List.mem_append.mp hq with h | h
      · exact hS.2.2 q h
      · exact hL q h⟩
  obtain ⟨t2, a1, b1⟩ := kk r S' hp hO T'.heap (locs ++ L) ls ⟨by rw [e1]; exact hP, hD, hS'⟩ hl T' rfl X'
  refine ⟨t2, hst t2 ?_, b1⟩
  have e3 : (r.toList ++ st).map (vl ad) = (r.map (vl ad)).toList ++ st.map (vl ad) := by
    cases r <;> simp
  rw [e3] at a1
  exact a1
/-- what a call needs of the tables and the names -/
def cokB (own : String) (Mc : mt) (idx n : Nat) : Prop := Cond.methodLink own idx Mc.1 ∈ lw_tbl ∧ Cond.initialized Mc.1.cls ∈ lw_tbl ∧ Cond.code Mc.1 Mc.2.1 Mc.2.2.1 Mc.2.2.2.2 ∈ lw_tbl ∧ Mc.1.cls ≠ "java/lang/invoke/MethodHandle" ∧ Mc.1.cls ≠ "java/lang/invoke/VarHandle" ∧ (parseMethodDescriptor Mc.1.desc).map (fun d => d.parameters.length) = some n
/-- and of the room -/
def cokR (M Mc : mt) : Prop := Mc.2.2.2.1.cells = 0 ∧ Mc.2.2.2.1.slots = 0 ∧ Mc.2.2.2.1.frames + 1 ≤ M.2.2.2.1.frames ∧ 8 + (Mc.2.2.1 + 11) + Mc.2.2.2.1.locals ≤ M.2.2.2.1.locals
def cokV (own : String) (Mc : mt) (idx n k : Nat) : Prop := cokB own Mc idx n ∧ Cond.instanceMethod Mc.1 ∈ lw_tbl ∧ Cond.selects Mc.1.cls Mc.1 Mc.1 ∈ lw_tbl ∧ (vwCl[k + 1]?).map (fun q => q.1) = some Mc.1.cls ∧ k < 8
def cokS (own : String) (Mc : mt) (idx n : Nat) : Prop := cokB own Mc idx n ∧ Cond.static Mc.1 ∈ lw_tbl
theorem tbG_good : ∀ w ∈ tbG, goodWord w = true := fun _ h => (List.mem_filter.mp h).2
theorem gcode (M : mt) : goodWord (Cond.code M.1 M.2.1 M.2.2.1 M.2.2.2.2) = true := rfl
theorem gIn (M : mt) (h : Cond.code M.1 M.2.1 M.2.2.1 M.2.2.2.2 ∈ lw_tbl) : GoodIn tbG (Cond.code M.1 M.2.1 M.2.2.1 M.2.2.2.2 :: tbG) := fun w hw => by
  rcases List.mem_cons.mp hw with rfl | h2
  · exact ⟨tbG_in h (gcode M), good_of_word (gcode M)⟩
  · exact ⟨h2, good_of_word (tbG_good w h2)⟩
theorem callB_x {Mc : mt} {idx n : Nat} (hO : okE E M) (h : cokB M.1.cls Mc idx n) (hR : cokR M Mc) : CallB M.2.2.2.1 E.2.1.2.2.1 E.2.2.1 M.1.cls idx Mc.1 Mc.2.1 Mc.2.2.1 Mc.2.2.2.2 (Cond.code Mc.1 Mc.2.1 Mc.2.2.1 Mc.2.2.2.2 :: tbG) Mc.2.2.2.1 0 0 n := by
  obtain ⟨h1, h2, h3, h4, h5, h6⟩ := h
  obtain ⟨h7, h8, h9, h10⟩ := hR
  exact callB_of n hO.2.2.2.2.1 (gIn Mc h3) rfl h7 h8 (hO.2.2.2.2.1 _ (tbG_in h2 rfl)) (hO.2.2.2.2.1 _ (tbG_in h1 rfl)) ⟨h4, h5, h6⟩ ⟨h9, h10⟩
theorem pN_blind {G : Launch × va_G × (Nat → ClassId) × Nat} {As : List av} : FrameBlind (pN G ad As S) := fun a U g mk q => by
  obtain ⟨q0, q1, qP, qK, qD⟩ := q
  exact ⟨q0, q1, qP, va_K.moved (u := U) (U := U.calling g mk a) (Vm.Alike.refl U.vm) qK, qD⟩
theorem pN_at {As : List av} (hO : okE E M) {H : Heap} {locs : List Loc} (hW : wd E ad S H locs) : ∀ U : State, U.heap = H → E.2.1.2.2.1.WarmedH U.vm → pN E.1 ad As S (As.map (vl ad)).toArray U := fun U hU hw => ⟨rfl, by rw [hU]; exact Nat.le_trans hO.2.2.2.2.2.2.1 hW.2.2.1, by rw [hU]; exact hW.1, va_K.moved hw.alike hO.2.2.2.2.2.1, hW.2.1⟩
theorem x_callS {Mc : mt} {own : String} {idx n : Nat} {As : List av} (hc : cokS own Mc idx n) (hM : M.1.cls = own) (hR : cokR M Mc) (hd : decode M.2.1 pc = .ok (.invokestatic idx, 3)) (hn : As.length = n) (hs0 : slen st ≤ 8) (hf : n1 ≤ M.2.2.2.1.cells ∧ n2 ≤ M.2.2.2.1.slots) (hC : ctN E.1 Mc As S Post)
    (kk : ∀ r S', Post r S' → X E M n1 n2 ad S' (pc + 3) lv (r.toList ++ st)) : X E M n1 n2 ad S pc lv (As.reverse ++ st) := by
  subst hM
  intro hO H locs ls hW hl
  rw [List.map_append, List.map_reverse]
  exact x_back (Mc := Mc) (As := As) (fun H locs ls hO hW hl => va_runS (As := As.map (vl ad)) (rest := st.map (vl ad)) ⟨hO.1, hO.2.1, hO.2.2.1, hO.2.2.2.1, hO.2.2.2.2.1⟩ (hC ad) ⟨callB_x hO hc.1 hR, hO.2.2.2.2.1 _ (tbG_in hc.2 rfl)⟩ ⟨pN_blind, pN_at hO hW⟩ rfl (by rw [List.length_map]; exact hn) hl.1 rfl (lv_room (by rw [slen_sum]; exact hs0)) hd hf) kk hO H locs ls hW hl
theorem x_callV {Mc : mt} {own : String} {idx n a k : Nat} {As : List av} (hc : cokV own Mc idx n k) (hM : M.1.cls = own) (hR : cokR M Mc) (hd : decode M.2.1 pc = .ok (.invokevirtual idx, 3)) (hn : As.length = n) (hs0 : slen st ≤ 8) (hf : n1 ≤ M.2.2.2.1.cells ∧ n2 ≤ M.2.2.2.1.slots) (ha : is S k a) (hC : ctN E.1 Mc (aA a :: As) S Post)
    (kk : ∀ r S', Post r S' → X E M n1 n2 ad S' (pc + 3) lv (r.toList ++ st)) : X E M n1 n2 ad S pc lv (As.reverse ++ aA a :: st) := by
  subst hM
  intro hO H locs ls hW hl
  rw [List.map_append, List.map_reverse]
  obtain ⟨hc1, hc2, hc3, hc4, hc5⟩ := hc
  obtain ⟨q, hq, hq1⟩ := Option.map_eq_some_iff.mp hc4
  refine x_back (Mc := Mc) (As := aA a :: As) (fun H locs ls hO hW hl => va_runV (C := Mc.1.cls) (As := As.map (vl ad)) (rest := st.map (vl ad)) ⟨hO.1, hO.2.1, hO.2.2.1, hO.2.2.2.1, hO.2.2.2.2.1⟩ (hC ad) ⟨callB_x hO hc1 hR, hO.2.2.2.2.1 _ (tbG_in hc2 rfl), hO.2.2.2.2.1 _ (tbG_in hc3 rfl)⟩ ⟨pN_blind, ?_, pN_at hO hW⟩ rfl (by rw [List.length_map]; exact hn) hl.1 rfl (lv_room (by rw [slen_sum]; exact hs0)) hd hf) kk hO H locs ls hW hl
  have h9 := va_recv hO.2.2.2.2.2.1 hW.1 hq (wd_at hW ha.1 (hcell_o k ha.2 hc5))
  rw [← hq1]
  exact h9
/-! answers by their types -/
def pI (P : Int32 → hs → Prop) : Option av → hs → Prop := fun r S => ∃ x, r = some (aI x) ∧ P x S
def pJ (P : Int64 → hs → Prop) : Option av → hs → Prop := fun r S => ∃ x, r = some (aJ x) ∧ P x S
def pR (P : Option Nat → hs → Prop) : Option av → hs → Prop := fun r S => ∃ x, r = some (aR x) ∧ P x S
def pV (P : hs → Prop) : Option av → hs → Prop := fun r S => r = none ∧ P S
theorem x_callSI {Mc : mt} {own : String} {idx n : Nat}  {As : List av} {P : Int32 → hs → Prop} (hc : cokS own Mc idx n) (hM : M.1.cls = own) (hR : cokR M Mc) (hd : decode M.2.1 pc = .ok (.invokestatic idx, 3)) (hn : As.length = n) (hs0 : slen st ≤ 8) (hf : n1 ≤ M.2.2.2.1.cells ∧ n2 ≤ M.2.2.2.1.slots) (hC : ctN E.1 Mc (As) S (pI P)) (kk : ∀ x S', P x S' → X E M n1 n2 ad S' (pc + 3) lv (aI x :: st)) : X E M n1 n2 ad S pc lv (As.reverse ++ st) := x_callS hc hM hR hd hn hs0 hf hC (fun r S' h => by obtain ⟨x, rfl, h⟩ := h; exact kk x S' h)
theorem x_callSJ {Mc : mt} {own : String} {idx n : Nat}  {As : List av} {P : Int64 → hs → Prop} (hc : cokS own Mc idx n) (hM : M.1.cls = own) (hR : cokR M Mc) (hd : decode M.2.1 pc = .ok (.invokestatic idx, 3)) (hn : As.length = n) (hs0 : slen st ≤ 8) (hf : n1 ≤ M.2.2.2.1.cells ∧ n2 ≤ M.2.2.2.1.slots) (hC : ctN E.1 Mc (As) S (pJ P)) (kk : ∀ x S', P x S' → X E M n1 n2 ad S' (pc + 3) lv (aJ x :: st)) : X E M n1 n2 ad S pc lv (As.reverse ++ st) := x_callS hc hM hR hd hn hs0 hf hC (fun r S' h => by obtain ⟨x, rfl, h⟩ := h; exact kk x S' h)
theorem x_callSR {Mc : mt} {own : String} {idx n : Nat}  {As : List av} {P : Option Nat → hs → Prop} (hc : cokS own Mc idx n) (hM : M.1.cls = own) (hR : cokR M Mc) (hd : decode M.2.1 pc = .ok (.invokestatic idx, 3)) (hn : As.length = n) (hs0 : slen st ≤ 8) (hf : n1 ≤ M.2.2.2.1.cells ∧ n2 ≤ M.2.2.2.1.slots) (hC : ctN E.1 Mc (As) S (pR P)) (kk : ∀ x S', P x S' → X E M n1 n2 ad S' (pc + 3) lv (aR x :: st)) : X E M n1 n2 ad S pc lv (As.reverse ++ st) := x_callS hc hM hR hd hn hs0 hf hC (fun r S' h => by obtain ⟨x, rfl, h⟩ := h; exact kk x S' h)
theorem x_callSV {Mc : mt} {own : String} {idx n : Nat}  {As : List av} {P : hs → Prop} (hc : cokS own Mc idx n) (hM : M.1.cls = own) (hR : cokR M Mc) (hd : decode M.2.1 pc = .ok (.invokestatic idx, 3)) (hn : As.length = n) (hs0 : slen st ≤ 8) (hf : n1 ≤ M.2.2.2.1.cells ∧ n2 ≤ M.2.2.2.1.slots) (hC : ctN E.1 Mc (As) S (pV P)) (kk : ∀ S', P S' → X E M n1 n2 ad S' (pc + 3) lv st) : X E M n1 n2 ad S pc lv (As.reverse ++ st) := x_callS hc hM hR hd hn hs0 hf hC (fun r S' h => by obtain ⟨rfl, h⟩ := h; exact kk S' h)
theorem x_callVI {Mc : mt} {own : String} {idx n : Nat} {a k : Nat} {As : List av} {P : Int32 → hs → Prop} (hc : cokV own Mc idx n k) (hM : M.1.cls = own) (hR : cokR M Mc) (hd : decode M.2.1 pc = .ok (.invokevirtual idx, 3)) (hn : As.length = n) (hs0 : slen st ≤ 8) (hf : n1 ≤ M.2.2.2.1.cells ∧ n2 ≤ M.2.2.2.1.slots) (ha : is S k a) (hC : ctN E.1 Mc (aA a :: As) S (pI P)) (kk : ∀ x S', P x S' → X E M n1 n2 ad S' (pc + 3) lv (aI x :: st)) : X E M n1 n2 ad S pc lv (As.reverse ++ aA a :: st) := x_callV hc hM hR hd hn hs0 hf ha hC (fun r S' h => by obtain ⟨x, rfl, h⟩ := h; exact kk x S' h)
theorem x_callVJ {Mc : mt} {own : String} {idx n : Nat} {a k : Nat} {As : List av} {P : Int64 → hs → Prop} (hc : cokV own Mc idx n k) (hM : M.1.cls = own) (hR : cokR M Mc) (hd : decode M.2.1 pc = .ok (.invokevirtual idx, 3)) (hn : As.length = n) (hs0 : slen st ≤ 8) (hf : n1 ≤ M.2.2.2.1.cells ∧ n2 ≤ M.2.2.2.1.slots) (ha : is S k a) (hC : ctN E.1 Mc (aA a :: As) S (pJ P)) (kk : ∀ x S', P x S' → X E M n1 n2 ad S' (pc + 3) lv (aJ x :: st)) : X E M n1 n2 ad S pc lv (As.reverse ++ aA a :: st) := x_callV hc hM hR hd hn hs0 hf ha hC (fun r S' h => by obtain ⟨x, rfl, h⟩ := h; exact kk x S' h)
theorem x_callVR {Mc : mt} {own : String} {idx n : Nat} {a k : Nat} {As : List av} {P : Option Nat → hs → Prop} (hc : cokV own Mc idx n k) (hM : M.1.cls = own) (hR : cokR M Mc) (hd : decode M.2.1 pc = .ok (.invokevirtual idx, 3)) (hn : As.length = n) (hs0 : slen st ≤ 8) (hf : n1 ≤ M.2.2.2.1.cells ∧ n2 ≤ M.2.2.2.1.slots) (ha : is S k a) (hC : ctN E.1 Mc (aA a :: As) S (pR P)) (kk : ∀ x S', P x S' → X E M n1 n2 ad S' (pc + 3) lv (aR x :: st)) : X E M n1 n2 ad S pc lv (As.reverse ++ aA a :: st) := x_callV hc hM hR hd hn hs0 hf ha hC (fun r S' h => by obtain ⟨x, rfl, h⟩ := h; exact kk x S' h)
theorem x_callVV {Mc : mt} {own : String} {idx n : Nat} {a k : Nat} {As : List av} {P : hs → Prop} (hc : cokV own Mc idx n k) (hM : M.1.cls = own) (hR : cokR M Mc) (hd : decode M.2.1 pc = .ok (.invokevirtual idx, 3)) (hn : As.length = n) (hs0 : slen st ≤ 8) (hf : n1 ≤ M.2.2.2.1.cells ∧ n2 ≤ M.2.2.2.1.slots) (ha : is S k a) (hC : ctN E.1 Mc (aA a :: As) S (pV P)) (kk : ∀ S', P S' → X E M n1 n2 ad S' (pc + 3) lv st) : X E M n1 n2 ad S pc lv (As.reverse ++ aA a :: st) := x_callV hc hM hR hd hn hs0 hf ha hC (fun r S' h => by obtain ⟨rfl, h⟩ := h; exact kk S' h)
theorem x_nS (k : ∀ S1, S1 = S → X E M n1 n2 ad S1 pc lv st) : X E M n1 n2 ad S pc lv st := k S rfl
theorem x_un {o : Option Nat} {r : Nat} (h : o = some r) (k : X E M n1 n2 ad S pc lv (aA r :: st)) : X E M n1 n2 ad S pc lv (aR o :: st) := by
  subst h; exact k
theorem x_un1 {o : Option Nat} {r : Nat} {y : av} (h : o = some r) (k : X E M n1 n2 ad S pc lv (y :: aA r :: st)) : X E M n1 n2 ad S pc lv (y :: aR o :: st) := by
  subst h; exact k
end
