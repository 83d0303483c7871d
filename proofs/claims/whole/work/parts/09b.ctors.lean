/-! contracts of what makes cells; calls of constructors -/
def pA (G : Launch × va_G × (Nat → ClassId) × Nat) (ad : Nat → Nat) (As : List av) (S : hs) : Array Value → State → Prop := va_Pc (As.map (vl ad)) (fun U => G.2.2.2 ≤ U.heap.size ∧ va_P G.2.1 vwCl (wld G.2.2.1 ad S) U.heap ∧ va_K G.2.1 vwCl (tyl G.2.2.1) U ∧ va_D (fun q => G.2.2.2 ≤ q) (wld G.2.2.1 ad S) ∧ xtra U)
def qA (G : Launch × va_G × (Nat → ClassId) × Nat) (ad : Nat → Nat) (n : Nat) (Post : hs → Prop) : Array Value → State → Outcome → State → Prop := fun _ st o t => (∃ S' ad', o = .returned none ∧ (∀ i, i < n → ad' i = ad i) ∧ n ≤ S'.1 ∧ Post S' ∧ va_P G.2.1 vwCl (wld G.2.2.1 ad' S') t.heap ∧ va_K G.2.1 vwCl (tyl G.2.2.1) t ∧ va_D (fun q => G.2.2.2 ≤ q) (wld G.2.2.1 ad' S')) ∧ va_F (fun q => G.2.2.2 ≤ q) st t
def ctA (G : Launch × va_G × (Nat → ClassId) × Nat) (M : mt) (As : List av) (S : hs) (Post : hs → Prop) : Prop :=
  ∀ ad, Met G.1 M.1 (Cond.code M.1 M.2.1 M.2.2.1 M.2.2.2.2 :: tbG) M.2.2.2.1 (pA G ad As S) (qA G ad S.1 Post) M.2.2.2.1.cells M.2.2.2.1.slots (fun q => G.2.2.2 ≤ q)
def isA (E : en) (M : mt) (n0 : Nat) (ad : Nat → Nat) (Post : hs → Prop) : Prop := ∃ ad0, (∀ i, i < n0 → ad i = ad0 i) ∧ E.2.2.2 = MQ E.2.1.2.2.2.2.1 (qA E.1 ad0 n0 Post) E.2.2.1 E.2.1.2.2.1 M.2.2.2.1.cells M.2.2.2.1.slots (fun q => E.1.2.2.2 ≤ q)
theorem isA.ag {E : en} {M : mt} {n0 N : Nat} {ad ad' : Nat → Nat} {Post : hs → Prop} (h : isA E M n0 ad Post) (hag : ∀ i, i < N → ad' i = ad i) (hn : n0 ≤ N) : isA E M n0 ad' Post := by
  obtain ⟨ad0, h1, h2⟩ := h
  exact ⟨ad0, fun i hi => (hag i (Nat.lt_of_lt_of_le hi hn)).trans (h1 i hi), h2⟩
theorem isA.up {E : en} {M : mt} {n0 N q : Nat} {ad : Nat → Nat} {Post : hs → Prop} (h : isA E M n0 ad Post) (hn : n0 ≤ N) : isA E M n0 (va_up ad N q) Post := h.ag (N := N) (fun i hi => va_up_off _ _ (Nat.ne_of_lt hi)) hn
theorem ctA.of {G : Launch × va_G × (Nat → ClassId) × Nat} {M : mt} {As : List av} {S : hs} {Post : hs → Prop} (hy : plainName M.1.cls = true) (hlen : slen As ≤ M.2.2.1)
    (body : ∀ (E : en) (ad : Nat → Nat), E.1 = G → isA E M S.1 ad Post → xtra E.2.1.2.2.1 → XA E M S.1 ad S 0 (ents 0 As) []) : ctA G M As S Post := by
  intro ad
  refine Met.ofW (cc := M.2.1) (maxL := M.2.2.1) (ret := M.2.2.2.2) hy rfl ?_
  intro p e s m args below meth c s₁ B hml hv
  obtain ⟨rfl, hsz, hP, hK, hD, hX⟩ := hv
  have hts := atoms_spec (ws := Cond.code M.1 M.2.1 M.2.2.1 M.2.2.2.2 :: tbG) B.pre
  have hl := lv_entry (As.map (vl ad)) (n := M.2.2.1) (by rw [lg_sl_len]; exact hlen)
  rw [lg_entry_eq]
  have h := body (G, (p, e, s, m, below, meth, c), (As.map (vl ad)).toArray, MQ below (qA G ad S.1 Post) (As.map (vl ad)).toArray s M.2.2.2.1.cells M.2.2.2.1.slots (fun q => G.2.2.2 ≤ q)) ad rfl ⟨ad, fun _ _ => rfl, rfl⟩ hX ⟨B.exec, B.bytes, hml, findClass_of_methodNamed B.named, fun w hw => hts w (List.mem_cons_of_mem _ hw), hK, hsz, (name_of_methodNamed B.named B.method).1, B.returns, B.notSynchronized⟩ s.heap [] _ ⟨hP, hD, va_S.rf⟩ ⟨hl.1, hl.2.1, fun i v hv => hl.2.2 (i, vl ad v) (ents_lk ad As 0 i v hv)⟩
  rw [Nat.sub_self] at h
  exact h
section
variable {E : en} {M : mt} {n0 : Nat} {ad : Nat → Nat} {S : hs} {pc : Nat} {lv : List (Nat × av)} {st : List av} {Post : hs → Prop}
theorem x_vretA (hQ : isA E M n0 ad Post) (hr0 : M.2.2.2.2 = none) (hd : decode M.2.1 pc = .ok (.return_, 1)) (hn : n0 ≤ S.1 ∧ S.1 - n0 ≤ M.2.2.2.1.cells ∧ 1600 * M.2.2.2.1.cells ≤ M.2.2.2.1.slots) (h : Post S) : XA E M n0 ad S pc lv [] := by
  intro hO H locs ls hW hl
  obtain ⟨ad0, h1, h2⟩ := hQ
  rw [h2]
  refine W.widen (k := M.2.2.2.1.cells) (n := M.2.2.2.1.slots) hn.2.1 (by have := hn.2; omega) ?_
  exact W.vret hO.1 hO.2.1 (hO.2.2.2.2.2.2.2.2.1.trans hr0) (fun t ht hv => ⟨⟨S, ad, rfl, h1, hn.1, h, by rw [ht]; exact hW.1, va_K.moved hv.alike hO.2.2.2.2.2.1, hW.2.1⟩, hW.2.2.F ht⟩) hW.2.2.2.2 hd hO.2.2.2.2.2.2.2.2.2
theorem pA_blind {G : Launch × va_G × (Nat → ClassId) × Nat} {As : List av} : FrameBlind (pA G ad As S) := fun a U g mk q => by
  obtain ⟨q0, q1, qP, qK, qD, qX⟩ := q
  exact ⟨q0, q1, qP, va_K.moved (u := U) (U := U.calling g mk a) (Vm.Alike.refl U.vm) qK, qD, qX.same rfl⟩
theorem pA_at {As : List av} (hO : okE E M) (hX : xtra E.2.1.2.2.1) {H : Heap} {locs : List Loc} (hW : wd E ad S H locs) : ∀ U : State, U.heap = H → E.2.1.2.2.1.WarmedH U.vm → pA E.1 ad As S (As.map (vl ad)).toArray U := fun U hU hw => ⟨rfl, by rw [hU]; exact Nat.le_trans hO.2.2.2.2.2.2.1 hW.2.2.1, by rw [hU]; exact hW.1, va_K.moved hw.alike hO.2.2.2.2.2.1, hW.2.1, hX.warm hw⟩
/-- behind a constructor's call -/
theorem x_backA {As : List av} {stk : List Value} {n1 n2 mc ms : Nat} (hr : ∀ H locs ls, okE E M → wd E ad S H locs → lvh ad M.2.2.1 ls lv → va_Run E.2.1.1 E.1.1 E.2.1.2.1 M.2.2.2.1 E.2.1.2.2.1 E.2.1.2.2.2.1 E.2.2.1 E.2.1.2.2.2.2.1 E.2.1.2.2.2.2.2.1 E.2.1.2.2.2.2.2.2 H locs n1 n2 mc ms (F0 E.2.1.2.2.2.1 pc ls stk) (st.map (vl ad)) (qA E.1 ad S.1 Post (As.map (vl ad)).toArray) (fun q => E.1.2.2.2 ≤ q))
    (wl : okls S.1 lv) (wv : okvs S.1 st)
    (kk : ∀ S' ad', (∀ i, i < S.1 → ad' i = ad i) → S.1 ≤ S'.1 → Post S' → X E M (n1 + mc) (n2 + ms) ad' S' (pc + 3) lv st) (hO : okE E M) (H : Heap) (locs : List Loc) (ls : Array Slot) (hW : wd E ad S H locs) (hl : lvh ad M.2.2.1 ls lv) : W E.2.1.1 E.1.1 E.2.1.2.1 M.2.2.2.1 E.2.1.2.2.1 E.2.1.2.2.2.1 E.2.2.1 E.2.1.2.2.2.2.1 E.2.1.2.2.2.2.2.1 E.2.1.2.2.2.2.2.2 H locs n1 n2 E.2.2.2 (F0 E.2.1.2.2.2.1 pc ls stk) := by
  intro T hT XX
  obtain ⟨v, st₀, t, T', L, h0, X', hL, e1, e2, ⟨⟨S', ad', hv, hag, hle, hp, hP, hK, hD⟩, hz, hk⟩, hst⟩ := hr H locs ls hO hW hl T hT XX
  have hv : v = none := Outcome.returned.inj hv
  subst hv
  rw [h0] at hz hk
  have hS := hW.2.2
  have hS' : va_S (fun q => E.1.2.2.2 ≤ q) E.2.1.2.2.1.heap T'.heap (locs ++ L) := ⟨Nat.le_trans hS.1 (by rw [e1]; exact hz), fun q h1 h2 => by rw [e1, hk q (Nat.lt_of_lt_of_le h1 hS.1) h2]; exact hS.2.1 q h1 h2, fun q hq => by
      rcases List.mem_append.mp hq with h | h
      · exact hS.2.2 q h
      · exact hL q h⟩
  obtain ⟨t2, a1, b1⟩ := kk S' ad' hag hle hp hO T'.heap (locs ++ L) ls ⟨by rw [e1]; exact hP, hD, hS'⟩ (lvh_ag hag wl hl) T' rfl X'
  rw [vls_ag hag wv] at a1
  exact ⟨t2, hst t2 a1, b1⟩
def cokA (own : String) (Mc : mt) (idx n : Nat) : Prop := cokB own Mc idx n ∧ Mc.1.name = "<init>" ∧ Cond.instanceMethod Mc.1 ∈ lw_tbl ∧ Mc.2.2.2.2 = none
def cokAN (Mc : mt) (n : Nat) : Prop := Cond.initialized Mc.1.cls ∈ lw_tbl ∧ Cond.code Mc.1 Mc.2.1 Mc.2.2.1 Mc.2.2.2.2 ∈ lw_tbl ∧ (Mc.1.cls ≠ "java/lang/invoke/MethodHandle" ∧ Mc.1.cls ≠ "java/lang/invoke/VarHandle" ∧ (parseMethodDescriptor Mc.1.desc).map (fun d => d.parameters.length) = some n) ∧ Mc.1.name = "<init>" ∧ Cond.instanceMethod Mc.1 ∈ lw_tbl ∧ Mc.2.2.2.2 = none
def cokRA (M Mc : mt) : Prop := Mc.2.2.2.1.frames + 1 ≤ M.2.2.2.1.frames ∧ 8 + (Mc.2.2.1 + 11) + Mc.2.2.2.1.locals ≤ M.2.2.2.1.locals
theorem callB_a {Mc : mt} {idx n : Nat} (hO : okE E M) (h : cokB M.1.cls Mc idx n) (hR : cokRA M Mc) : CallB M.2.2.2.1 E.2.1.2.2.1 E.2.2.1 M.1.cls idx Mc.1 Mc.2.1 Mc.2.2.1 Mc.2.2.2.2 (Cond.code Mc.1 Mc.2.1 Mc.2.2.1 Mc.2.2.2.2 :: tbG) Mc.2.2.2.1 Mc.2.2.2.1.cells Mc.2.2.2.1.slots n := by
  obtain ⟨h1, h2, h3, h4, h5, h6⟩ := h
  exact callB_of n hO.2.2.2.2.1 (gIn Mc h3) rfl rfl rfl (hO.2.2.2.2.1 _ (tbG_in h2 rfl)) (hO.2.2.2.2.1 _ (tbG_in h1 rfl)) ⟨h4, h5, h6⟩ ⟨hR.1, hR.2⟩
/-- an ordinary constructor, with any counters -/
theorem x_callI {Mc : mt} {own : String} {idx n a n1 n2 : Nat} {As : List av} (hc : cokA own Mc idx n) (hM : M.1.cls = own) (hR : cokRA M Mc) (hd : decode M.2.1 pc = .ok (.invokespecial idx, 3)) (hn : As.length = n) (hs0 : slen st ≤ 8) (hf : n1 + Mc.2.2.2.1.cells ≤ M.2.2.2.1.cells ∧ n2 + Mc.2.2.2.1.slots ≤ M.2.2.2.1.slots) (hX : xtra E.2.1.2.2.1) (wl : okls S.1 lv) (wv : okvs S.1 st) (hC : ctA E.1 Mc (aA a :: As) S Post)
    (kk : ∀ S' ad', (∀ i, i < S.1 → ad' i = ad i) → S.1 ≤ S'.1 → Post S' → X E M (n1 + Mc.2.2.2.1.cells) (n2 + Mc.2.2.2.1.slots) ad' S' (pc + 3) lv st) : X E M n1 n2 ad S pc lv (As.reverse ++ aA a :: st) := by
  subst hM
  obtain ⟨y, bb, nLc, Rc, rt⟩ := Mc
  have h6 : rt = none := hc.2.2.2
  subst h6
  intro hO H locs ls hW hl
  rw [List.map_append, List.map_reverse]
  exact x_backA (As := aA a :: As) (fun H locs ls hO hW hl => va_runI (n := n) (As := As.map (vl ad)) (rest := st.map (vl ad)) ⟨hO.1, hO.2.1, hO.2.2.1, hO.2.2.2.1, hO.2.2.2.2.1⟩ (hC ad) ⟨callB_a hO hc.1 hR, hc.2.1, hO.2.2.2.2.1 _ (tbG_in hc.2.2.1 rfl)⟩ ⟨pA_blind, pA_at hO hX hW⟩ rfl (by rw [List.length_map]; exact hn) hl.1 rfl (lv_room (by rw [slen_sum]; exact hs0)) hd hf) wl wv kk hO H locs ls hW hl
/-- a nest mate's private constructor -/
theorem x_callIN {Mc : mt} {host : String} {idx n a n1 n2 : Nat} {As : List av} (hc : cokAN Mc n) (hl0 : va_Nw (.methodLinkNest M.1.cls idx Mc.1 host) E.2.1.2.2.1) (hR : cokRA M Mc) (hd : decode M.2.1 pc = .ok (.invokespecial idx, 3)) (hn : As.length = n) (hs0 : slen st ≤ 8) (hf : n1 + Mc.2.2.2.1.cells ≤ M.2.2.2.1.cells ∧ n2 + Mc.2.2.2.1.slots ≤ M.2.2.2.1.slots) (hX : xtra E.2.1.2.2.1) (wl : okls S.1 lv) (wv : okvs S.1 st) (hC : ctA E.1 Mc (aA a :: As) S Post)
    (kk : ∀ S' ad', (∀ i, i < S.1 → ad' i = ad i) → S.1 ≤ S'.1 → Post S' → X E M (n1 + Mc.2.2.2.1.cells) (n2 + Mc.2.2.2.1.slots) ad' S' (pc + 3) lv st) : X E M n1 n2 ad S pc lv (As.reverse ++ aA a :: st) := by
  obtain ⟨y, bb, nLc, Rc, rt⟩ := Mc
  obtain ⟨h1, h2, h3, h4, h5, h6⟩ := hc
  have h6 : rt = none := h6
  subst h6
  intro hO H locs ls hW hl
  rw [List.map_append, List.map_reverse]
  exact x_backA (As := aA a :: As) (fun H locs ls hO hW hl => va_runIN (n := n) (host := host) (As := As.map (vl ad)) (rest := st.map (vl ad)) ⟨hO.1, hO.2.1, hO.2.2.1, hO.2.2.2.1, hO.2.2.2.2.1⟩ (hC ad) ⟨va_cnB n hO.2.2.2.2.1 (gIn (y, bb, nLc, Rc, none) h2) rfl rfl rfl hl0 (hO.2.2.2.2.1 _ (tbG_in h1 rfl)) h3 ⟨hR.1, hR.2⟩, h4, hO.2.2.2.2.1 _ (tbG_in h5 rfl)⟩ ⟨pA_blind, pA_at hO hX hW⟩ rfl (by rw [List.length_map]; exact hn) hl.1 rfl (lv_room (by rw [slen_sum]; exact hs0)) hd hf) wl wv kk hO H locs ls hW hl
theorem cnt_eq {n0 c n m : Nat} (h : n0 ≤ n) (e : m = n + c) : n - n0 + c = m - n0 ∧ 1600 * (n - n0) + 1600 * c = 1600 * (m - n0) := by
  subst e
  have e1 : n + c - n0 = n - n0 + c := by omega
  rw [e1]
  exact ⟨rfl, by omega⟩
/-- a constructor that makes just so many cells -/
theorem x_cA {Mc : mt} {own : String} {idx n a c0 : Nat} {As : List av} (hc : cokA own Mc idx n) (hM : M.1.cls = own) (hR : cokRA M Mc) (hd : decode M.2.1 pc = .ok (.invokespecial idx, 3)) (hn : As.length = n) (hs0 : slen st ≤ 8) (hX : xtra E.2.1.2.2.1) (wl : okls S.1 lv) (wv : okvs S.1 st) (hc0 : Mc.2.2.2.1.cells = c0) (hc1 : Mc.2.2.2.1.slots = 1600 * c0) (hr0 : n0 ≤ S.1 ∧ S.1 - n0 + c0 ≤ M.2.2.2.1.cells ∧ 1600 * M.2.2.2.1.cells ≤ M.2.2.2.1.slots) (hC : ctA E.1 Mc (aA a :: As) S (fun S' => S'.1 = S.1 + c0 ∧ Post S'))
    (kk : ∀ S' ad', (∀ i, i < S.1 → ad' i = ad i) → S'.1 = S.1 + c0 → Post S' → XA E M n0 ad' S' (pc + 3) lv st) : XA E M n0 ad S pc lv (As.reverse ++ aA a :: st) :=
  x_callI hc hM hR hd hn hs0 (by rw [hc0, hc1]; exact ⟨hr0.2.1, by have := hr0.2; omega⟩) hX wl wv hC (fun S' ad' hag hle hp => by
    rw [hc0, hc1]
    have h := cnt_eq (c := c0) hr0.1 hp.1
    rw [h.1, h.2]
    exact kk S' ad' hag hp.1 hp.2)
theorem x_cAN {Mc : mt} {host : String} {idx n a c0 : Nat} {As : List av} (hc : cokAN Mc n) (hl0 : va_Nw (.methodLinkNest M.1.cls idx Mc.1 host) E.2.1.2.2.1) (hR : cokRA M Mc) (hd : decode M.2.1 pc = .ok (.invokespecial idx, 3)) (hn : As.length = n) (hs0 : slen st ≤ 8) (hX : xtra E.2.1.2.2.1) (wl : okls S.1 lv) (wv : okvs S.1 st) (hc0 : Mc.2.2.2.1.cells = c0) (hc1 : Mc.2.2.2.1.slots = 1600 * c0) (hr0 : n0 ≤ S.1 ∧ S.1 - n0 + c0 ≤ M.2.2.2.1.cells ∧ 1600 * M.2.2.2.1.cells ≤ M.2.2.2.1.slots) (hC : ctA E.1 Mc (aA a :: As) S (fun S' => S'.1 = S.1 + c0 ∧ Post S'))
    (kk : ∀ S' ad', (∀ i, i < S.1 → ad' i = ad i) → S'.1 = S.1 + c0 → Post S' → XA E M n0 ad' S' (pc + 3) lv st) : XA E M n0 ad S pc lv (As.reverse ++ aA a :: st) :=
  x_callIN hc hl0 hR hd hn hs0 (by rw [hc0, hc1]; exact ⟨hr0.2.1, by have := hr0.2; omega⟩) hX wl wv hC (fun S' ad' hag hle hp => by
    rw [hc0, hc1]
    have h := cnt_eq (c := c0) hr0.1 hp.1
    rw [h.1, h.2]
    exact kk S' ad' hag hp.1 hp.2)
/-- aastore of an object of kind ko into an array of kind k -/
theorem x_aast {k ko t0 a v : Nat} {i : Int32} {C : String} {T : u_T} {N n1 n2 : Nat} (hk11 : 11 ≤ k) (hk8 : ko < 8) (hC : vwCl[ko + 1]? = some (C, T, N)) (ht : ∀ cy : Nat → ClassId, (tyl cy)[t0]? = some (cy k, .object C)) (hd : decode M.2.1 pc = .ok (.aastore, 1)) (h : ix S k a i) (hv : is S ko v) (kk : X E M n1 n2 ad (sR S a i.toNatClampNeg (some v)) (pc + 1) lv st) : X E M n1 n2 ad S pc lv (aA v :: aI i :: aA a :: st) := by
  intro hO H locs ls hW hl
  refine va_astq (r := (C, T, N)) hO.1 hO.2.1 hO.2.2.2.2.2.1 hW.1 hW.2.1 hW.2.2 a t0 v (ko + 1) (wd_at hW h.1.1 (hcell_r k h.1.2 hk11)) (ht _) (wd_at hW hv.1 (hcell_o ko hv.2 hk8)) hC h.2 hd (fun H1 locs1 hP hD hS => ?_)
  have e : hcell E.1.2.2.1 ad (sR S a i.toNatClampNeg (some v)) a = .inl (E.1.2.2.1 k, hz S a, .inr (.inr (.inr (.inr (va_up (fun j => (hr S a j).map ad) i.toNatClampNeg (some (ad v))))))) := by
    refine (hcell_r (S := sR S a i.toNatClampNeg (some v)) k h.1.2 hk11).trans ?_
    have e2 : (fun j => (hr (sR S a i.toNatClampNeg (some v)) a j).map ad) = va_up (fun j => (hr S a j).map ad) i.toNatClampNeg (some (ad v)) := by
      funext j
      by_cases hj0 : j = i.toNatClampNeg
      · subst hj0
        rw [va_up_at, show hr (sR S a i.toNatClampNeg (some v)) a i.toNatClampNeg = some v from up2_same _ _ _ _]
        rfl
      · rw [va_up_off _ _ hj0, show hr (sR S a i.toNatClampNeg (some v)) a j = hr S a j from up2_ne _ _ (Or.inr hj0)]
    rw [e2]
  rw [wld_set (S := S) (S' := sR S a i.toNatClampNeg (some v)) rfl e (fun b hb => hcell_sR hb)] at hP hD
  exact kk hO H1 locs1 ls ⟨hP, hD, hS⟩ hl
end
