/-! corner: it answers, or throws -/
abbrev mX6_corner : mt := (yX6_corner, cX6_corner, 6, { frames := 7, cells := 1, slots := 6, locals := 94 }, (some .boolean))
def thQ (E : en) (ad : Nat → Nat) (PostT : hs → Prop) : State → Prop := fun t => ∃ (a : Nat) (ce : Cell) (S' : hs), t.status = .running ∧ Ended t E.2.1.2.2.2.2.1 (.threw a) ∧ E.2.1.2.2.1.WarmedH t.vm ∧ (∃ L, E.2.1.2.2.1.sameButNew ({ t with vm := E.2.1.2.2.1.vm } : State) L 1 6 ∧ ∀ q ∈ L, E.1.2.2.2 ≤ q.base) ∧ t.heap[a]? = some ce ∧ ce.vm = .none ∧ E.2.1.2.2.1.vm.findClass eX = some ce.cls ∧ E.2.1.2.2.1.vm.assignable ce.cls ce.cls = true ∧ PostT S' ∧ va_P E.1.2.1 vwCl (wld E.1.2.2.1 ad S') t.heap ∧ va_D (fun q => E.1.2.2.2 ≤ q) (wld E.1.2.2.1 ad S') ∧ va_F (fun q => E.1.2.2.2 ≤ q) E.2.1.2.2.1 t
def isQT (E : en) (ad : Nat → Nat) (PostT : hs → Prop) (Post : Option av → hs → Prop) : Prop := E.2.2.2 = fun t => MQ E.2.1.2.2.2.2.1 (qN E.1 ad Post) E.2.2.1 E.2.1.2.2.1 1 6 (fun q => E.1.2.2.2 ≤ q) t ∨ thQ E ad PostT t
theorem W.orl {p : Program} {l : Launch} {e : Env} {R : Room} {s : State} {m : MethodId} {args : Array Value} {below : List Frame} {meth : Method} {c : Code} {H : Heap} {locs : List Loc} {cells slots : Nat} {Q1 Q2 : State → Prop} {g : JFrame} (h : W p l e R s m args below meth c H locs cells slots Q1 g) : W p l e R s m args below meth c H locs cells slots (fun t => Q1 t ∨ Q2 t) g := fun T hT X => by
  obtain ⟨t, a, b⟩ := h T hT X
  exact ⟨t, a, Or.inl b⟩
theorem x_zretT {E : en} {M : mt} {ad : Nat → Nat} {S : hs} {pc : Nat} {lv : List (Nat × av)} {PostT : hs → Prop} {Post : Option av → hs → Prop} {x : Int32} (hQ : isQT E ad PostT Post) (hr0 : M.2.2.2.2 = some .boolean) (hd : decode M.2.1 pc = .ok (.ireturn, 1)) (h : (x = 0 ∨ x = 1) ∧ Post (some (aI x)) S) : X E M 0 0 ad S pc lv [aI x] := by
  intro hO H locs ls hW hl
  rw [show E.2.2.2 = _ from hQ]
  refine W.orl ?_
  refine W.widen (k := 1) (n := 6) (by omega) (by omega) ?_
  exact W.zret hO.1 hO.2.1 (hO.2.2.2.2.2.2.2.2.1.trans hr0) (by rcases h.1 with rfl | rfl <;> rfl) (qN_of (r := some (aI x)) hO hW h.2) hW.2.2.2.2 hd hO.2.2.2.2.2.2.2.2.2
/-- isArea writes nothing: as a read -/
theorem metIsArea (G : Launch × va_G × (Nat → ClassId) × Nat) {v0 r : Nat} {v1 : Int32} {S : hs} (h1 : is S 6 v0) (h2 : hr S v0 0 = some r) (h3 : is S 11 r) (ad : Nat → Nat) : Met G.1 yX6_isArea (Cond.code yX6_isArea cX6_isArea 2 (some .boolean) :: tbG) { frames := 0, cells := 0, slots := 0, locals := 0 } (pN G ad [aA v0, aI v1] S) (QcRead (if v1 < 0 ∨ nI (hz S r) ≤ v1 then 0 else 1)) 0 0 (fun _ => False) := by
  refine Met.ofW (cc := cX6_isArea) (maxL := 2) (ret := some .boolean) (by decide) rfl ?_
  intro p e s m args below meth c s₁ B hml hv
  obtain ⟨rfl, hsz, hP, hK, hD⟩ := hv
  have hx := B.exec
  have hb := B.bytes
  have hret := B.returns
  have hts := atoms_spec (ws := Cond.code yX6_isArea cX6_isArea 2 (some .boolean) :: tbG) B.pre
  have hown : s.vm.findClass RX6 = some m.cls := findClass_of_methodNamed B.named
  have hlocks := B.notSynchronized
  have hl := lv_entry ([aA v0, aI v1].map (vl ad)) (n := 2) (Nat.le_of_ble_eq_true rfl)
  rw [lg_entry_eq]
  generalize (lg_sl ([aA v0, aI v1].map (vl ad)) ++ List.replicate (2 - (lg_sl ([aA v0, aI v1].map (vl ad))).length) Slot.unset).toArray = ls at hl ⊢
  have hl : lv_has ls 2 [(0, .ref (ad v0)), (1, .int v1)] := hl
  have hq0 : (wld G.2.2.1 ad S)[v0]? = some (ad v0, .inr (7, fvs S ad v0 0 (fty 6))) := by rw [wld_at h1.1, hcell_o 6 h1.2 (by decide)]
  have hq1 : (wld G.2.2.1 ad S)[r]? = some (ad r, .inl (G.2.2.1 11, hz S r, .inr (.inr (.inr (.inr (fun j => (hr S r j).map ad)))))) := by rw [wld_at h3.1, hcell_r 11 h3.2 (by decide)]
  have fin : ∀ (z : Int32), (z = 0 ∨ z = 1) → z = (if v1 < 0 ∨ nI (hz S r) ≤ v1 then 0 else 1) → W p G.1 e (headSpec (Cond.code yX6_isArea cX6_isArea 2 (some .boolean) :: tbG) { frames := 0, cells := 0, slots := 0, locals := 0 }).room s m ([aA v0, aI v1].map (vl ad)).toArray below meth c s.heap [] 0 0 (MQ below (QcRead (if v1 < 0 ∨ nI (hz S r) ≤ v1 then 0 else 1)) ([aA v0, aI v1].map (vl ad)).toArray s 0 0 (fun _ => False)) (F0 m 18 ls [.int z]) := by
    intro z hz0 hz1
    exact W.zret hx hb hret (by rcases hz0 with rfl | rfl <;> rfl) (fun t ht hW => ⟨by rw [hz1], ht⟩) (fun q hq => by cases hq) dX6_isArea_18 hlocks
  refine lv_iload_n hx hb dX6_isArea_0 rfl (lv_at hl 1 rfl) ?_
  refine lv_if_lt (tgt := 17) hx hb dX6_isArea_1 (by decide) (fun c1 => ?_) (fun c1 => ?_)
  · refine lv_iconst (v := 0) hx hb dX6_isArea_17 (by decide) ?_
    exact fin 0 (Or.inl rfl) (by rw [if_pos (Or.inl c1)])
  · refine lv_iload_n hx hb dX6_isArea_4 rfl (lv_at hl 1 rfl) ?_
    refine lv_aload_n hx hb dX6_isArea_5 rfl (lv_at hl 0 rfl) ?_
    refine va_get (v := .ref (ad r)) (C := RX6) (T := TX6) (N := 7) hx hb hts (fun w hw => List.mem_cons_of_mem _ (inG6 w hw)) hown hK hP v0 hq0 rfl 0 (by decide) (hts _ (List.mem_cons_of_mem _ l_f6_0)) (fun _ h9 => h9) ?_ dX6_isArea_6 ?_
    · show some (va_rf ((hr S v0 0).map ad)) = _
      rw [h2]
      rfl
    · refine va_alen (v := nI (hz S r)) hx hb hK hP r 3 hq1 rfl rfl dX6_isArea_9 ?_
      refine lv_icmp_ge (tgt := 17) hx hb dX6_isArea_10 (by decide) (fun c2 => ?_) (fun c2 => ?_)
      · refine lv_iconst (v := 0) hx hb dX6_isArea_17 (by decide) ?_
        exact fin 0 (Or.inl rfl) (by rw [if_pos (Or.inr c2)])
      · refine lv_iconst (v := 1) hx hb dX6_isArea_13 (by decide) ?_
        refine lv_goto (tgt := 18) hx hb dX6_isArea_14 (by decide) ?_
        exact fin 1 (Or.inr rfl) (by rw [if_neg (fun q => q.elim c1 c2)])
