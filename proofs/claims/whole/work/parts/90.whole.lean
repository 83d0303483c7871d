/-! whole_start, over the pure statement pure_law -/
theorem arrI {s : State} {args : Array Value} {ty : FieldType} (hty : ∀ (U : State) (c1 : ClassId), U.vm.findClass ("[" ++ ty.toString) = some c1 → va_RA U c1 ty) (h : (Cond.arrayClass ty).before args s = true) : ∃ c : ClassId, ArrOfT s c ty ∧ va_RA s c ty := by
  obtain ⟨c, k, comp, h1, h2, h3⟩ := Cond.arrayClass_spec h
  exact ⟨c, fun n z => ⟨fun k h => (by cases h), k, h2, comp, h3⟩, hty s c h1⟩
theorem arrO {s : State} {args : Array Value} {C : String} (h : (Cond.arrayOver (.object C)).before args s = true) : ∃ c : ClassId, ArrOfT s c (.object C) ∧ va_RA s c (.object C) := by
  obtain ⟨comp, c, k, h1, h2, h3, h4, h5⟩ := Cond.arrayOver_spec h
  exact ⟨c, fun n z => ⟨fun k h => (by cases h), k, h3, comp, h4⟩, k, comp, h3, h4, h1, h5⟩
set_option maxHeartbeats 4000000 in
set_option maxRecDepth 100000 in
theorem whole_start {p : Program} {e : Env} {s : State} {m : MethodId} {below : List Frame} {meth : Method} {c : Code} (l : Launch) (hfl : l.flags = flags0) {b L : Nat} {xs : Nat → Int32} (hL : L ≤ 4097) (C0 : lw_At p s m meth c b L xs) (hnm : meth.name = "law") : W p l e room_1 s m #[Value.ref b] below meth c s.heap [] 0 0 (lw_Z below #[Value.ref b] s) (entryFrame m ([Value.ref b] : List Value).toArray 7) := by
  obtain ⟨hx, hb, hr0, hml, hown, hts, hXs, hbl, hlocks, hgv⟩ := C0
  obtain ⟨c0, i0, k0⟩ := u_known (C := RJx00060) (T := TJx00060) (N := 6) (n := 6) hts inJx00060 (hts (.instantiable RJx00060 6) (by decide +kernel))
  obtain ⟨c1, i1, k1⟩ := u_known (C := RX0) (T := TX0) (N := 4) (n := 4) hts inX0 (hts (.instantiable RX0 4) (by decide +kernel))
  obtain ⟨c2, i2, k2⟩ := u_known (C := RX1) (T := TX1) (N := 6) (n := 6) hts inX1 (hts (.instantiable RX1 6) (by decide +kernel))
  obtain ⟨c3, i3, k3⟩ := u_known (C := RX2) (T := TX2) (N := 3) (n := 3) hts inX2 (hts (.instantiable RX2 3) (by decide +kernel))
  obtain ⟨c4, i4, k4⟩ := u_known (C := RX3) (T := TX3) (N := 5) (n := 5) hts inX3 (hts (.instantiable RX3 5) (by decide +kernel))
  obtain ⟨c5, i5, k5⟩ := u_known (C := RX4) (T := TX4) (N := 10) (n := 10) hts inX4 (hts (.instantiable RX4 10) (by decide +kernel))
  obtain ⟨c6, i6, k6⟩ := u_known (C := RX5) (T := TX5) (N := 4) (n := 4) hts inX5 (hts (.instantiable RX5 4) (by decide +kernel))
  obtain ⟨c7, i7, k7⟩ := u_known (C := RX6) (T := TX6) (N := 7) (n := 7) hts inX6 (hts (.instantiable RX6 7) (by decide +kernel))
  obtain ⟨c8, i8, k8⟩ := u_known (C := RX7) (T := TX7) (N := 28) (n := 28) hts inX7 (hts (.instantiable RX7 28) (by decide +kernel))
  obtain ⟨D, hD⟩ : ∃ D : va_G, ∀ (k : Nat) (q : vw_C), vwCl[k]? = some q → u_Kn s q.1 q.2.1 q.2.2 (D.1 k) (D.2 k) := by
    refine ⟨(fun k => match k with | 0 => c0 | 1 => c1 | 2 => c2 | 3 => c3 | 4 => c4 | 5 => c5 | 6 => c6 | 7 => c7 | _ => c8, fun k => match k with | 0 => i0 | 1 => i1 | 2 => i2 | 3 => i3 | 4 => i4 | 5 => i5 | 6 => i6 | 7 => i7 | _ => i8), ?_⟩
    intro k q hq
    match k, hq with
    | 0, hq => cases hq; exact k0
    | 1, hq => cases hq; exact k1
    | 2, hq => cases hq; exact k2
    | 3, hq => cases hq; exact k3
    | 4, hq => cases hq; exact k4
    | 5, hq => cases hq; exact k5
    | 6, hq => cases hq; exact k6
    | 7, hq => cases hq; exact k7
    | 8, hq => cases hq; exact k8
    | k + 9, hq => simp [vwCl] at hq
  obtain ⟨a8, ha8⟩ := arrI (ty := .int) (fun _ _ h => h) (hts _ wAI)
  obtain ⟨a9, ha9⟩ := arrI (ty := .long) (fun _ _ h => h) (hts _ wAJ)
  obtain ⟨a10, ha10⟩ := arrI (ty := .boolean) (fun _ _ h => h) (hts _ wAZ)
  have wo1 : Cond.arrayOver (.object "AreaCrossings$Area") ∈ lw_tbl := by decide +kernel
  have wo2 : Cond.arrayOver (.object "AreaCrossings$Ring") ∈ lw_tbl := by decide +kernel
  have wo3 : Cond.arrayOver (.object "AreaCrossings$Track") ∈ lw_tbl := by decide +kernel
  obtain ⟨a11, ha11⟩ := arrO (hts _ wo1)
  obtain ⟨a12, ha12⟩ := arrO (hts _ wo2)
  obtain ⟨a13, ha13⟩ := arrO (hts _ wo3)
  obtain ⟨cy, hcy⟩ : ∃ cy : Nat → ClassId, cy 8 = a8 ∧ cy 9 = a9 ∧ cy 10 = a10 ∧ cy 11 = a11 ∧ cy 12 = a12 ∧ cy 13 = a13 := ⟨fun k => match k with | 8 => a8 | 9 => a9 | 10 => a10 | 11 => a11 | 12 => a12 | _ => a13, rfl, rfl, rfl, rfl, rfl, rfl⟩
  have hK : va_K D vwCl (tyl cy) s := by
    refine ⟨hD, fun k q hq => ?_⟩
    match k, hq with
    | 0, hq => cases hq; rw [hcy.1]; exact ha8
    | 1, hq => cases hq; rw [hcy.2.1]; exact ha9
    | 2, hq => cases hq; rw [hcy.2.2.1]; exact ha10
    | 3, hq => cases hq; rw [hcy.2.2.2.1]; exact ha11
    | 4, hq => cases hq; rw [hcy.2.2.2.2.1]; exact ha12
    | 5, hq => cases hq; rw [hcy.2.2.2.2.2]; exact ha13
    | k + 6, hq => simp [tyl] at hq
  have hX : xtra s := ⟨va_Nw.of rfl (hts _ (by decide +kernel)), va_Nw.of rfl (hts _ (by decide +kernel)), va_Nw.of rfl (hts _ (by decide +kernel)), va_Nw.of rfl (hts _ (by decide +kernel)), va_Nw.of rfl (hts _ (by decide +kernel)), va_AO.of (hts _ wo1), va_AO.of (hts _ wo2), va_AO.of (hts _ wo3)⟩
  have hf := flat_of_before _ hgv
  have hT0 : thX s.heap.size s := ⟨⟨va_Nw.of rfl (hts _ (by decide +kernel)), va_Nw.of rfl (hts _ (by decide +kernel)), va_Nw.of rfl (hts _ (by decide +kernel)), va_Nw.of rfl (hts _ (by decide +kernel)), va_Nw.of rfl (hts _ (by decide +kernel))⟩, stt.of (hts _ (by decide +kernel)) (hf _ (by decide +kernel)), stt.of (hts _ (by decide +kernel)) (hf _ (by decide +kernel))⟩
  have hl := lv_entry ([.ref b]) (n := 7) (Nat.le_of_ble_eq_true rfl)
  rw [lg_entry_eq]
  obtain ⟨ad, had⟩ : ∃ ad : Nat → Nat, ad SC = b := ⟨fun _ => b, rfl⟩
  have hLE : lawE ((l, D, cy, s.heap.size), (p, e, s, m, below, meth, c), #[Value.ref b], lw_Z below #[Value.ref b] s) ad L xs := ⟨by rw [had], by rw [had], by rw [had]; exact hXs, by rw [had]; exact hbl, rfl⟩
  have h := xL_law (E := ((l, D, cy, s.heap.size), (p, e, s, m, below, meth, c), #[Value.ref b], lw_Z below #[Value.ref b] s)) (ad := ad) (L := L) (xs := xs) (by omega) hLE hfl hT0 hX (pure_law hL)
  refine h ⟨hx, hb, hml, hown, fun w hw => hts w (List.mem_filter.mp hw).1, hK, Nat.le_refl _, hnm, hr0, hlocks⟩ s.heap [] _ ⟨fun k q hq => by simp [wld, S00] at hq, ⟨fun i j p q hq => by simp [wld, S00] at hq, fun k q hq => by simp [wld, S00] at hq⟩, va_S.rf⟩ ⟨hl.1, hl.2.1, fun i v hv => ?_⟩
  have hl0 : lv_has _ 7 [(0, Value.ref b)] := hl
  by_cases hi : i = 0
  · subst hi
    rw [lkp_cons_eq] at hv
    cases hv
    have := hl0.2.2 (0, .ref b) List.mem_cons_self
    rw [show vl ad (aA SC) = .ref b from congrArg Value.ref had]
    exact this
  · rw [lkp_cons_ne _ _ hi] at hv
    simp [lkp] at hv
