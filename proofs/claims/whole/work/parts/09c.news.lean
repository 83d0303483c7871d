/-! arrays of numbers, by type -/
theorem wAI : Cond.arrayClass .int ∈ lw_tbl := List.mem_append_right _ (List.mem_of_getElem? (i := 53) (by decide +kernel))
theorem wAJ : Cond.arrayClass .long ∈ lw_tbl := List.mem_append_right _ (List.mem_of_getElem? (i := 109) (by decide +kernel))
theorem wAZ : Cond.arrayClass .boolean ∈ lw_tbl := List.mem_append_right _ (List.mem_of_getElem? (i := 172) (by decide +kernel))
theorem wOI : Cond.instanceMethod Lib.objectInit ∈ lw_tbl := by decide +kernel
theorem wOC : Cond.code Lib.objectInit ⟨#[0xb1]⟩ 1 none ∈ lw_tbl := by decide +kernel
section
variable {E : en} {M : mt} {n0 : Nat} {ad : Nat → Nat} {S : hs} {pc : Nat} {lv : List (Nat × av)} {st : List av}
theorem x_newI {n : Int32} {N : Nat} (hN : n.toNatClampNeg = N) (hn : ¬ n < 0 ∧ N ≤ 1600) (hd : decode M.2.1 pc = .ok (.newarray .int, 2)) (hr0 : rmA M S n0) (wf : wfS S) (wl : okls S.1 lv) (wv : okvs S.1 st) (kk : ∀ q, XA E M n0 (va_up ad S.1 q) (nw S 8 N) (pc + 2) lv (aA S.1 :: st)) : XA E M n0 ad S pc lv (aI n :: st) :=
  x_newa (k := 8) (t0 := 0) (a0 := (N, .inl (fun _ => 0))) wAI rfl (fun _ => rfl) (fun _ _ h => h) (fun _ => rfl) (fun cy ad => by
    rw [hcell_i hk_nw, hz_nw, show hi (nw S 8 N) S.1 = fun _ => 0 from funext fun j => if_pos rfl]) hn.1 hN hn.2 (by show N * 4 ≤ _; omega) hd hr0 wf wl wv kk
theorem x_newJ {n : Int32} {N : Nat} (hN : n.toNatClampNeg = N) (hn : ¬ n < 0 ∧ N ≤ 1600) (hd : decode M.2.1 pc = .ok (.newarray .long, 2)) (hr0 : rmA M S n0) (wf : wfS S) (wl : okls S.1 lv) (wv : okvs S.1 st) (kk : ∀ q, XA E M n0 (va_up ad S.1 q) (nw S 9 N) (pc + 2) lv (aA S.1 :: st)) : XA E M n0 ad S pc lv (aI n :: st) :=
  x_newa (k := 9) (t0 := 1) (a0 := (N, .inr (.inl (fun _ => 0)))) wAJ rfl (fun _ => rfl) (fun _ _ h => h) (fun _ => rfl) (fun cy ad => by
    rw [hcell_j hk_nw, hz_nw, show hj (nw S 9 N) S.1 = fun _ => 0 from funext fun j => if_pos rfl]) hn.1 hN hn.2 (by show N * 8 ≤ _; omega) hd hr0 wf wl wv kk
theorem x_newZ {n : Int32} {N : Nat} (hN : n.toNatClampNeg = N) (hn : ¬ n < 0 ∧ N ≤ 1600) (hd : decode M.2.1 pc = .ok (.newarray .boolean, 2)) (hr0 : rmA M S n0) (wf : wfS S) (wl : okls S.1 lv) (wv : okvs S.1 st) (kk : ∀ q, XA E M n0 (va_up ad S.1 q) (nw S 10 N) (pc + 2) lv (aA S.1 :: st)) : XA E M n0 ad S pc lv (aI n :: st) :=
  x_newa (k := 10) (t0 := 2) (a0 := (N, .inl (fun _ => 0))) wAZ rfl (fun _ => rfl) (fun _ _ h => h) (fun _ => rfl) (fun cy ad => by
    rw [hcell_z hk_nw, hz_nw, show hi (nw S 10 N) S.1 = fun _ => 0 from funext fun j => if_pos rfl]) hn.1 hN hn.2 (by show N * 1 ≤ _; omega) hd hr0 wf wl wv kk
theorem x_nSA (k : ∀ S1, S1 = S → XA E M n0 ad S1 pc lv st) : XA E M n0 ad S pc lv st := k S rfl
end
