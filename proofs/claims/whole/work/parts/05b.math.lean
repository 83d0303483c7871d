/-! Math.max, Math.min -/
def cokM (own : String) (idx : Nat) (y : MethodName) (b : ByteArray) (n : Nat) (ret : Option FieldType) : Prop := Cond.methodLink own idx y ∈ lw_tbl ∧ Cond.static y ∈ lw_tbl ∧ Cond.initialized "java/lang/Math" ∈ lw_tbl ∧ Cond.code y b n ret ∈ lw_tbl
section
variable {E : en} {M : mt} {n1 n2 : Nat} {ad : Nat → Nat} {S : hs} {pc : Nat} {lv : List (Nat × av)} {st : List av}
theorem x_mmax {own : String} {idx : Nat} {x y : Int32} (hc : cokM own idx Lib.Math.max.name Lib.Math.max.code 2 (some .int)) (hM : M.1.cls = own) (hR : 1 ≤ M.2.2.2.1.frames ∧ 21 ≤ M.2.2.2.1.locals) (hd : decode M.2.1 pc = .ok (.invokestatic idx, 3)) (hs0 : slen st ≤ 8) (hf : n1 ≤ M.2.2.2.1.cells ∧ n2 ≤ M.2.2.2.1.slots) (k : X E M n1 n2 ad S (pc + 3) lv (aI (if x < y then y else x) :: st)) : X E M n1 n2 ad S pc lv (aI y :: aI x :: st) := by
  subst hM
  intro hO H locs ls hW hl
  exact va_mmax hO.1 hO.2.1 (hO.2.2.1.trans hl.1.symm) hO.2.2.2.1 (hO.2.2.2.2.1 _ (tbG_in hc.1 rfl)) (hO.2.2.2.2.1 _ (tbG_in hc.2.1 rfl)) (hO.2.2.2.2.1 _ (tbG_in hc.2.2.1 rfl)) (hO.2.2.2.2.1 _ (tbG_in hc.2.2.2 rfl)) hR.1 (by rw [slen_sum]; have := hR.2; omega) hf.1 hf.2 hd (k hO H locs ls hW hl)
theorem x_mmin {own : String} {idx : Nat} {x y : Int32} (hc : cokM own idx Lib.Math.min.name Lib.Math.min.code 2 (some .int)) (hM : M.1.cls = own) (hR : 1 ≤ M.2.2.2.1.frames ∧ 21 ≤ M.2.2.2.1.locals) (hd : decode M.2.1 pc = .ok (.invokestatic idx, 3)) (hs0 : slen st ≤ 8) (hf : n1 ≤ M.2.2.2.1.cells ∧ n2 ≤ M.2.2.2.1.slots) (k : X E M n1 n2 ad S (pc + 3) lv (aI (if y < x then y else x) :: st)) : X E M n1 n2 ad S pc lv (aI y :: aI x :: st) := by
  subst hM
  intro hO H locs ls hW hl
  exact va_mmin hO.1 hO.2.1 (hO.2.2.1.trans hl.1.symm) hO.2.2.2.1 (hO.2.2.2.2.1 _ (tbG_in hc.1 rfl)) (hO.2.2.2.2.1 _ (tbG_in hc.2.1 rfl)) (hO.2.2.2.2.1 _ (tbG_in hc.2.2.1 rfl)) (hO.2.2.2.2.1 _ (tbG_in hc.2.2.2 rfl)) hR.1 (by rw [slen_sum]; have := hR.2; omega) hf.1 hf.2 hd (k hO H locs ls hW hl)
theorem x_mmaxJ {own : String} {idx : Nat} {x y : Int64} (hc : cokM own idx Lib.MathLoose.max_long.x Lib.MathLoose.max_long.code 4 (some .long)) (hM : M.1.cls = own) (hR : 1 ≤ M.2.2.2.1.frames ∧ 23 ≤ M.2.2.2.1.locals) (hd : decode M.2.1 pc = .ok (.invokestatic idx, 3)) (hs0 : slen st ≤ 8) (hf : n1 ≤ M.2.2.2.1.cells ∧ n2 ≤ M.2.2.2.1.slots) (k : X E M n1 n2 ad S (pc + 3) lv (aJ (if y < x then x else y) :: st)) : X E M n1 n2 ad S pc lv (aJ y :: aJ x :: st) := by
  subst hM
  intro hO H locs ls hW hl
  exact va_mmax_long hO.1 hO.2.1 (hO.2.2.1.trans hl.1.symm) hO.2.2.2.1 (hO.2.2.2.2.1 _ (tbG_in hc.1 rfl)) (hO.2.2.2.2.1 _ (tbG_in hc.2.1 rfl)) (hO.2.2.2.2.1 _ (tbG_in hc.2.2.1 rfl)) (hO.2.2.2.2.1 _ (tbG_in hc.2.2.2 rfl)) hR.1 (by rw [slen_sum]; have := hR.2; omega) hf.1 hf.2 hd (k hO H locs ls hW hl)
theorem x_mminJ {own : String} {idx : Nat} {x y : Int64} (hc : cokM own idx Lib.MathLoose.min_long.x Lib.MathLoose.min_long.code 4 (some .long)) (hM : M.1.cls = own) (hR : 1 ≤ M.2.2.2.1.frames ∧ 23 ≤ M.2.2.2.1.locals) (hd : decode M.2.1 pc = .ok (.invokestatic idx, 3)) (hs0 : slen st ≤ 8) (hf : n1 ≤ M.2.2.2.1.cells ∧ n2 ≤ M.2.2.2.1.slots) (k : X E M n1 n2 ad S (pc + 3) lv (aJ (if y < x then y else x) :: st)) : X E M n1 n2 ad S pc lv (aJ y :: aJ x :: st) := by
  subst hM
  intro hO H locs ls hW hl
  exact va_mmin_long hO.1 hO.2.1 (hO.2.2.1.trans hl.1.symm) hO.2.2.2.1 (hO.2.2.2.2.1 _ (tbG_in hc.1 rfl)) (hO.2.2.2.2.1 _ (tbG_in hc.2.1 rfl)) (hO.2.2.2.2.1 _ (tbG_in hc.2.2.1 rfl)) (hO.2.2.2.2.1 _ (tbG_in hc.2.2.2 rfl)) hR.1 (by rw [slen_sum]; have := hR.2; omega) hf.1 hf.2 hd (k hO H locs ls hW hl)
end
