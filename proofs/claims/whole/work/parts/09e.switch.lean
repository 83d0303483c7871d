/-! tableswitch; the law's own script; the law's end -/
section
variable {E : en} {M : mt} {n1 n2 : Nat} {ad : Nat → Nat} {S : hs} {pc : Nat} {lv : List (Nat × av)} {st : List av}
theorem x_tsw {x : Int32} {dflt lo hi : Int} {offs : Array Int} {len : Nat} (hd : decode M.2.1 pc = .ok (.tableswitch dflt lo hi offs, len)) (hsz : hi - lo + 1 = (offs.size : Int)) (hnn : ∀ j : Nat, ∀ off, offs[j]? = some off → 0 ≤ (pc : Int) + off) (hdn : 0 ≤ (pc : Int) + dflt)
    (kin : ∀ (j : Nat) (off : Int), offs[j]? = some off → x.toInt = lo + j → ∀ tgt : Nat, (pc : Int) + off = (tgt : Int) → X E M n1 n2 ad S tgt lv st) (kout : ∀ tgt : Nat, x.toInt < lo ∨ hi < x.toInt → (pc : Int) + dflt = (tgt : Int) → X E M n1 n2 ad S tgt lv st) : X E M n1 n2 ad S pc lv (aI x :: st) := by
  intro hO H locs ls hW hl
  by_cases h : x.toInt < lo ∨ hi < x.toInt
  · exact lv_tableOut hO.1 hO.2.1 hd h (tgt := ((pc : Int) + dflt).toNat) (by omega) (kout _ h (by omega) hO H locs ls hW hl)
  · have h1 : ¬ x.toInt < lo := fun q => h (Or.inl q)
    have h2 : ¬ hi < x.toInt := fun q => h (Or.inr q)
    have hlt : (x.toInt - lo).toNat < offs.size := by omega
    have ho : offs[(x.toInt - lo).toNat]? = some offs[(x.toInt - lo).toNat] := Array.getElem?_eq_getElem hlt
    have h3 := hnn _ _ ho
    exact lv_tableIn hO.1 hO.2.1 hd h1 h2 ho (tgt := ((pc : Int) + offs[(x.toInt - lo).toNat]).toNat) (by omega) (kin _ _ ho (by omega) _ (by omega) hO H locs ls hW hl)
/-- the script, beside the picture: its address is ad SC -/
def SC : Nat := 1000000
def scr (E : en) (ad : Nat → Nat) (L : Nat) (xs : Nat → Int32) : Prop := va_X (ad SC) L xs E.2.1.2.2.1 E.2.1.2.2.1.heap ∧ ad SC < E.2.1.2.2.1.heap.size ∧ E.1.2.2.2 = E.2.1.2.2.1.heap.size
theorem x_sld {L : Nat} {xs : Nat → Int32} {i : Int32} (hs : scr E ad L xs) (hd : decode M.2.1 pc = .ok (.iaload, 1)) (hin : vp_in i L) (k : X E M n1 n2 ad S (pc + 1) lv (aI (xs i.toNatClampNeg) :: st)) : X E M n1 n2 ad S pc lv (aI i :: aA SC :: st) := fun hO H locs ls hW hl =>
  va_sld hO.1 hO.2.1 hs.1 hs.2.1 (by rw [hs.2.2]; exact Nat.not_le.mpr hs.2.1) hW.2.2 hin hd (k hO H locs ls hW hl)
theorem x_slen {L : Nat} {xs : Nat → Int32} (hs : scr E ad L xs) (hd : decode M.2.1 pc = .ok (.arraylength, 1)) (k : X E M n1 n2 ad S (pc + 1) lv (aI (nI L) :: st)) : X E M n1 n2 ad S pc lv (aA SC :: st) := fun hO H locs ls hW hl =>
  va_slen hO.1 hO.2.1 hs.1 hs.2.1 (by rw [hs.2.2]; exact Nat.not_le.mpr hs.2.1) hW.2.2 hd (k hO H locs ls hW hl)
end
