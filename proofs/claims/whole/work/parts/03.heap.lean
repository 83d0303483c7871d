/-! A picture of the heap by NUMBERS of its cells (in the order in which they were made), apart from their addresses; and the machine's rows over it. -/
/-- an abstract value: an int, a long, a reference by its cell's number -/
abbrev av : Type := Int32 ⊕ Int64 ⊕ Option Nat
abbrev aI (x : Int32) : av := .inl x
abbrev aJ (x : Int64) : av := .inr (.inl x)
abbrev aR (o : Option Nat) : av := .inr (.inr o)
abbrev aA (i : Nat) : av := .inr (.inr (some i))
def vl (ad : Nat → Nat) (v : av) : Value := match v with
  | .inl x => .int x
  | .inr (.inl x) => .long x
  | .inr (.inr none) => .null
  | .inr (.inr (some i)) => .ref (ad i)
/-- how many cells, the kind of each, its length (arrays), ints, longs, references (by field's place or by index) -/
abbrev hs : Type := Nat × (Nat → Nat) × (Nat → Nat) × (Nat → Nat → Int32) × (Nat → Nat → Int64) × (Nat → Nat → Option Nat)
abbrev hk (S : hs) : Nat → Nat := S.2.1
abbrev hz (S : hs) : Nat → Nat := S.2.2.1
abbrev hi (S : hs) : Nat → Nat → Int32 := S.2.2.2.1
abbrev hj (S : hs) : Nat → Nat → Int64 := S.2.2.2.2.1
abbrev hr (S : hs) : Nat → Nat → Option Nat := S.2.2.2.2.2
def up2 {α : Type} (f : Nat → Nat → α) (a j : Nat) (v : α) : Nat → Nat → α := fun b k => if b = a ∧ k = j then v else f b k
theorem up2_same {α : Type} (f : Nat → Nat → α) (a j : Nat) (v : α) : up2 f a j v a j = v := if_pos ⟨rfl, rfl⟩
theorem up2_ne {α : Type} (f : Nat → Nat → α) {a j b k : Nat} (v : α) (h : b ≠ a ∨ k ≠ j) : up2 f a j v b k = f b k := if_neg (fun q => h.elim (fun h => h q.1) (fun h => h q.2))
theorem up2_row {α : Type} (f : Nat → Nat → α) {a j b : Nat} (v : α) (h : b ≠ a) : up2 f a j v b = f b := funext fun k => up2_ne f v (Or.inl h)
abbrev sI (S : hs) (a j : Nat) (v : Int32) : hs := (S.1, S.2.1, S.2.2.1, up2 (hi S) a j v, hj S, hr S)
abbrev sJ (S : hs) (a j : Nat) (v : Int64) : hs := (S.1, S.2.1, S.2.2.1, hi S, up2 (hj S) a j v, hr S)
abbrev sR (S : hs) (a j : Nat) (v : Option Nat) : hs := (S.1, S.2.1, S.2.2.1, hi S, hj S, up2 (hr S) a j v)
/-- the cell number a is of kind k -/
def is (S : hs) (k a : Nat) : Prop := a < S.1 ∧ hk S a = k
/-- an array of kind k, an index within it -/
def ix (S : hs) (k a : Nat) (i : Int32) : Prop := (a < S.1 ∧ hk S a = k) ∧ vp_in i (hz S a)
def fvs (S : hs) (ad : Nat → Nat) (a : Nat) : Nat → List Nat → List Value
  | _, [] => []
  | j, t :: ts => (match t with | 0 => Value.int (hi S a j) | 1 => Value.long (hj S a j) | _ => va_rf ((hr S a j).map ad)) :: fvs S ad a (j + 1) ts
theorem vl_ref (ad : Nat → Nat) (o : Option Nat) : vl ad (.inr (.inr o)) = va_rf (o.map ad) := by cases o <;> rfl
def fty : Nat → List Nat
  | 0 => [2, 0, 0, 1]
  | 1 => [2, 2, 2, 2, 2, 0]
  | 2 => [2, 2, 0]
  | 3 => [2, 2, 2, 2, 0]
  | 4 => [2, 2, 0, 2, 2, 0, 1, 1, 1, 1]
  | 5 => [2, 2, 2, 0]
  | 6 => [2, 2, 2, 0, 2, 2, 2]
  | 7 => [0, 0, 2, 2, 2, 2, 2, 2, 0, 2, 2, 2, 2, 0, 2, 2, 2, 2, 0, 2, 0, 2, 0, 2, 2, 0, 2, 2]
  | _ => []
def hcell (cy : Nat → ClassId) (ad : Nat → Nat) (S : hs) (a : Nat) : va_E :=
  if hk S a < 8 then .inr (hk S a + 1, fvs S ad a 0 (fty (hk S a)))
  else .inl (cy (hk S a), hz S a, if hk S a = 9 then .inr (.inl (hj S a)) else if hk S a < 11 then .inl (hi S a) else .inr (.inr (.inr (.inr (fun j => (hr S a j).map ad)))))
theorem hcell_o {cy : Nat → ClassId} {ad : Nat → Nat} {S : hs} {a : Nat} (k : Nat) (h : hk S a = k) (h8 : k < 8) : hcell cy ad S a = .inr (k + 1, fvs S ad a 0 (fty k)) := by
  subst h; exact if_pos h8
theorem hcell_i {cy : Nat → ClassId} {ad : Nat → Nat} {S : hs} {a : Nat} (h : hk S a = 8) : hcell cy ad S a = .inl (cy 8, hz S a, .inl (hi S a)) := by
  simp [hcell, h]
theorem hcell_z {cy : Nat → ClassId} {ad : Nat → Nat} {S : hs} {a : Nat} (h : hk S a = 10) : hcell cy ad S a = .inl (cy 10, hz S a, .inl (hi S a)) := by
  simp [hcell, h]
theorem hcell_j {cy : Nat → ClassId} {ad : Nat → Nat} {S : hs} {a : Nat} (h : hk S a = 9) : hcell cy ad S a = .inl (cy 9, hz S a, .inr (.inl (hj S a))) := by
  simp [hcell, h]
theorem hcell_r {cy : Nat → ClassId} {ad : Nat → Nat} {S : hs} {a : Nat} (k : Nat) (h : hk S a = k) (hk : 11 ≤ k) : hcell cy ad S a = .inl (cy k, hz S a, .inr (.inr (.inr (.inr (fun j => (hr S a j).map ad))))) := by
  have h1 : ¬ k < 8 := by omega
  have h2 : ¬ k = 9 := by omega
  have h3 : ¬ k < 11 := by omega
  simp [hcell, h, h1, h2, h3]
def wld (cy : Nat → ClassId) (ad : Nat → Nat) (S : hs) : va_W := (List.range S.1).map (fun i => (ad i, hcell cy ad S i))
theorem wld_at {cy : Nat → ClassId} {ad : Nat → Nat} {S : hs} {a : Nat} (h : a < S.1) : (wld cy ad S)[a]? = some (ad a, hcell cy ad S a) := by
  simp [wld, h]
theorem wld_set {cy : Nat → ClassId} {ad : Nat → Nat} {S S' : hs} {a : Nat} {e : va_E} (hn : S'.1 = S.1) (he : hcell cy ad S' a = e) (ho : ∀ b, b ≠ a → hcell cy ad S' b = hcell cy ad S b) : (wld cy ad S).set a (ad a, e) = wld cy ad S' := by
  apply List.ext_getElem?
  intro i
  by_cases hi : i = a
  · subst hi
    by_cases h : i < S.1
    · rw [wld_at (S := S') (by rw [hn]; exact h), List.getElem?_set_self (by simp [wld, h]), he]
    · rw [List.getElem?_eq_none (by simp [wld]; omega), List.getElem?_eq_none (by simp [wld]; omega)]
  · rw [List.getElem?_set_ne (fun q => hi q.symm)]
    by_cases h : i < S.1
    · rw [wld_at h, wld_at (S := S') (by rw [hn]; exact h), ho i hi]
    · rw [List.getElem?_eq_none (by simp [wld]; omega), List.getElem?_eq_none (by simp [wld]; omega)]
theorem fvs_congr {S S' : hs} {ad : Nat → Nat} {a : Nat} (h1 : hi S' a = hi S a) (h2 : hj S' a = hj S a) (h3 : hr S' a = hr S a) : ∀ (ts : List Nat) (j : Nat), fvs S' ad a j ts = fvs S ad a j ts
  | [], _ => rfl
  | t :: ts, j => by
    simp only [fvs, h1, h2, h3, fvs_congr h1 h2 h3 ts (j + 1)]
theorem hcell_congr {cy : Nat → ClassId} {ad : Nat → Nat} {S S' : hs} {a : Nat} (h0 : hk S' a = hk S a) (hz0 : hz S' a = hz S a) (h1 : hi S' a = hi S a) (h2 : hj S' a = hj S a) (h3 : hr S' a = hr S a) : hcell cy ad S' a = hcell cy ad S a := by
  unfold hcell
  rw [h0, hz0, h1, h2, h3, fvs_congr h1 h2 h3]
/-- a store into one field of an object: the list of its values -/
theorem fvs_set {S S' : hs} {ad : Nat → Nat} {a : Nat} {v : Value} : ∀ (ts : List Nat) (j n : Nat) (_ : ∀ i, i ≠ j + n → hi S' a i = hi S a i) (_ : ∀ i, i ≠ j + n → hj S' a i = hj S a i) (_ : ∀ i, i ≠ j + n → hr S' a i = hr S a i) (_ : (fvs S' ad a j ts)[n]? = some v), (fvs S ad a j ts).set n v = fvs S' ad a j ts
  | [], _, _, _, _, _, _ => rfl
  | t :: ts, j, 0, h1, h2, h3, h4 => by
    have h4' : (fvs S' ad a j (t :: ts)).head? = some v := by rw [← h4]; simp [fvs]
    have h5 : ∀ (us : List Nat) (i : Nat), j < i → fvs S ad a i us = fvs S' ad a i us := by
      intro us
      induction us with
      | nil => intro i _; rfl
      | cons u us ih =>
        intro i hi0
        simp only [fvs]
        rw [h1 i (by omega), h2 i (by omega), h3 i (by omega), ih (i + 1) (by omega)]
    simp only [fvs] at h4' ⊢
    rw [List.head?_cons] at h4'
    rw [List.set_cons_zero, h5 ts (j + 1) (by omega), Option.some.inj h4']
  | t :: ts, j, n + 1, h1, h2, h3, h4 => by
    simp only [fvs] at h4 ⊢
    rw [List.set_cons_succ, h1 j (by omega), h2 j (by omega), h3 j (by omega)]
    rw [List.getElem?_cons_succ] at h4
    rw [fvs_set ts (j + 1) n (fun i h => h1 i (by omega)) (fun i h => h2 i (by omega)) (fun i h => h3 i (by omega)) h4]
/-! ## the method's constants: name, code, locals, room, result type; the machine's part; the judgement -/
abbrev mt : Type := MethodName × ByteArray × Nat × Room × Option FieldType
abbrev en : Type := (Launch × va_G × (Nat → ClassId) × Nat) × (Program × Env × State × MethodId × List Frame × Method × Code) × Array Value × (State → Prop)
def tbG : List Cond := lw_tbl.filter goodWord
theorem tbG_in {w : Cond} (h : w ∈ lw_tbl) (h2 : goodWord w = true) : w ∈ tbG := List.mem_filter.mpr ⟨h, h2⟩
abbrev tyl (cy : Nat → ClassId) : List (ClassId × FieldType) := [(cy 8, .int), (cy 9, .long), (cy 10, .boolean), (cy 11, .object "AreaCrossings$Area"), (cy 12, .object "AreaCrossings$Ring"), (cy 13, .object "AreaCrossings$Track")]
def okE (E : en) (M : mt) : Prop := E.2.1.1.tables.exec = Jvm.exec ∧ E.2.1.2.2.2.2.2.2.code = M.2.1 ∧ E.2.1.2.2.2.2.2.2.maxLocals = M.2.2.1 ∧ E.2.1.2.2.1.vm.findClass M.1.cls = some E.2.1.2.2.2.1.cls ∧ (∀ w ∈ tbG, w.before E.2.2.1 E.2.1.2.2.1 = true) ∧ va_K E.1.2.1 vwCl (tyl E.1.2.2.1) E.2.1.2.2.1 ∧ E.1.2.2.2 ≤ E.2.1.2.2.1.heap.size ∧ E.2.1.2.2.2.2.2.1.name = M.1.name ∧ E.2.1.2.2.2.2.2.1.sig.returnType = M.2.2.2.2 ∧ E.2.1.2.2.2.2.2.1.locks = false
def lkp : List (Nat × av) → Nat → Option av
  | [], _ => none
  | q :: t, k => match Nat.beq q.1 k with
    | true => some q.2
    | false => lkp t k
def lvh (ad : Nat → Nat) (nL : Nat) (ls : Array Slot) (lv : List (Nat × av)) : Prop := ls.size = nL ∧ lv_wf ls ∧ ∀ i v, lkp lv i = some v → ls[i]? = some (.val (vl ad v))
def wd (E : en) (ad : Nat → Nat) (S : hs) (H : Heap) (locs : List Loc) : Prop := va_P E.1.2.1 vwCl (wld E.1.2.2.1 ad S) H ∧ va_D (fun q => E.1.2.2.2 ≤ q) (wld E.1.2.2.1 ad S) ∧ va_S (fun q => E.1.2.2.2 ≤ q) E.2.1.2.2.1.heap H locs
/-- from here the machine comes to its end -/
def X (E : en) (M : mt) (n1 n2 : Nat) (ad : Nat → Nat) (S : hs) (pc : Nat) (lv : List (Nat × av)) (st : List av) : Prop :=
  okE E M → ∀ (H : Heap) (locs : List Loc) (ls : Array Slot), wd E ad S H locs → lvh ad M.2.2.1 ls lv → W E.2.1.1 E.1.1 E.2.1.2.1 M.2.2.2.1 E.2.1.2.2.1 E.2.1.2.2.2.1 E.2.2.1 E.2.1.2.2.2.2.1 E.2.1.2.2.2.2.2.1 E.2.1.2.2.2.2.2.2 H locs n1 n2 E.2.2.2 (F0 E.2.1.2.2.2.1 pc ls (st.map (vl ad)))
