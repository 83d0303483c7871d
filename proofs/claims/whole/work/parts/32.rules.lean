/-! rules: the class's (RuC), the reference's (RuM) -/
abbrev Gr : Type := (Nat → Int) × (Nat → Int) × (Nat → Int) × (Nat → Int)
def br (c : Int) : Prop := 0 ≤ c ∧ c ≤ 1000
theorem br_I {c : Int} (h : br c) : bI c := ⟨by have := h.1; omega, by have := h.2; omega⟩
theorem br_J {c : Int} (h : br c) : bJ c := ⟨by have := h.1; omega, by have := h.2; omega⟩
def brG (G : Gr) (k : Nat) : Prop := br (G.1 k) ∧ br (G.2.1 k) ∧ br (G.2.2.1 k) ∧ br (G.2.2.2 k)
def RuC (S : hs) (a n : Nat) (G : Gr) : Prop := (is S 3 a ∧ (hr S a 0 = some (a + 1) ∧ hr S a 1 = some (a + 2) ∧ hr S a 2 = some (a + 3) ∧ hr S a 3 = some (a + 4)) ∧ (is S 8 (a + 1) ∧ is S 8 (a + 2) ∧ is S 8 (a + 3) ∧ is S 8 (a + 4)) ∧ (hz S (a + 1) = 40 ∧ hz S (a + 2) = 40 ∧ hz S (a + 3) = 40 ∧ hz S (a + 4) = 40) ∧ hi S a 4 = nI n ∧ n ≤ 40) ∧ ∀ k, k < n → (hi S (a + 1) k = cI (G.1 k) ∧ hi S (a + 2) k = cI (G.2.1 k) ∧ hi S (a + 3) k = cI (G.2.2.1 k) ∧ hi S (a + 4) k = cI (G.2.2.2 k)) ∧ brG G k
def RuM (S : hs) (Z n : Nat) (G : Gr) : Prop := (Md S Z ∧ hi S Z 8 = nI n ∧ n ≤ 40) ∧ ∀ k, k < n → (hi S (Z + 7) k = cI (G.1 k) ∧ hi S (Z + 8) k = cI (G.2.1 k) ∧ hi S (Z + 9) k = cI (G.2.2.1 k) ∧ hi S (Z + 10) k = cI (G.2.2.2 k)) ∧ brG G k
/-- rule k bars area a (for the gear g, or for any where g is below 0) on the day -/
def gapp (G : Gr) (a d : Int) (k : Nat) : Bool := decide (G.1 k = a) && (decide (G.2.2.1 k ≤ d) && decide (d ≤ G.2.2.2 k))
def gbr (G : Gr) (a g d : Int) (k : Nat) : Bool := (decide (g < 0) || decide (G.2.1 k = g)) && gapp G a d k
def gbar (n : Nat) (G : Gr) (a g d : Int) : Bool := !af (fun k => !gbr G a g d k) 0 n
section
variable {S : hs} {a n : Nat} {G : Gr}
theorem RuC.ix (R : RuC S a n G) {k : Nat} (h : k < 40) : ix S 8 (a + 1) (nI k) ∧ ix S 8 (a + 2) (nI k) ∧ ix S 8 (a + 3) (nI k) ∧ ix S 8 (a + 4) (nI k) :=
  ⟨ix_n R.1.2.2.1.1 R.1.2.2.2.1.1 h (by decide), ix_n R.1.2.2.1.2.1 R.1.2.2.2.1.2.1 h (by decide), ix_n R.1.2.2.1.2.2.1 R.1.2.2.2.1.2.2.1 h (by decide), ix_n R.1.2.2.1.2.2.2 R.1.2.2.2.1.2.2.2 h (by decide)⟩
theorem RuC.n40 (R : RuC S a n G) : n ≤ 40 := R.1.2.2.2.2.2
theorem RuC.sz (R : RuC S a n G) : hi S a 4 = nI n := R.1.2.2.2.2.1
theorem s_applies {k : Nat} {x d : Int} {Post : Int32 → hs → Prop} (R : RuC S a n G) (hk : k < n) (hx : bI x) (hd : bJ d) : PX3_applies a (nI k) (cI x) (cJ d) S Post = Post (zb (gapp G x d k)) S := by
  have h40 := R.n40
  obtain ⟨i1, i2, i3, i4⟩ := R.ix (k := k) (by omega)
  obtain ⟨⟨e1, e2, e3, e4⟩, b1, b2, b3, b4⟩ := R.2 k hk
  have hc : (nI k).toNatClampNeg = k := nI_clamp (by omega)
  simp only [PX3_applies, PX3_applies_38, PX3_applies_39, eq_true R.1.1, true_and, R.1.2.1.1, R.1.2.1.2.2.1, R.1.2.1.2.2.2, Option.some.injEq, exists_eq_left', eq_true i1, eq_true i3, eq_true i4, hc, e1, e3, e4, cI_l (br_I b3), cI_l (br_I b4), cI_eq (br_I b1) hx, cJ_lt hd (br_J b3), cJ_lt (br_J b4) hd]
  unfold gapp
  generalize G.1 k = q1
  generalize G.2.2.1 k = q3
  generalize G.2.2.2 k = q4
  simp only [← Int.not_le]
  by_cases c1 : q1 = x <;> by_cases c2 : q3 ≤ d <;> by_cases c3 : d ≤ q4 <;> simp [c1, c2, c3, zb]
theorem s_bar {x g d : Int} {Post : Int32 → hs → Prop} (R : RuC S a n G) (hx : bI x) (hg : 0 ≤ g ∧ g ≤ 7) (hd : bJ d) : PX3_bar a (cI x) (cI g) (cJ d) S Post = Post (zb (gbar n G x g d)) S := by
  have h40 := R.n40
  have hl : (∃ f, PX3_bar_3 Post f a (cI x) (cI g) (cJ d) (nI 0) S) = (if af (fun k => !gbr G x g d k) 0 n = true then Post 0 S else Post 1 S) := by
    refine loopA (P := fun f k => PX3_bar_3 Post f a (cI x) (cI g) (cJ d) (nI k) S) (N := n) (fun j => rfl) (fun f k hk => ?_) (fun f => ?_) n 0 (by omega)
    · have c1 : ¬ nI n ≤ nI k := nI_ge hk (by omega)
      obtain ⟨i1, i2, i3, i4⟩ := R.ix (k := k) (by omega)
      obtain ⟨⟨e1, e2, e3, e4⟩, b1, b2, b3, b4⟩ := R.2 k hk
      have hc : (nI k).toNatClampNeg = k := nI_clamp (by omega)
      show PX3_bar_3 Post (f + 1) a (cI x) (cI g) (cJ d) (nI k) S = _
      simp only [PX3_bar_3, PX3_bar_36, eq_true R.1.1, true_and, R.sz, c1, false_implies, not_false_eq_true, true_implies, R.1.2.1.2.1, Option.some.injEq, exists_eq_left', eq_true i2, hc, e2, cI_eq (br_I b2) (show bI g from ⟨by omega, by omega⟩), s_applies R hk hx hd, zb_0, nI_1, forall_eq]
      unfold gbr
      generalize gapp G x d k = g2
      generalize G.2.1 k = q2
      by_cases c3 : q2 = g <;> cases g2 <;> simp [c3, show ¬ g < 0 by omega]
    · have c1 : nI n ≤ nI n := nI_le (Nat.le_refl _) (by omega)
      show PX3_bar_3 Post (f + 1) a (cI x) (cI g) (cJ d) (nI n) S = _
      simp only [PX3_bar_3, eq_true R.1.1, true_and, R.sz, c1, not_true_eq_false, false_implies, true_implies, and_true]
  rw [nI_0] at hl
  unfold PX3_bar gbar
  rw [hl]
  cases af (fun k => !gbr G x g d k) 0 n <;> simp [zb]
theorem s_barAny {x d : Int} {Post : Int32 → hs → Prop} (R : RuC S a n G) (hx : bI x) (hd : bJ d) : PX3_barAny a (cI x) (cJ d) S Post = Post (zb (gbar n G x (-1) d)) S := by
  have h40 := R.n40
  have hl : (∃ f, PX3_barAny_3 Post f a (cI x) (cJ d) (nI 0) S) = (if af (fun k => !gbr G x (-1) d k) 0 n = true then Post 0 S else Post 1 S) := by
    refine loopA (P := fun f k => PX3_barAny_3 Post f a (cI x) (cJ d) (nI k) S) (N := n) (fun j => rfl) (fun f k hk => ?_) (fun f => ?_) n 0 (by omega)
    · have c1 : ¬ nI n ≤ nI k := nI_ge hk (by omega)
      show PX3_barAny_3 Post (f + 1) a (cI x) (cJ d) (nI k) S = _
      simp only [PX3_barAny_3, eq_true R.1.1, true_and, R.sz, c1, false_implies, not_false_eq_true, true_implies, s_applies R hk hx hd, zb_0, nI_1, forall_eq]
      unfold gbr
      generalize gapp G x d k = g2
      cases g2 <;> simp
    · have c1 : nI n ≤ nI n := nI_le (Nat.le_refl _) (by omega)
      show PX3_barAny_3 Post (f + 1) a (cI x) (cJ d) (nI n) S = _
      simp only [PX3_barAny_3, eq_true R.1.1, true_and, R.sz, c1, not_true_eq_false, false_implies, true_implies, and_true]
  rw [nI_0] at hl
  unfold PX3_barAny gbar
  rw [hl]
  cases af (fun k => !gbr G x (-1) d k) 0 n <;> simp [zb]
end
theorem m_barred {S : hs} {Z n : Nat} {G : Gr} {x g d : Int} {Post : Int32 → hs → Prop} (R : RuM S Z n G) (hx : bI x) (hg : -1 ≤ g ∧ g ≤ 7) (hd : bJ d) : PX7_isBarred Z (cI x) (cI g) (cJ d) S Post = Post (zb (gbar n G x g d)) S := by
  have M := R.1.1
  have h40 := R.1.2.2
  have z0 : zb false = 0 := rfl
  have z1 : zb true = 1 := rfl
  have hgI : bI g := ⟨by omega, by omega⟩
  have g0 : (cI g < (0 : Int32)) = (g < 0) := by rw [i0, cI_lt hgI ⟨by omega, by omega⟩]
  have hl : (∃ f, PX7_isBarred_6 Post f Z (cI x) (cI g) (cJ d) (zb false) (nI 0) S) = Post (zb (false || !af (fun k => !gbr G x g d k) 0 n)) S := by
    refine loopO (P := fun f k b => PX7_isBarred_6 Post f Z (cI x) (cI g) (cJ d) (zb b) (nI k) S) (p := gbr G x g d) (Q := fun b => Post (zb b) S) (N := n) (fun j g => rfl) (fun f k b hk => ?_) (fun f b => ?_) n 0 false (by omega)
    · have c1 : ¬ nI n ≤ nI k := nI_ge hk (by omega)
      obtain ⟨⟨e1, e2, e3, e4⟩, b1, b2, b3, b4⟩ := R.2 k hk
      have hc : (nI k).toNatClampNeg = k := nI_clamp (by omega)
      have k40 : k < 40 := by omega
      show PX7_isBarred_6 Post (f + 1) Z (cI x) (cI g) (cJ d) (zb b) (nI k) S = PX7_isBarred_6 Post f Z (cI x) (cI g) (cJ d) (zb (b || gbr G x g d k)) (nI (k + 1)) S
      simp only [PX7_isBarred_6, PX7_isBarred_46, PX7_isBarred_72, PX7_isBarred_76, PX7_isBarred_77, eq_true M.1, true_and, R.1.2.1, c1, false_implies, not_false_eq_true, true_implies, M.r9, M.r10, M.r11, M.r12, Option.some.injEq, exists_eq_left', eq_true (M.x7 k40), eq_true (M.x8 k40), eq_true (M.x9 k40), eq_true (M.x10 k40), hc, e1, e2, e3, e4, cI_eq (br_I b1) hx, cI_eq (br_I b2) hgI, cI_l (br_I b3), cI_l (br_I b4), cJ_lt hd (br_J b3), cJ_lt (br_J b4) hd, g0, zb_0, nI_1, forall_eq]
      unfold gbr gapp
      generalize G.1 k = q1
      generalize G.2.1 k = q2
      generalize G.2.2.1 k = q3
      generalize G.2.2.2 k = q4
      simp only [← Int.not_le (a := q3), ← Int.not_le (a := d)]
      rcases Classical.propComplete (g < 0) with c0 | c0 <;> rcases Classical.propComplete (q1 = x) with c1 | c1 <;> rcases Classical.propComplete (q2 = g) with c2 | c2 <;> rcases Classical.propComplete (q3 ≤ d) with c3 | c3 <;> rcases Classical.propComplete (d ≤ q4) with c4 | c4 <;> cases b <;> simp [c0, c1, c2, c3, c4, z0, z1]
    · have c1 : nI n ≤ nI n := nI_le (Nat.le_refl _) (by omega)
      show PX7_isBarred_6 Post (f + 1) Z (cI x) (cI g) (cJ d) (zb b) (nI n) S = _
      simp only [PX7_isBarred_6, eq_true M.1, true_and, R.1.2.1, c1, not_true_eq_false, false_implies, true_implies, and_true, eq_true (zb_01 b)]
  rw [nI_0, z0] at hl
  unfold PX7_isBarred gbar
  rw [hl]
  rfl
