/-! maybe -/
def mn (X : Nat → Int) : Nat → Int
  | 0 => X 0
  | k + 1 => min (mn X k) (X k)
def mx (X : Nat → Int) : Nat → Int
  | 0 => X 0
  | k + 1 => max (mx X k) (X k)
theorem mn_b {X : Nat → Int} {n : Nat} (h : ∀ k, k < n → -200 ≤ X k ∧ X k ≤ 200) (hn : 0 < n) : ∀ k, k ≤ n → -200 ≤ mn X k ∧ mn X k ≤ 200
  | 0, _ => h 0 hn
  | k + 1, hk => by
    have h1 := mn_b h hn k (by omega)
    have h2 := h k (by omega)
    unfold mn
    omega
theorem mx_b {X : Nat → Int} {n : Nat} (h : ∀ k, k < n → -200 ≤ X k ∧ X k ≤ 200) (hn : 0 < n) : ∀ k, k ≤ n → -200 ≤ mx X k ∧ mx X k ≤ 200
  | 0, _ => h 0 hn
  | k + 1, hk => by
    have h1 := mx_b h hn k (by omega)
    have h2 := h k (by omega)
    unfold mx
    omega
/-- some of the first k is at most m, some is at least l -/
def sb (X : Nat → Int) (m : Int) (k : Nat) : Bool := decide (0 < k) && decide (mn X k ≤ m)
def sa (X : Nat → Int) (l : Int) (k : Nat) : Bool := decide (0 < k) && decide (l ≤ mx X k)
theorem sb_s (X : Nat → Int) (m : Int) (k : Nat) : sb X m (k + 1) = (sb X m k || decide (X k ≤ m)) := by
  unfold sb
  cases k with
  | zero =>
    show (decide (0 < 0 + 1) && decide (min (X 0) (X 0) ≤ m)) = _
    simp
  | succ k =>
    show (decide (0 < k + 1 + 1) && decide (min (mn X (k + 1)) (X (k + 1)) ≤ m)) = _
    by_cases h1 : mn X (k + 1) ≤ m <;> by_cases h2 : X (k + 1) ≤ m <;> simp [h1, h2] <;> omega
theorem sa_s (X : Nat → Int) (l : Int) (k : Nat) : sa X l (k + 1) = (sa X l k || decide (l ≤ X k)) := by
  unfold sa
  cases k with
  | zero =>
    show (decide (0 < 0 + 1) && decide (l ≤ max (X 0) (X 0))) = _
    simp
  | succ k =>
    show (decide (0 < k + 1 + 1) && decide (l ≤ max (mx X (k + 1)) (X (k + 1)))) = _
    by_cases h1 : l ≤ mx X (k + 1) <;> by_cases h2 : l ≤ X (k + 1) <;> simp [h1, h2] <;> omega
/-- the loop whose state is known by its round -/
theorem loopK {P : Nat → Nat → Prop} {rN : Prop} {N : Nat} (h0 : ∀ j, P 0 j = False) (hs : ∀ n j, j < N → P (n + 1) j = P n (j + 1)) (hN : ∀ n, P (n + 1) N = rN) (d j : Nat) (hd : j + d = N) : (∃ n, P n j) = rN := by
  have e := loopA (P := P) (p := fun _ => true) (r := False) (rN := rN) (N := N) h0 (fun n j hj => by simp only [if_true]; exact hs n j hj) hN d j hd
  rw [e, if_pos ((af_true d j).mpr (fun _ _ _ => rfl))]
theorem s_reaches {S : hs} {a n b : Nat} {X Y V : Nat → Int} {l m : Int} {Post : Int32 → hs → Prop} (R : RgC S a n X Y) (hb : is S 8 b) (hz0 : hz S b = 12) (hv : ∀ k, k < n → hi S b k = cI (V k) ∧ -200 ≤ V k ∧ V k ≤ 200) (hl : bJ l) (hm : bJ m) : PX2_reaches a b (cJ l) (cJ m) S Post = Post (zb (sb V m n && sa V l n)) S := by
  have hn := R.1.2.2.2.2.2.2.2.2
  have hsz := R.1.2.2.2.2.2.2.2.1
  have z0 : zb false = 0 := rfl
  have z1 : zb true = 1 := rfl
  have e : (∃ f, PX2_reaches_9 Post f a b (cJ l) (cJ m) (zb (sb V m 0)) (zb (sa V l 0)) (nI 0) S) = Post (zb (sb V m n && sa V l n)) S := by
    refine loopK (P := fun f k => PX2_reaches_9 Post f a b (cJ l) (cJ m) (zb (sb V m k)) (zb (sa V l k)) (nI k) S) (N := n) (fun j => rfl) (fun f k hk => ?_) (fun f => ?_) n 0 (by omega)
    · have c1 : ¬ nI n ≤ nI k := nI_ge hk (by omega)
      have c2 : ¬ nI 12 ≤ nI k := nI_ge (by omega) (by omega)
      have ik : ix S 8 b (nI k) := ix_n hb hz0 (by omega) (by decide)
      obtain ⟨v1, v2⟩ := hv k hk
      have kc : (nI k).toNatClampNeg = k := nI_clamp (by omega)
      have vJ : bJ (V k) := ⟨by omega, by omega⟩
      have lv : (cI (V k)).toInt64 = cJ (V k) := cI_l ⟨by omega, by omega⟩
      show PX2_reaches_9 Post (f + 1) a b (cJ l) (cJ m) (zb (sb V m k)) (zb (sa V l k)) (nI k) S = PX2_reaches_9 Post f a b (cJ l) (cJ m) (zb (sb V m (k + 1))) (zb (sa V l (k + 1))) (nI (k + 1)) S
      simp only [PX2_reaches_9, PX2_reaches_41, PX2_reaches_46, PX2_reaches_63, PX2_reaches_68, eq_true R.1.1, true_and, hsz, c1, eq_true hb, hz0, c2, false_implies, not_false_eq_true, true_implies, eq_true ik, kc, v1, lv, cJ_lt hm vJ, cJ_lt vJ hl, zb_0, nI_1, forall_eq, sb_s, sa_s]
      simp only [← Int.not_le]
      generalize sb V m k = g1
      generalize sa V l k = g2
      cases g1 <;> cases g2 <;> by_cases h1 : V k ≤ m <;> by_cases h2 : l ≤ V k <;> simp [h1, h2, z0, z1]
    · have c1 : nI n ≤ nI n := nI_le (Nat.le_refl _) (by omega)
      show PX2_reaches_9 Post (f + 1) a b (cJ l) (cJ m) (zb (sb V m n)) (zb (sa V l n)) (nI n) S = _
      simp only [PX2_reaches_9, PX2_reaches_76, PX2_reaches_90, PX2_reaches_91, eq_true R.1.1, true_and, hsz, c1, not_true_eq_false, false_implies, true_implies, and_true, zb_0]
      cases sb V m n <;> cases sa V l n <;> simp [z0, z1]
  exact e
/-- the box l..m, l'..m' reaches the ring -/
def grch (n : Nat) (X Y : Nat → Int) (l m l' m' : Int) : Bool := (sb X m n && sa X l n) && (sb Y m' n && sa Y l' n)
def ghrs (T : Gt) (p : Nat) : Int := (gsec T p + 3599) / 3600
def gmay (n : Nat) (X Y : Nat → Int) (T : Gt) (p : Nat) : Bool := grch n X Y (min (T.2.1 p) (T.2.1 (p + 1)) - ghrs T p) (max (T.2.1 p) (T.2.1 (p + 1)) + ghrs T p) (min (T.2.2 p) (T.2.2 (p + 1)) - ghrs T p) (max (T.2.2 p) (T.2.2 (p + 1)) + ghrs T p)
theorem cJ_min {a b : Int} (ha : bJ a) (hb : bJ b) : (if cJ b < cJ a then cJ b else cJ a) = cJ (min a b) := by
  by_cases h : b < a
  · rw [if_pos ((cJ_lt hb ha).mpr h), Int.min_eq_right (by omega)]
  · rw [if_neg (fun q => h ((cJ_lt hb ha).mp q)), Int.min_eq_left (by omega)]
theorem cJ_max {a b : Int} (ha : bJ a) (hb : bJ b) : (if cJ b < cJ a then cJ a else cJ b) = cJ (max a b) := by
  by_cases h : b < a
  · rw [if_pos ((cJ_lt hb ha).mpr h), Int.max_eq_left (by omega)]
  · rw [if_neg (fun q => h ((cJ_lt hb ha).mp q)), Int.max_eq_right (by omega)]
theorem hrs_b {T : Gt} {p : Nat} (h1 : bt T p) (h2 : bt T (p + 1)) (h0 : 0 ≤ gsec T p) : 0 ≤ ghrs T p ∧ ghrs T p ≤ 20000 := by
  have := gsec_b h1 h2
  unfold ghrs
  omega
theorem s_may {S : hs} {a c a' n' : Nat} {m : Bool} {sp : Int} {sz : Nat → Nat} {X Y : Nat → Nat → Int} {T : Gt} {p : Nat} {Post : Int32 → hs → Prop} (A : ArC S a c m sp sz X Y) (R : TrC S a' n' T) (hp : p + 1 < n') (h0 : 0 ≤ gsec T p) : PX6_mayHaveBeenNear a a' (nI p) S Post = Post (zb (gmay (sz 0) (X 0) (Y 0) T p)) S := by
  have G := A.r0
  have hp' : p < n' := by omega
  have b1 := (R.2 p hp').2
  have b2 := (R.2 (p + 1) hp).2
  have hb := hrs_b b1 b2 h0
  obtain ⟨-, x1, y1⟩ := b1
  obtain ⟨-, x2, y2⟩ := b2
  unfold cr at x1 y1 x2 y2
  have lx1 : (cI (T.2.1 p)).toInt64 = cJ (T.2.1 p) := cI_l ⟨by omega, by omega⟩
  have ly1 : (cI (T.2.2 p)).toInt64 = cJ (T.2.2 p) := cI_l ⟨by omega, by omega⟩
  have lx2 : (cI (T.2.1 (p + 1))).toInt64 = cJ (T.2.1 (p + 1)) := cI_l ⟨by omega, by omega⟩
  have ly2 : (cI (T.2.2 (p + 1))).toInt64 = cJ (T.2.2 (p + 1)) := cI_l ⟨by omega, by omega⟩
  have B1 : bJ (T.2.1 p) := ⟨by omega, by omega⟩
  have B2 : bJ (T.2.1 (p + 1)) := ⟨by omega, by omega⟩
  have B3 : bJ (T.2.2 p) := ⟨by omega, by omega⟩
  have B4 : bJ (T.2.2 (p + 1)) := ⟨by omega, by omega⟩
  have rX := fun (P : Int32 → hs → Prop) (l m : Int) (hl : bJ l) (hm : bJ m) => s_reaches (Post := P) (V := X 0) (l := l) (m := m) G G.1.2.2.2.1 G.1.2.2.2.2.2.1 (fun k hk => ⟨(G.2 k hk).1.1, (G.2 k hk).2.1⟩) hl hm
  have rY := fun (P : Int32 → hs → Prop) (l m : Int) (hl : bJ l) (hm : bJ m) => s_reaches (Post := P) (V := Y 0) (l := l) (m := m) G G.1.2.2.2.2.1 G.1.2.2.2.2.2.2.1 (fun k hk => ⟨(G.2 k hk).1.2, (G.2 k hk).2.2⟩) hl hm
  simp only [PX6_mayHaveBeenNear, PX6_mayHaveBeenNear_104, PX6_mayHaveBeenNear_105, PX2_reachesX, PX2_reachesY, eq_true R.1.1, true_and, s_hours R hp h0, s_tx R hp', s_ty R hp', nI_1, s_tx R hp, s_ty R hp, lx1, ly1, lx2, ly2, forall_eq, eq_true A.o, s_outer A, Option.some.injEq, exists_eq_left', cJ_min B1 B2, cJ_max B1 B2, cJ_min B3 B4, cJ_max B3 B4, cJ_sub, cJ_add, eq_true G.1.1, G.1.2.1, G.1.2.2.1]
  rw [rX _ _ _ ⟨by unfold ghrs at hb; omega, by unfold ghrs at hb; omega⟩ ⟨by unfold ghrs at hb; omega, by unfold ghrs at hb; omega⟩]
  simp only [eq_true G.1.1, G.1.2.2.1, Option.some.injEq, exists_eq_left', rY _ _ _ (show bJ (min (T.2.2 p) (T.2.2 (p + 1)) - (gsec T p + 3599) / 3600) from ⟨by unfold ghrs at hb; omega, by unfold ghrs at hb; omega⟩) (show bJ (max (T.2.2 p) (T.2.2 (p + 1)) + (gsec T p + 3599) / 3600) from ⟨by unfold ghrs at hb; omega, by unfold ghrs at hb; omega⟩), eq_true (zb_01 _), true_and, zb_0]
  unfold gmay grch ghrs
  generalize sb (X 0) (max (T.2.1 p) (T.2.1 (p + 1)) + (gsec T p + 3599) / 3600) (sz 0) = g1
  generalize sa (X 0) (min (T.2.1 p) (T.2.1 (p + 1)) - (gsec T p + 3599) / 3600) (sz 0) = g2
  generalize sb (Y 0) (max (T.2.2 p) (T.2.2 (p + 1)) + (gsec T p + 3599) / 3600) (sz 0) = g3
  generalize sa (Y 0) (min (T.2.2 p) (T.2.2 (p + 1)) - (gsec T p + 3599) / 3600) (sz 0) = g4
  cases g1 <;> cases g2 <;> cases g3 <;> cases g4 <;> simp [zb]
/-- the piece of gap number g, of those from k on -/
def fpg (T : Gt) : Nat → Nat → Int → Option Nat
  | _, 0, _ => none
  | k, d + 1, g => if ggap T k = true then (if g = 0 then some k else fpg T (k + 1) d (g - 1)) else fpg T (k + 1) d g
theorem fpg_lt (T : Gt) : ∀ d k g p, fpg T k d g = some p → k ≤ p ∧ p < k + d ∧ ggap T p = true
  | 0, k, g, p, h => by cases h
  | d + 1, k, g, p, h => by
    unfold fpg at h
    cases hg : ggap T k with
    | true =>
      rw [hg, if_pos rfl] at h
      by_cases h0 : g = 0
      · rw [if_pos h0] at h
        cases h
        exact ⟨Nat.le_refl _, by omega, hg⟩
      · rw [if_neg h0] at h
        have := fpg_lt T d (k + 1) _ p h
        exact ⟨by omega, by omega, this.2.2⟩
    | false =>
      rw [hg, if_neg (by decide)] at h
      have := fpg_lt T d (k + 1) _ p h
      exact ⟨by omega, by omega, this.2.2⟩
def oI (o : Option Nat) : Int32 := match o with | some k => nI k | none => -1
theorem s_pog {S : hs} {a n : Nat} {T : Gt} {g : Int} {Post : Int32 → hs → Prop} (R : TrC S a n T) (hg : bI g) : PX5_pieceOfGap a (cI g) S Post = Post (oI (fpg T 0 (n - 1) g)) S := by
  have h30 := R.n30
  have e : (∃ f, PX5_pieceOfGap_4 Post f a (cI g) (nI 0) (nI 0) S) = lrun (σ := Nat) (fun k s => if ggap T k = true then (if g - (s : Int) = 0 then .inr (Post (nI k) S) else .inl (s + 1)) else .inl s) (fun _ => Post (-1) S) 0 (n - 1) 0 := by
    refine loopS (P := fun f k s => PX5_pieceOfGap_4 Post f a (cI g) (nI s) (nI k) S) (N := n - 1) (fun k s => s ≤ k) (fun j s => rfl) (fun f k s hk hs => ?_) (fun k s s' hk hs h => ?_) (fun f s _ => ?_) (n - 1) 0 0 (by omega) (by omega)
    · have c1 : ¬ nI (n - 1) ≤ nI k := nI_ge hk (by omega)
      have e2 : (nI s = cI g) = (g - (s : Int) = 0) := by rw [nI_c, cI_eq ⟨by omega, by omega⟩ hg]; apply propext; omega
      show PX5_pieceOfGap_4 Post (f + 1) a (cI g) (nI s) (nI k) S = _
      simp only [PX5_pieceOfGap_4, PX5_pieceOfGap_30, eq_true R.1.1, true_and, s_pieces R, c1, false_implies, not_false_eq_true, true_implies, s_gap R (show k + 1 < n by omega), zb_0, e2, nI_1, forall_eq]
      cases ggap T k <;> by_cases h : g - (s : Int) = 0 <;> simp [h]
    · revert h
      cases ggap T k
      · simp; omega
      · by_cases h : g - (s : Int) = 0
        · simp [h]
        · simp [h]; omega
    · have c1 : nI (n - 1) ≤ nI (n - 1) := nI_le (Nat.le_refl _) (by omega)
      show PX5_pieceOfGap_4 Post (f + 1) a (cI g) (nI s) (nI (n - 1)) S = _
      simp only [PX5_pieceOfGap_4, eq_true R.1.1, true_and, s_pieces R, c1, not_true_eq_false, false_implies, true_implies, and_true]
  have r : ∀ d k s, lrun (σ := Nat) (fun k s => if ggap T k = true then (if g - (s : Int) = 0 then .inr (Post (nI k) S) else .inl (s + 1)) else .inl s) (fun _ => Post (-1) S) k d s = Post (oI (fpg T k d (g - s))) S := by
    intro d
    induction d with
    | zero => intro k s; rfl
    | succ d ih =>
      intro k s
      unfold lrun fpg
      cases hk : ggap T k with
      | true =>
        by_cases h : g - (s : Int) = 0
        · simp only [h, if_true]; rfl
        · simp only [h, if_true, if_false]
          rw [ih, show g - ((s + 1 : Nat) : Int) = g - (s : Int) - 1 by omega]
      | false =>
        simp only [Bool.false_eq_true, if_false]
        rw [ih]
  unfold PX5_pieceOfGap
  rw [nI_0] at e
  rw [e, r]
  simp
theorem s32_0 {x y : Int32} : (x - y = 0) = (x = y) := by
  apply propext
  constructor
  · intro h
    have := Int32.sub_add_cancel x y
    rw [h, Int32.zero_add] at this
    exact this.symm
  · intro h; rw [h, Int32.sub_self]
