/-! where a place lies: 0 on the ring, 1 in it, -1 out of it -/
theorem gT_bw {ax ay bx by_ x y w : Int} (h1 : cr ax) (h2 : cr ay) (h3 : cr bx) (h4 : cr by_) (hb : bw x y w) : bJ (gT ax ay bx by_ x y w) := by
  have m1 := bw_m hb (c := ax) (by unfold cr at *; omega)
  have m2 := bw_m hb (c := ay) (by unfold cr at *; omega)
  unfold cr at *
  obtain ⟨hx, hy, hw⟩ := hb
  have e1 := mb (C := 400) (D := 1400000000000000) (c := bx - ax) (w := y - ay * w) ⟨by omega, by omega⟩ ⟨by omega, by omega⟩
  have e2 := mb (C := 400) (D := 1400000000000000) (c := by_ - ay) (w := x - ax * w) ⟨by omega, by omega⟩ ⟨by omega, by omega⟩
  unfold gT
  generalize (bx - ax) * (y - ay * w) = p at *
  generalize (by_ - ay) * (x - ax * w) = q at *
  exact ⟨by omega, by omega⟩
def gon (ax ay bx by_ x y w : Int) : Bool := decide (gT ax ay bx by_ x y w = 0) && gS ax ay bx by_ x y w
def gcross (ax ay bx by_ x y w : Int) : Bool := (decide (ay * w ≤ y) != decide (by_ * w ≤ y)) && (decide (gT ax ay bx by_ x y w ≤ 0) == decide (by_ * w ≤ y))
def glo (n : Nat) (X Y : Nat → Int) (x y w : Int) : Nat → Nat → Bool → Int
  | _, 0, odd => if odd = true then 1 else -1
  | k, d + 1, odd => if gon (X k) (Y k) (X (nx n k)) (Y (nx n k)) x y w = true then 0 else glo n X Y x y w (k + 1) d (odd ^^ gcross (X k) (Y k) (X (nx n k)) (Y (nx n k)) x y w)
def gloc (n : Nat) (X Y : Nat → Int) (x y w : Int) : Int := glo n X Y x y w 0 n false
theorem glo_3 (n : Nat) (X Y : Nat → Int) (x y w : Int) : ∀ d k odd, glo n X Y x y w k d odd = -1 ∨ glo n X Y x y w k d odd = 0 ∨ glo n X Y x y w k d odd = 1
  | 0, k, odd => by cases odd <;> simp [glo]
  | d + 1, k, odd => by
    unfold glo
    split
    · exact Or.inr (Or.inl rfl)
    · exact glo_3 n X Y x y w d (k + 1) _
set_option maxHeartbeats 2000000 in
theorem sp_locate {S : hs} {a n : Nat} {X Y : Nat → Int} {x y w : Int} {Post : Int32 → hs → Prop} (R : RgC S a n X Y) (hb : bw x y w) : PX2_locate a (cJ x) (cJ y) (cJ w) S Post = Post (cI (gloc n X Y x y w)) S := by
  have hn := R.1.2.2.2.2.2.2.2.2
  have hsz := R.1.2.2.2.2.2.2.2.1
  have h0 : bJ 0 := ⟨by omega, by omega⟩
  have hl : (∃ f, PX2_locate_6 Post f a (cJ x) (cJ y) (cJ w) (zb false) (nI 0) S) = lrun (σ := Bool) (fun k odd => if gon (X k) (Y k) (X (nx n k)) (Y (nx n k)) x y w = true then .inr (Post 0 S) else .inl (odd ^^ gcross (X k) (Y k) (X (nx n k)) (Y (nx n k)) x y w)) (fun odd => Post (if odd = true then 1 else -1) S) 0 n false := by
    refine loopS (P := fun f k odd => PX2_locate_6 Post f a (cJ x) (cJ y) (cJ w) (zb odd) (nI k) S) (N := n) (fun _ _ => True) (fun j s => rfl) (fun f k odd hk _ => ?_) (fun _ _ _ _ _ _ => trivial) (fun f odd _ => ?_) n 0 false (by omega) trivial
    · have hk' := nx_lt hk
      have x1 := (R.2 k hk).2
      have x2 := (R.2 _ hk').2
      have t1 := gT_bw x1.1 x1.2 x2.1 x2.2 hb
      have m1 := bw_m hb (c := Y k) ⟨by omega, by omega⟩
      have m2 := bw_m hb (c := Y (nx n k)) ⟨by omega, by omega⟩
      have hby : bJ y := by obtain ⟨-, hy, -⟩ := hb; exact ⟨by omega, by omega⟩
      have c1 : ¬ nI n ≤ nI k := nI_ge hk (by omega)
      show PX2_locate_6 Post (f + 1) a (cJ x) (cJ y) (cJ w) (zb odd) (nI k) S = _
      simp only [PX2_locate_6, PX2_locate_49, PX2_locate_70, PX2_locate_97, PX2_locate_118, PX2_locate_133, PX2_locate_135, PX2_locate_151, hsz, c1, false_implies, not_false_eq_true, true_implies, true_and, eq_true R.1.1, R.1.2.2.1, Option.some.injEq, exists_eq_left', eq_true (R.ix2 hk), eq_true (R.ix2 hk'), R.y hk, R.y hk', R.ly hk, R.ly hk', sp_next R hk, sp_turn R hk, sp_spans R hk hb, cJ_mul, j0, cJ_eq t1 h0, cJ_le t1 h0, cJ_le (a := Y k * w) ⟨by omega, by omega⟩ hby, cJ_le (a := Y (nx n k) * w) ⟨by omega, by omega⟩ hby, zb_0, nI_1, forall_eq]
      unfold gon gcross
      generalize gT (X k) (Y k) (X (nx n k)) (Y (nx n k)) x y w = q
      generalize gS (X k) (Y k) (X (nx n k)) (Y (nx n k)) x y w = s
      generalize Y k * w = r1
      generalize Y (nx n k) * w = r2
      have z0 : zb false = 0 := rfl
      have z1 : zb true = 1 := rfl
      by_cases e1 : q = 0 <;> by_cases e2 : q ≤ 0 <;> by_cases e3 : r1 ≤ y <;> by_cases e4 : r2 ≤ y <;> cases s <;> cases odd <;> simp [e1, e2, e3, e4, z0, z1] <;> omega
    · show PX2_locate_6 Post (f + 1) a (cJ x) (cJ y) (cJ w) (zb odd) (nI n) S = _
      have c1 : nI n ≤ nI n := nI_le (Nat.le_refl _) (by omega)
      simp only [PX2_locate_6, PX2_locate_151, hsz, c1, not_true_eq_false, false_implies, true_implies, and_true, eq_true R.1.1, true_and, zb_0]
      cases odd <;> simp
  have hr0 : ∀ d k odd, lrun (σ := Bool) (fun k odd => if gon (X k) (Y k) (X (nx n k)) (Y (nx n k)) x y w = true then .inr (Post 0 S) else .inl (odd ^^ gcross (X k) (Y k) (X (nx n k)) (Y (nx n k)) x y w)) (fun odd => Post (if odd = true then 1 else -1) S) k d odd = Post (cI (glo n X Y x y w k d odd)) S := by
    intro d
    induction d with
    | zero => intro k odd; cases odd <;> rfl
    | succ d ih =>
      intro k odd
      unfold lrun glo
      cases hg : gon (X k) (Y k) (X (nx n k)) (Y (nx n k)) x y w with
      | true => simp only [if_true]; rfl
      | false =>
        simp only [Bool.false_eq_true, if_false]
        exact ih (k + 1) _
  unfold PX2_locate
  have e0 : (0 : Int32) = zb false := rfl
  rw [hr0] at hl
  exact hl
