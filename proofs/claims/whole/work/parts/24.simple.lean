/-! simple rings, rings that meet -/
def gnb (n i j : Nat) : Bool := decide (nx n i = j) || decide (nx n j = i)
def gpair (n : Nat) (X Y : Nat → Int) (i j : Nat) : Bool := !(decide (X i = X j) && decide (Y i = Y j)) && (gnb n i j || !gmeet (X i) (Y i) (X (nx n i)) (Y (nx n i)) (X j) (Y j) (X (nx n j)) (Y (nx n j)))
def grow (n : Nat) (X Y : Nat → Int) (i : Nat) : Bool := !gfold (X (nx n i)) (Y (nx n i)) (X i) (Y i) (X (nx n (nx n i))) (Y (nx n (nx n i))) && af (gpair n X Y i) (i + 1) (n - (i + 1))
def gsimple (n : Nat) (X Y : Nat → Int) : Bool := decide (3 ≤ n) && af (grow n X Y) 0 n
set_option maxHeartbeats 2000000 in
theorem sp_simple_in {S : hs} {a n i : Nat} {X Y : Nat → Int} {Post : Int32 → hs → Prop} {K : Nat → Int32 → hs → Prop} (R : RgC S a n X Y) (hi0 : i < n) : (∃ f, PX2_isSimple_48 Post K f a (nI i) (nI (i + 1)) S) = (if af (gpair n X Y i) (i + 1) (n - (i + 1)) = true then K a (nI (i + 1)) S else Post 0 S) := by
  have hn := R.1.2.2.2.2.2.2.2.2
  have hsz := R.1.2.2.2.2.2.2.2.1
  have hi' := nx_lt hi0
  have x1 := (R.2 i hi0).2
  refine loopA (P := fun f j => PX2_isSimple_48 Post K f a (nI i) (nI j) S) (N := n) (fun j => rfl) (fun f j hj => ?_) (fun f => ?_) (n - (i + 1)) (i + 1) (by omega)
  · have hj' := nx_lt hj
    have x2 := (R.2 j hj).2
    have c1 : ¬ nI n ≤ nI j := nI_ge hj (by omega)
    show PX2_isSimple_48 Post K (f + 1) a (nI i) (nI j) S = _
    simp only [PX2_isSimple_48, PX2_isSimple_88, PX2_isSimple_106, PX2_isSimple_111, PX2_isSimple_128, hsz, c1, false_implies, not_false_eq_true, true_implies, true_and, eq_true R.1.1, R.1.2.1, R.1.2.2.1, Option.some.injEq, exists_eq_left', eq_true (R.ix1 hi0), eq_true (R.ix2 hi0), eq_true (R.ix1 hj), eq_true (R.ix2 hj), R.x hi0, R.x hj, R.y hi0, R.y hj, sp_next R hi0, sp_next R hj, sp_meet R R hi0 hj, forall_eq, zb_0, nI_1, nI_eq (show nx n i < 2 ^ 31 by omega) (show j < 2 ^ 31 by omega), nI_eq (show nx n j < 2 ^ 31 by omega) (show i < 2 ^ 31 by omega), cI_eq (show bI (X i) from ⟨by omega, by omega⟩) (show bI (X j) from ⟨by omega, by omega⟩), cI_eq (show bI (Y i) from ⟨by omega, by omega⟩) (show bI (Y j) from ⟨by omega, by omega⟩)]
    unfold gpair gnb
    generalize gmeet (X i) (Y i) (X (nx n i)) (Y (nx n i)) (X j) (Y j) (X (nx n j)) (Y (nx n j)) = g
    by_cases e1 : X i = X j <;> by_cases e2 : Y i = Y j <;> by_cases e3 : nx n i = j <;> by_cases e4 : nx n j = i <;> cases g <;> simp [e1, e2, e3, e4]
  · show PX2_isSimple_48 Post K (f + 1) a (nI i) (nI n) S = _
    have c1 : nI n ≤ nI n := nI_le (Nat.le_refl _) (by omega)
    simp only [PX2_isSimple_48, hsz, c1, not_true_eq_false, false_implies, true_implies, and_true, eq_true R.1.1, true_and, forall_eq, nI_1]
set_option maxHeartbeats 2000000 in
theorem sp_simple {S : hs} {a n : Nat} {X Y : Nat → Int} {Post : Int32 → hs → Prop} (R : RgC S a n X Y) : PX2_isSimple a S Post = Post (zb (gsimple n X Y)) S := by
  have hn := R.1.2.2.2.2.2.2.2.2
  have hsz := R.1.2.2.2.2.2.2.2.1
  have hl : (∃ f, PX2_isSimple_12 Post f a (nI 0) S) = (if af (grow n X Y) 0 n = true then Post 1 S else Post 0 S) := by
    refine loopA (P := fun f i => PX2_isSimple_12 Post f a (nI i) S) (N := n) (fun j => rfl) (fun f i hi0 => ?_) (fun f => ?_) n 0 (by omega)
    · have hi' := nx_lt hi0
      have hi'' := nx_lt hi'
      have c1 : ¬ nI n ≤ nI i := nI_ge hi0 (by omega)
      show PX2_isSimple_12 Post (f + 1) a (nI i) S = _
      simp only [PX2_isSimple_12, hsz, c1, false_implies, not_false_eq_true, true_implies, true_and, eq_true R.1.1, sp_next R hi0, sp_next R hi', sp_fold R hi' hi0 hi'', zb_0, nI_1, forall_eq, sp_simple_in R hi0]
      unfold grow
      generalize gfold (X (nx n i)) (Y (nx n i)) (X i) (Y i) (X (nx n (nx n i))) (Y (nx n (nx n i))) = g1
      generalize af (gpair n X Y i) (i + 1) (n - (i + 1)) = g2
      cases g1 <;> cases g2 <;> simp
    · show PX2_isSimple_12 Post (f + 1) a (nI n) S = _
      have c1 : nI n ≤ nI n := nI_le (Nat.le_refl _) (by omega)
      simp only [PX2_isSimple_12, hsz, c1, not_true_eq_false, false_implies, true_implies, and_true, eq_true R.1.1, true_and]
  rw [nI_0] at hl
  have e3 : ((3 : Int32) ≤ nI n) = (3 ≤ n) := by
    apply propext
    exact nI_leI (a := 3) (b := n) (by omega) (by omega)
  simp only [PX2_isSimple, eq_true R.1.1, true_and, hsz, e3, hl]
  unfold gsimple zb
  generalize af (grow n X Y) 0 n = g
  by_cases c : 3 ≤ n <;> cases g <;> simp [c]
/-- no side of one meets one of the other -/
def gmeets (n : Nat) (X Y : Nat → Int) (n' : Nat) (X' Y' : Nat → Int) : Bool := !af (fun i => af (fun j => !gmeet (X i) (Y i) (X (nx n i)) (Y (nx n i)) (X' j) (Y' j) (X' (nx n' j)) (Y' (nx n' j))) 0 n') 0 n
set_option maxHeartbeats 2000000 in
theorem sp_meets {S : hs} {a n a' n' : Nat} {X Y X' Y' : Nat → Int} {Post : Int32 → hs → Prop} (R : RgC S a n X Y) (R' : RgC S a' n' X' Y') : PX2_meets a a' S Post = Post (zb (gmeets n X Y n' X' Y')) S := by
  have hn := R.1.2.2.2.2.2.2.2.2
  have hsz := R.1.2.2.2.2.2.2.2.1
  have hn' := R'.1.2.2.2.2.2.2.2.2
  have hsz' := R'.1.2.2.2.2.2.2.2.1
  have hin : ∀ (K : Nat → Nat → Int32 → hs → Prop) (i : Nat), i < n → (∃ f, PX2_meets_12 Post K f a a' (nI i) (nI 0) S) = (if af (fun j => !gmeet (X i) (Y i) (X (nx n i)) (Y (nx n i)) (X' j) (Y' j) (X' (nx n' j)) (Y' (nx n' j))) 0 n' = true then K a a' (nI (i + 1)) S else Post 1 S) := by
    intro K i hi0
    refine loopA (P := fun f j => PX2_meets_12 Post K f a a' (nI i) (nI j) S) (N := n') (fun j => rfl) (fun f j hj => ?_) (fun f => ?_) n' 0 (by omega)
    · have c1 : ¬ nI n' ≤ nI j := nI_ge hj (by omega)
      show PX2_meets_12 Post K (f + 1) a a' (nI i) (nI j) S = _
      simp only [PX2_meets_12, hsz', c1, false_implies, not_false_eq_true, true_implies, true_and, eq_true R.1.1, eq_true R'.1.1, sp_meet R R' hi0 hj, zb_0, nI_1, forall_eq]
      generalize gmeet (X i) (Y i) (X (nx n i)) (Y (nx n i)) (X' j) (Y' j) (X' (nx n' j)) (Y' (nx n' j)) = g
      cases g <;> simp
    · show PX2_meets_12 Post K (f + 1) a a' (nI i) (nI n') S = _
      have c1 : nI n' ≤ nI n' := nI_le (Nat.le_refl _) (by omega)
      simp only [PX2_meets_12, hsz', c1, not_true_eq_false, false_implies, true_implies, and_true, eq_true R'.1.1, true_and, forall_eq, nI_1]
  have hl : (∃ f, PX2_meets_2 Post f a a' (nI 0) S) = (if af (fun i => af (fun j => !gmeet (X i) (Y i) (X (nx n i)) (Y (nx n i)) (X' j) (Y' j) (X' (nx n' j)) (Y' (nx n' j))) 0 n') 0 n = true then Post 0 S else Post 1 S) := by
    refine loopA (P := fun f i => PX2_meets_2 Post f a a' (nI i) S) (N := n) (fun j => rfl) (fun f i hi0 => ?_) (fun f => ?_) n 0 (by omega)
    · have c1 : ¬ nI n ≤ nI i := nI_ge hi0 (by omega)
      show PX2_meets_2 Post (f + 1) a a' (nI i) S = _
      have e := hin (PX2_meets_2 Post f) i hi0
      rw [nI_0] at e
      simp only [PX2_meets_2, hsz, c1, false_implies, not_false_eq_true, true_implies, true_and, eq_true R.1.1, e]
    · show PX2_meets_2 Post (f + 1) a a' (nI n) S = _
      have c1 : nI n ≤ nI n := nI_le (Nat.le_refl _) (by omega)
      simp only [PX2_meets_2, hsz, c1, not_true_eq_false, false_implies, true_implies, and_true, eq_true R.1.1, true_and]
  rw [nI_0] at hl
  unfold PX2_meets
  rw [hl]
  unfold gmeets zb
  generalize af (fun i => af (fun j => !gmeet (X i) (Y i) (X (nx n i)) (Y (nx n i)) (X' j) (Y' j) (X' (nx n' j)) (Y' (nx n' j))) 0 n') 0 n = g
  cases g <;> simp
