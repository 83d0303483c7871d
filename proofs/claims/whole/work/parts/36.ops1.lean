/-! calls that only look: told, overlap, cell, buffer -/
def pU (Z b j : Nat) : Prop := Z ≤ b
def pL (Z b j : Nat) : Prop := b < Z ∨ Z + 21 ≤ b
/-- the state is changed over its rounds -/
def itr {σ : Type} (g : Nat → σ → σ) : Nat → Nat → σ → σ
  | _, 0, s => s
  | j, d + 1, s => itr g (j + 1) d (g j s)
theorem loopI {σ : Type} {P : Nat → Nat → σ → Prop} {g : Nat → σ → σ} {rN : σ → Prop} {N : Nat} (I : Nat → σ → Prop) (h0 : ∀ j s, P 0 j s = False) (hs : ∀ n j s, j < N → I j s → P (n + 1) j s = P n (j + 1) (g j s)) (hI : ∀ j s, j < N → I j s → I (j + 1) (g j s)) (hN : ∀ n s, I N s → P (n + 1) N s = rN s) :
    ∀ d j s, j + d = N → I j s → (∃ n, P n j s) = rN (itr g j d s) := by
  intro d j s hd hi0
  have e := loopS (σ := σ) (P := P) (f := fun j s => .inl (g j s)) (rN := rN) (N := N) I h0 (fun n j s hj h => hs n j s hj h) (fun j s s' hj h e => by cases e; exact hI j s hj h) hN d j s hd hi0
  rw [e]
  clear e hd hi0
  induction d generalizing j s with
  | zero => rfl
  | succ d ih => exact ih (j + 1) (g j s)
section
variable {S : hs} {n : Nat} {A : Ga} {R : Nat × Gr} {T : Gk} {X : Gx}
theorem MS.code {v : Int32} (M : MS S n A R T X) : MS (sI S (49 + 14 * n) 0 v) n A R T X := M.fr (p := pM (49 + 14 * n)) (agr.rf.wI (fun h => (h.2.2 rfl).1 rfl)) (fun j => rfl) (fun _ _ h => h)
theorem g_code {v : Int32} : agr S (sI S (49 + 14 * n) 0 v) (pL (49 + 14 * n)) := agr.rf.wI (fun h => by unfold pL at h; omega)
theorem CS.low {S' : hs} (C : CS S n A R T X) (g : agr S S' (pL (49 + 14 * n))) : CS S' n A R T X := C.fr g (fun b j h => Or.inl h)
end
/-- a closed ring: at least three corners, each side has a length, no corner folds back -/
def okR (n : Nat) (X Y : Nat → Int) : Prop := 3 ≤ n ∧ ∀ k, k < n → ¬ (X k = X (nx n k) ∧ Y k = Y (nx n k)) ∧ gfold (X (nx n k)) (Y (nx n k)) (X k) (Y k) (X (nx n (nx n k))) (Y (nx n (nx n k))) = false
def WA (n : Nat) (A : Ga) : Prop := ∀ i, i < n → (0 ≤ A.2.2.1 i ∧ A.2.2.1 i ≤ 100000) ∧ (A.2.1 i = true → A.1 i < 4) ∧ ∀ r, r < A.1 i → okR (A.2.2.2.1 i r) (A.2.2.2.2.1 i r) (A.2.2.2.2.2 i r)
def WT (T : Gk) : Prop := ∀ t, t < 6 → (T.1 ≤ t → T.2.1 t = 0) ∧ ∀ k, k + 1 < T.2.1 t → (T.2.2 t).1 k < (T.2.2 t).1 (k + 1)
def Inv (n : Nat) (S : hs) : Prop := ∃ A R T X, CS S n A R T X ∧ MS S n A R T X ∧ WA n A ∧ WT T
def shp (S S' : hs) : Prop := S'.1 = S.1 ∧ hk S' = hk S ∧ hz S' = hz S
/-- both sides answer alike, and what they show is again the same -/
def Jo {α : Type} (n : Nat) (P6 P7 : hs → (α → hs → Prop) → Prop) (S : hs) : Prop := ∃ r S1 S2, (∀ Post, Post r S1 → P6 S Post) ∧ (∀ Post, Post r S2 → P7 S1 Post) ∧ Inv n S2 ∧ shp S S1 ∧ shp S S2
theorem Jo.ro {α : Type} {n : Nat} {P6 P7 : hs → (α → hs → Prop) → Prop} {S : hs} {A : Ga} {R : Nat × Gr} {T : Gk} {X : Gx} (C : CS S n A R T X) (M : MS S n A R T X) (hA : WA n A) (hT : WT T) (r : α) (h6 : ∀ Post, P6 S Post = Post r S) (h7 : ∀ Post, P7 S Post = Post r (sI S (49 + 14 * n) 0 0)) : Jo n P6 P7 S :=
  ⟨r, S, sI S (49 + 14 * n) 0 0, fun P h => by rw [h6]; exact h, fun P h => by rw [h7]; exact h, ⟨A, R, T, X, C.low g_code, M.code, hA, hT⟩, ⟨rfl, rfl, rfl⟩, ⟨rfl, rfl, rfl⟩⟩
/-- the number v names an area that is there -/
def thr (n : Nat) (A : Ga) (v : Int32) : Bool := decide (0 ≤ v.toInt) && (decide (v.toInt < n) && decide (0 < A.1 v.toNatClampNeg))
theorem thr_in {n i : Nat} {A : Ga} (h : i < n) (hn : n ≤ 12) : thr n A (nI i) = decide (0 < A.1 i) := by
  unfold thr
  rw [nI_toInt (by omega), nI_clamp (by omega)]
  simp [h]
theorem thr_out {n : Nat} {A : Ga} {v : Int32} (hn : n ≤ 12) (h : v < 0 ∨ nI n ≤ v) : thr n A v = false := by
  unfold thr
  rw [Int32.lt_iff_toInt_lt, Int32.le_iff_toInt_le, nI_toInt (by omega), show (0 : Int32).toInt = 0 from rfl] at h
  by_cases h1 : 0 ≤ v.toInt
  · simp [h1, show ¬ v.toInt < n by omega]
  · simp [h1]
theorem thr_ex {n : Nat} {A : Ga} {v : Int32} (hn : n ≤ 12) (h : thr n A v = true) : ∃ i, i < n ∧ v = nI i ∧ 0 < A.1 i := by
  rcases of_cases n (by omega) v with ⟨i, h1, h2⟩ | h1
  · refine ⟨i, h1, h2, ?_⟩
    rw [h2, thr_in h1 hn] at h
    simpa using h
  · rw [thr_out hn h1] at h; cases h
theorem c_thr {S : hs} {n : Nat} {A : Ga} {v : Int32} {Post : Int32 → hs → Prop} (C : CA S n A) : PX6_isThere 0 v S Post = Post (zb (thr n A v)) S := by
  have h12 := C.n12
  rcases of_cases n (by omega) v with ⟨i, h1, rfl⟩ | h1
  · rw [c_there C h1, thr_in h1 h12.2]
  · rw [c_there_out C h1, thr_out h12.2 h1]; rfl
theorem m_thr {S : hs} {Z n : Nat} {A : Ga} {v : Int32} {Post : Int32 → hs → Prop} (C : MA S Z n A) (hn : n ≤ 12) : PX7_isThere Z v S Post = Post (zb (thr n A v)) S := by
  rcases of_cases n (by omega) v with ⟨i, h1, rfl⟩ | h1
  · rw [m_there_in C hn h1, thr_in h1 hn]
  · rw [m_there_out C h1, thr_out hn h1]; rfl
/-- the number v names a track -/
def trk (T : Gk) (v : Int32) : Bool := decide (0 ≤ v.toInt) && decide (v.toInt < T.1)
theorem trk_in {t : Nat} {T : Gk} (h : t < T.1) (hn : T.1 ≤ 6) : trk T (nI t) = true := by
  unfold trk
  rw [nI_toInt (by omega)]
  simp [h]
theorem trk_out {T : Gk} {v : Int32} (hn : T.1 ≤ 6) (h : v < 0 ∨ nI T.1 ≤ v) : trk T v = false := by
  unfold trk
  rw [Int32.lt_iff_toInt_lt, Int32.le_iff_toInt_le, nI_toInt (by omega), show (0 : Int32).toInt = 0 from rfl] at h
  by_cases h1 : 0 ≤ v.toInt
  · simp [h1, show ¬ v.toInt < T.1 by omega]
  · simp [h1]
theorem trk_ex {T : Gk} {v : Int32} (hn : T.1 ≤ 6) (h : trk T v = true) : ∃ t, t < T.1 ∧ v = nI t := by
  rcases of_cases T.1 (by omega) v with ⟨i, h1, h2⟩ | h1
  · exact ⟨i, h1, h2⟩
  · rw [trk_out hn h1] at h; cases h
theorem c_trk {S : hs} {n : Nat} {T : Gk} {v : Int32} {Post : Int32 → hs → Prop} (C : CT S n T) (ho : is S 6 0) : PX6_isTrack 0 v S Post = Post (zb (trk T v)) S := by
  have h6 := C.n6
  rcases of_cases T.1 (by omega) v with ⟨i, h1, rfl⟩ | h1
  · rw [c_track_in C ho h1, trk_in h1 h6]; rfl
  · rw [c_track_out C ho h1, trk_out h6 h1]; rfl
theorem m_trk {S : hs} {Z : Nat} {T : Gk} {v : Int32} {Post : Int32 → hs → Prop} (C : MT S Z T) : PX7_isTrack Z v S Post = Post (zb (trk T v)) S := by
  have h6 := C.2.2.1
  rcases of_cases T.1 (by omega) v with ⟨i, h1, rfl⟩ | h1
  · rw [m_track_in C h1, trk_in h1 h6]; rfl
  · rw [m_track_out C h1, trk_out h6 h1]; rfl
theorem zbt : ¬ zb true = 0 := by decide
theorem zbf : zb false = 0 := rfl
section
variable {S : hs} {n : Nat} {A : Ga} {R : Nat × Gr} {T : Gk} {X : Gx}
theorem c_any {i : Nat} {d : Int} {Post : Int32 → hs → Prop} (C : CR S n R) (hi0 : i < 12) (hd : bJ d) : PX3_barAny (2 + 14 * n) (nI i) (cJ d) S Post = Post (zb (gbar R.1 R.2 i (-1) d)) S := by
  rw [nI_c]; exact s_barAny C.2 ⟨by omega, by omega⟩ hd
theorem m_any {Z i : Nat} {d : Int} {Post : Int32 → hs → Prop} (C : RuM S Z R.1 R.2) (hi0 : i < 12) (hd : bJ d) : PX7_isBarred Z (nI i) (-1) (cJ d) S Post = Post (zb (gbar R.1 R.2 i (-1) d)) S := by
  have m1 : (-1 : Int32) = cI (-1) := by decide
  rw [nI_c, m1]; exact m_barred C ⟨by omega, by omega⟩ ⟨by omega, by omega⟩ hd
theorem op_told {v : Int32} {d : Int} (C : CS S n A R T X) (M : MS S n A R T X) (hA : WA n A) (hT : WT T) (hd : bJ d) : Jo n (PX6_told 0 v (cJ d)) (PX7_told (49 + 14 * n) v (cJ d)) S := by
  have c1 := C.1
  have c2 := C.2.1
  have h12 := c1.n12
  have m1 := M.code (v := 0).1
  have m2 := M.code (v := 0).2.1
  cases h : thr n A v with
  | true =>
    obtain ⟨i, hi0, rfl, hc⟩ := thr_ex h12.2 h
    refine Jo.ro C M hA hT (zb (gbar R.1 R.2 i (-1) d)) (fun P => ?_) (fun P => ?_)
    · simp only [PX6_told, PX6_told_24, PX6_told_25, eq_true c1.o, c_thr c1, h, zbt, c2.1, Option.some.injEq, exists_eq_left', eq_true c2.2.1.1, c_any c2 (show i < 12 by omega) hd, true_and, zb_0, false_implies, not_false_eq_true, true_implies]
      cases gbar R.1 R.2 i (-1) d <;> simp [zb]
    · simp only [PX7_told, PX7_told_27, PX7_told_28, eq_true M.1.1.1, eq_true m1.1.1, forall_eq, m_thr m1 h12.2, h, zbt, m_any m2 (show i < 12 by omega) hd, true_and, zb_0, false_implies, not_false_eq_true, true_implies]
      cases gbar R.1 R.2 i (-1) d <;> simp [zb]
  | false =>
    refine Jo.ro C M hA hT 0 (fun P => ?_) (fun P => ?_)
    · simp only [PX6_told, PX6_told_24, PX6_told_25, eq_true c1.o, c_thr c1, h, zbf, true_and, not_true_eq_false, false_implies, true_implies, and_true, true_or]
    · simp only [PX7_told, PX7_told_27, PX7_told_28, eq_true M.1.1.1, eq_true m1.1.1, forall_eq, m_thr m1 h12.2, h, zbf, true_and, not_true_eq_false, false_implies, true_implies, and_true, true_or]
end
theorem cl_le (n : Nat) (X Y : Nat → Int) (x y w : Int) : (cI (gloc n X Y x y w) ≤ (0 : Int32)) = (gloc n X Y x y w ≤ 0) := by
  rcases gloc_3 n X Y x y w with h | h | h <;> rw [h] <;> decide
theorem s_cx {S : hs} {a n : Nat} {X Y : Nat → Int} {Post : Int32 → hs → Prop} (R : RgC S a n X Y) (h : 0 < n) : PX2_xOf a 0 S Post = Post (cI (X 0)) S := by
  have h12 := R.1.2.2.2.2.2.2.2.2
  have c1 : ¬ (0 : Int32) < 0 := by decide
  have c2 : ¬ nI n ≤ (0 : Int32) := nI_nle h (by omega)
  have i1 := R.ix1 h
  have e1 := R.x h
  rw [nI_0] at i1 e1
  simp only [PX2_xOf, PX2_xOf_21, PX2_xOf_22, eq_true R.1.1, true_and, R.1.2.2.2.2.2.2.2.1, c1, c2, false_implies, not_false_eq_true, true_implies, R.1.2.1, Option.some.injEq, exists_eq_left', eq_true i1, e1]
theorem s_cy {S : hs} {a n : Nat} {X Y : Nat → Int} {Post : Int32 → hs → Prop} (R : RgC S a n X Y) (h : 0 < n) : PX2_yOf a 0 S Post = Post (cI (Y 0)) S := by
  have h12 := R.1.2.2.2.2.2.2.2.2
  have c1 : ¬ (0 : Int32) < 0 := by decide
  have c2 : ¬ nI n ≤ (0 : Int32) := nI_nle h (by omega)
  have i1 := R.ix2 h
  have e1 := R.y h
  rw [nI_0] at i1 e1
  simp only [PX2_yOf, PX2_yOf_21, PX2_yOf_22, eq_true R.1.1, true_and, R.1.2.2.2.2.2.2.2.1, c1, c2, false_implies, not_false_eq_true, true_implies, R.1.2.2.1, Option.some.injEq, exists_eq_left', eq_true i1, e1]
theorem s_holds {S : hs} {a n a' n' : Nat} {X Y X' Y' : Nat → Int} {Post : Int32 → hs → Prop} (R : RgC S a n X Y) (R' : RgC S a' n' X' Y') (h : 0 < n') : PX2_holdsFirstCornerOf a a' S Post = Post (zb (!decide (gloc n X Y (X' 0) (Y' 0) 1 ≤ 0))) S := by
  have x1 := (R'.2 0 h).2
  simp only [PX2_holdsFirstCornerOf, PX2_holdsFirstCornerOf_26, eq_true R.1.1, eq_true R'.1.1, true_and, s_cx R' h, s_cy R' h, R'.lx h, R'.ly h, j1, sp_locate R (bw_1 x1.1 x1.2), cl_1]
  by_cases c : gloc n X Y (X' 0) (Y' 0) 1 ≤ 0 <;> simp [c, zb]
/-- what overlap answers: 1 the rings meet, 2 the first in the other, 3 the other in the first, 0 -/
def rover (A : Ga) (i k : Nat) : Int :=
  if gmeets (A.2.2.2.1 i 0) (A.2.2.2.2.1 i 0) (A.2.2.2.2.2 i 0) (A.2.2.2.1 k 0) (A.2.2.2.2.1 k 0) (A.2.2.2.2.2 k 0) = true then 1
  else if gloc (A.2.2.2.1 k 0) (A.2.2.2.2.1 k 0) (A.2.2.2.2.2 k 0) (A.2.2.2.2.1 i 0 0) (A.2.2.2.2.2 i 0 0) 1 ≤ 0 then
    (if gloc (A.2.2.2.1 i 0) (A.2.2.2.2.1 i 0) (A.2.2.2.2.2 i 0) (A.2.2.2.2.1 k 0 0) (A.2.2.2.2.2 k 0 0) 1 ≤ 0 then 0 else 3) else 2
theorem c_over {S : hs} {n : Nat} {A : Ga} {i k : Nat} {Post : Int32 → hs → Prop} (C : CA S n A) (h : i < n) (h' : k < n) (hc : 0 < A.1 i) (hc' : 0 < A.1 k) (ne : i ≠ k) (z : 0 < A.2.2.2.1 i 0) (z' : 0 < A.2.2.2.1 k 0) : PX6_overlap 0 (nI i) (nI k) S Post = Post (cI (rover A i k)) S := by
  have h12 := C.n12
  have r1 := (C.a h).r0
  have r2 := (C.a h').r0
  have o1 : ¬ zb (decide (0 < A.1 i)) = 0 := by rw [zb_0]; simp [hc]
  have o2 : ¬ zb (decide (0 < A.1 k)) = 0 := by rw [zb_0]; simp [hc']
  have o3 : ¬ nI i = nI k := by rw [nI_eq (by omega) (by omega)]; exact ne
  simp only [PX6_overlap, PX6_overlap_21, PX6_overlap_80, eq_true C.o, true_and, c_there C h, c_there C h', o1, o2, o3, false_implies, not_false_eq_true, true_implies, C.r0, Option.some.injEq, exists_eq_left', eq_true (C.ix h), eq_true (C.ix h'), C.ri h, C.ri h', eq_true (C.a h).o, eq_true (C.a h').o, s_outer (C.a h), s_outer (C.a h'), eq_true r1.1.1, eq_true r2.1.1, sp_meets r1 r2, s_holds r1 r2 z', s_holds r2 r1 z, zb_0]
  unfold rover
  generalize gmeets (A.2.2.2.1 i 0) (A.2.2.2.2.1 i 0) (A.2.2.2.2.2 i 0) (A.2.2.2.1 k 0) (A.2.2.2.2.1 k 0) (A.2.2.2.2.2 k 0) = g
  generalize gloc (A.2.2.2.1 k 0) (A.2.2.2.2.1 k 0) (A.2.2.2.2.2 k 0) (A.2.2.2.2.1 i 0 0) (A.2.2.2.2.2 i 0 0) 1 = q1
  generalize gloc (A.2.2.2.1 i 0) (A.2.2.2.2.1 i 0) (A.2.2.2.2.2 i 0) (A.2.2.2.2.1 k 0 0) (A.2.2.2.2.2 k 0 0) 1 = q2
  have k0 : cI 0 = 0 := rfl
  have k1 : cI 1 = 1 := rfl
  have k2 : cI 2 = 2 := rfl
  have k3 : cI 3 = 3 := rfl
  cases g <;> by_cases e1 : q1 ≤ 0 <;> by_cases e2 : q2 ≤ 0 <;> simp [e1, e2, k0, k1, k2, k3]
theorem RgM.x0 {S : hs} {Z q n : Nat} {X Y : Nat → Int} (R : RgM S Z q n X Y) (h : 0 < n) : hj S (Z + 1) (nI (12 * q)).toNatClampNeg = cJ (X 0) := by
  rw [nI_clamp (by have := R.1.2; omega)]; exact (R.2 0 h).1.1
theorem RgM.y0 {S : hs} {Z q n : Nat} {X Y : Nat → Int} (R : RgM S Z q n X Y) (h : 0 < n) : hj S (Z + 2) (nI (12 * q)).toNatClampNeg = cJ (Y 0) := by
  rw [nI_clamp (by have := R.1.2; omega)]; exact (R.2 0 h).1.2
theorem RgM.i10 {S : hs} {Z q n : Nat} {X Y : Nat → Int} (R : RgM S Z q n X Y) (h : 0 < n) : ix S 9 (Z + 1) (nI (12 * q)) := R.1.1.x1 (by have := R.1.2; omega)
theorem RgM.i20 {S : hs} {Z q n : Nat} {X Y : Nat → Int} (R : RgM S Z q n X Y) (h : 0 < n) : ix S 9 (Z + 2) (nI (12 * q)) := R.1.1.x2 (by have := R.1.2; omega)
theorem nI_12 (i : Nat) : (12 : Int32) * nI i = nI (12 * i) := by rw [n12, nI_mulk]
theorem m_over {S : hs} {Z n : Nat} {A : Ga} {i k : Nat} {Post : Int32 → hs → Prop} (M0 : Md S Z) (C : MA (sI S Z 0 0) Z n A) (hn : n ≤ 12) (h : i < n) (h' : k < n) (hc : 0 < A.1 i) (hc' : 0 < A.1 k) (ne : i ≠ k) (z : 0 < A.2.2.2.1 i 0) (z' : 0 < A.2.2.2.1 k 0) : PX7_overlap Z (nI i) (nI k) S Post = Post (cI (rover A i k)) (sI S Z 0 0) := by
  have M := C.M
  have r1 := (C.a h).r0
  have r2 := (C.a h').r0
  have o1 : ¬ zb (decide (0 < A.1 i)) = 0 := by rw [zb_0]; simp [hc]
  have o2 : ¬ zb (decide (0 < A.1 k)) = 0 := by rw [zb_0]; simp [hc']
  have o3 : ¬ nI i = nI k := by rw [nI_eq (by omega) (by omega)]; exact ne
  have x1 := (r1.2 0 z).2
  have x2 := (r2.2 0 z').2
  have a1 := r1.x0 z
  have a2 := r1.y0 z
  have a3 := r2.x0 z'
  have a4 := r2.y0 z'
  have b1 := r1.i10 z
  have b2 := r1.i20 z
  have b3 := r2.i10 z'
  have b4 := r2.i20 z'
  simp only [PX7_overlap, PX7_overlap_26, PX7_overlap_115, eq_true M0.1, eq_true M.1, true_and, forall_eq, m_there_in C hn h, m_there_in C hn h', o1, o2, o3, false_implies, not_false_eq_true, true_implies, nI_40, nI_12, sm_meets r1 r2, M.r2, M.r3, Option.some.injEq, exists_eq_left', eq_true b1, eq_true b2, eq_true b3, eq_true b4, a1, a2, a3, a4, j1, sm_where r1 (bw_1 x2.1 x2.2), sm_where r2 (bw_1 x1.1 x1.2), zb_0, cl_le]
  unfold rover
  generalize gmeets (A.2.2.2.1 i 0) (A.2.2.2.2.1 i 0) (A.2.2.2.2.2 i 0) (A.2.2.2.1 k 0) (A.2.2.2.2.1 k 0) (A.2.2.2.2.2 k 0) = g
  generalize gloc (A.2.2.2.1 k 0) (A.2.2.2.2.1 k 0) (A.2.2.2.2.2 k 0) (A.2.2.2.2.1 i 0 0) (A.2.2.2.2.2 i 0 0) 1 = q1
  generalize gloc (A.2.2.2.1 i 0) (A.2.2.2.2.1 i 0) (A.2.2.2.2.2 i 0) (A.2.2.2.2.1 k 0 0) (A.2.2.2.2.2 k 0 0) 1 = q2
  have k0 : cI 0 = 0 := rfl
  have k1 : cI 1 = 1 := rfl
  have k2 : cI 2 = 2 := rfl
  have k3 : cI 3 = 3 := rfl
  cases g <;> by_cases e1 : q1 ≤ 0 <;> by_cases e2 : q2 ≤ 0 <;> simp [e1, e2, k0, k1, k2, k3]
theorem op_overlap {S : hs} {n : Nat} {A : Ga} {R : Nat × Gr} {T : Gk} {X : Gx} {v v' : Int32} (C : CS S n A R T X) (M : MS S n A R T X) (hA : WA n A) (hT : WT T) : Jo n (PX6_overlap 0 v v') (PX7_overlap (49 + 14 * n) v v') S := by
  have c1 := C.1
  have h12 := c1.n12
  have m1 := M.code (v := 0).1
  cases h : thr n A v with
  | false =>
    refine Jo.ro C M hA hT (-1) (fun P => ?_) (fun P => ?_)
    · simp only [PX6_overlap, PX6_overlap_21, eq_true c1.o, c_thr c1, h, zbf, true_and, not_true_eq_false, false_implies, true_implies, and_true, true_or]
    · simp only [PX7_overlap, PX7_overlap_26, eq_true M.1.1.1, eq_true m1.1.1, forall_eq, m_thr m1 h12.2, h, zbf, true_and, not_true_eq_false, false_implies, true_implies, and_true, true_or]
  | true =>
    cases h' : thr n A v' with
    | false =>
      refine Jo.ro C M hA hT (-1) (fun P => ?_) (fun P => ?_)
      · simp only [PX6_overlap, PX6_overlap_21, eq_true c1.o, c_thr c1, h, h', zbf, zbt, true_and, not_true_eq_false, not_false_eq_true, false_implies, true_implies, and_true, true_or]
      · simp only [PX7_overlap, PX7_overlap_26, eq_true M.1.1.1, eq_true m1.1.1, forall_eq, m_thr m1 h12.2, h, h', zbf, zbt, true_and, not_true_eq_false, not_false_eq_true, false_implies, true_implies, and_true, true_or]
    | true =>
      by_cases e : v = v'
      · subst e
        refine Jo.ro C M hA hT (-1) (fun P => ?_) (fun P => ?_)
        · simp only [PX6_overlap, PX6_overlap_21, eq_true c1.o, c_thr c1, h, zbt, true_and, not_true_eq_false, not_false_eq_true, false_implies, true_implies, and_true, true_or]
        · simp only [PX7_overlap, PX7_overlap_26, eq_true M.1.1.1, eq_true m1.1.1, forall_eq, m_thr m1 h12.2, h, zbt, true_and, not_true_eq_false, not_false_eq_true, false_implies, true_implies, and_true, true_or]
      · obtain ⟨i, hi0, rfl, hc⟩ := thr_ex h12.2 h
        obtain ⟨k, hk0, rfl, hc'⟩ := thr_ex h12.2 h'
        have ne : i ≠ k := fun q => e (by rw [q])
        have z := ((hA i hi0).2.2 0 hc).1
        have z' := ((hA k hk0).2.2 0 hc').1
        exact Jo.ro C M hA hT (cI (rover A i k)) (fun P => c_over c1 hi0 hk0 hc hc' ne (by omega) (by omega)) (fun P => m_over M.1.1 m1 h12.2 hi0 hk0 hc hc' ne (by omega) (by omega))
