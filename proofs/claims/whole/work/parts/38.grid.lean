/-! ===== pure rows: the grid ===== -/
/-- dark, with a rim: columns and rows from 0 to 17 -/
def pd (D : Nat → Bool) (x y : Nat) : Bool := decide (1 ≤ x ∧ x ≤ 16 ∧ 1 ≤ y ∧ y ≤ 16) && D (16 * (y - 1) + (x - 1))
def RW (D : Nat → Bool) (y : Nat) : Nat := rowN (fun x => pd D x y) 18
theorem RW_lt (D : Nat → Bool) (y : Nat) : RW D y < 2 ^ 18 := rowN_lt _ 18
theorem RW_bit (D : Nat → Bool) (y : Nat) {x : Nat} (hx : x ≤ 17) : (RW D y).testBit (17 - x) = pd D x y := by
  unfold RW
  rw [rowN_bit, show 18 - 1 - (17 - x) = x by omega]
  have : 17 - x < 18 := by omega
  simp [this]
def gC (D : Nat → Bool) (σ : zc_N) : Prop := ∀ y, y < 18 → σ 5 y = nI (RW D y)
def gM (D : Nat → Bool) (σ : zc_N) : Prop := ∀ k, k < 256 → σ 33 k = b2 (D k)
theorem RW_congr {D E : Nat → Bool} {y : Nat} (h : ∀ x, pd D x y = pd E x y) : RW D y = RW E y := rowN_congr 18 (fun i _ => h i)
theorem i16 : (16 : Int32) = nI 16 := rfl
theorem i15 : (15 : Int32) = nI 15 := rfl
theorem i17 : (17 : Int32) = nI 17 := rfl
theorem i1 : (1 : Int32) = nI 1 := rfl
theorem i2 : (2 : Int32) = nI 2 := rfl
theorem rem16 {k : Nat} (h : k < 256) : nI k - nI k / (16 : Int32) * (16 : Int32) = nI (k % 16) := by rw [i16]; exact pk_rem (by omega) (by decide) (by decide)
theorem div16 {k : Nat} (h : k < 256) : nI k / (16 : Int32) = nI (k / 16) := by rw [i16]; exact pk_div (by omega) (by decide) (by decide)
theorem m1_lt : nI 0 - 1 < (0 : Int32) := by decide
theorem m1_succ (n : Nat) : nI (n + 1) - 1 = nI n := nI_pred n
theorem s1 (n : Nat) : nI n + (1 : Int32) = nI (n + 1) := nI_1 n
theorem md_at {D : Nat → Bool} {σ : zc_N} (h : gM D σ) {x y : Nat} (hx : x ≤ 17) (hy : y ≤ 17) : rX9_isDark σ (nI x - 1) (nI y - 1) = b2 (pd D x y) := by
  unfold rX9_isDark
  cases x with
  | zero => rw [if_pos m1_lt]; rfl
  | succ x =>
    rw [m1_succ, if_neg (nI_pos (by omega)), i16]
    by_cases hx2 : 16 ≤ x
    · rw [if_pos (nI_le hx2 (by omega))]
      have : pd D (x + 1) y = false := by unfold pd; simp; omega
      rw [this]; rfl
    · rw [if_neg (nI_ge (by omega) (by decide))]
      cases y with
      | zero =>
        rw [if_pos m1_lt]
        have : pd D (x + 1) 0 = false := by unfold pd; simp
        rw [this]; rfl
      | succ y =>
        rw [m1_succ, if_neg (nI_pos (by omega))]
        by_cases hy2 : 16 ≤ y
        · rw [if_pos (nI_le hy2 (by omega))]
          have : pd D (x + 1) (y + 1) = false := by unfold pd; simp; omega
          rw [this]; rfl
        · rw [if_neg (nI_ge (by omega) (by decide)), pk_mul, nI_add, nI_clamp (by omega), h _ (by omega), b2_if]
          congr 1
          unfold pd
          have : (1 ≤ x + 1 ∧ x + 1 ≤ 16 ∧ 1 ≤ y + 1 ∧ y + 1 ≤ 16) := by omega
          simp [this]
theorem mz (n : Nat) : nI n = nI (n + 1) - 1 := (nI_pred n).symm
theorem mp (n : Nat) : nI n + 1 = nI (n + 2) - 1 := by rw [nI_pred, nI_1]
theorem md_l {D : Nat → Bool} {σ : zc_N} (h : gM D σ) {c r : Nat} (hc : c < 16) (hr : r < 16) : rX9_isDark σ (nI c - 1) (nI r) = b2 (pd D c (r + 1)) := by
  rw [mz r]; exact md_at h (by omega) (by omega)
theorem md_r {D : Nat → Bool} {σ : zc_N} (h : gM D σ) {c r : Nat} (hc : c < 16) (hr : r < 16) : rX9_isDark σ (nI c + 1) (nI r) = b2 (pd D (c + 2) (r + 1)) := by
  rw [mp c, mz r]; exact md_at h (by omega) (by omega)
theorem md_u {D : Nat → Bool} {σ : zc_N} (h : gM D σ) {c r : Nat} (hc : c < 16) (hr : r < 16) : rX9_isDark σ (nI c) (nI r - 1) = b2 (pd D (c + 1) r) := by
  rw [mz c]; exact md_at h (by omega) (by omega)
theorem md_d {D : Nat → Bool} {σ : zc_N} (h : gM D σ) {c r : Nat} (hc : c < 16) (hr : r < 16) : rX9_isDark σ (nI c) (nI r + 1) = b2 (pd D (c + 1) (r + 2)) := by
  rw [mp r, mz c]; exact md_at h (by omega) (by omega)
/-- the eight around: east, south-east, south, south-west, west, north-west, north, north-east -/
def n8 (e se s sw w nw n ne : Bool) : Nat := nw.toNat + n.toNat + ne.toNat + w.toNat + e.toNat + sw.toNat + s.toNat + se.toNat
def k8 (e se s sw w nw n ne : Bool) : Nat := e.toNat + 2 * se.toNat + 4 * s.toNat + 8 * sw.toNat + 16 * w.toNat + 32 * nw.toNat + 64 * n.toNat + 128 * ne.toNat
def r8 (e se s sw w nw n ne : Bool) : Nat := 128 * nw.toNat + 64 * n.toNat + 32 * ne.toNat + 16 * e.toNat + 8 * se.toNat + 4 * s.toNat + 2 * sw.toNat + w.toNat
def at8 {α : Sort _} (D : Nat → Bool) (c r : Nat) (f : Bool → Bool → Bool → Bool → Bool → Bool → Bool → Bool → α) : α := f (pd D (c + 2) (r + 1)) (pd D (c + 2) (r + 2)) (pd D (c + 1) (r + 2)) (pd D c (r + 2)) (pd D c (r + 1)) (pd D c r) (pd D (c + 1) r) (pd D (c + 2) r)
theorem cl3 (c : Nat) (hc : c < 16) : ((nI c + (1 : Int32)) + (1 : Int32) - (nI c - (1 : Int32))).toNatClampNeg = 3 := by
  have : ∀ c, c < 16 → ((nI c + (1 : Int32)) + (1 : Int32) - (nI c - (1 : Int32))).toNatClampNeg = 3 := by decide +kernel
  exact this c hc
theorem st3 (c i : Nat) : nI c - 1 + nI i = nI (c + i) - 1 := by
  rw [← nI_add, Int32.sub_eq_add_neg, Int32.sub_eq_add_neg, Int32.add_assoc, Int32.add_comm (-1) (nI i), ← Int32.add_assoc]
theorem st3_eq {c i : Nat} (hc : c < 16) (hi : i < 3) : (nI c - 1 + nI i = nI c) ↔ i = 1 := by
  have : ∀ c, c < 16 → ∀ i, i < 3 → ((nI c - 1 + nI i = nI c) ↔ i = 1) := by decide +kernel
  exact this c hc i hi
theorem md_n {D : Nat → Bool} {σ : zc_N} (h : gM D σ) {c r : Nat} (hc : c < 16) (hr : r < 16) : rX9_neighbours σ (nI c) (nI r) = nI (at8 D c r n8) := by
  have q : ∀ (a : Int32) (j i : Nat), j < 3 → i < 3 → fX9_neighbours_20 σ (nI c) (nI r) (nI r - 1 + nI j) (nI c - 1) i a = a + (if i = 1 ∧ j = 1 then 0 else b2 (pd D (c + i) (r + j))) := by
    intro a j i hj hi
    unfold fX9_neighbours_20 vX9_neighbours_1
    have e := md_at h (x := c + i) (y := r + j) (by omega) (by omega)
    rw [st3 c i, st3 r j, e, b2_if, ← st3 c i, ← st3 r j]
    by_cases h1 : i = 1
    · rw [if_pos ((st3_eq hc hi).mpr h1)]
      by_cases h2 : j = 1
      · rw [if_pos ((st3_eq hr hj).mpr h2), if_pos ⟨h1, h2⟩]
      · rw [if_neg (fun g => h2 ((st3_eq hr hj).mp g)), if_neg (fun g => h2 g.2)]
    · rw [if_neg (fun g => h1 ((st3_eq hc hi).mp g)), if_neg (fun g => h1 g.1)]
  unfold rX9_neighbours vX9_neighbours_3
  rw [cl3 r hr]
  have q2 : ∀ (a : Int32) (j : Nat), j < 3 → fX9_neighbours_7 σ (nI c) (nI r) (nI r - 1) j a = a + (if (0 : Nat) = 1 ∧ j = 1 then 0 else b2 (pd D (c + 0) (r + j))) + (if (1 : Nat) = 1 ∧ j = 1 then 0 else b2 (pd D (c + 1) (r + j))) + (if (2 : Nat) = 1 ∧ j = 1 then 0 else b2 (pd D (c + 2) (r + j))) := by
    intro a j hj
    unfold fX9_neighbours_7 vX9_neighbours_2
    rw [cl3 c hc]
    show fX9_neighbours_20 σ (nI c) (nI r) (nI r - 1 + nI j) (nI c - 1) 2 (fX9_neighbours_20 σ (nI c) (nI r) (nI r - 1 + nI j) (nI c - 1) 1 (fX9_neighbours_20 σ (nI c) (nI r) (nI r - 1 + nI j) (nI c - 1) 0 a)) = _
    rw [q _ j 0 hj (by decide), q _ j 1 hj (by decide), q _ j 2 hj (by decide)]
  show fX9_neighbours_7 σ (nI c) (nI r) (nI r - 1) 2 (fX9_neighbours_7 σ (nI c) (nI r) (nI r - 1) 1 (fX9_neighbours_7 σ (nI c) (nI r) (nI r - 1) 0 0)) = _
  rw [q2 _ 0 (by decide), q2 _ 1 (by decide), q2 _ 2 (by decide)]
  unfold at8 n8
  simp only [Nat.add_zero]
  generalize pd D c r = x1
  generalize pd D (c + 1) r = x2
  generalize pd D (c + 2) r = x3
  generalize pd D c (r + 1) = x4
  generalize pd D (c + 2) (r + 1) = x5
  generalize pd D c (r + 2) = x6
  generalize pd D (c + 1) (r + 2) = x7
  generalize pd D (c + 2) (r + 2) = x8
  simp only [b2_n]
  simp only [show ¬ ((0 : Nat) = 1) by decide, show ¬ ((2 : Nat) = 1) by decide, and_true, and_false, true_and, false_and, and_self, if_true, if_false, Int32.add_zero]
  rw [show (0 : Int32) = nI 0 from rfl]
  simp only [nI_add, Nat.zero_add, Nat.add_zero]
theorem pz_n {D : Nat → Bool} {σ : zc_N} {c r : Nat} (hc : c < 16) (hr : r < 16) : pX9_neighbours σ (nI c) (nI r) := by
  have key : ∀ c, c < 16 → ∀ i, i ≤ 3 → ((nI c + (1 : Int32)) < ((nI c - (1 : Int32)) + nI i) ↔ 3 ≤ i) := by decide +kernel
  unfold pX9_neighbours qX9_neighbours_7
  rw [cl3 r hr, cl3 c hc]
  exact ⟨key r hr, fun _ _ => key c hc⟩
theorem sX : ∀ k, k < 8 → rX9_stepX (nI k) = [1, 1, 0, -1, -1, -1, 0, 1].getD k 0 := by decide +kernel
theorem sY : ∀ k, k < 8 → rX9_stepY (nI k) = [0, 1, 1, 1, 0, -1, -1, -1].getD k 0 := by decide +kernel
theorem pm1 (c : Nat) : nI c + (-1 : Int32) = nI c - 1 := by rw [Int32.sub_eq_add_neg]
theorem or8 : ∀ e se s sw w nw n ne : Bool, ((((((((0 : Int32) ||| (if b2 e = 0 then 0 else zshl 1 (nI 0))) ||| (if b2 se = 0 then 0 else zshl 1 (nI 1))) ||| (if b2 s = 0 then 0 else zshl 1 (nI 2))) ||| (if b2 sw = 0 then 0 else zshl 1 (nI 3))) ||| (if b2 w = 0 then 0 else zshl 1 (nI 4))) ||| (if b2 nw = 0 then 0 else zshl 1 (nI 5))) ||| (if b2 n = 0 then 0 else zshl 1 (nI 6))) ||| (if b2 ne = 0 then 0 else zshl 1 (nI 7)) = nI (k8 e se s sw w nw n ne) := by decide +kernel
theorem md_k {D : Nat → Bool} {σ : zc_N} (h : gM D σ) {c r : Nat} (hc : c < 16) (hr : r < 16) : zfor (fX9_hangTogether_5 σ (nI c) (nI r)) 8 (0 : Int32) = nI (at8 D c r k8) := by
  unfold at8
  rw [← or8]
  have e0 : rX9_isDark σ (nI c + rX9_stepX (nI 0)) (nI r + rX9_stepY (nI 0)) = b2 (pd D (c + 2) (r + 1)) := by
    rw [sX 0 (by decide), sY 0 (by decide)]
    show rX9_isDark σ (nI c + 1) (nI r + 0) = _
    rw [Int32.add_zero]; exact md_r h hc hr
  have e1 : rX9_isDark σ (nI c + rX9_stepX (nI 1)) (nI r + rX9_stepY (nI 1)) = b2 (pd D (c + 2) (r + 2)) := by
    rw [sX 1 (by decide), sY 1 (by decide)]
    show rX9_isDark σ (nI c + 1) (nI r + 1) = _
    rw [mp, mp]; exact md_at h (by omega) (by omega)
  have e2 : rX9_isDark σ (nI c + rX9_stepX (nI 2)) (nI r + rX9_stepY (nI 2)) = b2 (pd D (c + 1) (r + 2)) := by
    rw [sX 2 (by decide), sY 2 (by decide)]
    show rX9_isDark σ (nI c + 0) (nI r + 1) = _
    rw [Int32.add_zero]; exact md_d h hc hr
  have e3 : rX9_isDark σ (nI c + rX9_stepX (nI 3)) (nI r + rX9_stepY (nI 3)) = b2 (pd D c (r + 2)) := by
    rw [sX 3 (by decide), sY 3 (by decide)]
    show rX9_isDark σ (nI c + (-1)) (nI r + 1) = _
    rw [pm1, mp]; exact md_at h (by omega) (by omega)
  have e4 : rX9_isDark σ (nI c + rX9_stepX (nI 4)) (nI r + rX9_stepY (nI 4)) = b2 (pd D c (r + 1)) := by
    rw [sX 4 (by decide), sY 4 (by decide)]
    show rX9_isDark σ (nI c + (-1)) (nI r + 0) = _
    rw [pm1, Int32.add_zero]; exact md_l h hc hr
  have e5 : rX9_isDark σ (nI c + rX9_stepX (nI 5)) (nI r + rX9_stepY (nI 5)) = b2 (pd D c r) := by
    rw [sX 5 (by decide), sY 5 (by decide)]
    show rX9_isDark σ (nI c + (-1)) (nI r + (-1)) = _
    rw [pm1, pm1]; exact md_at h (by omega) (by omega)
  have e6 : rX9_isDark σ (nI c + rX9_stepX (nI 6)) (nI r + rX9_stepY (nI 6)) = b2 (pd D (c + 1) r) := by
    rw [sX 6 (by decide), sY 6 (by decide)]
    show rX9_isDark σ (nI c + 0) (nI r + (-1)) = _
    rw [pm1, Int32.add_zero]; exact md_u h hc hr
  have e7 : rX9_isDark σ (nI c + rX9_stepX (nI 7)) (nI r + rX9_stepY (nI 7)) = b2 (pd D (c + 2) r) := by
    rw [sX 7 (by decide), sY 7 (by decide)]
    show rX9_isDark σ (nI c + 1) (nI r + (-1)) = _
    rw [pm1, mp]; exact md_at h (by omega) (by omega)
  rw [← e0, ← e1, ← e2, ← e3, ← e4, ← e5, ← e6, ← e7]
  rfl
/-! hanging together, over Nat -/
def nr (a b : Nat) : Bool :=
  let x (k : Nat) : Int := [1, 1, 0, -1, -1, -1, 0, 1].getD k 0
  let y (k : Nat) : Int := [0, 1, 1, 1, 0, -1, -1, -1].getD k 0
  decide (-1 ≤ x a - x b ∧ x a - x b ≤ 1 ∧ -1 ≤ y a - y b ∧ y a - y b ≤ 1)
theorem nr_s : ∀ a, a < 8 → ∀ b, b < 8 → (if ((rX9_stepX (nI a)) - (rX9_stepX (nI b))) < (-1 : Int32) then (0 : Int32) else (if (1 : Int32) < ((rX9_stepX (nI a)) - (rX9_stepX (nI b))) then (0 : Int32) else (if ((rX9_stepY (nI a)) - (rX9_stepY (nI b))) < (-1 : Int32) then (0 : Int32) else (if (1 : Int32) < ((rX9_stepY (nI a)) - (rX9_stepY (nI b))) then (0 : Int32) else (1 : Int32))))) = b2 (nr a b) := by decide +kernel
def h80 (M a b : Nat) (p : Nat × Int32) : Nat × Int32 := if p.1.testBit a && (M.testBit b && (!p.1.testBit b && nr a b)) then (p.1 ||| 2 ^ b, 1) else p
theorem h80_s {M m a b : Nat} {mo : Int32} (hM : M < 256) (hm : m < 256) (ha : a < 8) (hb : b < 8) : fX9_hangTogether_80 (nI M) (nI a) b (nI m, mo) = (nI (h80 M a b (m, mo)).1, (h80 M a b (m, mo)).2) := by
  unfold fX9_hangTogether_80 h80
  dsimp only
  rw [nr_s a ha b hb, bit_n (by omega) (by omega), bit_n (by omega) (by omega), bit_n (by omega) (by omega), bitn_n (by omega), or_n]
  cases m.testBit a <;> cases M.testBit b <;> cases m.testBit b <;> cases nr a b <;> rfl
theorem h80_lt {M m a b : Nat} {mo : Int32} (hm : m < 256) (hb : b < 8) : (h80 M a b (m, mo)).1 < 256 := by
  unfold h80
  split
  · exact Nat.or_lt_two_pow (n := 8) hm (Nat.pow_lt_pow_right (by decide) hb)
  · exact hm
def hsw (M m : Nat) : Nat × Int32 := zfor (fun a => zfor (h80 M a) 8) 8 (m, 0)
theorem h70_s {M : Nat} (hM : M < 256) {a : Nat} (ha : a < 8) (p : Nat × Int32) (hp : p.1 < 256) : zfor (fX9_hangTogether_80 (nI M) (nI a)) 8 (nI p.1, p.2) = (nI (zfor (h80 M a) 8 p).1, (zfor (h80 M a) 8 p).2) ∧ (zfor (h80 M a) 8 p).1 < 256 := by
  refine zfor_sim (fun _ x y => x = (nI y.1, y.2) ∧ y.1 < 256) (fX9_hangTogether_80 (nI M) (nI a)) (h80 M a) 8 (nI p.1, p.2) p ⟨rfl, hp⟩ (fun i hi x y h => ?_) 8 (Nat.le_refl 8)
  obtain ⟨rfl, h2⟩ := h
  exact ⟨h80_s hM h2 ha hi, h80_lt h2 hi⟩
theorem h59_s {M : Nat} (hM : M < 256) {m : Nat} (hm : m < 256) (mo : Int32) : fX9_hangTogether_59 (nI M) (nI m, mo) = (nI (hsw M m).1, (hsw M m).2) ∧ (hsw M m).1 < 256 := by
  have := zfor_sim (fun _ (x : Int32 × Int32) (y : Nat × Int32) => x = (nI y.1, y.2) ∧ y.1 < 256) (fX9_hangTogether_70 (nI M)) (fun a => zfor (h80 M a) 8) 8 (nI m, 0) (m, 0) ⟨rfl, hm⟩ (fun i hi x y h => by
    obtain ⟨rfl, h2⟩ := h
    have h3 := h70_s hM hi y h2
    refine ⟨?_, h3.2⟩
    show ((zfor (fX9_hangTogether_80 (nI M) (nI i)) 8 (nI y.1, y.2)).1, (zfor (fX9_hangTogether_80 (nI M) (nI i)) 8 (nI y.1, y.2)).2) = _
    rw [h3.1]) 8 (Nat.le_refl 8)
  refine ⟨?_, this.2⟩
  show ((zfor (fX9_hangTogether_70 (nI M)) 8 (nI m, 0)).1, (zfor (fX9_hangTogether_70 (nI M)) 8 (nI m, 0)).2) = _
  rw [this.1]
  rfl
theorem hsw_0 {M m : Nat} (h : (hsw M m).2 = 0) : (hsw M m).1 = m := by
  have key := zfor_inv (fun _ (p : Nat × Int32) => p.2 = 0 → p.1 = m) (fun a => zfor (h80 M a) 8) 8 (m, 0) (fun _ => rfl) (fun a ha p hp => by
    exact zfor_inv (fun _ (p : Nat × Int32) => p.2 = 0 → p.1 = m) (h80 M a) 8 p hp (fun b hb q hq => by
      unfold h80
      split
      · intro h; exact absurd (show (1 : Int32) = 0 from h) (by decide)
      · exact hq) 8 (Nat.le_refl 8)) 8 (Nat.le_refl 8)
  exact key h
def hit (M : Nat) (k : Nat) : Nat := zit (fun m => (hsw M m).1) k (M &&& (256 - M))
def hng (M : Nat) : Bool := hit M 2 == M
set_option maxRecDepth 100000 in
theorem hit_end : ∀ M, M < 256 → (hsw M (hit M 2)).2 = 0 := by decide +kernel
theorem low8 : ∀ M, M < 256 → nI M &&& (-(nI M)) = nI (M &&& (256 - M)) := by decide +kernel
theorem hit_lt {M : Nat} (hM : M < 256) : ∀ k, hit M k < 256
  | 0 => Nat.lt_of_le_of_lt Nat.and_le_left hM
  | k + 1 => (h59_s hM (hit_lt hM k) 0).2
theorem zit59 {M : Nat} (hM : M < 256) : ∀ k, zit (fX9_hangTogether_59 (nI M)) (k + 1) (nI (M &&& (256 - M)), (1 : Int32)) = (nI (hit M (k + 1)), (hsw M (hit M k)).2)
  | 0 => (h59_s hM (hit_lt hM 0) 1).1
  | k + 1 => by
    show fX9_hangTogether_59 (nI M) (zit (fX9_hangTogether_59 (nI M)) (k + 1) _) = _
    rw [zit59 hM k]
    exact (h59_s hM (hit_lt hM (k + 1)) _).1
theorem hit_stay {M k : Nat} (h : (hsw M (hit M k)).2 = 0) : ∀ j, hit M (k + j) = hit M k
  | 0 => rfl
  | j + 1 => by
    show (hsw M (hit M (k + j))).1 = _
    rw [hit_stay h j]
    exact hsw_0 h
theorem e59 (a : Int32 × Int32) : eX9_hangTogether_59 a ↔ a.2 = 0 := by
  unfold eX9_hangTogether_59
  constructor
  · rintro (h | h)
    · exact h.1
    · exact h.2.elim
  · intro h
    exact Or.inl ⟨h, trivial⟩
theorem ex59 {M : Nat} (hM : M < 256) : eX9_hangTogether_59 (zit (fX9_hangTogether_59 (nI M)) 3 (nI (M &&& (256 - M)), (1 : Int32))) := by
  rw [e59, zit59 hM 2]
  exact hit_end M hM
theorem w59 {M : Nat} (hM : M < 256) : (wX9_hangTogether_59 (nI M) (nI (M &&& (256 - M)), (1 : Int32))).1 = nI (hit M 2) := by
  unfold wX9_hangTogether_59
  have hs := zwn_spec (E := fun n_ => eX9_hangTogether_59 (zit (fX9_hangTogether_59 (nI M)) n_ (nI (M &&& (256 - M)), (1 : Int32)))) ⟨3, ex59 hM⟩
  generalize zwn (fun n_ => eX9_hangTogether_59 (zit (fX9_hangTogether_59 (nI M)) n_ (nI (M &&& (256 - M)), (1 : Int32)))) = N at hs ⊢
  obtain ⟨h1, h2⟩ := hs
  cases N with
  | zero => exact absurd ((e59 _).mp h1) (by show ¬ (1 : Int32) = 0; decide)
  | succ k =>
    have hk : k ≤ 2 := by
      by_cases h : k ≤ 2
      · exact h
      · exact absurd (ex59 hM) (h2 3 (by omega))
    rw [zit59 hM k]
    have h3 : (hsw M (hit M k)).2 = 0 := by
      have := (e59 _).mp h1
      rw [zit59 hM k] at this
      exact this
    have h4 := hit_stay h3 1
    have h5 := hit_stay h3 (2 - k)
    rw [show k + (2 - k) = 2 by omega] at h5
    rw [h4, h5]
theorem k8_lt (e se s sw w nw n ne : Bool) : k8 e se s sw w nw n ne < 256 := by revert e se s sw w nw n ne; decide
theorem md_h {D : Nat → Bool} {σ : zc_N} (h : gM D σ) {c r : Nat} (hc : c < 16) (hr : r < 16) : rX9_hangTogether σ (nI c) (nI r) = b2 (hng (at8 D c r k8)) ∧ pX9_hangTogether σ (nI c) (nI r) := by
  have hk : at8 D c r k8 < 256 := k8_lt _ _ _ _ _ _ _ _
  unfold rX9_hangTogether vX9_hangTogether_3 pX9_hangTogether
  rw [md_k h hc hr, low8 _ hk, w59 hk]
  refine ⟨?_, 3, ex59 hk⟩
  unfold hng
  have h2 := hit_lt hk 2
  by_cases e : hit (at8 D c r k8) 2 = at8 D c r k8
  · rw [e, if_pos rfl]; simp [b2]
  · rw [if_neg (fun g => e ((nI_eq (by omega) (by omega)).mp g))]
    simp [b2, e]
/-- the cell goes -/
def goB (e se s sw w nw n ne : Bool) : Bool := (!w || (!e || (!n || !s))) && (decide (2 ≤ n8 e se s sw w nw n ne) && hng (k8 e se s sw w nw n ne))
set_option maxRecDepth 100000 in
theorem goes8 : ∀ e se s sw w nw n ne : Bool, rX1_goes (nI (r8 e se s sw w nw n ne)) = b2 (goB e se s sw w nw n ne) := by decide +kernel
/-! the class's side -/
theorem div8 (n k : Nat) : n / 2 ^ k % 8 = 4 * (n.testBit (k + 2)).toNat + 2 * (n.testBit (k + 1)).toNat + (n.testBit k).toNat := by
  rw [Nat.testBit_eq_decide_div_mod_eq, Nat.testBit_eq_decide_div_mod_eq, Nat.testBit_eq_decide_div_mod_eq, Nat.pow_succ, Nat.pow_succ, ← Nat.div_div_eq_div_mul, ← Nat.div_div_eq_div_mul]
  generalize n / 2 ^ k = q
  have e : ∀ p : Prop, ∀ d : Decidable p, (decide p).toNat = if p then 1 else 0 := by
    intro p d; by_cases h : p <;> simp [h]
  rw [e, e, e]
  split <;> split <;> split <;> omega
theorem sub_n {a b : Nat} (h : b ≤ a) : nI a - nI b = nI (a - b) := pk_sub h
theorem three_n {R x : Nat} (hR : R < 2 ^ 31) (hx : x < 16) : rX1_threeAt (nI R) (nI x) = nI (4 * (R.testBit (17 - x)).toNat + 2 * (R.testBit (16 - x)).toNat + (R.testBit (15 - x)).toNat) := by
  unfold rX1_threeAt
  rw [i15, sub_n (by omega), zshr_n hR (by omega), show (7 : Int32) = nI (2 ^ 3 - 1) from rfl, and_n, Nat.and_two_pow_sub_one_eq_mod, show (2 : Nat) ^ 3 = 8 from rfl, div8, show 15 - x + 2 = 17 - x by omega, show 15 - x + 1 = 16 - x by omega]
theorem three_r {D : Nat → Bool} {y x : Nat} (hx : x < 16) : rX1_threeAt (nI (RW D y)) (nI x) = nI (4 * (pd D x y).toNat + 2 * (pd D (x + 1) y).toNat + (pd D (x + 2) y).toNat) := by
  have h1 := RW_bit D y (x := x) (by omega)
  have h2 := RW_bit D y (x := x + 1) (by omega)
  have h3 := RW_bit D y (x := x + 2) (by omega)
  rw [show 17 - (x + 1) = 16 - x by omega] at h2
  rw [show 17 - (x + 2) = 15 - x by omega] at h3
  rw [three_n (Nat.lt_of_lt_of_le (RW_lt D y) (by decide)) hx, h1, h2, h3]
set_option maxRecDepth 100000 in
theorem ring9 : ∀ nw n ne w o e sw s se : Bool, ((((zshl (nI (4 * nw.toNat + 2 * n.toNat + ne.toNat)) (5 : Int32)) ||| (zshl ((nI (4 * w.toNat + 2 * o.toNat + e.toNat)) &&& (1 : Int32)) (4 : Int32))) ||| (zshl (((zshl ((nI (4 * sw.toNat + 2 * s.toNat + se.toNat)) &&& (1 : Int32)) (2 : Int32)) ||| ((nI (4 * sw.toNat + 2 * s.toNat + se.toNat)) &&& (2 : Int32))) ||| (zshr (nI (4 * sw.toNat + 2 * s.toNat + se.toNat)) (2 : Int32))) (1 : Int32))) ||| (zshr (nI (4 * w.toNat + 2 * o.toNat + e.toNat)) (2 : Int32))) = nI (r8 e se s sw w nw n ne) := by decide +kernel
theorem ring_c {D : Nat → Bool} {σ : zc_N} (h : gC D σ) {x y : Nat} (hx : x < 16) (hy : y < 16) : rX1_ringAt σ (nI x) (nI y) = nI (at8 D x y r8) := by
  unfold rX1_ringAt vX1_ringAt_1
  rw [i2, nI_add, nI_1, nI_clamp (n := y) (by omega), nI_clamp (n := y + 1) (by omega), nI_clamp (n := y + 2) (by omega), h y (by omega), h (y + 1) (by omega), h (y + 2) (by omega), three_r hx, three_r hx, three_r hx]
  exact ring9 _ _ _ _ _ _ _ _ _
theorem pz_ring {y : Nat} (hy : y < 16) : pX1_ringAt (nI y) ∧ pX1_isDark (nI y) := by
  unfold pX1_ringAt pX1_isDark
  rw [i2, nI_add, nI_1]
  exact ⟨⟨vp_in_nI (by omega) (by decide), vp_in_nI (by omega) (by decide), vp_in_nI (by omega) (by decide)⟩, vp_in_nI (by omega) (by decide)⟩
theorem dark_c {D : Nat → Bool} {σ : zc_N} (h : gC D σ) {x y : Nat} (hx : x < 16) (hy : y < 16) : rX1_isDark σ (nI x) (nI y) = b2 (pd D (x + 1) (y + 1)) := by
  unfold rX1_isDark
  have h2 := RW_bit D (y + 1) (x := x + 1) (by omega)
  rw [show 17 - (x + 1) = 16 - x by omega] at h2
  rw [nI_1, nI_clamp (by omega), h (y + 1) (by omega), i16, sub_n (by omega), bit_n (Nat.lt_of_lt_of_le (RW_lt D _) (by decide)) (by omega), h2, b2_if]
/-- a cell less -/
def cut (D : Nat → Bool) (k : Nat) : Nat → Bool := fun j => D j && !(decide (j = k))
theorem pd_in {D : Nat → Bool} {x y : Nat} (hx : x < 16) (hy : y < 16) : pd D (x + 1) (y + 1) = D (16 * y + x) := by
  unfold pd
  have : (1 ≤ x + 1 ∧ x + 1 ≤ 16 ∧ 1 ≤ y + 1 ∧ y + 1 ≤ 16) := by omega
  simp [this]
theorem pd_cut {D : Nat → Bool} {c r x y : Nat} (hc : c < 16) (hr : r < 16) : pd (cut D (16 * r + c)) x y = (pd D x y && !(decide (x = c + 1 ∧ y = r + 1))) := by
  unfold pd cut
  by_cases h : (1 ≤ x ∧ x ≤ 16 ∧ 1 ≤ y ∧ y ≤ 16)
  · by_cases h2 : 16 * (y - 1) + (x - 1) = 16 * r + c
    · have : x = c + 1 ∧ y = r + 1 := by omega
      simp [h2, this]
    · have : ¬ (x = c + 1 ∧ y = r + 1) := by omega
      simp [h2, this]
  · simp [h]
theorem gC_cut {D : Nat → Bool} {σ : zc_N} (h : gC D σ) {c r : Nat} (hc : c < 16) (hr : r < 16) : gC (cut D (16 * r + c)) (zu σ 5 (zu (σ 5) (nI r + (1 : Int32)).toNatClampNeg (((σ 5) (nI r + (1 : Int32)).toNatClampNeg) &&& ((zshl (1 : Int32) ((16 : Int32) - (nI c))) ^^^ (-1 : Int32))))) := by
  intro y hy
  rw [zu_self, nI_1, nI_clamp (by omega), i16, sub_n (by omega), h (r + 1) (by omega), clr_n (by omega)]
  by_cases e : y = r + 1
  · subst e
    rw [zu_self]
    congr 1
    apply Nat.eq_of_testBit_eq
    intro i
    rw [clr_bit (Nat.lt_of_lt_of_le (RW_lt D _) (by decide))]
    by_cases hi : i ≤ 17
    · obtain ⟨x, rfl, hx⟩ : ∃ x, i = 17 - x ∧ x ≤ 17 := ⟨17 - i, by omega, by omega⟩
      rw [RW_bit D _ hx, RW_bit _ _ hx, pd_cut hc hr]
      congr 2
      by_cases h3 : x = c + 1
      · have : 17 - x = 16 - c := by omega
        simp [h3]
      · have : ¬ (17 - x = 16 - c) := by omega
        simp [h3, this]
    · have z : ∀ E : Nat → Bool, (RW E (r + 1)).testBit i = false := fun E => Nat.testBit_lt_two_pow (Nat.lt_of_lt_of_le (RW_lt E _) (Nat.pow_le_pow_right (by decide) (by omega)))
      rw [z, z]; rfl
  · rw [zu_ne _ _ e, h y hy]
    congr 1
    refine RW_congr (fun x => ?_)
    rw [pd_cut hc hr]
    have : ¬ (x = c + 1 ∧ y = r + 1) := fun g => e g.2
    simp [this]
theorem gM_cut {D : Nat → Bool} {σ : zc_N} (h : gM D σ) {k : Nat} (hk : k < 256) : gM (cut D k) (zu σ 33 (zu (σ 33) k 0)) := by
  intro j hj
  rw [zu_self]
  unfold cut
  by_cases e : j = k
  · subst e; rw [zu_self]; simp [b2]
  · rw [zu_ne _ _ e, h j hj]; simp [e]
