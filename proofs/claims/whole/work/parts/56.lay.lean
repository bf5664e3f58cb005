/-! ===== pure rows: prints, and one laid on another ===== -/
abbrev gA : Type := (Nat → Nat) × (Nat → Nat → Nat) × (Nat → Nat → Nat) × (Nat → Nat → Nat) × (Nat → Nat → Nat)
def aN (A : gA) (p : Nat) : Nat := A.1 p
def aX (A : gA) (p i : Nat) : Nat := A.2.1 p i
def aY (A : gA) (p i : Nat) : Nat := A.2.2.1 p i
def aK (A : gA) (p i : Nat) : Nat := A.2.2.2.1 p i
def aR (A : gA) (p t : Nat) : Nat := A.2.2.2.2 p t
def pV (A : gA) (p : Nat) : Prop := aN A p ≤ 12 ∧ (∀ i, i < aN A p → aX A p i < 16 ∧ aY A p i < 16 ∧ aK A p i < 3) ∧ (∀ t, t < 4 → aR A p t < 16)
def pM (A : gA) (σ : zc_N) (p : Nat) : Prop := σ 37 p = nI (aN A p) ∧ (∀ i, i < aN A p → σ 38 (12 * p + i) = nI (aX A p i) ∧ σ 39 (12 * p + i) = nI (aY A p i) ∧ σ 40 (12 * p + i) = nI (aK A p i)) ∧ ∀ t, t < 4 → σ 41 (4 * p + t) = nI (aR A p t)
def pC (P : zp) (A : gA) (σ : zc_N) (p : Nat) : Prop := P.2.2 p = aN A p ∧ σ (pO p) 0 = nI p ∧ (∀ i, i < aN A p → σ (pP p) i = nI (256 * aK A p i + 16 * aY A p i + aX A p i)) ∧ ∀ t, t < 4 → σ (pT p) t = nI (aR A p t)
theorem pM_off {A : gA} {σ τ : zc_N} {p : Nat} {S : List Nat} (h : pM A σ p) (ho : off S σ τ) (hS : ∀ k, k ∈ [37, 38, 39, 40, 41] → k ∉ S) : pM A τ p := by
  unfold pM
  rw [ho 37 (hS 37 (by decide)), ho 38 (hS 38 (by decide)), ho 39 (hS 39 (by decide)), ho 40 (hS 40 (by decide)), ho 41 (hS 41 (by decide))]
  exact h
def tX (q x y : Nat) : Nat := if q = 0 then x else if q = 1 then 15 - y else if q = 2 then 15 - x else y
def tY (q x y : Nat) : Nat := if q = 0 then y else if q = 1 then x else if q = 2 then 15 - y else 15 - x
theorem t_lt {q x y : Nat} (hx : x < 16) (hy : y < 16) : tX q x y < 16 ∧ tY q x y < 16 := by
  unfold tX tY
  repeat' split
  all_goals omega
theorem t_s : ∀ q, q < 4 → ∀ x, x < 16 → ∀ y, y < 16 → rX6_turnedColumn (nI x) (nI y) (nI q) = nI (tX q x y) ∧ rX6_turnedRow (nI x) (nI y) (nI q) = nI (tY q x y) ∧ rX9_turnedX (nI x) (nI y) (nI q) = nI (tX q x y) ∧ rX9_turnedY (nI x) (nI y) (nI q) = nI (tY q x y) := by decide +kernel
theorem zI_neg (a : Int) : -(zI a) = zI (-a) := (Int32.ofInt_neg a).symm
theorem nz {n : Nat} (h : n < 2147483648) : nI n = zI (n : Int) := nI_zI h
theorem zb {z : Int} (h : -1000000 ≤ z ∧ z ≤ 1000000) : -2147483648 ≤ z ∧ z < 2147483648 := by omega
theorem zlt {a b : Int} (ha : -1000000 ≤ a ∧ a ≤ 1000000) (hb : -1000000 ≤ b ∧ b ≤ 1000000) : zI a < zI b ↔ a < b := zI_lt (zb ha).1 (zb ha).2 (zb hb).1 (zb hb).2
theorem zle {a b : Int} (ha : -1000000 ≤ a ∧ a ≤ 1000000) (hb : -1000000 ≤ b ∧ b ≤ 1000000) : zI a ≤ zI b ↔ a ≤ b := zI_le (zb ha).1 (zb ha).2 (zb hb).1 (zb hb).2
theorem zeq {a b : Int} (ha : -1000000 ≤ a ∧ a ≤ 1000000) (hb : -1000000 ≤ b ∧ b ≤ 1000000) : zI a = zI b ↔ a = b := zI_eq (zb ha).1 (zb ha).2 (zb hb).1 (zb hb).2
/-- four tests one behind the other -/
theorem if4 {a b c d a' b' c' d' : Int} (ha : -1000000 ≤ a ∧ a ≤ 1000000) (ha' : -1000000 ≤ a' ∧ a' ≤ 1000000) (hb : -1000000 ≤ b ∧ b ≤ 1000000) (hb' : -1000000 ≤ b' ∧ b' ≤ 1000000) (hc : -1000000 ≤ c ∧ c ≤ 1000000) (hc' : -1000000 ≤ c' ∧ c' ≤ 1000000) (hd : -1000000 ≤ d ∧ d ≤ 1000000) (hd' : -1000000 ≤ d' ∧ d' ≤ 1000000) : (if zI a < zI a' then (0 : Int32) else (if zI b < zI b' then (0 : Int32) else (if zI c < zI c' then (0 : Int32) else (if zI d < zI d' then (0 : Int32) else (1 : Int32))))) = b2 (decide (a' ≤ a ∧ b' ≤ b ∧ c' ≤ c ∧ d' ≤ d)) := by
  simp only [zlt ha ha', zlt hb hb', zlt hc hc', zlt hd hd']
  by_cases e1 : a < a'
  · rw [if_pos e1, decide_eq_false (by omega)]; rfl
  · rw [if_neg e1]
    by_cases e2 : b < b'
    · rw [if_pos e2, decide_eq_false (by omega)]; rfl
    · rw [if_neg e2]
      by_cases e3 : c < c'
      · rw [if_pos e3, decide_eq_false (by omega)]; rfl
      · rw [if_neg e3]
        by_cases e4 : d < d'
        · rw [if_pos e4, decide_eq_false (by omega)]; rfl
        · rw [if_neg e4, decide_eq_true (by omega)]; rfl
theorem wz {z lo hi : Int} (h : -1000000 ≤ z ∧ z ≤ 1000000) (h1 : -1000000 ≤ lo ∧ lo ≤ 1000000) (h2 : -1000000 ≤ hi ∧ hi ≤ 1000000) : rX9_within (zI z) (zI lo) (zI hi) = b2 (decide (lo ≤ z ∧ z ≤ hi)) := by
  unfold rX9_within
  simp only [zlt h h1, zlt h2 h]
  by_cases e1 : z < lo
  · rw [if_pos e1, decide_eq_false (by omega)]; rfl
  · rw [if_neg e1]
    by_cases e2 : hi < z
    · rw [if_pos e2, decide_eq_false (by omega)]; rfl
    · rw [if_neg e2, decide_eq_true (by omega)]; rfl
/-- where a point comes to lie -/
def lx (A : gA) (a q : Nat) (dx : Int) (i : Nat) : Int := (tX q (aX A a i) (aY A a i) : Int) + dx
def ly (A : gA) (a q : Nat) (dy : Int) (i : Nat) : Int := (tY q (aX A a i) (aY A a i) : Int) + dy
def mayB (A : gA) (r a b q : Nat) (dx dy : Int) (i j : Nat) : Bool := decide (i < aN A a ∧ j < aN A b ∧ aK A a i = aK A b j ∧ -(r : Int) ≤ lx A a q dx i - aX A b j ∧ lx A a q dx i - aX A b j ≤ r ∧ -(r : Int) ≤ ly A a q dy i - aY A b j ∧ ly A a q dy i - aY A b j ≤ r)
def inA (A : gA) (a b q : Nat) (dx dy : Int) (i : Nat) : Bool := decide ((aR A b 0 : Int) ≤ lx A a q dx i ∧ lx A a q dx i ≤ aR A b 2 ∧ (aR A b 1 : Int) ≤ ly A a q dy i ∧ ly A a q dy i ≤ aR A b 3)
def xlo (A : gA) (a q : Nat) : Nat := min (tX q (aR A a 0) (aR A a 1)) (tX q (aR A a 2) (aR A a 3))
def xhi (A : gA) (a q : Nat) : Nat := max (tX q (aR A a 0) (aR A a 1)) (tX q (aR A a 2) (aR A a 3))
def ylo (A : gA) (a q : Nat) : Nat := min (tY q (aR A a 0) (aR A a 1)) (tY q (aR A a 2) (aR A a 3))
def yhi (A : gA) (a q : Nat) : Nat := max (tY q (aR A a 0) (aR A a 1)) (tY q (aR A a 2) (aR A a 3))
def inB (A : gA) (a b q : Nat) (dx dy : Int) (j : Nat) : Bool := decide ((xlo A a q : Int) + dx ≤ aX A b j ∧ (aX A b j : Int) ≤ xhi A a q + dx ∧ (ylo A a q : Int) + dy ≤ aY A b j ∧ (aY A b j : Int) ≤ yhi A a q + dy)
def SB (A : gA) (a b q : Nat) (dx dy : Int) : Nat := cnt (inA A a b q dx dy) (aN A a) + cnt (inB A a b q dx dy) (aN A b)
def PR (A : gA) (r a b q : Nat) (dx dy : Int) : Nat := mst (mayB A r a b q dx dy) 0 (aN A a) (fun _ => true)
/-- bare, and the score, with so many pairs -/
def bw (s p : Nat) : Nat := s - 2 * p
def sw (s p : Nat) : Int := 10 * (p : Int) - 3 * (bw s p : Int)
def SC (A : gA) (r a b q : Nat) (dx dy : Int) : Int := sw (SB A a b q dx dy) (PR A r a b q dx dy)
theorem may0 (A : gA) (r a b q : Nat) (dx dy : Int) (i j : Nat) (h : aN A b ≤ j) : mayB A r a b q dx dy i j = false := by
  unfold mayB
  rw [decide_eq_false (by omega)]
theorem a12 {p i : Nat} (hp : p < 24) (hi : i < 12) : (((12 : Int32) * nI p) + nI i).toNatClampNeg = 12 * p + i ∧ vp_in (((12 : Int32) * nI p) + nI i) 288 := by
  rw [show (12 : Int32) = nI 12 from rfl, pk_mul, nI_add]
  exact ⟨nI_clamp (by omega), vp_in_nI (by omega) (by decide)⟩
theorem a4 {p : Nat} (hp : p < 24) : ((4 : Int32) * nI p).toNatClampNeg = 4 * p + 0 ∧ (((4 : Int32) * nI p) + 1).toNatClampNeg = 4 * p + 1 ∧ (((4 : Int32) * nI p) + 2).toNatClampNeg = 4 * p + 2 ∧ (((4 : Int32) * nI p) + 3).toNatClampNeg = 4 * p + 3 := by
  rw [show (4 : Int32) = nI 4 from rfl, pk_mul, i1, i2, show (3 : Int32) = nI 3 from rfl, nI_add, nI_add, nI_add]
  exact ⟨nI_clamp (by omega), nI_clamp (by omega), nI_clamp (by omega), nI_clamp (by omega)⟩
theorem a4v {p : Nat} (hp : p < 24) : vp_in ((4 : Int32) * nI p) 96 ∧ vp_in (((4 : Int32) * nI p) + 1) 96 ∧ vp_in (((4 : Int32) * nI p) + 2) 96 ∧ vp_in (((4 : Int32) * nI p) + 3) 96 := by
  rw [show (4 : Int32) = nI 4 from rfl, pk_mul, i1, i2, show (3 : Int32) = nI 3 from rfl, nI_add, nI_add, nI_add]
  exact ⟨vp_in_nI (by omega) (by decide), vp_in_nI (by omega) (by decide), vp_in_nI (by omega) (by decide), vp_in_nI (by omega) (by decide)⟩
theorem lxb {A : gA} {a q i : Nat} {dx : Int} (hv : pV A a) (hi : i < aN A a) (hd : -30 ≤ dx ∧ dx ≤ 30) : -30 ≤ lx A a q dx i ∧ lx A a q dx i ≤ 45 := by
  have h := hv.2.1 i hi
  have t := t_lt (q := q) h.1 h.2.1
  unfold lx
  omega
theorem lyb {A : gA} {a q i : Nat} {dy : Int} (hv : pV A a) (hi : i < aN A a) (hd : -30 ≤ dy ∧ dy ≤ 30) : -30 ≤ ly A a q dy i ∧ ly A a q dy i ≤ 45 := by
  have h := hv.2.1 i hi
  have t := t_lt (q := q) h.1 h.2.1
  unfold ly
  omega
theorem b3if {c : Prop} (dc : Decidable c) (p q : Bool) : (if c then (if b2 p = 0 then (0 : Int32) else (if b2 q = 0 then (0 : Int32) else 1)) else 0) = b2 (decide c && (p && q)) := by
  by_cases h : c
  · rw [if_pos h, decide_eq_true h]; cases p <;> cases q <;> rfl
  · rw [if_neg h, decide_eq_false h]; rfl
theorem may_m {A : gA} {σ : zc_N} {r a b q i j : Nat} {dx dy : Int} (ha : a < 24) (hb : b < 24) (hr : r ≤ 3) (hva : pV A a) (hvb : pV A b) (hma : pM A σ a) (hmb : pM A σ b) (hre : σ 32 12 = nI r) (hi : i < aN A a) (hj : j < aN A b) (hdx : -30 ≤ dx ∧ dx ≤ 30) (hdy : -30 ≤ dy ∧ dy ≤ 30) (h44 : σ 44 i = zI (lx A a q dx i)) (h45 : σ 45 i = zI (ly A a q dy i)) :
    fX9_layOut_93 (nI a) (nI b) (nI i) j σ = zu σ 47 (zu (σ 47) (12 * i + j) (b2 (mayB A r a b q dx dy i j))) := by
  have hi12 : i < 12 := Nat.lt_of_lt_of_le hi hva.1
  have hj12 : j < 12 := Nat.lt_of_lt_of_le hj hvb.1
  have b1 := lxb (q := q) hva hi hdx
  have b2' := lyb (q := q) hva hi hdy
  have vb := hvb.2.1 j hj
  have va := hva.2.1 i hi
  unfold fX9_layOut_93
  rw [(a12 ha hi12).1, (a12 hb hj12).1, (a12 (show i < 24 by omega) hj12).1, cl_n (a := i) (by omega), h44, h45, hre]
  simp only [(hma.2.1 i hi).2.2, (hmb.2.1 j hj).1, (hmb.2.1 j hj).2.1, (hmb.2.1 j hj).2.2]
  rw [nz (n := r) (by omega), nz (n := aX A b j) (by omega), nz (n := aY A b j) (by omega), zI_neg, zI_sub, zI_sub, wz (by omega) (by omega) (by omega), wz (by omega) (by omega) (by omega), b3if]
  congr 3
  congr 1
  unfold mayB
  have e : (nI (aK A a i) = nI (aK A b j)) ↔ aK A a i = aK A b j := nI_eq (by omega) (by omega)
  simp only [e, ← Bool.decide_and]
  congr 1
  apply propext
  constructor
  · rintro ⟨h1, ⟨h2, h3⟩, h4, h5⟩; exact ⟨hi, hj, h1, h2, h3, h4, h5⟩
  · rintro ⟨-, -, h1, h2, h3, h4, h5⟩; exact ⟨h1, ⟨h2, h3⟩, h4, h5⟩
def laidM (A : gA) (r a b q : Nat) (dx dy : Int) (τ : zc_N) : Prop := mM (mayB A r a b q dx dy) (aN A a) (aN A b) τ ∧ (∀ i, i < aN A a → τ 44 i = zI (lx A a q dx i) ∧ τ 45 i = zI (ly A a q dy i))
theorem mnx {x y : Int} (hx : -1000000 ≤ x ∧ x ≤ 1000000) (hy : -1000000 ≤ y ∧ y ≤ 1000000) : (if zI y ≤ zI x then zI y else zI x) = zI (min x y) ∧ (if zI y ≤ zI x then zI x else zI y) = zI (max x y) := by
  simp only [zle hy hx]
  by_cases h : y ≤ x
  · rw [if_pos h, if_pos h, Int.min_eq_right h, Int.max_eq_left h]; exact ⟨rfl, rfl⟩
  · rw [if_neg h, if_neg h, Int.min_eq_left (by omega), Int.max_eq_right (by omega)]; exact ⟨rfl, rfl⟩
theorem layOut_m {A : gA} {σ : zc_N} {r a b q : Nat} {dx dy : Int} (ha : a < 24) (hb : b < 24) (hr : r ≤ 3) (hq : q < 4) (hva : pV A a) (hvb : pV A b) (hma : pM A σ a) (hmb : pM A σ b) (hre : σ 32 12 = nI r) (hdx : -30 ≤ dx ∧ dx ≤ 30) (hdy : -30 ≤ dy ∧ dy ≤ 30) :
    pX9_layOut σ (nI a) (nI b) (nI q) (zI dx) (zI dy) ∧ laidM A r a b q dx dy (sX9_layOut σ (nI a) (nI b) (nI q) (zI dx) (zI dy)) ∧ (sX9_layOut σ (nI a) (nI b) (nI q) (zI dx) (zI dy) 46 0 = zI (xlo A a q + dx) ∧ sX9_layOut σ (nI a) (nI b) (nI q) (zI dx) (zI dy) 46 1 = zI (ylo A a q + dy) ∧ sX9_layOut σ (nI a) (nI b) (nI q) (zI dx) (zI dy) 46 2 = zI (xhi A a q + dx) ∧ sX9_layOut σ (nI a) (nI b) (nI q) (zI dx) (zI dy) 46 3 = zI (yhi A a q + dy)) ∧ off [44, 45, 46, 47] σ (sX9_layOut σ (nI a) (nI b) (nI q) (zI dx) (zI dy)) := by
  have hac : (nI a).toNatClampNeg = a := nI_clamp (by omega)
  have hbc : (nI b).toNatClampNeg = b := nI_clamp (by omega)
  have va24 : vp_in (nI a) 24 := vp_in_nI ha (by decide)
  have vb24 : vp_in (nI b) 24 := vp_in_nI hb (by decide)
  have put : ∀ i, i < aN A a → ∀ τ : zc_N, off [44, 45, 47] σ τ → (zu (zu τ 44 (zu (τ 44) (nI i).toNatClampNeg ((rX9_turnedX ((τ 38) (((12 : Int32) * nI a) + nI i).toNatClampNeg) ((τ 39) (((12 : Int32) * nI a) + nI i).toNatClampNeg) (nI q)) + zI dx))) 45 (zu (τ 45) (nI i).toNatClampNeg ((rX9_turnedY ((τ 38) (((12 : Int32) * nI a) + nI i).toNatClampNeg) ((τ 39) (((12 : Int32) * nI a) + nI i).toNatClampNeg) (nI q)) + zI dy))) = zu (zu τ 44 (zu (τ 44) i (zI (lx A a q dx i)))) 45 (zu (τ 45) i (zI (ly A a q dy i))) := by
    intro i hi τ ho
    have hi12 : i < 12 := Nat.lt_of_lt_of_le hi hva.1
    have v := hva.2.1 i hi
    have t := t_lt (q := q) v.1 v.2.1
    have ts := t_s q hq _ v.1 _ v.2.1
    rw [(a12 ha hi12).1, cl_n (a := i) (by omega), ho 38 (by decide), ho 39 (by decide), (hma.2.1 i hi).1, (hma.2.1 i hi).2.1, ts.2.2.1, ts.2.2.2, nz (n := tX q (aX A a i) (aY A a i)) (by omega), nz (n := tY q (aX A a i) (aY A a i)) (by omega), zI_add, zI_add]
    rfl
  have inner : ∀ i, i < aN A a → ∀ τ : zc_N, off [44, 45, 47] σ τ → τ 44 i = zI (lx A a q dx i) → τ 45 i = zI (ly A a q dy i) → ∀ k, k ≤ aN A b → ((∀ j, j < k → (zfor (fX9_layOut_93 (nI a) (nI b) (nI i)) k τ) 47 (12 * i + j) = b2 (mayB A r a b q dx dy i j)) ∧ (∀ m, (m < 12 * i ∨ 12 * i + 12 ≤ m) → (zfor (fX9_layOut_93 (nI a) (nI b) (nI i)) k τ) 47 m = τ 47 m) ∧ off [47] τ (zfor (fX9_layOut_93 (nI a) (nI b) (nI i)) k τ)) := by
    intro i hi τ ho h44 h45
    refine zfor_inv (fun k (υ : zc_N) => (∀ j, j < k → υ 47 (12 * i + j) = b2 (mayB A r a b q dx dy i j)) ∧ (∀ m, (m < 12 * i ∨ 12 * i + 12 ≤ m) → υ 47 m = τ 47 m) ∧ off [47] τ υ) (fX9_layOut_93 (nI a) (nI b) (nI i)) (aN A b) τ ⟨fun j hj => absurd hj (by omega), fun _ _ => rfl, off_rf _ _⟩ (fun j hj υ hu => ?_)
    obtain ⟨u1, u2, u3⟩ := hu
    have oo : off [44, 45, 47] σ υ := off_tr ho (off_sub u3 (by simp))
    have hj12 : j < 12 := Nat.lt_of_lt_of_le hj hvb.1
    rw [may_m ha hb hr hva hvb (pM_off hma oo (by decide)) (pM_off hmb oo (by decide)) (by rw [oo 32 (by decide)]; exact hre) hi hj hdx hdy (by rw [u3 44 (by decide)]; exact h44) (by rw [u3 45 (by decide)]; exact h45)]
    refine ⟨fun k hk => ?_, fun m hm => ?_, off_zu u3 (by simp) _⟩
    · rw [zu_self]
      by_cases e : k = j
      · rw [e, zu_self]
      · rw [zu_ne _ _ (by omega)]; exact u1 k (by omega)
    · rw [zu_self, zu_ne _ _ (by omega)]; exact u2 m hm
  have key := zfor_inv (fun k (τ : zc_N) => (∀ i, i < k → (τ 44 i = zI (lx A a q dx i) ∧ τ 45 i = zI (ly A a q dy i)) ∧ ∀ j, j < aN A b → τ 47 (12 * i + j) = b2 (mayB A r a b q dx dy i j)) ∧ off [44, 45, 47] σ τ) (fX9_layOut_3 (nI a) (nI b) (nI q) (zI dx) (zI dy)) (aN A a) σ ⟨fun i hi => absurd hi (by omega), off_rf _ _⟩ (fun i hi τ ht => by
    obtain ⟨t1, t2⟩ := ht
    have hi12 : i < 12 := Nat.lt_of_lt_of_le hi hva.1
    have o2 : off [44, 45, 47] σ (zu (zu τ 44 (zu (τ 44) i (zI (lx A a q dx i)))) 45 (zu (τ 45) i (zI (ly A a q dy i)))) := off_zu (off_zu t2 (by simp) _) (by simp) _
    unfold fX9_layOut_3 vX9_layOut_5
    rw [put i hi τ t2, hbc, (pM_off hmb o2 (by decide)).1, cl_n (a := aN A b) (Nat.lt_of_le_of_lt hvb.1 (by decide))]
    obtain ⟨u1, u2, u3⟩ := inner i hi _ o2 (by rw [zu_ne _ _ (show 44 ≠ 45 by decide), zu_self, zu_self]) (by rw [zu_self, zu_self]) (aN A b) (Nat.le_refl _)
    refine ⟨fun k hk => ?_, off_tr o2 (off_sub u3 (by simp))⟩
    rw [u3 44 (by decide), u3 45 (by decide), zu_ne _ _ (show 44 ≠ 45 by decide), zu_self, zu_self]
    by_cases e : k = i
    · subst e
      rw [zu_self, zu_self]
      exact ⟨⟨rfl, rfl⟩, u1⟩
    · rw [zu_ne _ _ e, zu_ne _ _ e]
      refine ⟨(t1 k (by omega)).1, fun j hj => ?_⟩
      have hj12 : j < 12 := Nat.lt_of_lt_of_le hj hvb.1
      rw [u2 _ (by omega), zu_ne _ _ (show 47 ≠ 45 by decide), zu_ne _ _ (show 47 ≠ 44 by decide)]
      exact (t1 k (by omega)).2 j hj)
  have eN : ((σ 37 (nI a).toNatClampNeg)).toNatClampNeg = aN A a := by rw [hac, hma.1, cl_n (Nat.lt_of_le_of_lt hva.1 (by decide))]
  obtain ⟨k1, k2⟩ := key (aN A a) (Nat.le_refl _)
  have hP : pX9_layOut σ (nI a) (nI b) (nI q) (zI dx) (zI dy) := by
    unfold pX9_layOut
    rw [eN]
    have v4 := a4v ha
    refine ⟨⟨fun i hi => ?_, fun _ _ => va24, fun i hi => ?_⟩, v4.1, v4.2.1, v4.1, v4.2.1, v4.2.2.1, v4.2.2.2, v4.2.2.1, v4.2.2.2⟩
    · obtain ⟨t1, t2⟩ := key i hi
      rw [hac, (pM_off hma t2 (by decide)).1]
      exact nI_leI (Nat.lt_of_le_of_lt hva.1 (by decide)) (Nat.lt_of_le_of_lt (Nat.le_trans hi hva.1) (by decide))
    · obtain ⟨t1, t2⟩ := key i (by omega)
      generalize zfor (fX9_layOut_3 (nI a) (nI b) (nI q) (zI dx) (zI dy)) i σ = τ at t1 t2
      have hi12 : i < 12 := Nat.lt_of_lt_of_le hi hva.1
      have o2 : off [44, 45, 47] σ (zu (zu τ 44 (zu (τ 44) i (zI (lx A a q dx i)))) 45 (zu (τ 45) i (zI (ly A a q dy i)))) := off_zu (off_zu t2 (by simp) _) (by simp) _
      have v12 : vp_in (nI i) 12 := vp_in_nI hi12 (by decide)
      have v288 := (a12 ha hi12).2
      unfold qX9_layOut_3
      rw [put i hi τ t2, hbc, (pM_off hmb o2 (by decide)).1, cl_n (a := aN A b) (Nat.lt_of_le_of_lt hvb.1 (by decide))]
      have inn := inner i hi _ o2 (by rw [zu_ne _ _ (show 44 ≠ 45 by decide), zu_self, zu_self]) (by rw [zu_self, zu_self])
      refine ⟨v288, v288, v12, v288, v288, v12, fun j hj => ?_, fun _ _ => vb24, fun j hj => ?_⟩
      · rw [(pM_off hmb (off_tr o2 (off_sub (inn j hj).2.2 (T := [44, 45, 47]) (by simp))) (by decide)).1]
        exact nI_leI (Nat.lt_of_le_of_lt hvb.1 (by decide)) (Nat.lt_of_le_of_lt (Nat.le_trans hj hvb.1) (by decide))
      · have hj12 : j < 12 := Nat.lt_of_lt_of_le hj hvb.1
        have w := (a12 hb hj12).2
        refine ⟨v12, w, v12, w, v288, w, ?_⟩
        rw [show (12 : Int32) = nI 12 from rfl, pk_mul, nI_add]
        exact vp_in_nI (by omega) (by decide)
  refine ⟨hP, ?_⟩
  unfold sX9_layOut vX9_layOut_10 vX9_layOut_6 vX9_layOut_7 vX9_layOut_8 vX9_layOut_9
  rw [eN]
  generalize zfor (fX9_layOut_3 (nI a) (nI b) (nI q) (zI dx) (zI dy)) (aN A a) σ = τ at k1 k2
  have q4 := a4 ha
  rw [q4.1, q4.2.1, q4.2.2.1, q4.2.2.2, k2 41 (by decide), hma.2.2 0 (by decide), hma.2.2 1 (by decide), hma.2.2 2 (by decide), hma.2.2 3 (by decide)]
  have r0 := hva.2.2 0 (by decide)
  have r1 := hva.2.2 1 (by decide)
  have r2 := hva.2.2 2 (by decide)
  have r3 := hva.2.2 3 (by decide)
  have s0 := t_s q hq _ r0 _ r1
  have s2 := t_s q hq _ r2 _ r3
  have l0 := t_lt (q := q) r0 r1
  have l2 := t_lt (q := q) r2 r3
  rw [s0.2.2.1, s0.2.2.2, s2.2.2.1, s2.2.2.2, nz (n := tX q (aR A a 0) (aR A a 1)) (by omega), nz (n := tY q (aR A a 0) (aR A a 1)) (by omega), nz (n := tX q (aR A a 2) (aR A a 3)) (by omega), nz (n := tY q (aR A a 2) (aR A a 3)) (by omega), zI_add, zI_add, zI_add, zI_add]
  have mx := mnx (x := (tX q (aR A a 0) (aR A a 1) : Int) + dx) (y := (tX q (aR A a 2) (aR A a 3) : Int) + dx) (by omega) (by omega)
  have my := mnx (x := (tY q (aR A a 0) (aR A a 1) : Int) + dy) (y := (tY q (aR A a 2) (aR A a 3) : Int) + dy) (by omega) (by omega)
  rw [mx.1, mx.2, my.1, my.2, show (0 : Int32).toNatClampNeg = 0 from rfl, show (1 : Int32).toNatClampNeg = 1 from rfl, show (2 : Int32).toNatClampNeg = 2 from rfl, show (3 : Int32).toNatClampNeg = 3 from rfl]
  refine ⟨⟨fun i j hi hj => ?_, fun i hi => ?_⟩, ⟨?_, ?_, ?_, ?_⟩, off_zu (off_zu (off_sub k2 (by simp)) (by simp) _) (by simp) _⟩
  · rw [zu_ne _ _ (by decide), zu_ne _ _ (by decide)]; exact (k1 i hi).2 j hj
  · rw [zu_ne _ _ (by decide), zu_ne _ _ (by decide), zu_ne _ _ (by decide), zu_ne _ _ (by decide)]; exact (k1 i hi).1
  · rw [zu_self, zu_ne _ _ (by decide), zu_self, zu_ne _ _ (by decide), zu_ne _ _ (by decide), zu_self]
    unfold xlo
    congr 1
    omega
  · rw [zu_self, zu_ne _ _ (by decide), zu_self, zu_ne _ _ (by decide), zu_self]
    unfold ylo
    congr 1
    omega
  · rw [zu_self, zu_ne _ _ (by decide), zu_self, zu_self]
    unfold xhi
    congr 1
    omega
  · rw [zu_self, zu_self]
    unfold yhi
    congr 1
    omega
