/-! ===== pure rows: one print laid on another, by the class ===== -/
theorem pC_off {P : zp} {A : gA} {σ τ : zc_N} {p : Nat} {S : List Nat} (h : pC P A σ p) (ho : off S σ τ) (hS : ∀ k, k ∈ S → k < 57) : pC P A τ p := by
  unfold pC
  rw [ho (pO p) (fun g => by have := hS _ g; have : pO p = 57 + 3 * p := rfl; omega), ho (pP p) (fun g => by have := hS _ g; have : pP p = 58 + 3 * p := rfl; omega), ho (pT p) (fun g => by have := hS _ g; have : pT p = 59 + 3 * p := rfl; omega)]
  exact h
theorem rd_c {P : zp} {A : gA} {σ : zc_N} {p i : Nat} (h : pC P A σ p) (hv : pV A p) (hi : i < aN A p) : rX7_columnOf σ p (nI i) = nI (aX A p i) ∧ rX7_rowOf σ p (nI i) = nI (aY A p i) ∧ rX7_kindOf σ p (nI i) = nI (aK A p i) ∧ vp_in (nI i) (P.2.2 p) := by
  have v := hv.2.1 i hi
  have h12 := hv.1
  unfold rX7_columnOf rX7_rowOf rX7_kindOf
  rw [cl_n (by omega), h.2.2.1 i hi]
  have e4 : zshr (nI (256 * aK A p i + 16 * aY A p i + aX A p i)) (4 : Int32) = nI ((256 * aK A p i + 16 * aY A p i + aX A p i) / 2 ^ 4) := zshr_n (k := 4) (by omega) (by decide)
  have e8 : zshr (nI (256 * aK A p i + 16 * aY A p i + aX A p i)) (8 : Int32) = nI ((256 * aK A p i + 16 * aY A p i + aX A p i) / 2 ^ 8) := zshr_n (k := 8) (by omega) (by decide)
  rw [e4, e8, show (15 : Int32) = nI (2 ^ 4 - 1) from rfl, and_n, and_n, Nat.and_two_pow_sub_one_eq_mod, Nat.and_two_pow_sub_one_eq_mod]
  refine ⟨?_, ?_, ?_, by rw [h.1]; exact vp_in_nI hi (by omega)⟩ <;> congr 1 <;> omega
theorem sz_c {P : zp} {A : gA} {σ : zc_N} {p : Nat} (h : pC P A σ p) (hv : pV A p) : rX7_size P p = nI (aN A p) ∧ (rX7_size P p).toNatClampNeg = aN A p ∧ ∀ i, i ≤ aN A p → (rX7_size P p ≤ nI i ↔ aN A p ≤ i) := by
  have h12 := hv.1
  have e : rX7_size P p = nI (aN A p) := by unfold rX7_size; rw [h.1]; rfl
  rw [e]
  exact ⟨rfl, cl_n (by omega), lc_n (by omega)⟩
theorem mk1 : ∀ x, x < 16 → ∀ r, r < 4 → ((nI x + nI r) + 1 - (nI x - nI r)).toNatClampNeg = 2 * r + 1 := by decide +kernel
theorem mk2 : ∀ x, x < 16 → ∀ r, r < 4 → ∀ i, i < 8 → i ≤ 2 * r + 1 → ((nI x + nI r) < ((nI x - nI r) + nI i) ↔ 2 * r + 1 ≤ i) := by decide +kernel
theorem mk3 : ∀ x, x < 16 → ∀ r, r < 4 → ∀ i, i < 7 → i ≤ 2 * r → ((nI x - nI r) + nI i) + 3 = nI (x + 3 + i - r) := by decide +kernel
theorem mark_13 {σ : zc_N} {x r : Nat} (bit : Int32) (hx : x < 16) (hr : r < 4) : pX0_mark_13 σ (nI x) (nI r) bit ∧ (∀ m, m < 22 → sX0_mark_13 σ (nI x) (nI r) bit 13 m = if x + 3 ≤ m + r ∧ m ≤ x + 3 + r then σ 13 m ||| bit else σ 13 m) ∧ off [13] σ (sX0_mark_13 σ (nI x) (nI r) bit) := by
  unfold pX0_mark_13 sX0_mark_13 vX0_mark_13_1
  rw [mk1 x hx r hr]
  have key := zfor_inv (fun k (τ : zc_N) => (∀ m, m < 22 → τ 13 m = if x + 3 ≤ m + r ∧ m + r < x + 3 + k then σ 13 m ||| bit else σ 13 m) ∧ off [13] σ τ) (fX0_mark_13_5 bit (nI x - nI r)) (2 * r + 1) σ ⟨fun m hm => by rw [if_neg (by omega)], off_rf _ _⟩ (fun k hk τ ht => by
    unfold fX0_mark_13_5
    rw [mk3 x hx r hr k (by omega) (by omega), cl_n (by omega)]
    refine ⟨fun m hm => ?_, off_zu ht.2 (by simp) _⟩
    rw [zu_self]
    by_cases e : m = x + 3 + k - r
    · rw [e, zu_self, ht.1 _ (by omega), if_neg (by omega), if_pos (by omega)]
    · rw [zu_ne _ _ e, ht.1 m hm]
      by_cases c : x + 3 ≤ m + r ∧ m + r < x + 3 + k
      · rw [if_pos c, if_pos (by omega)]
      · rw [if_neg c, if_neg (by omega)])
  refine ⟨⟨fun i hi => mk2 x hx r hr i (by omega) hi, fun i hi => ?_⟩, fun m hm => ?_, (key (2 * r + 1) (Nat.le_refl _)).2⟩
  · unfold qX0_mark_13_5
    rw [mk3 x hx r hr i (by omega) (by omega)]
    have : vp_in (nI (x + 3 + i - r)) 22 := vp_in_nI (by omega) (by decide)
    exact ⟨this, this⟩
  · rw [(key (2 * r + 1) (Nat.le_refl _)).1 m hm]
    by_cases c : x + 3 ≤ m + r ∧ m ≤ x + 3 + r
    · rw [if_pos c, if_pos (by omega)]
    · rw [if_neg c, if_neg (by omega)]
theorem mark_14 {σ : zc_N} {x r : Nat} (bit : Int32) (hx : x < 16) (hr : r < 4) : pX0_mark_14 σ (nI x) (nI r) bit ∧ (∀ m, m < 22 → sX0_mark_14 σ (nI x) (nI r) bit 14 m = if x + 3 ≤ m + r ∧ m ≤ x + 3 + r then σ 14 m ||| bit else σ 14 m) ∧ off [14] σ (sX0_mark_14 σ (nI x) (nI r) bit) := by
  unfold pX0_mark_14 sX0_mark_14 vX0_mark_14_2
  rw [mk1 x hx r hr]
  have key := zfor_inv (fun k (τ : zc_N) => (∀ m, m < 22 → τ 14 m = if x + 3 ≤ m + r ∧ m + r < x + 3 + k then σ 14 m ||| bit else σ 14 m) ∧ off [14] σ τ) (fX0_mark_14_5 bit (nI x - nI r)) (2 * r + 1) σ ⟨fun m hm => by rw [if_neg (by omega)], off_rf _ _⟩ (fun k hk τ ht => by
    unfold fX0_mark_14_5
    rw [mk3 x hx r hr k (by omega) (by omega), cl_n (by omega)]
    refine ⟨fun m hm => ?_, off_zu ht.2 (by simp) _⟩
    rw [zu_self]
    by_cases e : m = x + 3 + k - r
    · rw [e, zu_self, ht.1 _ (by omega), if_neg (by omega), if_pos (by omega)]
    · rw [zu_ne _ _ e, ht.1 m hm]
      by_cases c : x + 3 ≤ m + r ∧ m + r < x + 3 + k
      · rw [if_pos c, if_pos (by omega)]
      · rw [if_neg c, if_neg (by omega)])
  refine ⟨⟨fun i hi => mk2 x hx r hr i (by omega) hi, fun i hi => ?_⟩, fun m hm => ?_, (key (2 * r + 1) (Nat.le_refl _)).2⟩
  · unfold qX0_mark_14_5
    rw [mk3 x hx r hr i (by omega) (by omega)]
    have : vp_in (nI (x + 3 + i - r)) 22 := vp_in_nI (by omega) (by decide)
    exact ⟨this, this⟩
  · rw [(key (2 * r + 1) (Nat.le_refl _)).1 m hm]
    by_cases c : x + 3 ≤ m + r ∧ m ≤ x + 3 + r
    · rw [if_pos c, if_pos (by omega)]
    · rw [if_neg c, if_neg (by omega)]
theorem msk_add {f g : Nat → Bool} {k : Nat} (hk : k < 12) (h : ∀ j, j < 12 → g j = (f j || decide (j = k))) : nI (msk f) ||| nI (2 ^ k) = nI (msk g) := by
  rw [or_n]
  congr 1
  refine msk_of (fun j => ?_)
  rw [Nat.testBit_or, msk_bit, tb_pow]
  by_cases c : j < 12
  · rw [h j c]
    have : decide (k = j) = decide (j = k) := by
      by_cases e : j = k
      · simp [e]
      · have : ¬ k = j := fun z => e z.symm
        simp [e, this]
    rw [this]
    simp [c]
  · have : ¬ k = j := by omega
    simp [c, this]
theorem dec_or {a b : Prop} [Decidable a] [Decidable b] : (decide a || decide b) = decide (a ∨ b) := by by_cases h : a <;> by_cases g : b <;> simp [h, g]
theorem dec_and {a b : Prop} [Decidable a] [Decidable b] : (decide a && decide b) = decide (a ∧ b) := by by_cases h : a <;> by_cases g : b <;> simp [h, g]
theorem dec_eq {a b : Prop} [Decidable a] [Decidable b] (h : a ↔ b) : decide a = decide b := by by_cases g : a <;> simp [g, ← h]
def learned (A : gA) (r b k : Nat) (τ : zc_N) : Prop := (∀ m, m < 22 → τ 13 m = nI (msk (fun j => decide (j < k ∧ aX A b j + 3 ≤ m + r ∧ m ≤ aX A b j + 3 + r)))) ∧ (∀ m, m < 22 → τ 14 m = nI (msk (fun j => decide (j < k ∧ aY A b j + 3 ≤ m + r ∧ m ≤ aY A b j + 3 + r)))) ∧ ∀ m, m < 3 → τ 15 m = nI (msk (fun j => decide (j < k ∧ aK A b j = m)))
theorem msk_f {f : Nat → Bool} (h : ∀ j, j < 12 → f j = false) : (0 : Int32) = nI (msk f) := by rw [(msk_0 f).mpr h]; rfl
theorem learn_c {P : zp} {A : gA} {σ : zc_N} {b r : Nat} (hc : pC P A σ b) (hv : pV A b) (hr : r < 4) : pX0_learn P σ b (nI r) ∧ learned A r b (aN A b) (sX0_learn P σ b (nI r)) ∧ off [13, 14, 15] σ (sX0_learn P σ b (nI r)) := by
  obtain ⟨f1, f2, f3⟩ := fill13 σ 0
  obtain ⟨g1, g2, g3⟩ := fill14 (sJ7_fill_53178_13 σ 0) 0
  obtain ⟨h1, h2, h3⟩ := fill15 (sJ7_fill_53178_14 (sJ7_fill_53178_13 σ 0) 0) 0
  have h12 := hv.1
  have o0 : off [13, 14, 15] σ (vX0_learn_2 σ) := off_tr (off_tr (off_sub f3 (by simp)) (off_sub g3 (by simp))) (off_sub h3 (by simp))
  have st : ∀ k, k < aN A b → ∀ τ : zc_N, learned A r b k τ → off [13, 14, 15] σ τ → (learned A r b (k + 1) (fX0_learn_26 b (nI r) k τ) ∧ off [13, 14, 15] σ (fX0_learn_26 b (nI r) k τ) ∧ qX0_learn_26 P b (nI r) k τ) := by
    intro k hk τ hl ho
    have v := hv.2.1 k hk
    have c0 := rd_c (pC_off hc ho (by decide)) hv hk
    obtain ⟨m1, m2, m3⟩ := mark_13 (σ := τ) (nI (2 ^ k)) v.1 hr
    have o1 : off [13, 14, 15] σ (sX0_mark_13 τ (nI (aX A b k)) (nI r) (nI (2 ^ k))) := off_tr ho (off_sub m3 (by simp))
    have c1 := rd_c (pC_off hc o1 (by decide)) hv hk
    obtain ⟨n1, n2, n3⟩ := mark_14 (σ := sX0_mark_13 τ (nI (aX A b k)) (nI r) (nI (2 ^ k))) (nI (2 ^ k)) v.2.1 hr
    have o2 : off [13, 14, 15] σ (sX0_mark_14 (sX0_mark_13 τ (nI (aX A b k)) (nI r) (nI (2 ^ k))) (nI (aY A b k)) (nI r) (nI (2 ^ k))) := off_tr o1 (off_sub n3 (by simp))
    have c2 := rd_c (pC_off hc o2 (by decide)) hv hk
    unfold fX0_learn_26 qX0_learn_26 vX0_learn_1
    rw [c0.1, bitn_n (by omega), c1.2.1, c2.2.2.1, cl_n (a := aK A b k) (by omega)]
    have v3 : vp_in (nI (aK A b k)) 3 := vp_in_nI v.2.2 (by decide)
    refine ⟨⟨fun m hm => ?_, fun m hm => ?_, fun m hm => ?_⟩, off_zu o2 (by simp) _, c0.2.2.2, m1, c0.2.2.2, n1, c0.2.2.2, v3, v3⟩
    · rw [zu_ne _ _ (by decide), n3 13 (by decide), m2 m hm, hl.1 m hm]
      by_cases c : aX A b k + 3 ≤ m + r ∧ m ≤ aX A b k + 3 + r
      · rw [if_pos c]
        refine msk_add (by omega) (fun j hj => ?_)
        rw [dec_or]
        refine dec_eq ⟨fun h => ?_, fun h => ?_⟩
        · by_cases e : j = k
          · exact Or.inr e
          · exact Or.inl ⟨by omega, h.2⟩
        · rcases h with h | h
          · exact ⟨by omega, h.2⟩
          · rw [h]; exact ⟨by omega, c⟩
      · rw [if_neg c]
        congr 1
        refine msk_congr (fun j hj => dec_eq ⟨fun h => ⟨by omega, h.2⟩, fun h => ?_⟩)
        by_cases e : j = k
        · rw [e] at h; exact absurd h.2 c
        · exact ⟨by omega, h.2⟩
    · rw [zu_ne _ _ (by decide), n2 m hm, m3 14 (by decide), hl.2.1 m hm]
      by_cases c : aY A b k + 3 ≤ m + r ∧ m ≤ aY A b k + 3 + r
      · rw [if_pos c]
        refine msk_add (by omega) (fun j hj => ?_)
        rw [dec_or]
        refine dec_eq ⟨fun h => ?_, fun h => ?_⟩
        · by_cases e : j = k
          · exact Or.inr e
          · exact Or.inl ⟨by omega, h.2⟩
        · rcases h with h | h
          · exact ⟨by omega, h.2⟩
          · rw [h]; exact ⟨by omega, c⟩
      · rw [if_neg c]
        congr 1
        refine msk_congr (fun j hj => dec_eq ⟨fun h => ⟨by omega, h.2⟩, fun h => ?_⟩)
        by_cases e : j = k
        · rw [e] at h; exact absurd h.2 c
        · exact ⟨by omega, h.2⟩
    · rw [zu_self, n3 15 (by decide), m3 15 (by decide)]
      by_cases c : m = aK A b k
      · rw [c, zu_self, hl.2.2 _ v.2.2]
        refine msk_add (by omega) (fun j hj => ?_)
        rw [dec_or]
        refine dec_eq ⟨fun h => ?_, fun h => ?_⟩
        · by_cases e : j = k
          · exact Or.inr e
          · exact Or.inl ⟨by omega, h.2⟩
        · rcases h with h | h
          · exact ⟨by omega, h.2⟩
          · rw [h]; exact ⟨by omega, rfl⟩
      · rw [zu_ne _ _ c, hl.2.2 m hm]
        congr 1
        refine msk_congr (fun j hj => dec_eq ⟨fun h => ⟨by omega, h.2⟩, fun h => ?_⟩)
        by_cases e : j = k
        · rw [e] at h; exact absurd h.2.symm c
        · exact ⟨by omega, h.2⟩
  have key := zfor_inv (fun k (τ : zc_N) => learned A r b k τ ∧ off [13, 14, 15] σ τ) (fX0_learn_26 b (nI r)) (aN A b) (vX0_learn_2 σ) ⟨⟨fun m hm => ?_, fun m hm => ?_, fun m hm => ?_⟩, o0⟩ (fun k hk τ ht => ⟨(st k hk τ ht.1 ht.2).1, (st k hk τ ht.1 ht.2).2.1⟩)
  · have s := sz_c hc hv
    unfold pX0_learn sX0_learn
    rw [s.2.1]
    exact ⟨⟨f1, g1, h1, s.2.2, fun i hi => (st i hi _ (key i (by omega)).1 (key i (by omega)).2).2.2⟩, key (aN A b) (Nat.le_refl _)⟩
  · show sJ7_fill_53178_15 (sJ7_fill_53178_14 (sJ7_fill_53178_13 σ 0) 0) 0 13 m = _
    rw [h3 13 (by decide), g3 13 (by decide), f2 m hm]
    exact msk_f (fun j _ => decide_eq_false (by omega))
  · show sJ7_fill_53178_15 (sJ7_fill_53178_14 (sJ7_fill_53178_13 σ 0) 0) 0 14 m = _
    rw [h3 14 (by decide), g2 m hm]
    exact msk_f (fun j _ => decide_eq_false (by omega))
  · show sJ7_fill_53178_15 (sJ7_fill_53178_14 (sJ7_fill_53178_13 σ 0) 0) 0 15 m = _
    rw [h2 m hm]
    exact msk_f (fun j _ => decide_eq_false (by omega))
theorem near_c {A : gA} {τ : zc_N} {b r k : Nat} {x y : Int} (hl : learned A r b (aN A b) τ) (hv : pV A b) (hr : r < 4) (hk : k < 3) (hx : -1000 ≤ x ∧ x ≤ 1000) (hy : -1000 ≤ y ∧ y ≤ 1000) : rX0_near τ (zI x) (zI y) (nI k) = nI (msk (fun j => decide (j < aN A b ∧ aK A b j = k ∧ -(r : Int) ≤ x - aX A b j ∧ x - aX A b j ≤ r ∧ -(r : Int) ≤ y - aY A b j ∧ y - aY A b j ≤ r))) ∧ pX0_near (zI x) (zI y) (nI k) := by
  unfold rX0_near pX0_near
  rw [show (3 : Int32) = zI 3 from rfl, zI_add, zI_add, show (0 : Int32) = zI 0 from rfl, show (22 : Int32) = zI 22 from rfl]
  simp only [zlt (a := x + 3) (b := 0) (by omega) (by omega), zle (a := 22) (b := x + 3) (by omega) (by omega), zlt (a := y + 3) (b := 0) (by omega) (by omega), zlt (a := y + 3) (b := 22) (by omega) (by omega)]
  have no : ∀ j, j < aN A b → aX A b j < 16 ∧ aY A b j < 16 := fun j hj => ⟨(hv.2.1 j hj).1, (hv.2.1 j hj).2.1⟩
  constructor
  · by_cases c1 : x + 3 < 0
    · rw [if_pos c1]
      exact msk_f (fun j hj => decide_eq_false (fun h => by omega))
    · rw [if_neg c1]
      by_cases c2 : 22 ≤ x + 3
      · rw [if_pos c2]
        exact msk_f (fun j hj => decide_eq_false (fun h => by have := no j h.1; omega))
      · rw [if_neg c2]
        by_cases c3 : y + 3 < 0
        · rw [if_pos c3]
          exact msk_f (fun j hj => decide_eq_false (fun h => by omega))
        · rw [if_neg c3]
          by_cases c4 : y + 3 < 22
          · rw [if_pos c4]
            obtain ⟨m, em⟩ : ∃ m : Nat, x + 3 = m := ⟨(x + 3).toNat, by omega⟩
            obtain ⟨n, en⟩ : ∃ n : Nat, y + 3 = n := ⟨(y + 3).toNat, by omega⟩
            rw [em, en, ← nz (by omega), ← nz (by omega), cl_n (by omega), cl_n (by omega), cl_n (by omega), hl.1 m (by omega), hl.2.1 n (by omega), hl.2.2 k hk, and_n, and_n, msk_and, msk_and]
            congr 1
            refine msk_congr (fun j hj => ?_)
            rw [dec_and, dec_and]
            exact dec_eq (by omega)
          · rw [if_neg c4]
            exact msk_f (fun j hj => decide_eq_false (fun h => by have := no j h.1; omega))
  · refine ⟨fun _ => trivial, fun c1 => ⟨fun _ => trivial, fun c2 => ⟨fun _ => trivial, fun c3 => ⟨fun c4 => ?_, fun _ => trivial⟩⟩⟩⟩
    exact ⟨(zI_in (by omega) (by omega)).mpr (by omega), (zI_in (by omega) (by omega)).mpr (by omega), vp_in_nI hk (by decide)⟩
def turned (A : gA) (a q : Nat) (τ : zc_N) : Prop := (∀ i, i < aN A a → τ 19 i = nI (tX q (aX A a i) (aY A a i)) ∧ τ 20 i = nI (tY q (aX A a i) (aY A a i))) ∧ τ 21 0 = nI (xlo A a q) ∧ τ 21 1 = nI (ylo A a q) ∧ τ 21 2 = nI (xhi A a q) ∧ τ 21 3 = nI (yhi A a q)
theorem mn_n {x y : Nat} (hx : x < 2 ^ 31) (hy : y < 2 ^ 31) : (if nI y < nI x then nI y else nI x) = nI (min x y) ∧ (if nI x < nI y then nI y else nI x) = nI (max x y) := by
  simp only [nI_ltI hx hy, nI_ltI hy hx]
  constructor
  · by_cases h : y < x
    · rw [if_pos h]; congr 1; omega
    · rw [if_neg h]; congr 1; omega
  · by_cases h : x < y
    · rw [if_pos h]; congr 1; omega
    · rw [if_neg h]; congr 1; omega
theorem turn_c {P : zp} {A : gA} {σ : zc_N} {a q : Nat} (hc : pC P A σ a) (hv : pV A a) (hq : q < 4) : pX4_turnBy P σ a (nI q) ∧ turned A a q (sX4_turnBy P σ a (nI q)) ∧ off [19, 20, 21] σ (sX4_turnBy P σ a (nI q)) := by
  have h12 := hv.1
  have s := sz_c hc hv
  have key := zfor_inv (fun k (τ : zc_N) => (∀ i, i < k → τ 19 i = nI (tX q (aX A a i) (aY A a i)) ∧ τ 20 i = nI (tY q (aX A a i) (aY A a i))) ∧ off [19, 20, 21] σ τ) (fX4_turnBy_2 a (nI q)) (aN A a) σ ⟨fun i hi => absurd hi (by omega), off_rf _ _⟩ (fun k hk τ ht => by
    have v := hv.2.1 k hk
    have ts := t_s q hq _ v.1 _ v.2.1
    have c0 := rd_c (pC_off hc ht.2 (by decide)) hv hk
    unfold fX4_turnBy_2
    rw [c0.1, c0.2.1, ts.1, cl_n (by omega)]
    have o1 : off [19, 20, 21] σ (zu τ 19 (zu (τ 19) k (nI (tX q (aX A a k) (aY A a k))))) := off_zu ht.2 (by simp) _
    have c1 := rd_c (pC_off hc o1 (by decide)) hv hk
    rw [c1.1, c1.2.1, ts.2.1]
    refine ⟨fun i hi => ?_, off_zu o1 (by simp) _⟩
    rw [zu_ne _ _ (show 19 ≠ 20 by decide), zu_self, zu_self]
    by_cases e : i = k
    · rw [e, zu_self, zu_self]; exact ⟨rfl, rfl⟩
    · rw [zu_ne _ _ e, zu_ne _ _ e]; exact ht.1 i (by omega))
  unfold pX4_turnBy sX4_turnBy
  rw [s.2.1]
  obtain ⟨k1, k2⟩ := key (aN A a) (Nat.le_refl _)
  refine ⟨⟨s.2.2, fun i hi => ?_⟩, ?_⟩
  · have vi := (rd_c hc hv hi).2.2.2
    have v12 : vp_in (nI i) 12 := vp_in_nI (by omega) (by decide)
    exact ⟨vi, vi, v12, vi, vi, v12⟩
  · generalize zfor (fX4_turnBy_2 a (nI q)) (aN A a) σ = τ at k1 k2
    have cT := (pC_off hc k2 (by decide)).2.2.2
    have r0 := hv.2.2 0 (by decide)
    have r1 := hv.2.2 1 (by decide)
    have r2 := hv.2.2 2 (by decide)
    have r3 := hv.2.2 3 (by decide)
    have s0 := t_s q hq _ r0 _ r1
    have s2 := t_s q hq _ r2 _ r3
    have l0 := t_lt (q := q) r0 r1
    have l2 := t_lt (q := q) r2 r3
    unfold sX6_becomeTurned vX6_becomeTurned_1
    rw [cT 0 (by decide), cT 1 (by decide), cT 2 (by decide), cT 3 (by decide), s0.1, s0.2.1, s2.1, s2.2.1]
    have mx := mn_n (x := tX q (aR A a 0) (aR A a 1)) (y := tX q (aR A a 2) (aR A a 3)) (by omega) (by omega)
    have my := mn_n (x := tY q (aR A a 0) (aR A a 1)) (y := tY q (aR A a 2) (aR A a 3)) (by omega) (by omega)
    rw [mx.1, mx.2, my.1, my.2]
    refine ⟨⟨fun i hi => ?_, ?_, ?_, ?_, ?_⟩, off_zu (off_zu k2 (by simp) _) (by simp) _⟩
    · rw [zu_ne _ _ (show 19 ≠ 21 by decide), zu_ne _ _ (show 19 ≠ 21 by decide), zu_ne _ _ (show 20 ≠ 21 by decide), zu_ne _ _ (show 20 ≠ 21 by decide)]
      exact k1 i hi
    · rw [zu_self, zu_ne _ _ (by decide), zu_self, zu_ne _ _ (by decide), zu_ne _ _ (by decide), zu_self]; rfl
    · rw [zu_self, zu_ne _ _ (by decide), zu_self, zu_self]; rfl
    · rw [zu_self, zu_ne _ _ (by decide), zu_self, zu_ne _ _ (by decide), zu_self]; rfl
    · rw [zu_self, zu_self]; rfl
def laidC (A : gA) (r a b q : Nat) (dx dy : Int) (τ : zc_N) : Prop := cM (mayB A r a b q dx dy) (aN A a) τ ∧ τ 16 1 = nI (aN A a) ∧ τ 10 8 = nI (msk (fun i => decide (i < aN A a) && inA A a b q dx dy i)) ∧ τ 10 9 = nI (SB A a b q dx dy)
theorem shift_c {P : zp} {A : gA} {σ : zc_N} {r a b q : Nat} {dx dy : Int} (hca : pC P A σ a) (hcb : pC P A σ b) (hva : pV A a) (hvb : pV A b) (hr : r < 4) (hl : learned A r b (aN A b) σ) (ht : turned A a q σ) (hdx : -30 ≤ dx ∧ dx ≤ 30) (hdy : -30 ≤ dy ∧ dy ≤ 30) :
    pX4_shiftBy P σ a b (zI dx) (zI dy) ∧ laidC A r a b q dx dy (sX4_shiftBy P σ a b (zI dx) (zI dy)) ∧ (∀ k, k ≠ 8 → k ≠ 9 → sX4_shiftBy P σ a b (zI dx) (zI dy) 10 k = σ 10 k) ∧ (∀ k, k ≠ 1 → sX4_shiftBy P σ a b (zI dx) (zI dy) 16 k = σ 16 k) ∧ off [10, 16, 17] σ (sX4_shiftBy P σ a b (zI dx) (zI dy)) := by
  have hNa := hva.1
  have hNb := hvb.1
  have sa := sz_c hca hva
  have sb := sz_c hcb hvb
  have l0 := t_lt (q := q) (hva.2.2 0 (by decide)) (hva.2.2 1 (by decide))
  have l2 := t_lt (q := q) (hva.2.2 2 (by decide)) (hva.2.2 3 (by decide))
  have x1 : xlo A a q < 16 := by unfold xlo; omega
  have x2 : xhi A a q < 16 := by unfold xhi; omega
  have y1 : ylo A a q < 16 := by unfold ylo; omega
  have y2 : yhi A a q < 16 := by unfold yhi; omega
  have st : ∀ i, i < aN A a → ∀ τ : zc_N, off [10, 16, 17] σ τ → (∀ p, p < i → τ 17 p = nI (msk (mayB A r a b q dx dy p))) → τ 16 1 = nI i → τ 10 8 = nI (msk (fun p => decide (p < i) && inA A a b q dx dy p)) →
      ((∀ p, p < i + 1 → (fX4_shiftBy_15 a b (zI dx) (zI dy) i τ) 17 p = nI (msk (mayB A r a b q dx dy p))) ∧ (fX4_shiftBy_15 a b (zI dx) (zI dy) i τ) 16 1 = nI (i + 1) ∧ (fX4_shiftBy_15 a b (zI dx) (zI dy) i τ) 10 8 = nI (msk (fun p => decide (p < i + 1) && inA A a b q dx dy p)) ∧ (∀ k, k ≠ 8 → (fX4_shiftBy_15 a b (zI dx) (zI dy) i τ) 10 k = τ 10 k) ∧ (∀ k, k ≠ 1 → (fX4_shiftBy_15 a b (zI dx) (zI dy) i τ) 16 k = τ 16 k) ∧ off [10, 16, 17] σ (fX4_shiftBy_15 a b (zI dx) (zI dy) i τ) ∧ qX4_shiftBy_15 P a (zI dx) (zI dy) i τ) := by
    intro i hi τ ho h17 h16 h10
    have v := hva.2.1 i hi
    have tl := t_lt (q := q) v.1 v.2.1
    have ca := rd_c (pC_off hca ho (by decide)) hva hi
    have bx := lxb (q := q) hva hi hdx
    have by_ := lyb (q := q) hva hi hdy
    have hlτ : learned A r b (aN A b) τ := by
      unfold learned
      rw [ho 13 (by decide), ho 14 (by decide), ho 15 (by decide)]
      exact hl
    have e1 : nI (tX q (aX A a i) (aY A a i)) + zI dx = zI (lx A a q dx i) := by rw [nz (by omega), zI_add]; rfl
    have e2 : nI (tY q (aX A a i) (aY A a i)) + zI dy = zI (ly A a q dy i) := by rw [nz (by omega), zI_add]; rfl
    have nr := near_c hlτ hvb hr v.2.2 (x := lx A a q dx i) (y := ly A a q dy i) (by omega) (by omega)
    have em : msk (fun j => decide (j < aN A b ∧ aK A b j = aK A a i ∧ -(r : Int) ≤ lx A a q dx i - aX A b j ∧ lx A a q dx i - aX A b j ≤ r ∧ -(r : Int) ≤ ly A a q dy i - aY A b j ∧ ly A a q dy i - aY A b j ≤ r)) = msk (mayB A r a b q dx dy i) := msk_congr (fun j hj => dec_eq (by
      constructor
      · rintro ⟨g1, g2, g3⟩; exact ⟨hi, g1, g2.symm, g3⟩
      · rintro ⟨-, g1, g2, g3⟩; exact ⟨g1, g2.symm, g3⟩))
    have n12 : ¬ (12 : Int32) ≤ nI i := by rw [show (12 : Int32) = nI 12 from rfl]; exact nI_ge (by omega) (by decide)
    have v12 : vp_in (nI i) 12 := vp_in_nI (by omega) (by decide)
    have hq : qX4_shiftBy_15 P a (zI dx) (zI dy) i τ := by
      unfold qX4_shiftBy_15
      rw [cl_n (a := i) (by omega), ho 19 (by decide), ho 20 (by decide), (ht.1 i hi).1, (ht.1 i hi).2, e1, e2, ca.2.2.1]
      refine ⟨v12, v12, ca.2.2.2, nr.2, fun _ => trivial, fun _ => ?_⟩
      rw [h16]; exact v12
    have eadd : vX4_shiftBy_2 a (zI dx) (zI dy) (nI i) τ = zu (zu τ 17 (zu (τ 17) i (nI (msk (mayB A r a b q dx dy i))))) 16 (zu (τ 16) 1 (nI (i + 1))) := by
      unfold vX4_shiftBy_2 sX5_add
      rw [cl_n (a := i) (by omega), ho 19 (by decide), ho 20 (by decide), (ht.1 i hi).1, (ht.1 i hi).2, e1, e2, ca.2.2.1, nr.1, em, h16, if_neg n12, cl_n (by omega), nI_1]
    have o2 : off [10, 16, 17] σ (zu (zu τ 17 (zu (τ 17) i (nI (msk (mayB A r a b q dx dy i))))) 16 (zu (τ 16) 1 (nI (i + 1)))) := off_zu (off_zu ho (by simp) _) (by simp) _
    have cb := (pC_off hcb o2 (by decide)).2.2.2
    have ehold : rX6_holds_p (zu (zu τ 17 (zu (τ 17) i (nI (msk (mayB A r a b q dx dy i))))) 16 (zu (τ 16) 1 (nI (i + 1)))) b (zI (lx A a q dx i)) (zI (ly A a q dy i)) = b2 (inA A a b q dx dy i) := by
      unfold rX6_holds_p
      have r0 := hvb.2.2 0 (by decide)
      have r1 := hvb.2.2 1 (by decide)
      have r2 := hvb.2.2 2 (by decide)
      have r3 := hvb.2.2 3 (by decide)
      rw [cb 0 (by decide), cb 1 (by decide), cb 2 (by decide), cb 3 (by decide), nz (n := aR A b 0) (by omega), nz (n := aR A b 1) (by omega), nz (n := aR A b 2) (by omega), nz (n := aR A b 3) (by omega)]
      exact if4 (by omega) (by omega) (by omega) (by omega) (by omega) (by omega) (by omega) (by omega)
    unfold fX4_shiftBy_15
    rw [eadd, cl_n (a := i) (by omega), ho 19 (by decide), ho 20 (by decide), (ht.1 i hi).1, (ht.1 i hi).2, e1, e2, ehold, bitn_n (by omega)]
    have p17 : ∀ p, p < i + 1 → (zu (zu τ 17 (zu (τ 17) i (nI (msk (mayB A r a b q dx dy i))))) 16 (zu (τ 16) 1 (nI (i + 1)))) 17 p = nI (msk (mayB A r a b q dx dy p)) := fun p hp => by
      rw [zu_ne _ _ (show 17 ≠ 16 by decide), zu_self]
      by_cases e : p = i
      · rw [e, zu_self]
      · rw [zu_ne _ _ e]; exact h17 p (by omega)
    have p10 : (zu (zu τ 17 (zu (τ 17) i (nI (msk (mayB A r a b q dx dy i))))) 16 (zu (τ 16) 1 (nI (i + 1)))) 10 = τ 10 := by rw [zu_ne _ _ (by decide), zu_ne _ _ (by decide)]
    have p16 : (zu (zu τ 17 (zu (τ 17) i (nI (msk (mayB A r a b q dx dy i))))) 16 (zu (τ 16) 1 (nI (i + 1)))) 16 = zu (τ 16) 1 (nI (i + 1)) := zu_self _ _ _
    generalize zu (zu τ 17 (zu (τ 17) i (nI (msk (mayB A r a b q dx dy i))))) 16 (zu (τ 16) 1 (nI (i + 1))) = υ at o2 p17 p10 p16
    cases hin : inA A a b q dx dy i with
    | false =>
      rw [if_pos (show b2 false = 0 from rfl), p10, p16]
      refine ⟨p17, zu_self _ _ _, ?_, fun _ _ => rfl, fun k hk => zu_ne _ _ hk, o2, hq⟩
      rw [h10]
      congr 1
      refine msk_congr (fun p hp => ?_)
      by_cases e : p = i
      · rw [e, hin]; simp
      · have : (p < i + 1) ↔ p < i := by omega
        rw [dec_eq this]
    | true =>
      rw [if_neg (show ¬ b2 true = 0 by decide)]
      refine ⟨fun p hp => by rw [zu_ne _ _ (by decide)]; exact p17 p hp, by rw [zu_ne _ _ (by decide), p16, zu_self], ?_, fun k hk => by rw [zu_self, zu_ne _ _ hk, p10], fun k hk => by rw [zu_ne _ _ (by decide), p16, zu_ne _ _ hk], off_zu o2 (by simp) _, hq⟩
      rw [zu_self, zu_self, p10, h10]
      refine msk_add (by omega) (fun p hp => ?_)
      by_cases e : p = i
      · rw [e, hin]; simp
      · have : (p < i + 1) ↔ p < i := by omega
        rw [dec_eq this]
        simp [e]
  have key1 := zfor_inv (fun i (τ : zc_N) => off [10, 16, 17] σ τ ∧ (∀ p, p < i → τ 17 p = nI (msk (mayB A r a b q dx dy p))) ∧ τ 16 1 = nI i ∧ τ 10 8 = nI (msk (fun p => decide (p < i) && inA A a b q dx dy p)) ∧ (∀ k, k ≠ 8 → τ 10 k = σ 10 k) ∧ (∀ k, k ≠ 1 → τ 16 k = σ 16 k)) (fX4_shiftBy_15 a b (zI dx) (zI dy)) (aN A a) (sX5_clear (zu σ 10 (zu (σ 10) 8 0))) ⟨off_zu (off_zu (off_rf _ _) (by simp) _) (by simp) _, fun p hp => absurd hp (by omega), by unfold sX5_clear; rw [zu_self, zu_self]; rfl, by unfold sX5_clear; rw [zu_ne _ _ (by decide), zu_self, zu_self]; exact msk_f (fun j _ => by simp), fun k hk => by unfold sX5_clear; rw [zu_ne _ _ (by decide), zu_self, zu_ne _ _ hk], fun k hk => by unfold sX5_clear; rw [zu_self, zu_ne _ _ hk, zu_ne _ _ (by decide)]⟩ (fun i hi τ h => by
    obtain ⟨h1, h2, h3, h4, h5, h6⟩ := h
    obtain ⟨g1, g2, g3, g4, g5, g6, -⟩ := st i hi τ h1 h2 h3 h4
    exact ⟨g6, g1, g2, g3, fun k hk => (g4 k hk).trans (h5 k hk), fun k hk => (g5 k hk).trans (h6 k hk)⟩)
  have hq1 : ∀ i, i < aN A a → qX4_shiftBy_15 P a (zI dx) (zI dy) i (zfor (fX4_shiftBy_15 a b (zI dx) (zI dy)) i (sX5_clear (zu σ 10 (zu (σ 10) 8 0)))) := fun i hi => by
    obtain ⟨h1, h2, h3, h4, h5, h6⟩ := key1 i (by omega)
    exact (st i hi _ h1 h2 h3 h4).2.2.2.2.2.2
  obtain ⟨h1, h2, h3, h4, h5, h6⟩ := key1 (aN A a) (Nat.le_refl _)
  unfold pX4_shiftBy sX4_shiftBy vX4_shiftBy_4 vX4_shiftBy_3
  rw [sa.2.1, sb.2.1]
  generalize zfor (fX4_shiftBy_15 a b (zI dx) (zI dy)) (aN A a) (sX5_clear (zu σ 10 (zu (σ 10) 8 0))) = υ at h1 h2 h3 h4 h5 h6
  have ec : rJ6_bitCount_0f7a4 (υ 10 8) = nI (cnt (inA A a b q dx dy) (aN A a)) := by
    rw [h4, bc12 (msk_lt _), pcn_tb]
    congr 1
    obtain ⟨d, hd⟩ : ∃ d, 12 = aN A a + d := ⟨12 - aN A a, by omega⟩
    have e : cnt (fun i => (msk (fun p => decide (p < aN A a) && inA A a b q dx dy p)).testBit i) 12 = cnt (fun p => decide (p < aN A a) && inA A a b q dx dy p) 12 := cnt_congr 12 (fun i hi => by rw [msk_bit]; simp [hi])
    rw [e, hd, cnt_add, cnt_false d (fun i hi => by rw [decide_eq_false (by omega)]; rfl), Nat.add_zero]
    exact cnt_congr _ (fun i hi => by rw [decide_eq_true hi]; rfl)
  rw [ec]
  have stB : ∀ j, j < aN A b → ∀ τ : zc_N, off [10, 16, 17] σ τ → fX4_shiftBy_118 b (zI dx) (zI dy) j τ = if inB A a b q dx dy j then zu τ 10 (zu (τ 10) 9 (τ 10 9 + 1)) else τ := by
    intro j hj τ ho
    have v := hvb.2.1 j hj
    have cb := rd_c (pC_off hcb ho (by decide)) hvb hj
    unfold fX4_shiftBy_118 rX6_holds_t
    rw [cb.1, cb.2.1, ho 21 (by decide), ht.2.1, ht.2.2.1, ht.2.2.2.1, ht.2.2.2.2, nz (n := aX A b j) (by omega), nz (n := aY A b j) (by omega), zI_sub, zI_sub, nz (n := xlo A a q) (by omega), nz (n := ylo A a q) (by omega), nz (n := xhi A a q) (by omega), nz (n := yhi A a q) (by omega), if4 (by omega) (by omega) (by omega) (by omega) (by omega) (by omega) (by omega) (by omega)]
    have e : decide ((xlo A a q : Int) ≤ (aX A b j : Int) - dx ∧ (aX A b j : Int) - dx ≤ xhi A a q ∧ (ylo A a q : Int) ≤ (aY A b j : Int) - dy ∧ (aY A b j : Int) - dy ≤ yhi A a q) = inB A a b q dx dy j := by
      unfold inB
      exact dec_eq (by omega)
    rw [e]
    cases inB A a b q dx dy j <;> rfl
  have key2 := zfor_inv (fun j (τ : zc_N) => off [10, 16, 17] σ τ ∧ τ 17 = υ 17 ∧ τ 16 = υ 16 ∧ τ 10 9 = nI (cnt (inA A a b q dx dy) (aN A a) + cnt (inB A a b q dx dy) j) ∧ (∀ k, k ≠ 9 → τ 10 k = υ 10 k)) (fX4_shiftBy_118 b (zI dx) (zI dy)) (aN A b) (zu υ 10 (zu (υ 10) 9 (nI (cnt (inA A a b q dx dy) (aN A a))))) ⟨off_zu h1 (by simp) _, by rw [zu_ne _ _ (by decide)], by rw [zu_ne _ _ (by decide)], by rw [zu_self, zu_self]; rfl, fun k hk => by rw [zu_self, zu_ne _ _ hk]⟩ (fun j hj τ h => by
    obtain ⟨g1, g2, g3, g4, g5⟩ := h
    rw [stB j hj τ g1]
    show _ ∧ _ ∧ _ ∧ _ = nI (cnt (inA A a b q dx dy) (aN A a) + (cnt (inB A a b q dx dy) j + (inB A a b q dx dy j).toNat)) ∧ _
    cases inB A a b q dx dy j with
    | false => exact ⟨g1, g2, g3, g4, g5⟩
    | true =>
      rw [if_pos rfl]
      refine ⟨off_zu g1 (by simp) _, by rw [zu_ne _ _ (by decide)]; exact g2, by rw [zu_ne _ _ (by decide)]; exact g3, ?_, fun k hk => by rw [zu_self, zu_ne _ _ hk]; exact g5 k hk⟩
      rw [zu_self, zu_self, g4, nI_1]
      rfl)
  obtain ⟨g1, g2, g3, g4, g5⟩ := key2 (aN A b) (Nat.le_refl _)
  generalize zfor (fX4_shiftBy_118 b (zI dx) (zI dy)) (aN A b) (zu υ 10 (zu (υ 10) 9 (nI (cnt (inA A a b q dx dy) (aN A a))))) = ω at g1 g2 g3 g4 g5
  refine ⟨⟨⟨sa.2.2, hq1⟩, sb.2.2, fun j hj => ⟨(rd_c hcb hvb hj).2.2.2, (rd_c hcb hvb hj).2.2.2⟩⟩, ⟨fun p hp => by rw [g2]; exact h2 p hp, by rw [g3]; exact h3, by rw [g5 8 (by decide)]; exact h4, g4⟩, fun k h8 h9 => by rw [g5 k h9]; exact h5 k h8, fun k hk => by rw [g3]; exact h6 k hk, g1⟩
