/-! ===== pure rows: feed and row ===== -/
theorem bc12 {n : Nat} (hn : n < 4096) : rJ6_bitCount_0f7a4 (nI n) = nI (pcn 12 n) := by
  rw [bc_n (by omega)]
  have := bcN_12 (n / 64) (by omega) (n % 64) (by omega)
  rw [Nat.div_add_mod] at this
  rw [this]
theorem pcn_row (f : Nat → Bool) : ∀ n, pcn n (rowN f n) = cnt f n
  | 0 => rfl
  | n + 1 => by
    have h := tb_toNat (f n)
    show (2 * rowN f n + (f n).toNat) % 2 + pcn n ((2 * rowN f n + (f n).toNat) / 2) = cnt f n + (f n).toNat
    rw [show (2 * rowN f n + (f n).toNat) % 2 = (f n).toNat by omega, show (2 * rowN f n + (f n).toNat) / 2 = rowN f n by omega, pcn_row f n]
    omega
theorem pcn_tb : ∀ (k n : Nat), pcn k n = cnt (fun i => n.testBit i) k
  | 0, _ => rfl
  | k + 1, n => by
    show n % 2 + pcn k (n / 2) = _
    rw [pcn_tb k, Nat.add_comm k 1, cnt_add]
    have e1 : cnt (fun i => n.testBit i) 1 = n % 2 := by
      show 0 + (n.testBit 0).toNat = n % 2
      rw [Nat.testBit_zero]
      rcases Nat.mod_two_eq_zero_or_one n with h | h <;> simp [h]
    have e2 : (fun i => (n / 2).testBit i) = fun i => n.testBit (1 + i) := by
      funext i
      rw [Nat.add_comm, Nat.testBit_succ]
    rw [e1, e2]
theorem rowN_add (f : Nat → Bool) (n : Nat) : ∀ m, rowN f (n + m) = rowN f n * 2 ^ m + rowN (fun i => f (n + i)) m
  | 0 => by simp [rowN]
  | m + 1 => by
    show 2 * rowN f (n + m) + (f (n + m)).toNat = rowN f n * 2 ^ (m + 1) + (2 * rowN (fun i => f (n + i)) m + (f (n + m)).toNat)
    rw [rowN_add f n m, Nat.pow_succ, Nat.mul_add, ← Nat.mul_assoc (rowN f n), Nat.mul_comm 2 (rowN f n * 2 ^ m)]
    omega
theorem bc_row {f : Nat → Bool} (h0 : f 0 = false) (h17 : f 17 = false) : rJ6_bitCount_0f7a4 (nI (rowN f 18)) = nI (cnt f 18) := by
  have e1 : rowN f 18 = 2 * (rowN (fun i => f (1 + i)) 8 * 256 + rowN (fun i => f (1 + (8 + i))) 8) := by
    show 2 * rowN f 17 + (f 17).toNat = _
    rw [h17, show 17 = 1 + (8 + 8) from rfl, rowN_add f 1, rowN_add (fun i => f (1 + i)) 8 8]
    show 2 * ((2 * 0 + (f 0).toNat) * 2 ^ 16 + _) + 0 = _
    rw [h0]
    simp
  have e2 : cnt f 18 = cnt (fun i => f (1 + i)) 8 + cnt (fun i => f (1 + (8 + i))) 8 := by
    show cnt f 17 + (f 17).toNat = _
    rw [h17, show 17 = 1 + (8 + 8) from rfl, cnt_add f 1, cnt_add (fun i => f (1 + i)) 8 8]
    show (0 + (f 0).toNat) + _ + 0 = _
    rw [h0]
    simp
  have l1 := rowN_lt (fun i => f (1 + i)) 8
  have l2 := rowN_lt (fun i => f (1 + (8 + i))) 8
  rw [bc_n (by omega), e1, e2, bcN_16 _ l1 _ l2, pcn_row, pcn_row]
theorem pd_0 (D : Nat → Bool) (y : Nat) : pd D 0 y = false := by unfold pd; simp
theorem pd_17 (D : Nat → Bool) (y : Nat) : pd D 17 y = false := by unfold pd; simp
theorem pd_y0 (D : Nat → Bool) (x : Nat) : pd D x 0 = false := by unfold pd; simp
theorem pd_y17 (D : Nat → Bool) (x : Nat) : pd D x 17 = false := by unfold pd; simp
theorem cnt_nest (f : Nat → Bool) (w : Nat) (g : Nat → Nat) : ∀ n, (∀ r, r < n → cnt (fun i => f (w * r + i)) w = g r) → cnt f (w * n) = Nat.rec 0 (fun r s => s + g r) n
  | 0, _ => rfl
  | n + 1, h => by
    rw [Nat.mul_succ, cnt_add, cnt_nest f w g n (fun r hr => h r (Nat.lt_succ_of_lt hr)), h n (Nat.lt_succ_self n)]
theorem dc_c {D : Nat → Bool} {σ : zc_N} (h : gC D σ) : rX1_darkCells σ = nI (cnt D 256) := by
  unfold rX1_darkCells
  have key := zfor_inv (fun i x => x = nI (if i = 0 then 0 else cnt D (16 * min (i - 1) 16))) (fX1_darkCells_4 σ) 18 0 rfl (fun i hi x hx => by
    unfold fX1_darkCells_4
    rw [hx, nI_clamp (by omega), h i hi]
    unfold RW
    rw [bc_row (pd_0 D i) (pd_17 D i), nI_add, if_neg (Nat.succ_ne_zero i), Nat.add_sub_cancel]
    congr 1
    by_cases h0 : i = 0
    · subst h0
      rw [if_pos rfl, cnt_false 18 (fun j _ => pd_y0 D j)]
      rfl
    · rw [if_neg h0]
      by_cases h17 : i = 17
      · subst h17
        rw [cnt_false 18 (fun j _ => pd_y17 D j)]
        simp
      · have e : cnt (fun x => pd D x i) 18 = cnt (fun c => D (16 * (i - 1) + c)) 16 := by
          show cnt (fun x => pd D x i) 17 + (pd D 17 i).toNat = _
          rw [pd_17, show 17 = 1 + 16 from rfl, cnt_add]
          show (0 + (pd D 0 i).toNat) + _ + 0 = _
          rw [pd_0]
          simp only [Bool.toNat_false, Nat.zero_add, Nat.add_zero]
          refine cnt_congr 16 (fun c hc => ?_)
          have := pd_in (D := D) (x := c) (y := i - 1) hc (by omega)
          rw [show i - 1 + 1 = i by omega] at this
          rw [Nat.add_comm 1 c]
          exact this
        rw [e, Nat.min_eq_left (by omega), Nat.min_eq_left (by omega), ← cnt_add]
        congr 1
        omega) 18 (Nat.le_refl _)
  exact key
/-- a number within bounds, or not -/
theorem win (a : Int32) (M : Nat) (hM : M < 2 ^ 31) : (rX8_isWithin a 0 (nI M) = 0 ∧ rX9_within a 0 (nI M) = 0) ∨ ∃ j, j ≤ M ∧ a = nI j ∧ rX8_isWithin a 0 (nI M) = 1 ∧ rX9_within a 0 (nI M) = 1 := by
  unfold rX8_isWithin rX9_within
  by_cases c1 : a < 0
  · exact Or.inl ⟨if_pos c1, if_pos c1⟩
  · rw [if_neg c1]
    by_cases c2 : nI M < a
    · exact Or.inl ⟨if_pos c2, if_pos c2⟩
    · rw [if_neg c2]
      obtain ⟨j, hj, e⟩ := nI_of2 (M := nI M) (n := M) (nI_toInt hM) c1 (Int32.not_lt.mp c2)
      exact Or.inr ⟨j, hj, e, rfl, rfl⟩
def fed (D : Nat → Bool) (r bits : Nat) : Nat → Bool := fun k => if k / 16 = r then bits.testBit (15 - k % 16) else D k
theorem feed_c {D : Nat → Bool} {σ : zc_N} (h : gC D σ) {r bits : Nat} (hr : r < 16) (hb : bits < 65536) : gC (fed D r bits) (sX1_setRow σ (nI r) (nI bits)) ∧ off [5] σ (sX1_setRow σ (nI r) (nI bits)) ∧ pX1_setRow (nI r) := by
  unfold sX1_setRow pX1_setRow
  rw [nI_1, nI_clamp (by omega)]
  refine ⟨?_, off_zu (off_rf _ _) (by simp) _, vp_in_nI (by omega) (by decide)⟩
  intro y hy
  rw [zu_self]
  by_cases e : y = r + 1
  · subst e
    have e2 : zshl (nI bits) (1 : Int32) = nI (bits * 2) := zshl_n (n := bits) (k := 1) (by decide) (by omega)
    rw [zu_self, e2]
    congr 1
    apply Nat.eq_of_testBit_eq
    intro i
    by_cases hi : i ≤ 17
    · obtain ⟨x, rfl, hx⟩ : ∃ x, i = 17 - x ∧ x ≤ 17 := ⟨17 - i, by omega, by omega⟩
      rw [RW_bit _ _ hx]
      by_cases hx0 : x = 17
      · subst hx0
        rw [pd_17]
        simp
      · rw [show 17 - x = (16 - x) + 1 by omega, Nat.testBit_succ, show bits * 2 / 2 = bits by omega]
        unfold pd fed
        by_cases hx1 : x = 0
        · subst hx1
          simp
          exact Nat.testBit_lt_two_pow (by omega)
        · have e3 : (1 ≤ x ∧ x ≤ 16 ∧ 1 ≤ r + 1 ∧ r + 1 ≤ 16) := by omega
          have e4 : (16 * (r + 1 - 1) + (x - 1)) / 16 = r := by omega
          have e5 : 15 - (16 * (r + 1 - 1) + (x - 1)) % 16 = 16 - x := by omega
          rw [if_pos e4, e5, decide_eq_true e3, Bool.true_and]
    · have z : (RW (fed D r bits) (r + 1)).testBit i = false := Nat.testBit_lt_two_pow (Nat.lt_of_lt_of_le (RW_lt _ _) (Nat.pow_le_pow_right (by decide) (by omega)))
      rw [z]
      exact Nat.testBit_lt_two_pow (Nat.lt_of_lt_of_le (show bits * 2 < 2 ^ 18 by omega) (Nat.pow_le_pow_right (by decide) (by omega)))
  · rw [zu_ne _ _ e, h y hy]
    congr 1
    refine RW_congr (fun x => ?_)
    unfold pd fed
    by_cases e3 : (1 ≤ x ∧ x ≤ 16 ∧ 1 ≤ y ∧ y ≤ 16)
    · have e4 : ¬ (16 * (y - 1) + (x - 1)) / 16 = r := by omega
      rw [if_neg e4]
    · simp [e3]
theorem feed_m {D : Nat → Bool} {σ : zc_N} (h : gM D σ) {r bits : Nat} (hr : r < 16) (hb : bits < 65536) : gM (fed D r bits) (zfor (fX9_feed_24 (nI r) (nI bits)) 16 σ) ∧ off [33] σ (zfor (fX9_feed_24 (nI r) (nI bits)) 16 σ) ∧ ∀ i, i < 16 → ∀ a, qX9_feed_24 (nI r) i a := by
  have key := zfor_inv (fun i (τ : zc_N) => (∀ k, k < 256 → τ 33 k = if k / 16 = r ∧ k % 16 < i then b2 (bits.testBit (15 - k % 16)) else b2 (D k)) ∧ off [33] σ τ) (fX9_feed_24 (nI r) (nI bits)) 16 σ ⟨fun k hk => by rw [if_neg (by omega)]; exact h k hk, off_rf _ _⟩ (fun i hi τ ht => by
    obtain ⟨h1, h2⟩ := ht
    unfold fX9_feed_24
    rw [i16, pk_mul, nI_add, nI_clamp (by omega), i15, sub_n (by omega), bit_n (by omega) (by omega)]
    refine ⟨fun k hk => ?_, off_zu h2 (by simp) _⟩
    rw [zu_self]
    by_cases e : k = 16 * r + i
    · subst e
      rw [zu_self, show (16 * r + i) % 16 = i by omega, if_pos (show (16 * r + i) / 16 = r ∧ i < i + 1 by omega)]
      cases bits.testBit (15 - i) <;> rfl
    · rw [zu_ne _ _ e, h1 k hk]
      by_cases c : k / 16 = r ∧ k % 16 < i
      · rw [if_pos c, if_pos (by omega)]
      · rw [if_neg c, if_neg (by omega)]) 16 (Nat.le_refl _)
  refine ⟨fun k hk => ?_, key.2, fun i hi a => ?_⟩
  · rw [key.1 k hk]
    unfold fed
    by_cases c : k / 16 = r
    · rw [if_pos ⟨c, by omega⟩, if_pos c]
    · rw [if_neg (fun g => c g.1), if_neg c]
  · unfold qX9_feed_24
    rw [i16, pk_mul, nI_add]
    exact vp_in_nI (by omega) (by decide)
theorem row_c {D : Nat → Bool} {σ : zc_N} (h : gC D σ) {r : Nat} (hr : r < 16) : rX1_bitsOf σ (nI r) = nI (rowN (fun c => D (16 * r + c)) 16) ∧ pX1_bitsOf (nI r) := by
  unfold rX1_bitsOf pX1_bitsOf
  rw [nI_1, nI_clamp (by omega), h (r + 1) (by omega)]
  refine ⟨?_, vp_in_nI (by omega) (by decide)⟩
  have e2 : zshr (nI (RW D (r + 1))) (1 : Int32) = nI (RW D (r + 1) / 2 ^ 1) := zshr_n (k := 1) (Nat.lt_of_lt_of_le (RW_lt D _) (by decide)) (by decide)
  rw [e2]
  congr 1
  have e3 : RW D (r + 1) = 2 * rowN (fun c => D (16 * r + c)) 16 := by
    unfold RW
    show 2 * rowN (fun x => pd D x (r + 1)) 17 + (pd D 17 (r + 1)).toNat = _
    rw [pd_17, show 17 = 1 + 16 from rfl, rowN_add]
    show 2 * ((2 * 0 + (pd D 0 (r + 1)).toNat) * 2 ^ 16 + _) + 0 = _
    rw [pd_0]
    simp only [Bool.toNat_false, Nat.zero_mul, Nat.mul_zero, Nat.zero_add, Nat.add_zero]
    congr 1
    refine rowN_congr 16 (fun c hc => ?_)
    rw [Nat.add_comm 1 c]
    exact pd_in hc hr
  rw [e3]
  omega
theorem row_m {D : Nat → Bool} {σ : zc_N} (h : gM D σ) {r : Nat} (hr : r < 16) : zfor (fX9_row_16 σ (nI r)) 16 (0 : Int32) = nI (rowN (fun c => D (16 * r + c)) 16) ∧ ∀ i, i < 16 → ∀ a, qX9_row_16 (nI r) i a := by
  refine ⟨?_, fun i hi a => ?_⟩
  · refine zfor_inv (fun i x => x = nI (rowN (fun c => D (16 * r + c)) i)) (fX9_row_16 σ (nI r)) 16 0 rfl (fun i hi x hx => ?_) 16 (Nat.le_refl _)
    unfold fX9_row_16 vX9_row_2
    rw [hx, i16, pk_mul, nI_add, nI_clamp (by omega), h _ (by omega), b2_if, b2_n, i2, pk_mul, nI_add]
    rfl
  · unfold qX9_row_16
    rw [i16, pk_mul, nI_add]
    exact vp_in_nI (by omega) (by decide)
