/-! ===== pure rows: numbers, bits, loops ===== -/
theorem zfor_inv {α : Type} (I : Nat → α → Prop) (f : Nat → α → α) (n : Nat) (a : α) (h0 : I 0 a) (hs : ∀ i, i < n → ∀ x, I i x → I (i + 1) (f i x)) : ∀ k, k ≤ n → I k (zfor f k a)
  | 0, _ => h0
  | k + 1, hk => hs k hk _ (zfor_inv I f n a h0 hs k (Nat.le_of_lt hk))
theorem zfor_sim {α β : Type} (T : Nat → α → β → Prop) (f : Nat → α → α) (g : Nat → β → β) (n : Nat) (a : α) (b : β) (h0 : T 0 a b) (hs : ∀ i, i < n → ∀ x y, T i x y → T (i + 1) (f i x) (g i y)) : ∀ k, k ≤ n → T k (zfor f k a) (zfor g k b)
  | 0, _ => h0
  | k + 1, hk => hs k hk _ _ (zfor_sim T f g n a b h0 hs k (Nat.le_of_lt hk))
theorem zfor_congr {α : Type} (f g : Nat → α → α) (a : α) (n : Nat) (h : ∀ i, i < n → ∀ x, f i x = g i x) : zfor f n a = zfor g n a := by
  induction n with
  | zero => rfl
  | succ n ih =>
    show f n (zfor f n a) = g n (zfor g n a)
    rw [ih (fun i hi => h i (Nat.lt_succ_of_lt hi)), h n (Nat.lt_succ_self n)]
theorem zfor_add {α : Type} (f : Nat → α → α) (a : α) (n m : Nat) : zfor f (n + m) a = zfor (fun i => f (n + i)) m (zfor f n a) := by
  induction m with
  | zero => rfl
  | succ m ih => show f (n + m) (zfor f (n + m) a) = f (n + m) _; rw [ih]
theorem zfor_nest {α : Type} (g : Nat → Nat → α → α) (w : Nat) (hw : 0 < w) (a : α) (n : Nat) : zfor (fun i => zfor (g i) w) n a = zfor (fun k => g (k / w) (k % w)) (w * n) a := by
  induction n with
  | zero => rfl
  | succ n ih =>
    show zfor (g n) w (zfor (fun i => zfor (g i) w) n a) = _
    rw [Nat.mul_succ, zfor_add, ih]
    refine zfor_congr _ _ _ w (fun i hi x => ?_)
    show g n i x = g ((w * n + i) / w) ((w * n + i) % w) x
    rw [Nat.mul_add_div hw, Nat.mul_add_mod, Nat.div_eq_of_lt hi, Nat.mod_eq_of_lt hi, Nat.add_zero]
theorem zit_inv {α : Type} (I : Nat → α → Prop) (f : α → α) (a : α) (h0 : I 0 a) (hs : ∀ i x, I i x → I (i + 1) (f x)) : ∀ k, I k (zit f k a)
  | 0 => h0
  | k + 1 => hs k _ (zit_inv I f a h0 hs k)
theorem zit_sim {α β : Type} (T : Nat → α → β → Prop) (f : α → α) (g : β → β) (a : α) (b : β) (h0 : T 0 a b) (hs : ∀ i x y, T i x y → T (i + 1) (f x) (g y)) : ∀ k, T k (zit f k a) (zit g k b)
  | 0 => h0
  | k + 1 => hs k _ _ (zit_sim T f g a b h0 hs k)
theorem zwn_eq {E : Nat → Prop} {n : Nat} (h : E n) (hm : ∀ j, j < n → ¬ E j) : zwn E = n := by
  obtain ⟨h1, h2⟩ := zwn_spec ⟨n, h⟩
  rcases Nat.lt_trichotomy (zwn E) n with h3 | h3 | h3
  · exact absurd h1 (hm _ h3)
  · exact h3
  · exact absurd h (h2 _ h3)
def b2 (b : Bool) : Int32 := if b then 1 else 0
theorem b2_t : b2 true = 1 := rfl
theorem b2_f : b2 false = 0 := rfl
theorem b2_n (b : Bool) : b2 b = nI b.toNat := by cases b <;> rfl
theorem b2_0 (b : Bool) : b2 b = 0 ↔ b = false := by cases b <;> decide
theorem b2_1 (b : Bool) : b2 b = 1 ↔ b = true := by cases b <;> decide
theorem b2_if (b : Bool) : (if b2 b = 0 then (0 : Int32) else 1) = b2 b := by cases b <;> decide
theorem sh_l : ∀ n, n < 32 → ((nI n &&& 31).toBitVec.smod 32).toNat = n := by decide +kernel
theorem sh_u : ∀ n, n < 32 → (((nI n).toUInt32 &&& Int32.toUInt32 31).toBitVec % 32).toNat = n := by decide +kernel
theorem zshr_n {n k : Nat} (hn : n < 2 ^ 31) (hk : k < 32) : zshr (nI n) (nI k) = nI (n / 2 ^ k) := pk_shrN hn _ k (sh_l k hk)
theorem zshl_n {n k : Nat} (hk : k < 32) (h : n * 2 ^ k < 2 ^ 32) : zshl (nI n) (nI k) = nI (n * 2 ^ k) := pk_shlN _ k (sh_l k hk) h
theorem zushr_n {n k : Nat} (hn : n < 2 ^ 32) (hk : k < 32) : zushr (nI n) (nI k) = nI (n / 2 ^ k) := pk_ushrN hn _ k (sh_u k hk)
theorem and_n (a b : Nat) : nI a &&& nI b = nI (a &&& b) := by
  apply Int32.toBitVec_inj.1
  show BitVec.ofNat 32 a &&& BitVec.ofNat 32 b = BitVec.ofNat 32 (a &&& b)
  apply BitVec.eq_of_getLsbD_eq
  intro i hi
  simp [hi]
theorem or_n (a b : Nat) : nI a ||| nI b = nI (a ||| b) := by
  apply Int32.toBitVec_inj.1
  show BitVec.ofNat 32 a ||| BitVec.ofNat 32 b = BitVec.ofNat 32 (a ||| b)
  apply BitVec.eq_of_getLsbD_eq
  intro i hi
  simp [hi]
theorem xor_n (a b : Nat) : nI a ^^^ nI b = nI (a ^^^ b) := by
  apply Int32.toBitVec_inj.1
  show BitVec.ofNat 32 a ^^^ BitVec.ofNat 32 b = BitVec.ofNat 32 (a ^^^ b)
  apply BitVec.eq_of_getLsbD_eq
  intro i hi
  simp [hi]
theorem m1_n : (-1 : Int32) = nI 4294967295 := by decide +kernel
theorem tb_full (i : Nat) : (4294967295 : Nat).testBit i = decide (i < 32) := Nat.testBit_two_pow_sub_one 32 i
theorem tb_pow (k i : Nat) : (2 ^ k).testBit i = decide (k = i) := Nat.testBit_two_pow
theorem bit_n {n k : Nat} (hn : n < 2 ^ 31) (hk : k < 32) : (zshr (nI n) (nI k)) &&& (1 : Int32) = b2 (n.testBit k) := by
  rw [zshr_n hn hk, show (1 : Int32) = nI 1 from rfl, and_n, Nat.and_one_is_mod, b2_n, Nat.testBit_eq_decide_div_mod_eq]
  congr 1
  generalize n / 2 ^ k = z
  rcases Nat.mod_two_eq_zero_or_one z with h | h <;> rw [h] <;> rfl
theorem mask_n {n k : Nat} (hn : n < 2 ^ 31) (hk : k < 31) : ((nI n &&& zshl (1 : Int32) (nI k)) = 0) ↔ n.testBit k = false := by
  have h2 : (2 : Nat) ^ k < 2 ^ 31 := Nat.pow_lt_pow_right (by decide) hk
  rw [show (1 : Int32) = nI 1 from rfl, zshl_n (by omega) (by omega), Nat.one_mul, and_n, ← nI_0, nI_eq (Nat.lt_of_le_of_lt (Nat.and_le_left) hn) (by decide)]
  constructor
  · intro h
    have := congrArg (fun z => z.testBit k) h
    simpa [Nat.testBit_and, tb_pow] using this
  · intro h
    apply Nat.eq_of_testBit_eq
    intro i
    rw [Nat.testBit_and, tb_pow]
    by_cases e : k = i
    · subst e; simp [h]
    · simp [e]
/-- a bit is taken out -/
def clr (n k : Nat) : Nat := n &&& (2 ^ k ^^^ 4294967295)
theorem clr_bit {n k i : Nat} (hn : n < 2 ^ 32) : (clr n k).testBit i = (n.testBit i && !(decide (i = k))) := by
  unfold clr
  rw [Nat.testBit_and, Nat.testBit_xor, tb_pow, tb_full]
  by_cases h : i < 32
  · by_cases h2 : i = k
    · subst h2; simp [h]
    · simp [h, h2, Ne.symm h2]
  · have : n.testBit i = false := Nat.testBit_lt_two_pow (Nat.lt_of_lt_of_le hn (Nat.pow_le_pow_right (by decide) (by omega)))
    simp [this]
theorem clr_le (n k : Nat) : clr n k ≤ n := Nat.and_le_left
theorem clr_n {n k : Nat} (hk : k < 31) : nI n &&& ((zshl (1 : Int32) (nI k)) ^^^ (-1 : Int32)) = nI (clr n k) := by
  have h2 : (2 : Nat) ^ k < 2 ^ 31 := Nat.pow_lt_pow_right (by decide) hk
  rw [show zshl (1 : Int32) (nI k) = nI (2 ^ k) from (by rw [show (1 : Int32) = nI 1 from rfl, zshl_n (by omega) (by omega), Nat.one_mul]), m1_n, xor_n, and_n]
  rfl
theorem bitn_n {k : Nat} (hk : k < 31) : zshl (1 : Int32) (nI k) = nI (2 ^ k) := by
  have h2 : (2 : Nat) ^ k < 2 ^ 31 := Nat.pow_lt_pow_right (by decide) hk
  rw [show (1 : Int32) = nI 1 from rfl, zshl_n (by omega) (by omega), Nat.one_mul]
theorem lt_of_tb {n k : Nat} (h : ∀ i, k ≤ i → n.testBit i = false) : n < 2 ^ k := Nat.lt_pow_two_of_testBit n h
theorem tb_toNat (b : Bool) : b.toNat ≤ 1 := by cases b <;> decide
/-- a row of bits, the first highest -/
def rowN (f : Nat → Bool) : Nat → Nat
  | 0 => 0
  | n + 1 => 2 * rowN f n + (f n).toNat
theorem rowN_lt (f : Nat → Bool) : ∀ n, rowN f n < 2 ^ n
  | 0 => Nat.zero_lt_one
  | n + 1 => by
    have h1 := rowN_lt f n
    have h2 := tb_toNat (f n)
    show 2 * rowN f n + (f n).toNat < 2 ^ (n + 1)
    rw [Nat.pow_succ]
    omega
theorem rowN_bit (f : Nat → Bool) : ∀ (n i : Nat), (rowN f n).testBit i = (decide (i < n) && f (n - 1 - i))
  | 0, i => by simp [rowN]
  | n + 1, 0 => by
    have h2 := tb_toNat (f n)
    show (2 * rowN f n + (f n).toNat).testBit 0 = _
    rw [Nat.testBit_zero]
    simp only [Nat.zero_lt_succ, decide_true, Bool.true_and, Nat.add_sub_cancel, Nat.sub_zero]
    cases f n
    · simp
    · simp
  | n + 1, i + 1 => by
    have h2 := tb_toNat (f n)
    have ih := rowN_bit f n i
    show (2 * rowN f n + (f n).toNat).testBit (i + 1) = _
    rw [Nat.testBit_succ, show (2 * rowN f n + (f n).toNat) / 2 = rowN f n by omega, ih]
    have e : (n + 1 - 1 - (i + 1)) = n - 1 - i := by omega
    rw [e]
    congr 1
    simp
theorem rowN_congr {f g : Nat → Bool} : ∀ n, (∀ i, i < n → f i = g i) → rowN f n = rowN g n
  | 0, _ => rfl
  | n + 1, h => by
    show 2 * rowN f n + (f n).toNat = 2 * rowN g n + (g n).toNat
    rw [rowN_congr n (fun i hi => h i (Nat.lt_succ_of_lt hi)), h n (Nat.lt_succ_self n)]
/-- how many -/
def cnt (f : Nat → Bool) : Nat → Nat
  | 0 => 0
  | n + 1 => cnt f n + (f n).toNat
theorem cnt_le (f : Nat → Bool) : ∀ n, cnt f n ≤ n
  | 0 => Nat.le_refl 0
  | n + 1 => by
    have h1 := cnt_le f n
    have h2 := tb_toNat (f n)
    show cnt f n + (f n).toNat ≤ n + 1
    omega
theorem cnt_congr {f g : Nat → Bool} : ∀ n, (∀ i, i < n → f i = g i) → cnt f n = cnt g n
  | 0, _ => rfl
  | n + 1, h => by
    show cnt f n + (f n).toNat = cnt g n + (g n).toNat
    rw [cnt_congr n (fun i hi => h i (Nat.lt_succ_of_lt hi)), h n (Nat.lt_succ_self n)]
theorem cnt_mono (f : Nat → Bool) {a b : Nat} (h : a ≤ b) : cnt f a ≤ cnt f b := by
  induction h with
  | refl => exact Nat.le_refl _
  | step h ih => exact Nat.le_trans ih (Nat.le_add_right _ _)
theorem cnt_sub {f g : Nat → Bool} : ∀ n, (∀ i, i < n → f i = true → g i = true) → cnt f n ≤ cnt g n
  | 0, _ => Nat.le_refl _
  | n + 1, h => by
    have h1 := cnt_sub n (fun i hi => h i (Nat.lt_succ_of_lt hi))
    have h2 := h n (Nat.lt_succ_self n)
    show cnt f n + (f n).toNat ≤ cnt g n + (g n).toNat
    cases hf : f n
    · simp; omega
    · rw [h2 hf]; omega
theorem cnt_add (f : Nat → Bool) (n m : Nat) : cnt f (n + m) = cnt f n + cnt (fun i => f (n + i)) m := by
  induction m with
  | zero => rfl
  | succ m ih => show cnt f (n + m) + (f (n + m)).toNat = cnt f n + (cnt (fun i => f (n + i)) m + (f (n + m)).toNat); rw [ih]; omega
theorem cnt_false {f : Nat → Bool} : ∀ n, (∀ i, i < n → f i = false) → cnt f n = 0
  | 0, _ => rfl
  | n + 1, h => by
    show cnt f n + (f n).toNat = 0
    rw [cnt_false n (fun i hi => h i (Nat.lt_succ_of_lt hi)), h n (Nat.lt_succ_self n)]
    rfl
/-- one fewer -/
theorem cnt_clear (f : Nat → Bool) (k : Nat) : ∀ n, k < n → f k = true → cnt (fun j => f j && !(decide (j = k))) n + 1 = cnt f n
  | 0, h, _ => by omega
  | n + 1, h, hk => by
    show cnt (fun j => f j && !(decide (j = k))) n + (f n && !(decide (n = k))).toNat + 1 = cnt f n + (f n).toNat
    by_cases e : n = k
    · subst e
      rw [hk, cnt_congr (f := fun j => f j && !(decide (j = n))) (g := f) n (fun i hi => by simp [Nat.ne_of_lt hi])]
      simp
    · have := cnt_clear f k n (by omega) hk
      simp [e]
      omega
