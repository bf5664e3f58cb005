/-! ===== pure rows: the best laying, by the class ===== -/
noncomputable def cdec (p : Prop) : Bool := @decide p (Classical.propDecidable p)
theorem cdec_t {p : Prop} (h : p) : cdec p = true := by unfold cdec; exact @decide_eq_true p (Classical.propDecidable p) h
theorem cdec_f {p : Prop} (h : ¬ p) : cdec p = false := by unfold cdec; exact @decide_eq_false p (Classical.propDecidable p) h
theorem cdec_of {p : Prop} (h : cdec p = true) : p := by
  by_cases g : p
  · exact g
  · rw [cdec_f g] at h; cases h
theorem cdec_eq {p q : Prop} (h : p ↔ q) : cdec p = cdec q := by
  by_cases g : p
  · rw [cdec_t g, cdec_t (h.mp g)]
  · rw [cdec_f g, cdec_f (fun z => g (h.mpr z))]
def anyB (M : Nat → Nat → Bool) : Nat → Nat → Bool
  | 0, _ => false
  | k + 1, j => anyB M k j || M k j
theorem anyB_t {M : Nat → Nat → Bool} {i j : Nat} : ∀ k, i < k → M i j = true → anyB M k j = true
  | 0, h, _ => by omega
  | k + 1, h, hm => by
    show (anyB M k j || M k j) = true
    by_cases e : i = k
    · rw [← e, hm, Bool.or_true]
    · rw [anyB_t k (by omega) hm]; rfl
theorem bound_c {M : Nat → Nat → Bool} {n : Nat} {σ : zc_N} (hn : n ≤ 12) (hM : cM M n σ) (hsz : σ 16 1 = nI n) (hMn : ∀ i j, M i j = true → i < n) : pX5_bound σ ∧ ∃ bd, bd ≤ 12 ∧ rX5_bound σ = nI bd ∧ mst M 0 n (fun _ => true) ≤ bd := by
  have key := zfor_inv (fun i (x : Int32 × Int32) => x.1 = nI (cnt (fun p => decide (msk (M p) ≠ 0)) i) ∧ x.2 = nI (msk (anyB M i))) (fX5_bound_6 σ) n (0, 0) ⟨rfl, msk_f (fun _ _ => rfl)⟩ (fun i hi x hx => by
    obtain ⟨h1, h2⟩ := hx
    unfold fX5_bound_6
    rw [cl_n (by omega), hM i hi, h1, h2, or_n, msk_or]
    refine ⟨?_, rfl⟩
    show _ = nI (cnt _ i + (decide (msk (M i) ≠ 0)).toNat)
    by_cases e : msk (M i) = 0
    · rw [e, if_pos (show nI 0 = 0 from rfl), decide_eq_false (show ¬ (0 : Nat) ≠ 0 by simp)]
      exact Int32.add_zero _
    · rw [if_neg (nI_ne0 (by omega) (Nat.lt_of_lt_of_le (msk_lt _) (by decide))), decide_eq_true e, nI_1]
      rfl)
  obtain ⟨k1, k2⟩ := key n (Nat.le_refl _)
  have b := mst_bound M n hn (fun _ => true) (fun p => decide (msk (M p) ≠ 0)) (anyB M n) (fun i hi ⟨j, hj, hm⟩ => by
    refine decide_eq_true (fun h => ?_)
    rw [(msk_0 _).mp h j hj] at hm
    cases hm) (fun i j hj hm => anyB_t n (hMn i j hm) hm)
  have c1 := cnt_le (fun p => decide (msk (M p) ≠ 0)) n
  have c2 := cnt_le (anyB M n) 12
  unfold pX5_bound rX5_bound
  rw [hsz, cl_n (by omega)]
  refine ⟨⟨lc_n (by omega), fun i hi => ⟨vp_in_nI (by omega) (by decide), vp_in_nI (by omega) (by decide)⟩⟩, ?_⟩
  rw [k1, k2, bc12 (msk_lt _), pcn_tb]
  have e : cnt (fun i => (msk (anyB M n)).testBit i) 12 = cnt (anyB M n) 12 := cnt_congr 12 (fun i hi => by rw [msk_bit]; simp [hi])
  rw [e]
  by_cases c : cnt (anyB M n) 12 < cnt (fun p => decide (msk (M p) ≠ 0)) n
  · rw [if_pos (nI_lt c (by omega))]
    exact ⟨_, c2, rfl, b.2⟩
  · rw [if_neg (nI_nlt (by omega) (by omega))]
    exact ⟨_, by omega, rfl, b.1⟩
theorem sw_mono {s p p' : Nat} (h : p ≤ p') : sw s p ≤ sw s p' := by unfold sw bw; omega
theorem sw_b {s p : Nat} (hs : s ≤ 24) (hp : p ≤ 12) : -72 ≤ sw s p ∧ sw s p ≤ 120 := by unfold sw bw; omega
def mk31 (f : Nat → Bool) : Nat := rowN (fun c => f (30 - c)) 31
theorem mk31_lt (f : Nat → Bool) : mk31 f < 2 ^ 31 := rowN_lt _ 31
theorem mk31_bit (f : Nat → Bool) (j : Nat) : (mk31 f).testBit j = (decide (j < 31) && f j) := by
  unfold mk31
  rw [rowN_bit]
  by_cases h : j < 31
  · rw [show 30 - (31 - 1 - j) = j by omega]
  · simp [h]
theorem mk31_of {n : Nat} {f : Nat → Bool} (h : ∀ j, n.testBit j = (decide (j < 31) && f j)) : n = mk31 f := by
  apply Nat.eq_of_testBit_eq
  intro j
  rw [h, mk31_bit]
theorem mk31_congr {f g : Nat → Bool} (h : ∀ j, j < 31 → f j = g j) : mk31 f = mk31 g := mk31_of (fun j => by
  rw [mk31_bit]
  by_cases c : j < 31
  · rw [h j c]
  · simp [c])
theorem mk31_0 {f : Nat → Bool} (h : ∀ j, j < 31 → f j = false) : (0 : Int32) = nI (mk31 f) := by
  have : mk31 f = 0 := (mk31_of (fun j => by
    rw [Nat.zero_testBit]
    by_cases c : j < 31
    · rw [h j c]; simp
    · simp [c])).symm
  rw [this]; rfl
theorem mk31_sh {f : Nat → Bool} {t : Nat} (ht : t < 31) : (zshr (nI (mk31 f)) (nI t) = 0) ↔ ∀ j, t ≤ j → j < 31 → f j = false := by
  have hlt := mk31_lt f
  have hd : mk31 f / 2 ^ t < 2 ^ 31 := Nat.lt_of_le_of_lt (Nat.div_le_self _ _) hlt
  rw [zshr_n hlt (by omega), ← nI_0, nI_eq hd (by decide)]
  constructor
  · intro h j h1 h2
    have e : (mk31 f / 2 ^ t).testBit (j - t) = (mk31 f).testBit j := by rw [Nat.testBit_div_two_pow, show j - t + t = j by omega]
    rw [h, Nat.zero_testBit, mk31_bit] at e
    simpa [h2] using e.symm
  · intro h
    apply Nat.eq_of_testBit_eq
    intro i
    rw [Nat.testBit_div_two_pow, mk31_bit, Nat.zero_testBit]
    by_cases c : i + t < 31
    · rw [h (i + t) (by omega) c]; simp
    · simp [c]
/-- point i of a comes just on point j of b -/
def on_ (A : gA) (a b q i j row col : Nat) : Prop := i < aN A a ∧ j < aN A b ∧ aK A a i = aK A b j ∧ aX A b j + 15 = col + tX q (aX A a i) (aY A a i) ∧ aY A b j + 15 = row + tY q (aX A a i) (aY A a i)
theorem lix : ∀ y, y < 16 → ∀ t, t < 16 → ((nI y - nI t) + 16) - 1 = nI (y + 15 - t) := by decide +kernel
theorem marks_c {P : zp} {A : gA} {σ : zc_N} {a b q : Nat} (hca : pC P A σ a) (hcb : pC P A σ b) (hva : pV A a) (hvb : pV A b) (ht : turned A a q σ) : pX4_markLandings P σ a b ∧ (∀ row, row < 31 → sX4_markLandings P σ a b 22 row = nI (mk31 (fun col => cdec (∃ i j, on_ A a b q i j row col)))) ∧ off [22] σ (sX4_markLandings P σ a b) := by
  have hNa := hva.1
  have hNb := hvb.1
  have sa := sz_c hca hva
  have sb := sz_c hcb hvb
  obtain ⟨f1, f2, f3⟩ := fill22 σ 0
  have stp : ∀ i, i < aN A a → ∀ j, j < aN A b → ∀ τ : zc_N, off [22] σ τ → (∀ row, row < 31 → τ 22 row = nI (mk31 (fun col => cdec (∃ i' j', (i' < i ∨ (i' = i ∧ j' < j)) ∧ on_ A a b q i' j' row col)))) → ((∀ row, row < 31 → (fX4_markLandings_21 a b (nI i) j τ) 22 row = nI (mk31 (fun col => cdec (∃ i' j', (i' < i ∨ (i' = i ∧ j' < j + 1)) ∧ on_ A a b q i' j' row col)))) ∧ off [22] σ (fX4_markLandings_21 a b (nI i) j τ) ∧ qX4_markLandings_21 P a b (nI i) j τ) := by
    intro i hi j hj τ ho h22
    have va := hva.2.1 i hi
    have vb := hvb.2.1 j hj
    have tl := t_lt (q := q) va.1 va.2.1
    have ca := rd_c (pC_off hca ho (by decide)) hva hi
    have cb := rd_c (pC_off hcb ho (by decide)) hvb hj
    have v12 : vp_in (nI i) 12 := vp_in_nI (by omega) (by decide)
    unfold fX4_markLandings_21 qX4_markLandings_21
    rw [ca.2.2.1, cb.1, cb.2.1, cb.2.2.1, cl_n (a := i) (by omega), ho 19 (by decide), ho 20 (by decide), (ht.1 i hi).1, (ht.1 i hi).2, lix _ vb.2.1 _ tl.2, lix _ vb.1 _ tl.1]
    have v31 : vp_in (nI (aY A b j + 15 - tY q (aX A a i) (aY A a i))) 31 := vp_in_nI (by omega) (by decide)
    refine ⟨?_, ?_, ca.2.2.2, cb.2.2.2, fun _ => ⟨cb.2.2.2, v12, cb.2.2.2, v12, v31, v31⟩, fun _ => trivial⟩
    · intro row hrow
      by_cases ek : aK A a i = aK A b j
      · rw [if_pos (by rw [ek]), zu_self, cl_n (by omega)]
        by_cases er : row = aY A b j + 15 - tY q (aX A a i) (aY A a i)
        · rw [er, zu_self, h22 _ (by omega), bitn_n (by omega), or_n]
          congr 1
          refine mk31_of (fun c => ?_)
          rw [Nat.testBit_or, mk31_bit, tb_pow]
          by_cases hc : c < 31
          · rw [decide_eq_true hc, Bool.true_and, Bool.true_and]
            by_cases ec : aX A b j + 15 - tX q (aX A a i) (aY A a i) = c
            · rw [decide_eq_true ec, Bool.or_true]
              exact (cdec_t ⟨i, j, Or.inr ⟨rfl, by omega⟩, hi, hj, ek, by omega, by omega⟩).symm
            · rw [decide_eq_false ec, Bool.or_false]
              refine cdec_eq ⟨fun ⟨i', j', h1, h2⟩ => ⟨i', j', by omega, h2⟩, fun ⟨i', j', h1, h2⟩ => ⟨i', j', ?_, h2⟩⟩
              by_cases e2 : i' = i ∧ j' = j
              · obtain ⟨e3, e4⟩ := e2
                rw [e3, e4] at h2
                have := h2.2.2.2.1
                omega
              · omega
          · have : ¬ aX A b j + 15 - tX q (aX A a i) (aY A a i) = c := by omega
            simp [hc, this]
        · rw [zu_ne _ _ er, h22 row hrow]
          congr 1
          refine mk31_congr (fun c hc => cdec_eq ⟨fun ⟨i', j', h1, h2⟩ => ⟨i', j', by omega, h2⟩, fun ⟨i', j', h1, h2⟩ => ⟨i', j', ?_, h2⟩⟩)
          by_cases e2 : i' = i ∧ j' = j
          · obtain ⟨e3, e4⟩ := e2
            rw [e3, e4] at h2
            have := h2.2.2.2.2
            omega
          · omega
      · rw [if_neg (fun z => ek ((nI_eq (by omega) (by omega)).mp z)), h22 row hrow]
        congr 1
        refine mk31_congr (fun c hc => cdec_eq ⟨fun ⟨i', j', h1, h2⟩ => ⟨i', j', by omega, h2⟩, fun ⟨i', j', h1, h2⟩ => ⟨i', j', ?_, h2⟩⟩)
        by_cases e2 : i' = i ∧ j' = j
        · obtain ⟨e3, e4⟩ := e2
          rw [e3, e4] at h2
          exact absurd h2.2.2.1 ek
        · omega
    · split
      · exact off_zu ho (by simp) _
      · exact ho
  have inner : ∀ i, i < aN A a → ∀ τ : zc_N, off [22] σ τ → (∀ row, row < 31 → τ 22 row = nI (mk31 (fun col => cdec (∃ i' j', i' < i ∧ on_ A a b q i' j' row col)))) → ∀ k, k ≤ aN A b → ((∀ row, row < 31 → (zfor (fX4_markLandings_21 a b (nI i)) k τ) 22 row = nI (mk31 (fun col => cdec (∃ i' j', (i' < i ∨ (i' = i ∧ j' < k)) ∧ on_ A a b q i' j' row col)))) ∧ off [22] σ (zfor (fX4_markLandings_21 a b (nI i)) k τ)) := by
    intro i hi τ ho h22
    refine zfor_inv (fun k (υ : zc_N) => (∀ row, row < 31 → υ 22 row = nI (mk31 (fun col => cdec (∃ i' j', (i' < i ∨ (i' = i ∧ j' < k)) ∧ on_ A a b q i' j' row col)))) ∧ off [22] σ υ) (fX4_markLandings_21 a b (nI i)) (aN A b) τ ⟨fun row hrow => ?_, ho⟩ (fun j hj υ hu => ⟨(stp i hi j hj υ hu.2 hu.1).1, (stp i hi j hj υ hu.2 hu.1).2.1⟩)
    rw [h22 row hrow]
    congr 1
    exact mk31_congr (fun c hc => cdec_eq ⟨fun ⟨i', j', h1, h2⟩ => ⟨i', j', by omega, h2⟩, fun ⟨i', j', h1, h2⟩ => ⟨i', j', by omega, h2⟩⟩)
  have key := zfor_inv (fun i (τ : zc_N) => (∀ row, row < 31 → τ 22 row = nI (mk31 (fun col => cdec (∃ i' j', i' < i ∧ on_ A a b q i' j' row col)))) ∧ off [22] σ τ) (fX4_markLandings_10 P a b) (aN A a) (sJ7_fill_53178_22 σ 0) ⟨fun row hrow => by rw [f2 row hrow]; exact mk31_0 (fun j _ => cdec_f (fun ⟨i', j', h1, _⟩ => by omega)), f3⟩ (fun i hi τ h => by
    have := inner i hi τ h.2 h.1 (aN A b) (Nat.le_refl _)
    unfold fX4_markLandings_10
    rw [sb.2.1]
    refine ⟨fun row hrow => ?_, this.2⟩
    rw [this.1 row hrow]
    congr 1
    refine mk31_congr (fun c hc => cdec_eq ⟨fun ⟨i', j', h1, h2⟩ => ⟨i', j', by omega, h2⟩, fun ⟨i', j', h1, h2⟩ => ⟨i', j', ?_, h2⟩⟩)
    have := h2.2.1
    omega)
  unfold pX4_markLandings sX4_markLandings vX4_markLandings_1
  rw [sa.2.1]
  refine ⟨⟨f1, sa.2.2, fun i hi => ?_⟩, fun row hrow => ?_, (key (aN A a) (Nat.le_refl _)).2⟩
  · unfold qX4_markLandings_10
    rw [sb.2.1]
    refine ⟨sb.2.2, fun j hj => ?_⟩
    have k1 := key i (by omega)
    have k2 := inner i hi _ k1.2 k1.1 j (by omega)
    exact (stp i hi j hj _ k2.2 k2.1).2.2
  · rw [(key (aN A a) (Nat.le_refl _)).1 row hrow]
    congr 1
    exact mk31_congr (fun c hc => cdec_eq ⟨fun ⟨i', j', h1, h2⟩ => ⟨i', j', h2⟩, fun ⟨i', j', h2⟩ => ⟨i', j', h2.1, h2⟩⟩)
/-! the first best of all -/
noncomputable def Lk (A : gA) (a b : Nat) (k : Nat) : Bool := cdec (∃ i j, on_ A a b (k / 961) i j (k / 31 % 31) (k % 31))
def Sk (A : gA) (r a b : Nat) (k : Nat) : Int := SC A r a b (k / 961) ((k % 31 : Nat) - 15) ((k / 31 % 31 : Nat) - 15)
def bstf (L : Nat → Bool) (S : Nat → Int) (k : Nat) (x : Nat) : Nat := if L k then (if x < 3844 then (if S x < S k then k else x) else k) else x
def bst (L : Nat → Bool) (S : Nat → Int) (n : Nat) : Nat := zfor (bstf L S) n 9999
theorem bst_s (L : Nat → Bool) (S : Nat → Int) : ∀ n, n ≤ 3844 → ((bst L S n = 9999 ∧ ∀ k, k < n → L k = false) ∨ (bst L S n < n ∧ L (bst L S n) = true ∧ ∀ k, k < n → L k = true → (S k < S (bst L S n) ∨ (S k = S (bst L S n) ∧ bst L S n ≤ k)))) := by
  refine zfor_inv (fun n x => (x = 9999 ∧ ∀ k, k < n → L k = false) ∨ (x < n ∧ L x = true ∧ ∀ k, k < n → L k = true → (S k < S x ∨ (S k = S x ∧ x ≤ k)))) (bstf L S) 3844 9999 (Or.inl ⟨rfl, fun k hk => absurd hk (by omega)⟩) (fun n hn x hx => ?_)
  unfold bstf
  cases hL : L n with
  | false =>
    rw [if_neg (by simp)]
    rcases hx with ⟨h1, h2⟩ | ⟨h1, h2, h3⟩
    · refine Or.inl ⟨h1, fun k hk => ?_⟩
      by_cases e : k = n
      · rw [e]; exact hL
      · exact h2 k (by omega)
    · refine Or.inr ⟨by omega, h2, fun k hk hk2 => ?_⟩
      by_cases e : k = n
      · rw [e, hL] at hk2; cases hk2
      · exact h3 k (by omega) hk2
  | true =>
    rw [if_pos rfl]
    rcases hx with ⟨h1, h2⟩ | ⟨h1, h2, h3⟩
    · rw [if_neg (by omega)]
      refine Or.inr ⟨by omega, hL, fun k hk hk2 => ?_⟩
      by_cases e : k = n
      · rw [e]; exact Or.inr ⟨rfl, Nat.le_refl _⟩
      · rw [h2 k (by omega)] at hk2; cases hk2
    · rw [if_pos (by omega)]
      by_cases c : S x < S n
      · rw [if_pos c]
        refine Or.inr ⟨by omega, hL, fun k hk hk2 => ?_⟩
        by_cases e : k = n
        · rw [e]; exact Or.inr ⟨rfl, Nat.le_refl _⟩
        · rcases h3 k (by omega) hk2 with h | h
          · exact Or.inl (by omega)
          · exact Or.inl (by omega)
      · rw [if_neg c]
        refine Or.inr ⟨by omega, h2, fun k hk hk2 => ?_⟩
        by_cases e : k = n
        · rw [e]
          by_cases c2 : S n = S x
          · exact Or.inr ⟨c2, by omega⟩
          · exact Or.inl (by omega)
        · exact h3 k (by omega) hk2
def bI (S : Nat → Int) (x : Nat) : Int32 := if x < 3844 then zI ((S x + 1000) * 3844 + x) else 1
def gI (S : Nat → Int) (x : Nat) : Int32 := if x < 3844 then zI (S x) else -1000
