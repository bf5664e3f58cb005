/-! ===== pure rows: the search of the class ===== -/
/-- bits as one number, the first lowest -/
def msk (f : Nat → Bool) : Nat := rowN (fun c => f (11 - c)) 12
theorem msk_lt (f : Nat → Bool) : msk f < 4096 := rowN_lt _ 12
theorem msk_bit (f : Nat → Bool) (j : Nat) : (msk f).testBit j = (decide (j < 12) && f j) := by
  unfold msk
  rw [rowN_bit]
  by_cases h : j < 12
  · rw [show 11 - (12 - 1 - j) = j by omega]
  · simp [h]
theorem msk_of {n : Nat} {f : Nat → Bool} (h : ∀ j, n.testBit j = (decide (j < 12) && f j)) : n = msk f := by
  apply Nat.eq_of_testBit_eq
  intro j
  rw [h, msk_bit]
theorem msk_and (f g : Nat → Bool) : msk f &&& msk g = msk (fun j => f j && g j) := msk_of (fun j => by
  rw [Nat.testBit_and, msk_bit, msk_bit]
  cases decide (j < 12) <;> simp)
theorem msk_or (f g : Nat → Bool) : msk f ||| msk g = msk (fun j => f j || g j) := msk_of (fun j => by
  rw [Nat.testBit_or, msk_bit, msk_bit]
  cases decide (j < 12) <;> simp)
theorem msk_cut (f : Nat → Bool) (k : Nat) : clr (msk f) k = msk (cut f k) := msk_of (fun j => by
  rw [clr_bit (Nat.lt_of_lt_of_le (msk_lt f) (by decide)), msk_bit]
  unfold cut
  rw [Bool.and_assoc])
theorem msk_congr {f g : Nat → Bool} (h : ∀ j, j < 12 → f j = g j) : msk f = msk g := msk_of (fun j => by
  rw [msk_bit]
  by_cases c : j < 12
  · rw [h j c]
  · simp [c])
theorem msk_0 (f : Nat → Bool) : msk f = 0 ↔ ∀ j, j < 12 → f j = false := by
  constructor
  · intro h j hj
    have := msk_bit f j
    rw [h, Nat.zero_testBit] at this
    simpa [hj] using this.symm
  · intro h
    have : msk f = msk (fun _ => false) := msk_congr h
    rw [this]
    decide
def lw : Nat → Nat → Nat
  | 0, _ => 0
  | k + 1, n => if n % 2 = 1 then 0 else 1 + lw k (n / 2)
set_option maxRecDepth 100000 in
theorem lw_n1 : ∀ a, a < 64 → ∀ b, b < 64 → rJ6_bitCount_0f7a4 ((nI (64 * a + b) &&& (-(nI (64 * a + b)))) - 1) = if 64 * a + b = 0 then rJ6_bitCount_0f7a4 (-1) else nI (lw 12 (64 * a + b)) := by decide +kernel
theorem lw_n {o : Nat} (ho : o < 4096) (h0 : o ≠ 0) : rJ6_bitCount_0f7a4 ((nI o &&& (-(nI o))) - 1) = nI (lw 12 o) := by
  have := lw_n1 (o / 64) (by omega) (o % 64) (by omega)
  rw [Nat.div_add_mod, if_neg h0] at this
  exact this
theorem lw_s : ∀ (k n : Nat), n ≠ 0 → n < 2 ^ k → lw k n < k ∧ n.testBit (lw k n) = true ∧ ∀ j, j < lw k n → n.testBit j = false
  | 0, n, h, h2 => absurd h2 (by omega)
  | k + 1, n, h, h2 => by
    have e : lw (k + 1) n = if n % 2 = 1 then 0 else 1 + lw k (n / 2) := rfl
    by_cases c : n % 2 = 1
    · rw [e, if_pos c]
      refine ⟨by omega, ?_, fun j hj => absurd hj (by omega)⟩
      rw [Nat.testBit_zero]
      simp [c]
    · rw [Nat.pow_succ] at h2
      obtain ⟨i1, i2, i3⟩ := lw_s k (n / 2) (by omega) (by omega)
      rw [e, if_neg c]
      refine ⟨by omega, ?_, fun j hj => ?_⟩
      · rw [Nat.add_comm, Nat.testBit_succ]; exact i2
      · cases j with
        | zero => rw [Nat.testBit_zero]; simp [c]
        | succ j => rw [Nat.testBit_succ]; exact i3 j (by omega)
def cM (M : Nat → Nat → Bool) (n : Nat) (σ : zc_N) : Prop := ∀ i, i < n → σ 17 i = nI (msk (M i))
def cS (σ : zc_N) (s : sS) : Prop := σ 16 3 = nI (msk s.1) ∧ ∀ j, j < 12 → σ 18 j = hI (s.2 j)
def k16 (σ τ : zc_N) : Prop := off [16, 18] σ τ ∧ ∀ q, q ≠ 3 → τ 16 q = σ 16 q
theorem k16_rf (σ : zc_N) : k16 σ σ := ⟨off_rf _ _, fun _ _ => rfl⟩
theorem k16_tr {σ τ υ : zc_N} (h1 : k16 σ τ) (h2 : k16 τ υ) : k16 σ υ := ⟨off_tr h1.1 h2.1, fun q hq => (h2.2 q hq).trans (h1.2 q hq)⟩
theorem k16_16 {σ τ : zc_N} (h : k16 σ τ) (v : Int32) : k16 σ (zu τ 16 (zu (τ 16) 3 v)) := ⟨off_zu h.1 (by simp) _, fun q hq => by rw [zu_self, zu_ne _ _ hq]; exact h.2 q hq⟩
theorem k16_18 {σ τ : zc_N} (h : k16 σ τ) (v : Nat → Int32) : k16 σ (zu τ 18 v) := ⟨off_zu h.1 (by simp) _, fun q hq => by rw [zu_ne _ _ (by decide)]; exact h.2 q hq⟩
theorem eFc (R : zc_N → Int32 → Int32 → Int32) (l1 l2 : Int32) (a : Int32 × zc_N) : eX5_finds_10 R l1 l2 a ↔ 12 ≤ a.1 ∨ (a.2 17 l1.toNatClampNeg &&& a.2 16 3) = 0 ∨ a.2 18 (vX5_finds_1 l1 a.2).toNatClampNeg = -1 ∨ ¬ R (zu a.2 16 (zu (a.2 16) 3 (((a.2 16) 3) &&& ((zshl (1 : Int32) (vX5_finds_1 l1 a.2)) ^^^ (-1 : Int32))))) (a.2 18 (vX5_finds_1 l1 a.2).toNatClampNeg) (l2 + 1) = 0 := by
  unfold eX5_finds_10
  simp only [and_true, and_false, or_false, false_or]
  by_cases c1 : 12 ≤ a.1
  · simp [c1]
  · by_cases c2 : (a.2 17 l1.toNatClampNeg &&& a.2 16 3) = 0
    · simp [c1, c2]
    · by_cases c3 : a.2 18 (vX5_finds_1 l1 a.2).toNatClampNeg = -1
      · simp [c1, c2, c3]
      · simp [c1, c2, c3]
theorem fd_c {M : Nat → Nat → Bool} {n : Nat} (hn : n ≤ 12) : ∀ (k i dd : Nat) (τ : zc_N) (s : sS), i < n → cnt s.1 12 < k → cnt s.1 12 + dd ≤ 12 → sN n s → cM M n τ → cS τ s →
    ((zFc k).2.2 τ (nI i) (nI dd) ∧ (zFc k).1 τ (nI i) (nI dd) = b2 (fd M k i s).1 ∧ cS ((zFc k).2.1 τ (nI i) (nI dd)) (fd M k i s).2 ∧ k16 τ ((zFc k).2.1 τ (nI i) (nI dd)))
  | 0, i, dd, τ, s, _, h, _, _, _, _ => absurd h (by omega)
  | k + 1, i, dd, τ, s, hi, hcnt, hdd, hsn, hM, hS => by
    have ih := fd_c (M := M) hn k
    have okp := fd_okp M k (fd_ok M k) i s (by omega)
    have hnp := fd_np M n k (fd_n M n k) i s hi hsn
    generalize hX : (fun m => zfor (lpf M i (fd M k)) m (false, s)) = X
    have hXn : ∀ m, zfor (lpf M i (fd M k)) m (false, s) = X m := fun m => by rw [← hX]
    have hX1 : ∀ m, X (m + 1) = lpf M i (fd M k) m (X m) := fun m => by rw [← hXn, ← hXn]; rfl
    have hfd : fd M (k + 1) i s = X 12 := by rw [← hXn]; rfl
    have okX : ∀ m, m ≤ 12 → fdok M i s (X m) := fun m hm => by rw [← hXn]; exact okp m hm
    have hX0 : X 0 = (false, s) := by rw [← hXn]; rfl
    have hXs : ∀ m, sN n (X m).2 := fun m => by rw [← hXn]; exact hnp m
    have stay : ∀ a b, a ≤ b → ((X a).1 = true ∨ ∀ j, a ≤ j → j < b → (M i j && (X a).2.1 j) = false) → X b = X a := fun a b hab h => by
      rw [← hXn b]
      exact lpf_stay (X a) (hXn a) b hab h
    show pX5_finds τ (zFc k).1 (zFc k).2.1 (zFc k).2.2 (nI i) (nI dd) ∧ rX5_finds τ (zFc k).1 (zFc k).2.1 (nI i) (nI dd) = b2 (fd M (k + 1) i s).1 ∧ cS (sX5_finds τ (zFc k).1 (zFc k).2.1 (nI i) (nI dd)) (fd M (k + 1) i s).2 ∧ k16 τ (sX5_finds τ (zFc k).1 (zFc k).2.1 (nI i) (nI dd))
    rw [hfd]
    by_cases hd12 : 12 ≤ dd
    · have h12 : ¬ nI dd < (12 : Int32) := by rw [show (12 : Int32) = nI 12 from rfl]; exact nI_nlt hd12 (by omega)
      have e12 : X 12 = (false, s) := by
        rw [← hX0]
        refine stay 0 12 (by omega) (Or.inr (fun j _ hj => ?_))
        rw [hX0]
        have : s.1 j = false := by
          cases hs : s.1 j
          · rfl
          · have := cnt_clear s.1 j 12 hj hs
            omega
        rw [this, Bool.and_false]
      unfold pX5_finds rX5_finds sX5_finds
      rw [if_neg h12, if_neg h12, e12]
      exact ⟨⟨fun h => absurd h h12, fun _ => trivial⟩, rfl, hS, k16_rf _⟩
    · have h12 : nI dd < (12 : Int32) := by rw [show (12 : Int32) = nI 12 from rfl]; exact nI_lt (by omega) (by omega)
      have hic : (nI i).toNatClampNeg = i := nI_clamp (by omega)
      -- facts of one state
      have op : ∀ (J : Nat) (υ : zc_N), k16 τ υ → cS υ (X J).2 → (υ 17 (nI i).toNatClampNeg &&& υ 16 3) = nI (msk (fun j => M i j && (X J).2.1 j)) := by
        intro J υ hk hc
        rw [hic, hk.1 17 (by decide), hM i hi, hc.1, and_n, msk_and]
      have op0 : ∀ (J : Nat) (υ : zc_N), k16 τ υ → cS υ (X J).2 → ((υ 17 (nI i).toNatClampNeg &&& υ 16 3) = 0 ↔ ∀ j, j < 12 → (M i j && (X J).2.1 j) = false) := by
        intro J υ hk hc
        rw [op J υ hk hc, ← nI_0, nI_eq (Nat.lt_of_lt_of_le (msk_lt _) (by decide)) (by decide), msk_0]
      have nxt : ∀ (J : Nat) (υ : zc_N), J ≤ 12 → k16 τ υ → cS υ (X J).2 → (∀ j, j < J → (M i j && (X J).2.1 j) = false) → ¬ (υ 17 (nI i).toNatClampNeg &&& υ 16 3) = 0 →
          ∃ c, J ≤ c ∧ c < 12 ∧ X c = X J ∧ (M i c && (X c).2.1 c) = true ∧ (∀ j, j < c → (M i j && (X c).2.1 j) = false) ∧ vX5_finds_1 (nI i) υ = nI c := by
        intro J υ hJ hk hc hsh hne
        have ho := op J υ hk hc
        have hne2 : msk (fun j => M i j && (X J).2.1 j) ≠ 0 := fun e => hne (by rw [ho, e]; rfl)
        obtain ⟨l1, l2, l3⟩ := lw_s 12 _ hne2 (msk_lt _)
        have e1 : vX5_finds_1 (nI i) υ = nI (lw 12 (msk (fun j => M i j && (X J).2.1 j))) := by
          unfold vX5_finds_1
          rw [ho]
          exact lw_n (msk_lt _) hne2
        generalize lw 12 (msk (fun j => M i j && (X J).2.1 j)) = c at l1 l2 l3 e1
        rw [msk_bit] at l2
        have l2' : (M i c && (X J).2.1 c) = true := by simpa [l1] using l2
        have l3' : ∀ j, j < c → (M i j && (X J).2.1 j) = false := fun j hj => by
          have := l3 j hj
          rw [msk_bit] at this
          simpa [show j < 12 by omega] using this
        have hJc : J ≤ c := by
          by_cases h : J ≤ c
          · exact h
          · rw [hsh c (by omega)] at l2'; cases l2'
        have eX : X c = X J := stay J c hJc (Or.inr (fun j h1 h2 => l3' j h2))
        refine ⟨c, hJc, l1, eX, by rw [eX]; exact l2', by rw [eX]; exact l3', e1⟩
      have try_ : ∀ (c : Nat) (υ : zc_N), c < 12 → k16 τ υ → cS υ (X c).2 → (M i c && (X c).2.1 c) = true → (X c).2.2 c < 12 → vX5_finds_1 (nI i) υ = nI c →
          ((zFc k).2.2 (zu υ 16 (zu (υ 16) 3 (((υ 16) 3) &&& ((zshl (1 : Int32) (vX5_finds_1 (nI i) υ)) ^^^ (-1 : Int32))))) (υ 18 (vX5_finds_1 (nI i) υ).toNatClampNeg) (nI dd + 1) ∧
           (zFc k).1 (zu υ 16 (zu (υ 16) 3 (((υ 16) 3) &&& ((zshl (1 : Int32) (vX5_finds_1 (nI i) υ)) ^^^ (-1 : Int32))))) (υ 18 (vX5_finds_1 (nI i) υ).toNatClampNeg) (nI dd + 1) = b2 (fd M k ((X c).2.2 c) (cut (X c).2.1 c, (X c).2.2)).1 ∧
           cS ((zFc k).2.1 (zu υ 16 (zu (υ 16) 3 (((υ 16) 3) &&& ((zshl (1 : Int32) (vX5_finds_1 (nI i) υ)) ^^^ (-1 : Int32))))) (υ 18 (vX5_finds_1 (nI i) υ).toNatClampNeg) (nI dd + 1)) (fd M k ((X c).2.2 c) (cut (X c).2.1 c, (X c).2.2)).2 ∧
           k16 τ ((zFc k).2.1 (zu υ 16 (zu (υ 16) 3 (((υ 16) 3) &&& ((zshl (1 : Int32) (vX5_finds_1 (nI i) υ)) ^^^ (-1 : Int32))))) (υ 18 (vX5_finds_1 (nI i) υ).toNatClampNeg) (nI dd + 1))) := by
        intro c υ hc12 hk hc ho hh e1
        have hu : (X c).2.1 c = true := ((Bool.and_eq_true _ _).mp ho).2
        have c1 : cnt (cut (X c).2.1 c) 12 + 1 = cnt (X c).2.1 12 := cnt_clear (X c).2.1 c 12 hc12 hu
        have c2 : cnt (X c).2.1 12 ≤ cnt s.1 12 := cnt_sub 12 (fun q _ hq => (okX c (by omega)).1 q hq)
        rw [e1, nI_clamp (by omega), hc.1, clr_n (by omega), msk_cut, hc.2 c hc12, hI_lt hh, nI_1]
        have := ih ((X c).2.2 c) (dd + 1) (zu υ 16 (zu (υ 16) 3 (nI (msk (cut (X c).2.1 c))))) (cut (X c).2.1 c, (X c).2.2) (hXs c c hh) (by show cnt (cut (X c).2.1 c) 12 < k; omega) (by show cnt (cut (X c).2.1 c) 12 + (dd + 1) ≤ 12; omega) (hXs c) (fun a ha => by rw [zu_ne _ _ (by decide), hk.1 17 (by decide)]; exact hM a ha) ⟨by rw [zu_self, zu_self], fun j hj => by rw [zu_ne _ _ (by decide)]; exact hc.2 j hj⟩
        obtain ⟨t1, t2, t3, t4⟩ := this
        exact ⟨t1, t2, t3, k16_tr (k16_16 hk _) t4⟩
      have ha1 : ∀ t, (zit (fX5_finds_10 (zFc k).2.1 (nI i) (nI dd)) t ((0 : Int32), τ)).1 = nI t := zit_inv (fun t (a : Int32 × zc_N) => a.1 = nI t) _ _ rfl (fun t a h => by show a.1 + 1 = _; rw [h, nI_1])
      have hex : ∃ t, eX5_finds_10 (zFc k).1 (nI i) (nI dd) (zit (fX5_finds_10 (zFc k).2.1 (nI i) (nI dd)) t ((0 : Int32), τ)) := ⟨12, (eFc _ _ _ _).mpr (Or.inl (by rw [ha1]; decide))⟩
      obtain ⟨hE1, hE2⟩ := zwn_spec hex
      generalize hN : zwn (fun n_ => eX5_finds_10 (zFc k).1 (nI i) (nI dd) (zit (fX5_finds_10 (zFc k).2.1 (nI i) (nI dd)) n_ ((0 : Int32), τ))) = N at hE1 hE2
      have hN12 : N ≤ 12 := by
        by_cases h : N ≤ 12
        · exact h
        · exact absurd ((eFc _ _ _ _).mpr (Or.inl (by rw [ha1]; decide))) (hE2 12 (by omega))
      have key : ∀ t, t ≤ N → ∃ J, t ≤ J ∧ J ≤ 12 ∧ (X J).1 = false ∧ cS (zit (fX5_finds_10 (zFc k).2.1 (nI i) (nI dd)) t ((0 : Int32), τ)).2 (X J).2 ∧ k16 τ (zit (fX5_finds_10 (zFc k).2.1 (nI i) (nI dd)) t ((0 : Int32), τ)).2 ∧ ∀ j, j < J → (M i j && (X J).2.1 j) = false := by
        intro t
        induction t with
        | zero => intro _; exact ⟨0, Nat.le_refl _, by omega, by rw [hX0], by rw [hX0]; exact hS, k16_rf _, fun j hj => absurd hj (by omega)⟩
        | succ t iht =>
          intro ht
          obtain ⟨J, j1, j2, j3, j4, j5, j6⟩ := iht (by omega)
          have hne := hE2 t (by omega)
          rw [eFc, ha1] at hne
          have e0 : zit (fX5_finds_10 (zFc k).2.1 (nI i) (nI dd)) (t + 1) ((0 : Int32), τ) = fX5_finds_10 (zFc k).2.1 (nI i) (nI dd) (zit (fX5_finds_10 (zFc k).2.1 (nI i) (nI dd)) t ((0 : Int32), τ)) := rfl
          rw [e0]
          generalize zit (fX5_finds_10 (zFc k).2.1 (nI i) (nI dd)) t ((0 : Int32), τ) = a at j4 j5 hne
          obtain ⟨a1, υ⟩ := a
          dsimp only at j4 j5 hne
          have n2 : ¬ (υ 17 (nI i).toNatClampNeg &&& υ 16 3) = 0 := fun h => hne (Or.inr (Or.inl h))
          obtain ⟨c, c1, c2, c3, c4, c5, c6⟩ := nxt J υ j2 j5 j4 j6 n2
          have j4' : cS υ (X c).2 := by rw [c3]; exact j4
          have hh : (X c).2.2 c < 12 := by
            by_cases h : (X c).2.2 c < 12
            · exact h
            · exact absurd (Or.inr (Or.inr (Or.inl (by rw [c6, nI_clamp (by omega), j4'.2 c c2]; exact (hI_m1 _).mpr h)))) hne
          obtain ⟨t1, t2, t3, t4⟩ := try_ c υ c2 j5 j4' c4 hh c6
          have hno : (fd M k ((X c).2.2 c) (cut (X c).2.1 c, (X c).2.2)).1 = false := by
            cases hq : (fd M k ((X c).2.2 c) (cut (X c).2.1 c, (X c).2.2)).1
            · rfl
            · exact absurd (Or.inr (Or.inr (Or.inr (by rw [t2, hq]; decide)))) hne
          have hXc : (X c).1 = false := by rw [c3]; exact j3
          have e1 : X (c + 1) = (false, (fd M k ((X c).2.2 c) (cut (X c).2.1 c, (X c).2.2)).2) := by rw [hX1, lpf_no hXc c4 (by omega) hno]
          refine ⟨c + 1, by omega, by omega, by rw [e1], ?_, ?_, fun j hj => ?_⟩
          · rw [e1]; exact t3
          · exact t4
          · rw [e1]
            have o := (fd_ok M k ((X c).2.2 c) (cut (X c).2.1 c, (X c).2.2) hh).1 j
            dsimp only at o ⊢
            cases hq : (fd M k ((X c).2.2 c) (cut (X c).2.1 c, (X c).2.2)).2.1 j
            · rw [Bool.and_false]
            · have o2 := o hq
              by_cases hjc : j = c
              · subst hjc; unfold cut at o2; simp at o2
              · have o3 := cut_sub o2
                have := c5 j (by omega)
                rw [o3, Bool.and_true] at this
                rw [this]; rfl
      have hq : ∀ t, t ≤ N → qX5_finds_10 (zFc k).1 (zFc k).2.2 (nI i) (nI dd) (zit (fX5_finds_10 (zFc k).2.1 (nI i) (nI dd)) t ((0 : Int32), τ)) := by
        intro t ht
        obtain ⟨J, j1, j2, j3, j4, j5, j6⟩ := key t ht
        generalize zit (fX5_finds_10 (zFc k).2.1 (nI i) (nI dd)) t ((0 : Int32), τ) = a at j4 j5
        obtain ⟨a1, υ⟩ := a
        dsimp only at j4 j5
        refine ⟨fun _ => trivial, fun _ => ⟨vp_in_nI (by omega) (by decide), fun _ => trivial, fun n2 => ?_⟩⟩
        obtain ⟨c, c1, c2, c3, c4, c5, c6⟩ := nxt J υ j2 j5 j4 j6 n2
        have j4' : cS υ (X c).2 := by rw [c3]; exact j4
        have v12 : vp_in (vX5_finds_1 (nI i) υ) 12 := by rw [c6]; exact vp_in_nI c2 (by decide)
        refine ⟨v12, fun _ => v12, fun n3 => ?_⟩
        have hh : (X c).2.2 c < 12 := by
          by_cases h : (X c).2.2 c < 12
          · exact h
          · exact absurd (show υ 18 (vX5_finds_1 (nI i) υ).toNatClampNeg = -1 by rw [c6, nI_clamp (by omega), j4'.2 c c2]; exact (hI_m1 _).mpr h) n3
        exact ⟨(try_ c υ c2 j5 j4' c4 hh c6).1, fun _ => trivial, fun _ => v12⟩
      have q1 := hq N (Nat.le_refl _)
      obtain ⟨J, j1, j2, j3, j4, j5, j6⟩ := key N (Nat.le_refl _)
      have hwX : wX5_finds_10 (zFc k).1 (zFc k).2.1 (nI i) (nI dd) ((0 : Int32), τ) = zit (fX5_finds_10 (zFc k).2.1 (nI i) (nI dd)) N (0, τ) := by
        unfold wX5_finds_10
        rw [hN]
      refine ⟨?_, ?_⟩
      · unfold pX5_finds vX5_finds_4 vX5_finds_3
        refine ⟨fun _ => ?_, fun h => absurd h12 h⟩
        rw [hN, hwX]
        exact ⟨⟨hex, fun j hj => hq j (by omega)⟩, q1⟩
      · unfold rX5_finds sX5_finds vX5_finds_5 vX5_finds_4 vX5_finds_3
        rw [if_pos h12, if_pos h12, hwX, ha1]
        rw [eFc, ha1] at hE1
        generalize zit (fX5_finds_10 (zFc k).2.1 (nI i) (nI dd)) N ((0 : Int32), τ) = a at j4 j5 hE1
        obtain ⟨a1, υ⟩ := a
        dsimp only at j4 j5 hE1 ⊢
        by_cases b1 : 12 ≤ N
        · have b1' : (12 : Int32) ≤ nI N := by rw [show (12 : Int32) = nI 12 from rfl]; exact nI_le b1 (by omega)
          have : J = 12 := by omega
          subst this
          rw [if_pos b1', if_pos b1', j3]
          exact ⟨rfl, j4, j5⟩
        · have b1' : ¬ (12 : Int32) ≤ nI N := by rw [show (12 : Int32) = nI 12 from rfl]; exact nI_ge (by omega) (by omega)
          rw [if_neg b1', if_neg b1']
          by_cases b2' : (υ 17 (nI i).toNatClampNeg &&& υ 16 3) = 0
          · have e12 : X 12 = X J := stay J 12 j2 (Or.inr (fun j _ h2 => (op0 J υ j5 j4).mp b2' j h2))
            rw [if_pos b2', if_pos b2', e12, j3]
            exact ⟨rfl, j4, j5⟩
          · obtain ⟨c, c1, c2, c3, c4, c5, c6⟩ := nxt J υ j2 j5 j4 j6 b2'
            have j4' : cS υ (X c).2 := by rw [c3]; exact j4
            have hXc : (X c).1 = false := by rw [c3]; exact j3
            have c6' : rJ6_bitCount_0f7a4 (((υ 17 (nI i).toNatClampNeg &&& υ 16 3) &&& (-(υ 17 (nI i).toNatClampNeg &&& υ 16 3))) - (1 : Int32)) = nI c := c6
            rw [if_neg b2', if_neg b2', c6', nI_clamp (by omega)]
            by_cases hh : (X c).2.2 c < 12
            · have b3 : ¬ υ 18 c = -1 := by rw [j4'.2 c c2]; exact fun z => (hI_m1 _).mp z hh
              obtain ⟨t1, t2, t3, t4⟩ := try_ c υ c2 j5 j4' c4 hh c6
              rw [c6, nI_clamp (by omega)] at t1 t2 t3 t4
              have hyes : (fd M k ((X c).2.2 c) (cut (X c).2.1 c, (X c).2.2)).1 = true := by
                rcases hE1 with h | h | h | h
                · exact absurd h b1'
                · exact absurd h b2'
                · rw [c6, nI_clamp (by omega)] at h; exact absurd h b3
                · rw [c6, nI_clamp (by omega), t2] at h
                  cases hq : (fd M k ((X c).2.2 c) (cut (X c).2.1 c, (X c).2.2)).1
                  · rw [hq] at h; exact absurd rfl h
                  · rfl
              have e1 : X (c + 1) = (true, (fd M k ((X c).2.2 c) (cut (X c).2.1 c, (X c).2.2)).2.1, zu (fd M k ((X c).2.2 c) (cut (X c).2.1 c, (X c).2.2)).2.2 c i) := by rw [hX1, lpf_go hXc c4 (by omega) hyes]
              have e12 : X 12 = X (c + 1) := stay (c + 1) 12 (by omega) (Or.inl (by rw [e1]))
              rw [if_neg b3, e12, e1]
              refine ⟨rfl, ⟨by rw [zu_ne _ _ (by decide)]; exact t3.1, fun j hj => ?_⟩, k16_18 t4 _⟩
              rw [zu_self]
              dsimp only
              by_cases e : j = c
              · subst e; rw [zu_self, zu_self, hI_lt (by omega)]
              · rw [zu_ne _ _ e, zu_ne _ _ e]; exact t3.2 j hj
            · have b3 : υ 18 c = -1 := by rw [j4'.2 c c2]; exact (hI_m1 _).mpr hh
              have e1 : X (c + 1) = (true, cut (X c).2.1 c, zu (X c).2.2 c i) := by rw [hX1, lpf_free hXc c4 (by omega)]
              have e12 : X 12 = X (c + 1) := stay (c + 1) 12 (by omega) (Or.inl (by rw [e1]))
              rw [if_pos b3, e12, e1, j4'.1, clr_n (by omega), msk_cut]
              refine ⟨rfl, ⟨by rw [zu_ne _ _ (by decide), zu_self, zu_self], fun j hj => ?_⟩, k16_18 (k16_16 j5 _) _⟩
              rw [zu_self]
              dsimp only
              by_cases e : j = c
              · subst e; rw [zu_self, zu_self, hI_lt (by omega)]
              · rw [zu_ne _ _ e, zu_ne _ _ e]; exact j4'.2 j hj
