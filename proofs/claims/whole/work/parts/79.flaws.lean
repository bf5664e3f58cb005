/-! ===== flaws, flaw ===== -/
theorem nwo_off {P : zp} {σ τ : zc_N} (ho : off hO σ τ) (t : Int32) : nwo P τ t = nwo P σ t := by
  have ep : ∀ k, τ (pO k) = σ (pO k) := fun k => ho (pO k) (fun z => by
    have g : ∀ m, m ∈ hO → m < 57 := by decide
    have := g _ z
    have := pO_ge k
    omega)
  have e : nwf τ t = nwf σ t := by
    funext k o
    unfold nwf
    simp only [ep]
  unfold nwo
  rw [e]
theorem kept_off {P : zp} {A : gA} {σ τ : zc_N} (h : Inv P A σ) (e42 : τ 42 = σ 42) (e11 : τ 32 11 = σ 32 11) (t : Int32) : rX9_keptBy τ t = rX9_keptBy σ t := by
  obtain ⟨hn, h3, h11, -, -⟩ := iP_parts h
  rw [(kept_m h11 hn t).2, (kept_m (e11.trans h11) hn t).2, e42]
theorem kept_89 {P : zp} {A : gA} {σ : zc_N} (h : Inv P A σ) (t : Int32) : rX8_keptBy σ t = rX9_keptBy σ t := by
  obtain ⟨hn, h3, h11, -, p3⟩ := iP_parts h
  rw [(kept_m h11 hn t).2, (kept_c h3 hn t).2]
  congr 1
  exact cnt_congr _ (fun p hp => by rw [(p3 p hp).1])
theorem hist {P : zp} {A : gA} {σ : zc_N} (h : Inv P A σ) {t : Nat} (ht : t < 10) : (pX8_readHistory P σ (nI t) ∧ rX8_readHistory P σ (nI t) = 0 ∧ sX8_readHistory P σ (nI t) = σ ∧ ¬ (2 : Int32) ≤ rX9_keptBy σ (nI t)) ∨ ∃ r L, r < 4 ∧ σ 10 0 = nI r ∧ σ 32 12 = nI r ∧ nwo P σ (nI t) = some L ∧ pX8_readHistory P σ (nI t) ∧ rX8_readHistory P σ (nI t) = 1 ∧ RH P A σ r t L (sX8_readHistory P σ (nI t)) ∧ (2 : Int32) ≤ rX9_keptBy σ (nI t) := by
  obtain ⟨hn, h3, h11, p2, p3⟩ := iP_parts h
  obtain ⟨r, r1, r2, r3⟩ := h.2.2.1
  have eK := kept_89 h (nI t)
  cases hw : nwo P σ (nI t) with
  | none =>
    left
    refine ⟨?_, ?_, ?_, ?_⟩
    · unfold pX8_readHistory
      rw [hw]
      exact ⟨⟨h3, hn⟩, fun _ => trivial, fun z => absurd rfl z⟩
    · unfold rX8_readHistory; rw [hw, if_pos rfl]
    · unfold sX8_readHistory; rw [hw, if_pos rfl]
    · rw [(kept_m h11 hn (nI t)).2]
      rcases nwf_s σ (nI t) P.2.1 with ⟨-, q⟩ | ⟨j, e, -⟩
      · rw [cnt_false P.2.1 (fun i hi => by rw [← (p3 i hi).1]; exact decide_eq_false (q i hi))]
        decide
      · have e : nwo P σ (nI t) = some j := e
        rw [hw] at e; cases e
  | some L =>
    obtain ⟨c1, c2⟩ := read_c h r1 r2 ht hw
    have sm : ¬ (some L : Option Nat) = none := fun z => by cases z
    by_cases c : (2 : Int32) ≤ rX9_keptBy σ (nI t)
    · right
      refine ⟨r, L, r1, r2, r3, rfl, c1, ?_, ?_, c⟩
      · unfold rX8_readHistory; rw [hw, if_neg sm, eK, if_pos c]
      · unfold sX8_readHistory; rw [hw, if_neg sm, eK, if_pos c]; exact c2
    · left
      refine ⟨c1, ?_, ?_, c⟩
      · unfold rX8_readHistory; rw [hw, if_neg sm, eK, if_neg c]
      · unfold sX8_readHistory; rw [hw, if_neg sm, eK, if_neg c]
theorem Vl_42 {A : gA} {σ τ : zc_N} (e42 : τ 42 = σ 42) (e43 : τ 43 = σ 43) : Vl A τ = Vl A σ := by
  funext r t L n i y
  unfold Vl
  rw [e42, e43]
theorem Vc_42 {A : gA} {σ τ : zc_N} (e42 : τ 42 = σ 42) (e43 : τ 43 = σ 43) : Vc A τ = Vc A σ := by
  funext r t L n i x y
  unfold Vc
  rw [e42, e43]
theorem fl_42 {P : zp} {A : gA} {σ τ : zc_N} (e42 : τ 42 = σ 42) (e43 : τ 43 = σ 43) : fl P A τ = fl P A σ := by
  funext r t L i
  unfold fl
  rw [Vl_42 e42 e43]
theorem fl_ge {P : zp} {A : gA} {σ : zc_N} {r t L i : Nat} (h : aN A L ≤ i) : fl P A σ r t L i = false := cdec_f (fun ⟨y, k, _, _, _, q, _⟩ => by
  unfold lks at q
  rw [decide_eq_false (show ¬ i < aN A L by omega)] at q
  simp at q)
theorem fl_12 {P : zp} {A : gA} {σ : zc_N} {r t L : Nat} (h : aN A L ≤ 12) : cnt (fl P A σ r t L) 12 = cnt (fl P A σ r t L) (aN A L) := by
  obtain ⟨m, hm⟩ : ∃ m, 12 = aN A L + m := ⟨12 - aN A L, by omega⟩
  have e : cnt (fl P A σ r t L) (aN A L + m) = cnt (fl P A σ r t L) (aN A L) := by
    rw [cnt_add, cnt_false m (fun i hi => fl_ge (by omega))]; rfl
  rw [← e, ← hm]
theorem bc_msk (f : Nat → Bool) : rJ6_bitCount_0f7a4 (nI (msk f)) = nI (cnt f 12) := by
  rw [bc12 (msk_lt f), pcn_tb]
  congr 1
  exact cnt_congr 12 (fun i hi => by rw [msk_bit, decide_eq_true hi, Bool.true_and])
theorem Inv_FM {P : zp} {A : gA} {σ τ : zc_N} {r t L n : Nat} (h : Inv P A σ) (hf : FM P A σ r t L n τ) : Inv P A τ := Inv_fO h hf.1 hf.2.1
/-- both histories, one after the other -/
theorem both {P : zp} {A : gA} {σ τ : zc_N} {r t L : Nat} (h : Inv P A σ) (hr : r < 4) (h12 : σ 32 12 = nI r) (ht : t < 10) (hw : nwo P σ (nI t) = some L) (hR : RH P A σ r t L τ) (hk : (2 : Int32) ≤ rX9_keptBy σ (nI t)) : Inv P A τ ∧ pX9_keptBy τ (nI t) ∧ (2 : Int32) ≤ rX9_keptBy τ (nI t) ∧ pX9_findFlaws τ (nI t) ∧ FM P A τ r t L (aN A L) (sX9_findFlaws τ (nI t)) ∧ Vl A τ = Vl A σ ∧ Vc A τ = Vc A σ ∧ fl P A τ = fl P A σ := by
  have hI := Inv_RH h hR
  have e42 : τ 42 = σ 42 := hR.1 42 (by decide)
  have e43 : τ 43 = σ 43 := hR.1 43 (by decide)
  have e32 : τ 32 = σ 32 := hR.1 32 (by decide)
  obtain ⟨hn, h3, h11, p2, p3⟩ := iP_parts hI
  obtain ⟨f1, f2⟩ := find_m (σ := τ) (r := r) (L := L) hI.2.1 hI.2.2.2.2.2.2.2 hr (by rw [e32]; exact h12) ht (by rw [nwo_off hR.1]; exact hw)
  exact ⟨hI, (kept_m h11 hn (nI t)).1, by rw [kept_off h e42 (by rw [e32])]; exact hk, f1, f2, Vl_42 e42 e43, Vc_42 e42 e43, fl_42 e42 e43⟩
theorem ok_flaws {P : zp} {A : gA} {σ : zc_N} (h : Inv P A σ) (a1 : Int32) : pX8_flaws P σ a1 ∧ pX9_flaws (sX8_flaws P σ a1) a1 ∧ rX8_flaws P σ a1 = rX9_flaws (sX8_flaws P σ a1) a1 ∧ Inv P A (sX9_flaws (sX8_flaws P σ a1) a1) := by
  obtain ⟨hn, h3, h11, p2, p3⟩ := iP_parts h
  rcases tol a1 with ⟨e1, e2⟩ | ⟨t, ht, rfl, e1, e2⟩
  · have s8 : sX8_flaws P σ a1 = σ := if_pos e1
    have s9 : sX9_flaws σ a1 = σ := if_pos e2
    have r8 : rX8_flaws P σ a1 = -1 := if_pos e1
    have r9 : rX9_flaws σ a1 = -1 := if_pos e2
    rw [s8, s9, r8, r9]
    exact ⟨⟨fun _ => trivial, fun z => absurd e1 z⟩, ⟨fun _ => trivial, fun z => absurd e2 z⟩, rfl, h⟩
  · have n1 : ¬ rX8_isTool (nI t) = 0 := fun z => n10 (e1.symm.trans z)
    have n2 : ¬ rX9_isTool (nI t) = 0 := fun z => n10 (e2.symm.trans z)
    have s8 : sX8_flaws P σ (nI t) = sX8_readHistory P σ (nI t) := if_neg n1
    rcases hist h ht with ⟨q1, q2, q3, q4⟩ | ⟨r, L, r1, r2, r3, hw, q1, q2, q3, q4⟩
    · have r8 : rX8_flaws P σ (nI t) = -4 := (if_neg n1).trans (if_pos q2)
      have s9 : sX9_flaws σ (nI t) = σ := (if_neg n2).trans (if_neg q4)
      have r9 : rX9_flaws σ (nI t) = -4 := (if_neg n2).trans (if_neg q4)
      rw [s8, q3, s9, r8, r9]
      exact ⟨⟨fun z => absurd z n1, fun _ => q1⟩, ⟨fun z => absurd z n2, fun _ => ⟨(kept_m h11 hn (nI t)).1, fun z => absurd z q4, fun _ => trivial⟩⟩, rfl, h⟩
    · have nq : ¬ rX8_readHistory P σ (nI t) = 0 := fun z => n10 (q2.symm.trans z)
      have r8 : rX8_flaws P σ (nI t) = rJ6_bitCount_0f7a4 (sX8_readHistory P σ (nI t) 27 0) := (if_neg n1).trans (if_neg nq)
      rw [s8, r8]
      generalize sX8_readHistory P σ (nI t) = τ at q3
      obtain ⟨hI, b1, b2, b3, b4, b5, b6, b7⟩ := both h r1 r3 ht hw q3 q4
      have s9 : sX9_flaws τ (nI t) = sX9_findFlaws τ (nI t) := (if_neg n2).trans (if_pos b2)
      have r9 : rX9_flaws τ (nI t) = sX9_findFlaws τ (nI t) 32 33 := (if_neg n2).trans (if_pos b2)
      have hL := (newest h ht hw).1
      rw [s9, r9, b4.2.2.2.1, q3.2.2.2.1, bc_msk, b7]
      refine ⟨⟨fun z => absurd z n1, fun _ => q1⟩, ⟨fun z => absurd z n2, fun _ => ⟨b1, fun _ => b3, fun z => absurd b2 z⟩⟩, ?_, Inv_FM hI b4⟩
      rw [← fl_12 (p2 L hL).2.2.1]
      rfl
theorem flawAt_c {τ : zc_N} {f : Nat → Bool} (h : τ 27 0 = nI (msk f)) (a : Int32) : pX2_flawAt τ a ∧ ((∃ j, j < 12 ∧ f j = true ∧ nI (cnt f j) = a ∧ rX2_flawAt τ a = nI j) ∨ (rX2_flawAt τ a = -1 ∧ ∀ j, j < 12 → f j = true → nI (cnt f j) ≠ a)) := by
  have bt : ∀ i, i < 12 → (zshr (τ 27 0) (nI i)) &&& (1 : Int32) = b2 (f i) := fun i hi => by
    rw [h, bit_n (Nat.lt_of_lt_of_le (msk_lt f) (by decide)) (by omega), msk_bit, decide_eq_true hi, Bool.true_and]
  have hz : ∀ n, n ≤ 12 → zit (fX2_flawAt_4 τ) n (0, 0) = (nI (cnt f n), nI n) := by
    refine zit_inv (fun n (x : Int32 × Int32) => n ≤ 12 → x = (nI (cnt f n), nI n)) (fX2_flawAt_4 τ) (0, 0) (fun _ => rfl) (fun i x hx hi => ?_)
    rw [hx (by omega)]
    unfold fX2_flawAt_4
    dsimp only
    rw [bt i (by omega), nI_1, nI_1]
    show _ = (nI (cnt f i + (f i).toNat), nI (i + 1))
    cases f i <;> rfl
  have hE : ∀ n, n ≤ 12 → (eX2_flawAt_4 τ a (nI (cnt f n), nI n) ↔ 12 ≤ n ∨ (f n = true ∧ nI (cnt f n) = a)) := fun n hn => by
    unfold eX2_flawAt_4
    dsimp only
    rw [show (12 : Int32) = nI 12 from rfl, nI_leI (by omega) (by omega)]
    by_cases c : 12 ≤ n
    · simp [c]
    · rw [bt n (by omega)]
      cases f n
      · simp [c, b2]
      · by_cases d : nI (cnt f n) = a
        · simp [c, d, b2]
        · simp [c, d, b2]
  obtain ⟨N, h1, h2⟩ := pk_least (fun i => 12 ≤ i ∨ (f i = true ∧ nI (cnt f i) = a)) ⟨12, Or.inl (Nat.le_refl _)⟩
  have hN : N ≤ 12 := by
    by_cases c : N ≤ 12
    · exact c
    · exact absurd (Or.inl (Nat.le_refl 12)) (h2 12 (by omega))
  have hx : eX2_flawAt_4 τ a (zit (fX2_flawAt_4 τ) N (0, 0)) := by rw [hz N hN]; exact (hE N hN).mpr h1
  have w : wX2_flawAt_4 τ a (0, 0) = (nI (cnt f N), nI N) := by
    unfold wX2_flawAt_4
    rw [zwn_eq (n := N) hx (fun j hj z => h2 j hj (by rw [hz j (by omega)] at z; exact (hE j (by omega)).mp z)), hz N hN]
  refine ⟨⟨N, hx⟩, ?_⟩
  unfold rX2_flawAt
  rw [w]
  dsimp only
  by_cases c : 12 ≤ N
  · right
    rw [if_pos (show (12 : Int32) ≤ nI N from nI_le (a := 12) c (by omega))]
    exact ⟨rfl, fun j hj hf he => h2 j (by omega) (Or.inr ⟨hf, he⟩)⟩
  · left
    rw [if_neg (show ¬ (12 : Int32) ≤ nI N from fun z => c ((show nI 12 ≤ nI N ↔ 12 ≤ N from nI_leI (by omega) (by omega)).mp z))]
    have := h1.resolve_left c
    exact ⟨N, by omega, this.1, this.2, rfl⟩
