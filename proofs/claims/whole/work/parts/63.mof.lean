/-! ===== pure rows: the match, by the reference ===== -/
noncomputable def Bk (A : gA) (r a b : Nat) : Nat := bst (Lk A a b) (Sk A r a b) 3844
theorem Bk_s (A : gA) (r a b : Nat) : Bk A r a b = 9999 ∨ Bk A r a b < 3844 := by
  rcases bst_s (Lk A a b) (Sk A r a b) 3844 (Nat.le_refl _) with h | h
  · exact Or.inl h.1
  · exact Or.inr h.1
noncomputable def bQ (A : gA) (r a b : Nat) : Nat := Bk A r a b / 961
noncomputable def bX (A : gA) (r a b : Nat) : Int := kdx (Bk A r a b)
noncomputable def bY (A : gA) (r a b : Nat) : Int := kdy (Bk A r a b)
noncomputable def mval (A : gA) (r a b : Nat) : Int := if Bk A r a b < 3844 then Sk A r a b (Bk A r a b) else 0
theorem SkB (A : gA) (r a b : Nat) : Sk A r a b (Bk A r a b) = SC A r a b (bQ A r a b) (bX A r a b) (bY A r a b) := rfl
theorem bQXY {A : gA} {r a b : Nat} (h : Bk A r a b < 3844) : bQ A r a b < 4 ∧ (-30 ≤ bX A r a b ∧ bX A r a b ≤ 30) ∧ (-30 ≤ bY A r a b ∧ bY A r a b ≤ 30) := by
  unfold bQ bX bY kdx kdy
  omega
/-- what a match leaves in the reference -/
def mres (A : gA) (r a b : Nat) (τ : zc_N) : Prop := (Bk A r a b < 3844 ∧ τ 32 26 = 1 ∧ τ 32 25 = zI (SC A r a b (bQ A r a b) (bX A r a b) (bY A r a b)) ∧ τ 32 22 = nI (bQ A r a b) ∧ τ 32 23 = zI (bX A r a b) ∧ τ 32 24 = zI (bY A r a b) ∧ τ 32 20 = nI (PR A r a b (bQ A r a b) (bX A r a b) (bY A r a b)) ∧ τ 32 21 = nI (bw (SB A a b (bQ A r a b) (bX A r a b) (bY A r a b)) (PR A r a b (bQ A r a b) (bX A r a b) (bY A r a b))) ∧ (∀ i, i < aN A a → τ 44 i = zI (lx A a (bQ A r a b) (bX A r a b) i) ∧ τ 45 i = zI (ly A a (bQ A r a b) (bY A r a b) i)) ∧ ∀ i, i < aN A a → τ 51 i = hI (chH (mayB A r a b (bQ A r a b) (bX A r a b) (bY A r a b)) (aN A a) i)) ∨ (Bk A r a b = 9999 ∧ (∀ k, k ∈ mF → τ 32 k = 0) ∧ ∀ i, i < aN A a → τ 51 i = -1)
def mO : List Nat := [32, 44, 45, 46, 47, 48, 49, 50, 51]
theorem f184 {σ : zc_N} : ∀ n, n ≤ 12 → ((∀ i, i < n → zfor fX9_matchOf_184 n σ 51 i = -1) ∧ off [51] σ (zfor fX9_matchOf_184 n σ)) := by
  refine zfor_inv (fun n τ => (∀ i, i < n → τ 51 i = -1) ∧ off [51] σ τ) fX9_matchOf_184 12 σ ⟨fun i hi => absurd hi (by omega), off_rf _ _⟩ (fun n hn τ h => ?_)
  unfold fX9_matchOf_184
  rw [cl_n (by omega)]
  refine ⟨fun i hi => ?_, off_zu h.2 (by simp) _⟩
  rw [zu_self]
  by_cases e : i = n
  · rw [e, zu_self]
  · rw [zu_ne _ _ e]; exact h.1 i (by omega)
theorem matchOf_m {A : gA} {σ : zc_N} {r a b : Nat} (ha : a < 24) (hb : b < 24) (hr : r ≤ 3) (hva : pV A a) (hvb : pV A b) (hma : pM A σ a) (hmb : pM A σ b) (hre : σ 32 12 = nI r) :
    pX9_matchOf σ (nI a) (nI b) ∧ rX9_matchOf σ (nI a) (nI b) = zI (mval A r a b) ∧ mres A r a b (sX9_matchOf σ (nI a) (nI b)) ∧ off mO σ (sX9_matchOf σ (nI a) (nI b)) ∧ ∀ m, m ∉ mF → sX9_matchOf σ (nI a) (nI b) 32 m = σ 32 m := by
  have hNa := hva.1
  have hNb := hvb.1
  have hac : (nI a).toNatClampNeg = a := nI_clamp (by omega)
  have hbc : (nI b).toNatClampNeg = b := nI_clamp (by omega)
  have va24 : vp_in (nI a) 24 := vp_in_nI ha (by decide)
  have vb24 : vp_in (nI b) 24 := vp_in_nI hb (by decide)
  have n12 : (12 : Nat) ∉ mF := by decide
  have z0 : MR σ (zu σ 32 (zu (zu (zu (zu (zu (σ 32) 26 0) 25 0) 22 0) 23 0) 24 0)) := by
    refine ⟨off_zu (off_rf _ _) (by simp) _, fun m hm => ?_⟩
    have h : ∀ j, j ∈ mF → m ≠ j := fun j hj e => hm (by rw [e]; exact hj)
    rw [zu_self, zu_ne _ _ (h 24 (by decide)), zu_ne _ _ (h 23 (by decide)), zu_ne _ _ (h 22 (by decide)), zu_ne _ _ (h 25 (by decide)), zu_ne _ _ (h 26 (by decide))]
  have z26 : (zu σ 32 (zu (zu (zu (zu (zu (σ 32) 26 0) 25 0) 22 0) 23 0) 24 0)) 32 26 = 0 ∧ ∀ m, m ∈ [22, 23, 24, 25] → (zu σ 32 (zu (zu (zu (zu (zu (σ 32) 26 0) 25 0) 22 0) 23 0) 24 0)) 32 m = 0 := by
    rw [zu_self]
    refine ⟨by rw [zu_ne _ _ (by decide), zu_ne _ _ (by decide), zu_ne _ _ (by decide), zu_ne _ _ (by decide), zu_self], fun m hm => ?_⟩
    unfold zu
    simp only [List.mem_cons, List.not_mem_nil, or_false] at hm
    rcases hm with rfl | rfl | rfl | rfl <;> rfl
  obtain ⟨q1, q2, q3⟩ := offers_m (A := A) ha hb hr hva hvb (pM_MR hma z0) (pM_MR hmb z0) (by rw [z0.2 12 n12]; exact hre) z26
  have m0 := MR_tr z0 q3
  have hob := ob_bst hva hvb q2
  have eB : bst (Lk A a b) (Sk A r a b) 3844 = Bk A r a b := rfl
  rw [eB] at hob
  unfold pX9_matchOf rX9_matchOf sX9_matchOf vX9_matchOf_6 vX9_matchOf_5 vX9_matchOf_4 vX9_matchOf_3
  generalize zfor (fX9_matchOf_27 (nI a) (nI b)) 4 (zu σ 32 (zu (zu (zu (zu (zu (σ 32) 26 0) 25 0) 22 0) 23 0) 24 0)) = τ at m0 hob
  have m1 : MR σ (zu τ 32 (zu (zu (τ 32) 20 0) 21 0)) := by
    refine ⟨off_zu m0.1 (by simp) _, fun m hm => ?_⟩
    have h : ∀ j, j ∈ mF → m ≠ j := fun j hj e => hm (by rw [e]; exact hj)
    rw [zu_self, zu_ne _ _ (h 21 (by decide)), zu_ne _ _ (h 20 (by decide))]
    exact m0.2 m hm
  have u20 : (zu τ 32 (zu (zu (τ 32) 20 0) 21 0)) 32 20 = 0 := by rw [zu_self, zu_ne _ _ (by decide), zu_self]
  have u21 : (zu τ 32 (zu (zu (τ 32) 20 0) 21 0)) 32 21 = 0 := by rw [zu_self, zu_self]
  have uk : ∀ k, k ≠ 20 → k ≠ 21 → (zu τ 32 (zu (zu (τ 32) 20 0) 21 0)) 32 k = τ 32 k := fun k h1 h2 => by rw [zu_self, zu_ne _ _ h2, zu_ne _ _ h1]
  generalize zu τ 32 (zu (zu (τ 32) 20 0) 21 0) = υ at m1 u20 u21 uk
  rw [hac, hbc, (pM_MR hma m1).1, cl_n (a := aN A a) (by omega)]
  have k184 := fun n hn => f184 (σ := υ) n hn
  obtain ⟨w1, w2⟩ := k184 (aN A a) hNa
  have pw : (∀ i, i ≤ aN A a → ((zfor fX9_matchOf_184 i υ) 37 a ≤ nI i ↔ aN A a ≤ i)) := fun i hi => by
    rw [(k184 i (by omega)).2 37 (by decide), (pM_MR hma m1).1]
    exact nI_leI (by omega) (by omega)
  have pP : (∀ i, i ≤ aN A a → ((zfor fX9_matchOf_184 i υ) 37 a ≤ nI i ↔ aN A a ≤ i)) ∧ (∀ i, i ≤ aN A a → uX9_matchOf_184 (nI a) i (zfor fX9_matchOf_184 i υ)) ∧ (∀ i, i < aN A a → qX9_matchOf_184 i (zfor fX9_matchOf_184 i υ)) := ⟨pw, fun _ _ => va24, fun i hi => vp_in_nI (by omega) (by decide)⟩
  generalize zfor fX9_matchOf_184 (aN A a) υ = ω at w1 w2
  have w32 : ω 32 = υ 32 := w2 32 (by decide)
  have oW : off mO σ ω := off_tr (off_sub m1.1 (by decide)) (off_sub w2 (by decide))
  have wk : ∀ m, m ∉ mF → ω 32 m = σ 32 m := fun m hm => by rw [w32]; exact m1.2 m hm
  rcases hob with ⟨b1, b2, b3⟩ | ⟨b1, b2, b3, b4, b5, b6⟩
  · have e26 : ω 32 26 = 0 := by rw [w32, uk 26 (by decide) (by decide)]; exact b2
    rw [if_pos e26, if_pos e26]
    refine ⟨⟨q1, pP, fun _ => trivial, fun z => absurd e26 z⟩, ?_, Or.inr ⟨b1, fun k hk => ?_, w1⟩, oW, wk⟩
    · have : mval A r a b = 0 := by unfold mval; rw [if_neg (by omega)]
      rw [this, w32, uk 25 (by decide) (by decide), b3 25 (by decide)]
      rfl
    · rw [w32]
      by_cases h20 : k = 20
      · rw [h20]; exact u20
      · by_cases h21 : k = 21
        · rw [h21]; exact u21
        · rw [uk k h20 h21]
          by_cases h26 : k = 26
          · rw [h26]; exact b2
          · refine b3 k ?_
            unfold mF at hk
            simp only [List.mem_cons, List.not_mem_nil, or_false] at hk ⊢
            omega
  · have e26 : ω 32 26 = 1 := by rw [w32, uk 26 (by decide) (by decide)]; exact b2
    have n26 : ¬ ω 32 26 = 0 := by rw [e26]; decide
    have e22 : ω 32 22 = nI (bQ A r a b) := by rw [w32, uk 22 (by decide) (by decide)]; exact b4
    have e23 : ω 32 23 = zI (bX A r a b) := by rw [w32, uk 23 (by decide) (by decide)]; exact b5
    have e24 : ω 32 24 = zI (bY A r a b) := by rw [w32, uk 24 (by decide) (by decide)]; exact b6
    obtain ⟨g1, g2, g3⟩ := bQXY b1
    obtain ⟨s1, s2, s3, s4, s5, s6, s7⟩ := scoreOf_m (A := A) (σ := ω) (r := r) (q := bQ A r a b) (dx := bX A r a b) (dy := bY A r a b) ha hb hr g1 hva hvb (pM_off hma oW (by decide)) (pM_off hmb oW (by decide)) (by rw [wk 12 n12]; exact hre) g2 g3
    rw [if_neg n26, if_neg n26, e22, e23, e24, s2]
    generalize sX9_scoreOf ω (nI a) (nI b) (nI (bQ A r a b)) (zI (bX A r a b)) (zI (bY A r a b)) = ψ at s3 s4 s5 s6 s7
    have oP : off mO σ ψ := off_tr oW (off_sub s7 (by decide))
    rw [(pM_off hma oP (by decide)).1, (pM_off hmb oP (by decide)).1]
    obtain ⟨f1, f2, f3⟩ := first_m (M := mayB A r a b (bQ A r a b) (bX A r a b) (bY A r a b)) (n := aN A a) (nb := aN A b) (σ := zu ψ 32 (zu (ψ 32) 25 (zI (SC A r a b (bQ A r a b) (bX A r a b) (bY A r a b))))) hNa hNb (fun i j h => may0 A r a b _ _ _ i j h) (fun i j hi hj => by rw [zu_ne _ _ (by decide)]; exact s3.1 i j hi hj)
    have oF : off mO σ (sX9_findFirst (zu ψ 32 (zu (ψ 32) 25 (zI (SC A r a b (bQ A r a b) (bX A r a b) (bY A r a b))))) (nI (aN A a)) (nI (aN A b))) := off_tr (off_zu oP (by decide) _) (off_sub f3 (by decide))
    have x32 : sX9_findFirst (zu ψ 32 (zu (ψ 32) 25 (zI (SC A r a b (bQ A r a b) (bX A r a b) (bY A r a b))))) (nI (aN A a)) (nI (aN A b)) 32 = zu (ψ 32) 25 (zI (SC A r a b (bQ A r a b) (bX A r a b) (bY A r a b))) := by rw [f3 32 (by decide), zu_self]
    have x44 : sX9_findFirst (zu ψ 32 (zu (ψ 32) 25 (zI (SC A r a b (bQ A r a b) (bX A r a b) (bY A r a b))))) (nI (aN A a)) (nI (aN A b)) 44 = ψ 44 := by rw [f3 44 (by decide), zu_ne _ _ (by decide)]
    have x45 : sX9_findFirst (zu ψ 32 (zu (ψ 32) 25 (zI (SC A r a b (bQ A r a b) (bX A r a b) (bY A r a b))))) (nI (aN A a)) (nI (aN A b)) 45 = ψ 45 := by rw [f3 45 (by decide), zu_ne _ _ (by decide)]
    refine ⟨⟨q1, pP, fun z => absurd z n26, fun _ => ⟨s1, va24, vb24, f1⟩⟩, ?_, Or.inl ⟨b1, ?_, ?_, ?_, ?_, ?_, ?_, ?_, fun i hi => ?_, f2⟩, oF, fun m hm => ?_⟩
    · have : mval A r a b = SC A r a b (bQ A r a b) (bX A r a b) (bY A r a b) := by unfold mval; rw [if_pos b1, SkB]
      rw [this, x32, zu_self]
    · rw [x32, zu_ne _ _ (by decide), s6 26 (by decide) (by decide)]; exact e26
    · rw [x32, zu_self]
    · rw [x32, zu_ne _ _ (by decide), s6 22 (by decide) (by decide)]; exact e22
    · rw [x32, zu_ne _ _ (by decide), s6 23 (by decide) (by decide)]; exact e23
    · rw [x32, zu_ne _ _ (by decide), s6 24 (by decide) (by decide)]; exact e24
    · rw [x32, zu_ne _ _ (by decide)]; exact s4
    · rw [x32, zu_ne _ _ (by decide)]; exact s5
    · rw [x44, x45]; exact s3.2 i hi
    · have h : ∀ j, j ∈ mF → m ≠ j := fun j hj e => hm (by rw [e]; exact hj)
      rw [x32, zu_ne _ _ (h 25 (by decide)), s6 m (h 20 (by decide)) (h 21 (by decide))]
      exact wk m hm
