/-! ===== pure rows: fillings, the most pairs ===== -/
theorem fill13 (σ : zc_N) (v : Int32) : pJ7_fill_53178_13 σ v ∧ (∀ j, j < 22 → sJ7_fill_53178_13 σ v 13 j = v) ∧ off [13] σ (sJ7_fill_53178_13 σ v) := by
  have key := zfor_inv (fun i (τ : zc_N) => (∀ j, j < i → τ 13 j = v) ∧ off [13] σ τ) (fJ7_fill_53178_13_5 v) 22 σ ⟨fun j hj => absurd hj (by omega), off_rf _ _⟩ (fun i hi τ ht => by
    unfold fJ7_fill_53178_13_5
    rw [nI_clamp (by omega)]
    refine ⟨fun j hj => ?_, off_zu ht.2 (by simp) _⟩
    rw [zu_self]
    by_cases e : j = i
    · subst e; rw [zu_self]
    · rw [zu_ne _ _ e]; exact ht.1 j (by omega)) 22 (Nat.le_refl _)
  exact ⟨fun i hi => vp_in_nI hi (by decide), key⟩
theorem fill14 (σ : zc_N) (v : Int32) : pJ7_fill_53178_14 σ v ∧ (∀ j, j < 22 → sJ7_fill_53178_14 σ v 14 j = v) ∧ off [14] σ (sJ7_fill_53178_14 σ v) := by
  have key := zfor_inv (fun i (τ : zc_N) => (∀ j, j < i → τ 14 j = v) ∧ off [14] σ τ) (fJ7_fill_53178_14_5 v) 22 σ ⟨fun j hj => absurd hj (by omega), off_rf _ _⟩ (fun i hi τ ht => by
    unfold fJ7_fill_53178_14_5
    rw [nI_clamp (by omega)]
    refine ⟨fun j hj => ?_, off_zu ht.2 (by simp) _⟩
    rw [zu_self]
    by_cases e : j = i
    · subst e; rw [zu_self]
    · rw [zu_ne _ _ e]; exact ht.1 j (by omega)) 22 (Nat.le_refl _)
  exact ⟨fun i hi => vp_in_nI hi (by decide), key⟩
theorem fill15 (σ : zc_N) (v : Int32) : pJ7_fill_53178_15 σ v ∧ (∀ j, j < 3 → sJ7_fill_53178_15 σ v 15 j = v) ∧ off [15] σ (sJ7_fill_53178_15 σ v) := by
  have key := zfor_inv (fun i (τ : zc_N) => (∀ j, j < i → τ 15 j = v) ∧ off [15] σ τ) (fJ7_fill_53178_15_5 v) 3 σ ⟨fun j hj => absurd hj (by omega), off_rf _ _⟩ (fun i hi τ ht => by
    unfold fJ7_fill_53178_15_5
    rw [nI_clamp (by omega)]
    refine ⟨fun j hj => ?_, off_zu ht.2 (by simp) _⟩
    rw [zu_self]
    by_cases e : j = i
    · subst e; rw [zu_self]
    · rw [zu_ne _ _ e]; exact ht.1 j (by omega)) 3 (Nat.le_refl _)
  exact ⟨fun i hi => vp_in_nI hi (by decide), key⟩
theorem fill18 (σ : zc_N) (v : Int32) : pJ7_fill_53178_18 σ v ∧ (∀ j, j < 12 → sJ7_fill_53178_18 σ v 18 j = v) ∧ off [18] σ (sJ7_fill_53178_18 σ v) := by
  have key := zfor_inv (fun i (τ : zc_N) => (∀ j, j < i → τ 18 j = v) ∧ off [18] σ τ) (fJ7_fill_53178_18_5 v) 12 σ ⟨fun j hj => absurd hj (by omega), off_rf _ _⟩ (fun i hi τ ht => by
    unfold fJ7_fill_53178_18_5
    rw [nI_clamp (by omega)]
    refine ⟨fun j hj => ?_, off_zu ht.2 (by simp) _⟩
    rw [zu_self]
    by_cases e : j = i
    · subst e; rw [zu_self]
    · rw [zu_ne _ _ e]; exact ht.1 j (by omega)) 12 (Nat.le_refl _)
  exact ⟨fun i hi => vp_in_nI hi (by decide), key⟩
theorem fill22 (σ : zc_N) (v : Int32) : pJ7_fill_53178_22 σ v ∧ (∀ j, j < 31 → sJ7_fill_53178_22 σ v 22 j = v) ∧ off [22] σ (sJ7_fill_53178_22 σ v) := by
  have key := zfor_inv (fun i (τ : zc_N) => (∀ j, j < i → τ 22 j = v) ∧ off [22] σ τ) (fJ7_fill_53178_22_5 v) 31 σ ⟨fun j hj => absurd hj (by omega), off_rf _ _⟩ (fun i hi τ ht => by
    unfold fJ7_fill_53178_22_5
    rw [nI_clamp (by omega)]
    refine ⟨fun j hj => ?_, off_zu ht.2 (by simp) _⟩
    rw [zu_self]
    by_cases e : j = i
    · subst e; rw [zu_self]
    · rw [zu_ne _ _ e]; exact ht.1 j (by omega)) 31 (Nat.le_refl _)
  exact ⟨fun i hi => vp_in_nI hi (by decide), key⟩
theorem fill24 (σ : zc_N) (v : Int32) : pJ7_fill_53178_24 σ v ∧ (∀ j, j < 12 → sJ7_fill_53178_24 σ v 24 j = v) ∧ off [24] σ (sJ7_fill_53178_24 σ v) := by
  have key := zfor_inv (fun i (τ : zc_N) => (∀ j, j < i → τ 24 j = v) ∧ off [24] σ τ) (fJ7_fill_53178_24_5 v) 12 σ ⟨fun j hj => absurd hj (by omega), off_rf _ _⟩ (fun i hi τ ht => by
    unfold fJ7_fill_53178_24_5
    rw [nI_clamp (by omega)]
    refine ⟨fun j hj => ?_, off_zu ht.2 (by simp) _⟩
    rw [zu_self]
    by_cases e : j = i
    · subst e; rw [zu_self]
    · rw [zu_ne _ _ e]; exact ht.1 j (by omega)) 12 (Nat.le_refl _)
  exact ⟨fun i hi => vp_in_nI hi (by decide), key⟩
theorem fill26 (σ : zc_N) (v : Int32) : pJ7_fill_53178_26 σ v ∧ (∀ j, j < 12 → sJ7_fill_53178_26 σ v 26 j = v) ∧ off [26] σ (sJ7_fill_53178_26 σ v) := by
  have key := zfor_inv (fun i (τ : zc_N) => (∀ j, j < i → τ 26 j = v) ∧ off [26] σ τ) (fJ7_fill_53178_26_5 v) 12 σ ⟨fun j hj => absurd hj (by omega), off_rf _ _⟩ (fun i hi τ ht => by
    unfold fJ7_fill_53178_26_5
    rw [nI_clamp (by omega)]
    refine ⟨fun j hj => ?_, off_zu ht.2 (by simp) _⟩
    rw [zu_self]
    by_cases e : j = i
    · subst e; rw [zu_self]
    · rw [zu_ne _ _ e]; exact ht.1 j (by omega)) 12 (Nat.le_refl _)
  exact ⟨fun i hi => vp_in_nI hi (by decide), key⟩
theorem fill31 (σ : zc_N) (v : Int32) : pJ7_fill_53178_31 σ v ∧ (∀ j, j < 12 → sJ7_fill_53178_31 σ v 31 j = v) ∧ off [31] σ (sJ7_fill_53178_31 σ v) := by
  have key := zfor_inv (fun i (τ : zc_N) => (∀ j, j < i → τ 31 j = v) ∧ off [31] σ τ) (fJ7_fill_53178_31_5 v) 12 σ ⟨fun j hj => absurd hj (by omega), off_rf _ _⟩ (fun i hi τ ht => by
    unfold fJ7_fill_53178_31_5
    rw [nI_clamp (by omega)]
    refine ⟨fun j hj => ?_, off_zu ht.2 (by simp) _⟩
    rw [zu_self]
    by_cases e : j = i
    · subst e; rw [zu_self]
    · rw [zu_ne _ _ e]; exact ht.1 j (by omega)) 12 (Nat.le_refl _)
  exact ⟨fun i hi => vp_in_nI hi (by decide), key⟩
theorem cl_sub {a b : Nat} (h : b ≤ a) (ha : a < 2 ^ 31) : (nI a - nI b).toNatClampNeg = a - b := by rw [sub_n h, nI_clamp (by omega)]
theorem most_c {M : Nat → Nat → Bool} {n first : Nat} {F : Nat → Bool} {σ : zc_N} (hn : n ≤ 12) (hf : first ≤ n) (hM : cM M n σ) (hsz : σ 16 1 = nI n) : pX5_most σ (nI first) (nI (msk F)) ∧ rX5_most σ (nI first) (nI (msk F)) = nI (mst M first n F) ∧ k16 σ (sX5_most σ (nI first) (nI (msk F))) := by
  obtain ⟨f1, f2, f3⟩ := fill18 σ (-1)
  have e16 : sJ7_fill_53178_18 σ (-1) 16 1 = nI n := by rw [f3 16 (by decide)]; exact hsz
  have ec : ((sJ7_fill_53178_18 σ (-1) 16 1) - nI first).toNatClampNeg = n - first := by rw [e16]; exact cl_sub hf (by omega)
  have hcF := cnt_le F 12
  have stp : ∀ t, t < n - first → ∀ (a : Int32 × zc_N) (x : Nat × (Nat → Nat)), a.1 = nI x.1 → k16 σ a.2 → (∀ j, j < 12 → a.2 18 j = hI (x.2 j)) → (∀ q, x.2 q < 12 → x.2 q < n) →
      ((zFc 14).2.2 (zu a.2 16 (zu (a.2 16) 3 (nI (msk F)))) (nI first + nI t) 0 ∧ (zFc 14).1 (zu a.2 16 (zu (a.2 16) 3 (nI (msk F)))) (nI first + nI t) 0 = b2 (fd M 14 (first + t) (F, x.2)).1 ∧ cS ((zFc 14).2.1 (zu a.2 16 (zu (a.2 16) 3 (nI (msk F)))) (nI first + nI t) 0) (fd M 14 (first + t) (F, x.2)).2 ∧ k16 σ ((zFc 14).2.1 (zu a.2 16 (zu (a.2 16) 3 (nI (msk F)))) (nI first + nI t) 0)) := by
    intro t ht a x h1 h2 h3 h4
    rw [nI_add, ← nI_0]
    have := fd_c (M := M) hn 14 (first + t) 0 (zu a.2 16 (zu (a.2 16) 3 (nI (msk F)))) (F, x.2) (by omega) (by show cnt F 12 < 14; omega) (by show cnt F 12 + 0 ≤ 12; omega) h4 (fun i hi => by rw [zu_ne _ _ (by decide), h2.1 17 (by decide)]; exact hM i hi) ⟨by rw [zu_self, zu_self], fun j hj => by rw [zu_ne _ _ (by decide)]; exact h3 j hj⟩
    exact ⟨this.1, this.2.1, this.2.2.1, k16_tr (k16_16 h2 _) this.2.2.2⟩
  have key := zfor_sim (fun _ (a : Int32 × zc_N) (x : Nat × (Nat → Nat)) => a.1 = nI x.1 ∧ k16 σ a.2 ∧ (∀ j, j < 12 → a.2 18 j = hI (x.2 j)) ∧ (∀ q, x.2 q < 12 → x.2 q < n)) (fX5_most_13 (nI (msk F)) (nI first)) (mstf M F first) (n - first) (0, sJ7_fill_53178_18 σ (-1)) (0, fun _ => 99) ⟨rfl, ⟨off_sub f3 (by simp), fun q _ => congrFun (f3 16 (by decide)) q⟩, fun j hj => f2 j hj, fun q hq => absurd hq (by simp)⟩ (fun t ht a x hax => by
    obtain ⟨h1, h2, h3, h4⟩ := hax
    obtain ⟨s1, s2, s3, s4⟩ := stp t ht a x h1 h2 h3 h4
    unfold fX5_most_13 mstf
    dsimp only
    rw [s2]
    refine ⟨?_, s4, s3.2, fd_n M n 14 (first + t) (F, x.2) (by omega) h4⟩
    cases (fd M 14 (first + t) (F, x.2)).1
    · rw [if_pos (show b2 false = 0 from rfl), h1]; rfl
    · rw [if_neg (by decide), h1, nI_1]; rfl)
  obtain ⟨k1, k2, k3, k4⟩ := key (n - first) (Nat.le_refl _)
  unfold pX5_most rX5_most sX5_most vX5_most_1 vX5_most_2
  rw [ec]
  refine ⟨⟨f1, fun t ht => ?_, fun t ht => ?_⟩, k1, k2⟩
  · obtain ⟨g1, g2, g3, g4⟩ := key t ht
    rw [g2.2 1 (by decide), hsz, nI_add, nI_leI (by omega) (by omega)]
    omega
  · obtain ⟨g1, g2, g3, g4⟩ := key t (by omega)
    exact (stp t ht _ _ g1 g2 g3 g4).1
theorem cl_n {a : Nat} (h : a < 2 ^ 31) : (nI a).toNatClampNeg = a := nI_clamp h
theorem lc_n {n : Nat} (h : n < 2 ^ 31) : ∀ i, i ≤ n → (nI n ≤ nI i ↔ n ≤ i) := fun i hi => nI_leI h (by omega)
/-- those that are fixed are not free -/
def fxF (σ : zc_N) (first nb : Nat) (F : Nat → Bool) : Prop := ∀ j, j < nb → (F j = false ↔ ∃ k, k < first ∧ σ 50 k = nI j)
theorem mp55 {σ : zc_N} {first j : Nat} (hf : first ≤ 12) (hj : j < 12) : (∀ i, i ≤ first → ((zfor (fX9_mostPairs_55 (nI j)) i (zu σ 49 (zu (σ 49) j 0))) 49 j = 0 ↔ ¬ ∃ k, k < i ∧ σ 50 k = nI j) ∧ ((zfor (fX9_mostPairs_55 (nI j)) i (zu σ 49 (zu (σ 49) j 0))) 49 j = 0 ∨ (zfor (fX9_mostPairs_55 (nI j)) i (zu σ 49 (zu (σ 49) j 0))) 49 j = 1) ∧ (∀ q, q ≠ j → (zfor (fX9_mostPairs_55 (nI j)) i (zu σ 49 (zu (σ 49) j 0))) 49 q = σ 49 q) ∧ off [49] σ (zfor (fX9_mostPairs_55 (nI j)) i (zu σ 49 (zu (σ 49) j 0)))) := by
  refine zfor_inv (fun i (τ : zc_N) => (τ 49 j = 0 ↔ ¬ ∃ k, k < i ∧ σ 50 k = nI j) ∧ (τ 49 j = 0 ∨ τ 49 j = 1) ∧ (∀ q, q ≠ j → τ 49 q = σ 49 q) ∧ off [49] σ τ) (fX9_mostPairs_55 (nI j)) first _ ⟨⟨fun _ ⟨k, hk, _⟩ => absurd hk (by omega), fun _ => by rw [zu_self, zu_self]⟩, Or.inl (by rw [zu_self, zu_self]), fun q hq => by rw [zu_self, zu_ne _ _ hq], off_zu (off_rf _ _) (by simp) _⟩ (fun i hi τ ht => ?_)
  obtain ⟨h1, h2, h3, h4⟩ := ht
  unfold fX9_mostPairs_55
  rw [cl_n (by omega), cl_n (by omega), h4 50 (by decide)]
  refine ⟨?_, ?_, fun q hq => by rw [zu_self, zu_ne _ _ hq]; exact h3 q hq, off_zu h4 (by simp) _⟩
  · rw [zu_self, zu_self]
    by_cases c : τ 49 j = 0
    · rw [if_pos c]
      have hno := h1.mp c
      by_cases c2 : σ 50 i = nI j
      · rw [if_pos c2]
        exact ⟨fun h => absurd h (by decide), fun h => absurd ⟨i, Nat.lt_succ_self i, c2⟩ h⟩
      · rw [if_neg c2]
        refine ⟨fun _ ⟨k, hk, e⟩ => ?_, fun _ => rfl⟩
        by_cases ek : k = i
        · rw [ek] at e; exact c2 e
        · exact hno ⟨k, by omega, e⟩
    · rw [if_neg c]
      refine ⟨fun h => absurd h (by decide), fun h => absurd (h1.mpr (fun ⟨k, hk, e⟩ => h ⟨k, by omega, e⟩)) c⟩
  · rw [zu_self, zu_self]
    by_cases c : τ 49 j = 0
    · rw [if_pos c]
      by_cases c2 : σ 50 i = nI j
      · rw [if_pos c2]; exact Or.inr rfl
      · rw [if_neg c2]; exact Or.inl rfl
    · rw [if_neg c]; exact Or.inr rfl
theorem mp38 {σ : zc_N} {first nb : Nat} {F : Nat → Bool} (hf : first ≤ 12) (hnb : nb ≤ 12) (hF : fxF σ first nb F) : (∀ j, j < nb → (zfor (fX9_mostPairs_38 (nI first)) nb σ) 49 j = b2 (!F j)) ∧ off [49] σ (zfor (fX9_mostPairs_38 (nI first)) nb σ) ∧ ∀ i, i < nb → qX9_mostPairs_38 (nI first) i (zfor (fX9_mostPairs_38 (nI first)) i σ) := by
  have key := zfor_inv (fun i (τ : zc_N) => (∀ j, j < i → τ 49 j = b2 (!F j)) ∧ off [49] σ τ) (fX9_mostPairs_38 (nI first)) nb σ ⟨fun j hj => absurd hj (by omega), off_rf _ _⟩ (fun i hi τ ht => by
    unfold fX9_mostPairs_38 vX9_mostPairs_1
    rw [cl_n (by omega), cl_n (by omega)]
    obtain ⟨m1, m2, m3, m4⟩ := mp55 (σ := τ) hf (show i < 12 by omega) first (Nat.le_refl _)
    rw [ht.2 50 (by decide)] at m1
    refine ⟨fun j hj => ?_, off_tr ht.2 m4⟩
    by_cases e : j = i
    · subst e
      have := hF j hi
      cases hfj : F j
      · have h0 := this.mp hfj
        rcases m2 with h | h
        · exact absurd h0 (m1.mp h)
        · exact h
      · have h0 : ¬ ∃ k, k < first ∧ σ 50 k = nI j := fun h => by rw [this.mpr h] at hfj; cases hfj
        exact m1.mpr h0
    · rw [m3 j e]; exact ht.1 j (by omega))
  refine ⟨(key nb (Nat.le_refl _)).1, (key nb (Nat.le_refl _)).2, fun i hi => ?_⟩
  unfold qX9_mostPairs_38
  rw [cl_n (a := first) (by omega)]
  have v : vp_in (nI i) 12 := vp_in_nI (by omega) (by decide)
  exact ⟨v, lc_n (by omega), fun k hk => ⟨v, ⟨fun _ => vp_in_nI (by omega) (by decide), fun _ => trivial⟩, v⟩⟩
theorem most_m {M : Nat → Nat → Bool} {n nb first : Nat} {F : Nat → Bool} {σ : zc_N} (hn : n ≤ 12) (hnb : nb ≤ 12) (hf : first ≤ n) (hM0 : ∀ i j, nb ≤ j → M i j = false) (hM : mM M n nb σ) (hF : fxF σ first nb F) : pX9_mostPairs σ (nI first) (nI n) (nI nb) ∧ rX9_mostPairs σ (nI first) (nI n) (nI nb) = nI (mst M first n F) ∧ off [48, 49] σ (sX9_mostPairs σ (nI first) (nI n) (nI nb)) := by
  have hcF := cnt_le F 12
  have ini := zfor_inv (fun i (τ : zc_N) => (∀ j, j < i → τ 48 j = -1) ∧ off [48, 49] σ τ) fX9_mostPairs_3 nb σ ⟨fun j hj => absurd hj (by omega), off_rf _ _⟩ (fun i hi τ ht => by
    unfold fX9_mostPairs_3
    rw [cl_n (by omega)]
    refine ⟨fun j hj => ?_, off_zu ht.2 (by simp) _⟩
    rw [zu_self]
    by_cases e : j = i
    · subst e; rw [zu_self]
    · rw [zu_ne _ _ e]; exact ht.1 j (by omega)) nb (Nat.le_refl _)
  have stp : ∀ t, t < n - first → ∀ (a : Int32 × zc_N) (x : Nat × (Nat → Nat)), off [48, 49] σ a.2 → (∀ j, j < nb → a.2 48 j = hI (x.2 j)) → (∀ q, x.2 q < 12 → x.2 q < n) →
      (qX9_mostPairs_29 (nI first) (nI nb) (nI first) t a ∧ (zFm 13).1 (zfor (fX9_mostPairs_38 (nI first)) nb a.2) (nI first + nI t) (nI nb) = b2 (fd M 14 (first + t) (F, x.2)).1 ∧ mS nb ((zFm 13).2.1 (zfor (fX9_mostPairs_38 (nI first)) nb a.2) (nI first + nI t) (nI nb)) (fd M 14 (first + t) (F, x.2)).2 ∧ off [48, 49] σ ((zFm 13).2.1 (zfor (fX9_mostPairs_38 (nI first)) nb a.2) (nI first + nI t) (nI nb))) := by
    intro t ht a x h2 h3 h4
    obtain ⟨m1, m2, m3⟩ := mp38 (σ := a.2) (F := F) (show first ≤ 12 by omega) hnb (fun j hj => by rw [h2 50 (by decide)]; exact hF j hj)
    have ho := off_tr h2 (off_sub m2 (T := [48, 49]) (by simp))
    have := fd_m (M := M) hn hnb hM0 13 (first + t) (zfor (fX9_mostPairs_38 (nI first)) nb a.2) (F, x.2) (by omega) (by show cnt F 12 < 13; omega) h4 (fun i j hi hj => by rw [ho 47 (by decide)]; exact hM i j hi hj) (fun j hj => ⟨m1 j hj, by rw [m2 48 (by decide)]; exact h3 j hj⟩)
    rw [← fd_fuel M 13 (first + t) (F, x.2) (by omega) (by show cnt F 12 < 13; omega)] at this
    unfold qX9_mostPairs_29
    rw [nI_add, cl_n (a := nb) (by omega)]
    exact ⟨⟨⟨lc_n (by omega), m3⟩, this.1⟩, this.2.1, this.2.2.1, off_tr ho this.2.2.2⟩
  have key := zfor_sim (fun _ (a : Int32 × zc_N) (x : Nat × (Nat → Nat)) => a.1 = nI x.1 ∧ off [48, 49] σ a.2 ∧ (∀ j, j < nb → a.2 48 j = hI (x.2 j)) ∧ (∀ q, x.2 q < 12 → x.2 q < n)) (fX9_mostPairs_29 (nI first) (nI nb) (nI first)) (mstf M F first) (n - first) (0, zfor fX9_mostPairs_3 nb σ) (0, fun _ => 99) ⟨rfl, ini.2, fun j hj => ini.1 j hj, fun q hq => absurd hq (by simp)⟩ (fun t ht a x hax => by
    obtain ⟨h1, h2, h3, h4⟩ := hax
    obtain ⟨s1, s2, s3, s4⟩ := stp t ht a x h2 h3 h4
    unfold fX9_mostPairs_29 vX9_mostPairs_2 mstf
    dsimp only
    rw [cl_n (a := nb) (by omega), s2]
    refine ⟨?_, s4, fun j hj => (s3 j hj).2, fd_n M n 14 (first + t) (F, x.2) (by omega) h4⟩
    rw [b2_if, b2_n, h1, nI_add])
  obtain ⟨k1, k2, k3, k4⟩ := key (n - first) (Nat.le_refl _)
  unfold pX9_mostPairs rX9_mostPairs sX9_mostPairs vX9_mostPairs_3 vX9_mostPairs_4
  rw [cl_n (a := nb) (by omega), cl_sub hf (by omega)]
  refine ⟨⟨⟨lc_n (by omega), fun i hi => vp_in_nI (by omega) (by decide)⟩, fun t ht => ?_, fun t ht => ?_⟩, k1, k2⟩
  · rw [nI_add, nI_leI (by omega) (by omega)]
    omega
  · obtain ⟨g1, g2, g3, g4⟩ := key t (by omega)
    exact (stp t ht _ _ g2 g3 g4).1
