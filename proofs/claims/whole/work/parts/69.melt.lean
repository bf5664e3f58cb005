/-! ===== melt, count ===== -/
theorem melt72 {P : zp} {σ : zc_N} {t u : Int32} (hn : P.2.1 ≤ 24) : ∀ k, k ≤ P.2.1 → ((∀ q, q < P.2.1 → (zfor (fX8_melt_72 t u) k σ) (pO q) 3 = if q < k ∧ σ (pO q) 3 = u then t else σ (pO q) 3) ∧ (∀ q m, m ≠ 3 → (zfor (fX8_melt_72 t u) k σ) (pO q) m = σ (pO q) m) ∧ (∀ c, (∀ q, c ≠ pO q) → (zfor (fX8_melt_72 t u) k σ) c = σ c) ∧ (k < P.2.1 → qX8_melt_72 P u k (zfor (fX8_melt_72 t u) k σ))) := by
  have q : ∀ k, k < P.2.1 → ∀ τ : zc_N, qX8_melt_72 P u k τ := fun k hk τ => by
    have v : vp_in (nI k) 24 ∧ (nI k).toNatClampNeg < P.2.1 := ⟨vp_in_nI (by omega) (by decide), by rw [cl_n (by omega)]; exact hk⟩
    exact ⟨v, fun _ => v, fun _ => trivial⟩
  have key := zfor_inv (fun k (τ : zc_N) => (∀ q, q < P.2.1 → τ (pO q) 3 = if q < k ∧ σ (pO q) 3 = u then t else σ (pO q) 3) ∧ (∀ q m, m ≠ 3 → τ (pO q) m = σ (pO q) m) ∧ (∀ c, (∀ q, c ≠ pO q) → τ c = σ c)) (fX8_melt_72 t u) P.2.1 σ ⟨fun q hq => by rw [if_neg (by omega)], fun _ _ _ => rfl, fun _ _ => rfl⟩ (fun k hk τ h => by
    obtain ⟨h1, h2, h3⟩ := h
    have e : τ (pO k) 3 = σ (pO k) 3 := by rw [h1 k hk, if_neg (by omega)]
    unfold fX8_melt_72
    rw [cl_n (by omega)]
    by_cases c : τ (pO k) 3 = u
    · rw [if_pos c]
      refine ⟨fun q hq => ?_, fun q m hm => ?_, fun c' hc => ?_⟩
      · by_cases eq : q = k
        · rw [eq, zu_self, zu_self, if_pos ⟨by omega, e ▸ c⟩]
        · rw [zu_ne _ _ (fun z => eq (pO_inj z)), h1 q hq]
          by_cases c2 : q < k ∧ σ (pO q) 3 = u
          · rw [if_pos c2, if_pos ⟨by omega, c2.2⟩]
          · rw [if_neg c2, if_neg (fun z => c2 ⟨by omega, z.2⟩)]
      · by_cases eq : q = k
        · rw [eq, zu_self, zu_ne _ _ hm]; exact h2 k m hm
        · rw [zu_ne _ _ (fun z => eq (pO_inj z))]; exact h2 q m hm
      · rw [zu_ne _ _ (hc k)]; exact h3 c' hc
    · rw [if_neg c]
      refine ⟨fun q hq => ?_, h2, h3⟩
      rw [h1 q hq]
      by_cases c2 : q < k ∧ σ (pO q) 3 = u
      · rw [if_pos c2, if_pos ⟨by omega, c2.2⟩]
      · rw [if_neg c2, if_neg (fun z => by
          by_cases eq : q = k
          · rw [eq] at z; exact c (e.trans z.2)
          · exact c2 ⟨by omega, z.2⟩)])
  intro k hk
  exact ⟨(key k hk).1, (key k hk).2.1, (key k hk).2.2, fun h => q k h _⟩
theorem melt66 {σ : zc_N} {n : Nat} {t u : Int32} (hn : n ≤ 24) : ∀ k, k ≤ n → ((∀ q, (zfor (fX9_melt_66 t u) k σ) 42 q = if q < k ∧ σ 42 q = u then t else σ 42 q) ∧ off [42] σ (zfor (fX9_melt_66 t u) k σ)) := by
  refine zfor_inv (fun k (τ : zc_N) => (∀ q, τ 42 q = if q < k ∧ σ 42 q = u then t else σ 42 q) ∧ off [42] σ τ) (fX9_melt_66 t u) n σ ⟨fun q => by rw [if_neg (by omega)], off_rf _ _⟩ (fun k hk τ h => ?_)
  obtain ⟨h1, h2⟩ := h
  have e : τ 42 k = σ 42 k := by rw [h1 k, if_neg (by omega)]
  unfold fX9_melt_66
  rw [cl_n (by omega)]
  refine ⟨fun q => ?_, off_zu h2 (by simp) _⟩
  rw [zu_self]
  by_cases eq : q = k
  · rw [eq, zu_self, e]
    by_cases c : σ 42 k = u
    · rw [if_pos c, if_pos ⟨by omega, c⟩]
    · rw [if_neg c, if_neg (fun z => c z.2)]
  · rw [zu_ne _ _ eq, h1 q]
    by_cases c2 : q < k ∧ σ 42 q = u
    · rw [if_pos c2, if_pos ⟨by omega, c2.2⟩]
    · rw [if_neg c2, if_neg (fun z => c2 ⟨by omega, z.2⟩)]
theorem ok_melt {P : zp} {A : gA} {σ : zc_N} (h : Inv P A σ) (a1 a2 : Int32) : pX8_melt P σ a1 a2 ∧ pX9_melt (sX8_melt σ a1 a2) a1 a2 ∧ rX8_melt σ a1 a2 = rX9_melt (sX8_melt σ a1 a2) a1 a2 ∧ Inv P A (sX9_melt (sX8_melt σ a1 a2) a1 a2) := by
  obtain ⟨hn, h3, h11, p2, p3⟩ := iP_parts h
  rcases tol a1 with ⟨t1, t2⟩ | ⟨t, ht, rfl, t1, t2⟩
  · have s8 : sX8_melt σ a1 a2 = σ := if_pos t1
    have s9 : sX9_melt σ a1 a2 = σ := if_pos t2
    have r8 : rX8_melt σ a1 a2 = -1 := if_pos t1
    have r9 : rX9_melt σ a1 a2 = -1 := if_pos t2
    rw [s8, s9, r8, r9]
    exact ⟨⟨fun _ => trivial, fun z => absurd t1 z⟩, ⟨fun _ => trivial, fun z => absurd t2 z⟩, rfl, h⟩
  · have nt1 : ¬ rX8_isTool (nI t) = 0 := fun z => n10 (t1.symm.trans z)
    have nt2 : ¬ rX9_isTool (nI t) = 0 := fun z => n10 (t2.symm.trans z)
    rcases tol a2 with ⟨u1, u2⟩ | ⟨u, hu, rfl, u1, u2⟩
    · have s8 : sX8_melt σ (nI t) a2 = σ := (if_neg nt1).trans (if_pos u1)
      have s9 : sX9_melt σ (nI t) a2 = σ := (if_neg nt2).trans (if_pos u2)
      have r8 : rX8_melt σ (nI t) a2 = -1 := (if_neg nt1).trans (if_pos u1)
      have r9 : rX9_melt σ (nI t) a2 = -1 := (if_neg nt2).trans (if_pos u2)
      rw [s8, s9, r8, r9]
      exact ⟨⟨fun _ => trivial, fun _ => ⟨fun _ => trivial, fun z => absurd u1 z⟩⟩, ⟨fun _ => trivial, fun _ => ⟨fun _ => trivial, fun z => absurd u2 z⟩⟩, rfl, h⟩
    · have nu1 : ¬ rX8_isTool (nI u) = 0 := fun z => n10 (u1.symm.trans z)
      have nu2 : ¬ rX9_isTool (nI u) = 0 := fun z => n10 (u2.symm.trans z)
      by_cases e : nI t = nI u
      · have s8 : sX8_melt σ (nI t) (nI u) = σ := ((if_neg nt1).trans (if_neg nu1)).trans (if_pos e)
        have s9 : sX9_melt σ (nI t) (nI u) = σ := ((if_neg nt2).trans (if_neg nu2)).trans (if_pos e)
        have r8 : rX8_melt σ (nI t) (nI u) = -1 := ((if_neg nt1).trans (if_neg nu1)).trans (if_pos e)
        have r9 : rX9_melt σ (nI t) (nI u) = -1 := ((if_neg nt2).trans (if_neg nu2)).trans (if_pos e)
        rw [s8, s9, r8, r9]
        exact ⟨⟨fun _ => trivial, fun _ => ⟨fun _ => trivial, fun _ => ⟨fun _ => trivial, fun z => absurd e z⟩⟩⟩, ⟨fun _ => trivial, fun _ => ⟨fun _ => trivial, fun _ => ⟨fun _ => trivial, fun z => absurd e z⟩⟩⟩, rfl, h⟩
      · -- the search for a year that both have
        have yc := fun y => year_c h3 hn (nI t) y
        have same : ∀ y : Int32, (∃ q, q < P.2.1 ∧ σ (pO q) 3 = nI t ∧ σ (pO q) 4 = y) ↔ ∃ q, q < P.2.1 ∧ σ 42 q = nI t ∧ σ 43 q = y := fun y => by
          constructor
          · rintro ⟨q, q1, q2, q3⟩; exact ⟨q, q1, by rw [← (p3 q q1).1]; exact q2, by rw [← (p3 q q1).2.1]; exact q3⟩
          · rintro ⟨q, q1, q2, q3⟩; exact ⟨q, q1, by rw [(p3 q q1).1]; exact q2, by rw [(p3 q q1).2.1]; exact q3⟩
        have hE8 : ∀ i, i ≤ P.2.1 → (eX8_melt_23 σ (nI t) (nI u) (nI i) ↔ P.2.1 ≤ i ∨ (i < P.2.1 ∧ σ 42 i = nI u ∧ ∃ q, q < P.2.1 ∧ σ 42 q = nI t ∧ σ 43 q = σ 43 i)) := fun i hi => by
          unfold eX8_melt_23
          rw [h3, cl_n (by omega), nI_leI (by omega) (by omega)]
          simp only [and_true, and_false, or_false, false_or]
          by_cases c : P.2.1 ≤ i
          · simp [c]
          · have hi2 : i < P.2.1 := by omega
            rw [(p3 i hi2).1, (p3 i hi2).2.1, (yc (σ 43 i)).2, Classical.not_not, same]
            simp [c, hi2]
        have hE9 : ∀ τ : zc_N, τ 32 11 = nI P.2.1 → τ 42 = σ 42 → τ 43 = σ 43 → ∀ i, i ≤ P.2.1 → (eX9_melt_23 τ (nI t) (nI u) (nI i) ↔ P.2.1 ≤ i ∨ (i < P.2.1 ∧ σ 42 i = nI u ∧ ∃ q, q < P.2.1 ∧ σ 42 q = nI t ∧ σ 43 q = σ 43 i)) := fun τ e11 e42 e43 i hi => by
          unfold eX9_melt_23
          rw [e11, cl_n (by omega), nI_leI (by omega) (by omega), e42, e43, (printOf_m e11 hn (nI t) (σ 43 i)).2, e42, e43, Classical.not_not]
          simp only [and_true, and_false, or_false, false_or]
          by_cases c : P.2.1 ≤ i
          · simp [c]
          · have hi2 : i < P.2.1 := by omega
            simp [c, hi2]
        obtain ⟨hx8, N, n1, n2, n3, n4, n5, n6⟩ := lookF (f := fX8_melt_23) (fun _ => rfl) hn hE8
        have q8 : ∀ i, i ≤ N → qX8_melt_23 P σ (nI t) (nI u) (nI i) := fun i hi => by
          unfold qX8_melt_23
          rw [h3, cl_n (by omega)]
          refine ⟨fun _ => trivial, fun c => ?_⟩
          have hlt : i < P.2.1 := Nat.lt_of_not_le (fun z => c (nI_le z (by omega)))
          have v : vp_in (nI i) 24 := vp_in_nI (by omega) (by decide)
          exact ⟨⟨v, hlt⟩, fun _ => ⟨⟨v, hlt⟩, (yc _).1⟩, fun _ => trivial⟩
        have hw8 : wX8_melt_23 σ (nI t) (nI u) 0 = nI N := by unfold wX8_melt_23; rw [n2, n3]
        have m8 := melt72 (P := P) (σ := σ) (t := nI t) (u := nI u) hn
        have k8 : ∀ k, k ≤ P.2.1 → (zfor (fX8_melt_72 (nI t) (nI u)) k σ) 3 = σ 3 := fun k hk => (m8 k hk).2.2.1 3 (fun q z => by have := pO_ge q; omega)
        have P8 : pX8_melt P σ (nI t) (nI u) := by
          unfold pX8_melt
          rw [hw8, h3, cl_n (by omega)]
          refine ⟨fun _ => trivial, fun _ => ⟨fun _ => trivial, fun _ => ⟨fun _ => trivial, fun _ => ⟨⟨hx8, fun i hi => by rw [n4]; exact q8 i (by omega)⟩, fun _ => ⟨⟨fun i hi => ?_, fun i hi => (m8 i (by omega)).2.2.2 hi⟩, (kept_c (by rw [k8 _ (Nat.le_refl _)]; exact h3) hn (nI t)).1⟩, ?_⟩⟩⟩⟩
          · rw [k8 i hi, h3]; exact nI_leI (by omega) (by omega)
          · have := (q8 N (Nat.le_refl _)).2
            rw [h3] at this
            exact this
        refine ⟨P8, ?_⟩
        have P9 : ∀ τ : zc_N, τ 32 11 = nI P.2.1 → τ 42 = σ 42 → τ 43 = σ 43 → (pX9_melt τ (nI t) (nI u) ∧ wX9_melt_23 τ (nI t) (nI u) 0 = nI N) := fun τ e11 e42 e43 => by
          obtain ⟨hx9, N', n1', n2', n3', n4', n5', n6'⟩ := lookF (f := fX9_melt_23) (fun _ => rfl) hn (hE9 τ e11 e42 e43)
          have eN : N' = N := by
            rcases Nat.lt_trichotomy N' N with hh | hh | hh
            · rcases n5' with z | z
              · omega
              · exact absurd z (n6 N' hh)
            · exact hh
            · rcases n5 with z | z
              · omega
              · exact absurd z (n6' N hh)
          subst eN
          have hw9 : wX9_melt_23 τ (nI t) (nI u) 0 = nI N' := by unfold wX9_melt_23; rw [n2', n3']
          have q9 : ∀ i, i ≤ N' → qX9_melt_23 τ (nI t) (nI u) (nI i) := fun i hi => by
            unfold qX9_melt_23
            rw [e11, cl_n (by omega)]
            refine ⟨fun _ => trivial, fun c => ?_⟩
            have hlt : i < P.2.1 := Nat.lt_of_not_le (fun z => c (nI_le z (by omega)))
            have v : vp_in (nI i) 24 := vp_in_nI (by omega) (by decide)
            exact ⟨v, fun _ => ⟨v, (printOf_m e11 hn (nI t) _).1⟩, fun _ => trivial⟩
          refine ⟨?_, hw9⟩
          have m9 := melt66 (σ := τ) (n := P.2.1) (t := nI t) (u := nI u) hn
          unfold pX9_melt
          rw [hw9, e11, cl_n (by omega)]
          refine ⟨fun _ => trivial, fun _ => ⟨fun _ => trivial, fun _ => ⟨fun _ => trivial, fun _ => ⟨⟨hx9, fun i hi => by rw [n4']; exact q9 i (by omega)⟩, fun _ => ⟨⟨fun i hi => ?_, fun i hi => ?_⟩, (kept_m (by rw [(m9 _ (Nat.le_refl _)).2 32 (by decide)]; exact e11) hn (nI t)).1⟩, ?_⟩⟩⟩⟩
          · rw [(m9 i hi).2 32 (by decide), e11]; exact nI_leI (by omega) (by omega)
          · have v : vp_in (nI i) 24 := vp_in_nI (by omega) (by decide)
            exact ⟨v, ⟨fun _ => trivial, fun _ => v⟩, v⟩
          · have := (q9 N' (Nat.le_refl _)).2
            rw [e11] at this
            exact this
        by_cases c : P.2.1 ≤ N
        · have le8 : σ 3 3 ≤ wX8_melt_23 σ (nI t) (nI u) 0 := by rw [hw8, h3]; exact nI_le c (by omega)
          have s8 : sX8_melt σ (nI t) (nI u) = zfor (fX8_melt_72 (nI t) (nI u)) P.2.1 σ := by
            refine ((((if_neg nt1).trans (if_neg nu1)).trans (if_neg e)).trans (if_pos le8)).trans ?_
            rw [h3, cl_n (by omega)]
          have r8 : rX8_melt σ (nI t) (nI u) = rX8_keptBy (zfor (fX8_melt_72 (nI t) (nI u)) P.2.1 σ) (nI t) := by
            refine ((((if_neg nt1).trans (if_neg nu1)).trans (if_neg e)).trans (if_pos le8)).trans ?_
            rw [h3, cl_n (by omega)]
          obtain ⟨w1, w2, w3, -⟩ := m8 P.2.1 (Nat.le_refl _)
          rw [s8, r8, (kept_c (by rw [k8 _ (Nat.le_refl _)]; exact h3) hn (nI t)).2]
          generalize zfor (fX8_melt_72 (nI t) (nI u)) P.2.1 σ = τ at w1 w2 w3
          have wk : ∀ c, c < 57 → τ c = σ c := fun c hc => w3 c (fun q z => by have := pO_ge q; omega)
          have e11 : τ 32 11 = nI P.2.1 := by rw [wk 32 (by decide)]; exact h11
          obtain ⟨p9, hw9⟩ := P9 τ e11 (wk 42 (by decide)) (wk 43 (by decide))
          have le9 : τ 32 11 ≤ wX9_melt_23 τ (nI t) (nI u) 0 := by rw [hw9, e11]; exact nI_le c (by omega)
          have s9 : sX9_melt τ (nI t) (nI u) = zfor (fX9_melt_66 (nI t) (nI u)) P.2.1 τ := by
            refine ((((if_neg nt2).trans (if_neg nu2)).trans (if_neg e)).trans (if_pos le9)).trans ?_
            rw [e11, cl_n (by omega)]
          have r9 : rX9_melt τ (nI t) (nI u) = rX9_keptBy (zfor (fX9_melt_66 (nI t) (nI u)) P.2.1 τ) (nI t) := by
            refine ((((if_neg nt2).trans (if_neg nu2)).trans (if_neg e)).trans (if_pos le9)).trans ?_
            rw [e11, cl_n (by omega)]
          obtain ⟨x1, x2⟩ := melt66 (σ := τ) (n := P.2.1) (t := nI t) (u := nI u) hn P.2.1 (Nat.le_refl _)
          rw [s9, r9, (kept_m (by rw [x2 32 (by decide)]; exact e11) hn (nI t)).2]
          generalize zfor (fX9_melt_66 (nI t) (nI u)) P.2.1 τ = ω at x1 x2
          have x42 : ∀ q, q < P.2.1 → τ (pO q) 3 = ω 42 q := fun q hq => by
            rw [w1 q hq, x1 q, wk 42 (by decide), (p3 q hq).1]
          refine ⟨p9, ?_, Inv_tool h (fun k hk h42 _ => by rw [x2 k (by simp; exact h42), wk k hk]) (fun q hq => ?_) (fun q hq => ?_) (fun v w hv hw hne he hn1 => ?_)⟩
          · congr 1
            exact cnt_congr _ (fun q hq => by rw [x42 q hq])
          · rw [x2 (pO q) (by simp; have := pO_ge q; omega), x2 (pP q) (by simp; show 58 + 3 * q ≠ 42; omega), x2 (pT q) (by simp; show 59 + 3 * q ≠ 42; omega), w2 q 0 (by decide), w3 (pP q) (fun m => pP_ne q m), w3 (pT q) (fun m => pT_ne q m)]
            exact ⟨rfl, rfl, rfl⟩
          · rw [x2 (pO q) (by simp; have := pO_ge q; omega), x2 43 (by decide)]
            refine ⟨x42 q hq, by rw [w2 q 4 (by decide), wk 43 (by decide)]; exact (p3 q hq).2.1, ?_⟩
            rw [x1 q, wk 42 (by decide), wk 43 (by decide)]
            rcases (p3 q hq).2.2 with ⟨z1, z2⟩ | ⟨t', y', z1, z2, z3, z4⟩
            · rw [if_neg (fun z => by rw [z1] at z; exact absurd ((hI_m1 u).mp (by rw [hI_lt (by omega)]; exact z.2.symm)) (by omega))]
              exact Or.inl ⟨z1, z2⟩
            · by_cases c2 : q < P.2.1 ∧ σ 42 q = nI u
              · rw [if_pos c2]; exact Or.inr ⟨t, y', ht, z2, rfl, z4⟩
              · rw [if_neg c2]; exact Or.inr ⟨t', y', z1, z2, z3, z4⟩
          · rw [x1 v, x1 w, wk 42 (by decide)] at he
            rw [x1 v, wk 42 (by decide)] at hn1
            rw [x2 43 (by decide), wk 43 (by decide)]
            have hy := h.2.2.2.2.2.2.2
            have no : ∀ i q, i < P.2.1 → q < P.2.1 → σ 42 i = nI u → σ 42 q = nI t → σ 43 q ≠ σ 43 i := fun i q hi hq g1 g2 g3 => n6 i (by omega) ⟨hi, g1, q, hq, g2, g3⟩
            by_cases cv : σ 42 v = nI u
            · rw [if_pos ⟨hv, cv⟩] at he
              by_cases cw : σ 42 w = nI u
              · exact hy v w hv hw hne (cv.trans cw.symm) (by rw [cv]; exact fun z => absurd ((hI_m1 u).mp (by rw [hI_lt (by omega)]; exact z)) (by omega))
              · rw [if_neg (fun z => cw z.2)] at he
                exact fun z => no v w hv hw cv he.symm z.symm
            · rw [if_neg (fun z => cv z.2)] at he hn1
              by_cases cw : σ 42 w = nI u
              · rw [if_pos ⟨hw, cw⟩] at he
                exact fun z => no w v hw hv cw he z
              · rw [if_neg (fun z => cw z.2)] at he
                exact hy v w hv hw hne he hn1
        · have nle8 : ¬ σ 3 3 ≤ wX8_melt_23 σ (nI t) (nI u) 0 := by rw [hw8, h3]; exact nI_ge (by omega) (by omega)
          obtain ⟨p9, hw9⟩ := P9 σ h11 rfl rfl
          have nle9 : ¬ σ 32 11 ≤ wX9_melt_23 σ (nI t) (nI u) 0 := by rw [hw9, h11]; exact nI_ge (by omega) (by omega)
          have s8 : sX8_melt σ (nI t) (nI u) = σ := (((if_neg nt1).trans (if_neg nu1)).trans (if_neg e)).trans (if_neg nle8)
          have s9 : sX9_melt σ (nI t) (nI u) = σ := (((if_neg nt2).trans (if_neg nu2)).trans (if_neg e)).trans (if_neg nle9)
          have r8 : rX8_melt σ (nI t) (nI u) = -3 := (((if_neg nt1).trans (if_neg nu1)).trans (if_neg e)).trans (if_neg nle8)
          have r9 : rX9_melt σ (nI t) (nI u) = -3 := (((if_neg nt2).trans (if_neg nu2)).trans (if_neg e)).trans (if_neg nle9)
          rw [s8, s9, r8, r9]
          exact ⟨p9, rfl, h⟩
theorem ok_count {P : zp} {A : gA} {σ : zc_N} (h : Inv P A σ) (a1 : Int32) : pX8_count P σ a1 ∧ pX9_count (sX8_count σ a1) a1 ∧ rX8_count σ a1 = rX9_count (sX8_count σ a1) a1 ∧ Inv P A (sX9_count (sX8_count σ a1) a1) := by
  obtain ⟨hn, h3, h11, p2, p3⟩ := iP_parts h
  have h' := h
  obtain ⟨⟨D, g1, g2⟩, -, -, -, -, hK, -⟩ := h'
  have rc := readPoints_c g1
  have kc : ∀ t : Int32, pX8_keptBy P σ t := fun t => (kept_c h3 hn t).1
  have P8 : pX8_count P σ a1 := ⟨fun _ => trivial, fun _ i _ => kc _, fun _ => trivial, fun _ => rc.1, fun _ _ _ _ => trivial⟩
  refine ⟨P8, ?_⟩
  have km : ∀ t : Int32, pX9_keptBy σ t := fun t => (kept_m h11 hn t).1
  have P9 : ∀ τ : zc_N, τ 32 11 = nI P.2.1 → gM D τ → pX9_count τ a1 := fun τ e hg => ⟨fun _ => trivial, fun _ i _ => (kept_m e hn _).1, fun _ => trivial, fun _ => (findPoints_m hg).1, fun _ _ _ _ => trivial⟩
  by_cases c0 : a1 = 0
  · have s8 : sX8_count σ a1 = σ := if_pos c0
    have s9 : sX9_count σ a1 = σ := if_pos c0
    have r8 : rX8_count σ a1 = σ 3 3 := if_pos c0
    have r9 : rX9_count σ a1 = σ 32 11 := if_pos c0
    rw [s8, s9, r8, r9, h3, h11]
    exact ⟨P9 σ h11 g2, rfl, h⟩
  · by_cases c1 : a1 = 1
    · have s8 : sX8_count σ a1 = σ := (if_neg c0).trans (if_pos c1)
      have s9 : sX9_count σ a1 = σ := (if_neg c0).trans (if_pos c1)
      have r8 : rX8_count σ a1 = rX8_toolsWithPrints σ := (if_neg c0).trans (if_pos c1)
      have r9 : rX9_count σ a1 = zfor (fX9_count_39 σ) 10 0 := (if_neg c0).trans (if_pos c1)
      rw [s8, s9, r8, r9]
      refine ⟨P9 σ h11 g2, ?_, h⟩
      unfold rX8_toolsWithPrints
      refine zfor_congr _ _ _ 10 (fun i hi x => ?_)
      unfold fX8_toolsWithPrints_4 fX9_count_39
      rw [(kept_c h3 hn (nI i)).2, (kept_m h11 hn (nI i)).2]
      have e : cnt (fun p => decide (σ (pO p) 3 = nI i)) P.2.1 = cnt (fun p => decide (σ 42 p = nI i)) P.2.1 := cnt_congr _ (fun q hq => by rw [(p3 q hq).1])
      rw [e]
      split
      · exact (Int32.add_zero _).symm
      · rfl
    · by_cases c2 : a1 = 2
      · have s8 : sX8_count σ a1 = σ := ((if_neg c0).trans (if_neg c1)).trans (if_pos c2)
        have s9 : sX9_count σ a1 = σ := ((if_neg c0).trans (if_neg c1)).trans (if_pos c2)
        have r8 : rX8_count σ a1 = rX1_darkCells σ := ((if_neg c0).trans (if_neg c1)).trans (if_pos c2)
        have r9 : rX9_count σ a1 = rX9_darkMany σ := ((if_neg c0).trans (if_neg c1)).trans (if_pos c2)
        rw [s8, s9, r8, r9, dc_c g1, dm_m g2]
        exact ⟨P9 σ h11 g2, rfl, h⟩
      · by_cases c3 : a1 = 3
        · have s8 : sX8_count σ a1 = sX1_readPoints σ := (((if_neg c0).trans (if_neg c1)).trans (if_neg c2)).trans (if_pos c3)
          have r8 : rX8_count σ a1 = rX1_readPoints σ := (((if_neg c0).trans (if_neg c1)).trans (if_neg c2)).trans (if_pos c3)
          have s9 : sX9_count (sX1_readPoints σ) a1 = sX9_findPoints (sX1_readPoints σ) := (((if_neg c0).trans (if_neg c1)).trans (if_neg c2)).trans (if_pos c3)
          have r9 : rX9_count (sX1_readPoints σ) a1 = rX9_findPoints (sX1_readPoints σ) := (((if_neg c0).trans (if_neg c1)).trans (if_neg c2)).trans (if_pos c3)
          obtain ⟨-, rc2, rc3, rc4, rc5⟩ := rc
          have gm := gM_off g2 rc5 (by decide)
          obtain ⟨fm1, fm2, fm3, fm4, fm5⟩ := findPoints_m gm
          rw [s8, s9, r8, r9, rc2, fm2]
          refine ⟨P9 _ (by rw [rc5 32 (by decide)]; exact h11) gm, rfl, ?_⟩
          have ho : off [8, 35, 36] σ (sX9_findPoints (sX1_readPoints σ)) := off_tr (off_sub rc5 (by simp)) (off_sub fm5 (by simp))
          exact Inv_sub h ho (by decide) (by rw [ho 10 (by decide)]) (fun k _ => by rw [ho 32 (by decide)]) (iK_11 hK (ho 11 (by decide)))
        · have s8 : sX8_count σ a1 = σ := (((if_neg c0).trans (if_neg c1)).trans (if_neg c2)).trans (if_neg c3)
          have s9 : sX9_count σ a1 = σ := (((if_neg c0).trans (if_neg c1)).trans (if_neg c2)).trans (if_neg c3)
          have r8 : rX8_count σ a1 = -1 := (((if_neg c0).trans (if_neg c1)).trans (if_neg c2)).trans (if_neg c3)
          have r9 : rX9_count σ a1 = -1 := (((if_neg c0).trans (if_neg c1)).trans (if_neg c2)).trans (if_neg c3)
          rw [s8, s9, r8, r9]
          exact ⟨P9 σ h11 g2, rfl, h⟩
