/-! ===== pure rows: the match, by the class, and what it knows of it ===== -/
def iK (A : gA) (n : Nat) (σ : zc_N) : Prop := (∀ r a b, r < 4 → a < n → b < n → (σ 11 ((r * 24 + a) * 24 + b) = 0 ∨ σ 11 ((r * 24 + a) * 24 + b) = bI (Sk A r a b) (Bk A r a b))) ∧ ∀ r a b, r < 4 → a < 24 → b < 24 → (n ≤ a ∨ n ≤ b) → σ 11 ((r * 24 + a) * 24 + b) = 0
theorem iK_11 {A : gA} {n : Nat} {σ τ : zc_N} (h : iK A n σ) (e : τ 11 = σ 11) : iK A n τ := by unfold iK; rw [e]; exact h
def sK : List Nat := [10, 11, 13, 14, 15, 16, 17, 18, 19, 20, 21, 22]
theorem bI_f {A : gA} {r a b : Nat} (hva : pV A a) (hvb : pV A b) (h : Bk A r a b < 3844) : ∃ s : Nat, Sk A r a b (Bk A r a b) + 1000 = s ∧ 928 ≤ s ∧ s ≤ 1120 ∧ bI (Sk A r a b) (Bk A r a b) = nI (s * 3844 + Bk A r a b) := by
  have hb := Sk_b (r := r) hva hvb (Bk A r a b)
  obtain ⟨s, hs⟩ : ∃ s : Nat, Sk A r a b (Bk A r a b) + 1000 = s := ⟨(Sk A r a b (Bk A r a b) + 1000).toNat, by omega⟩
  refine ⟨s, hs, by omega, by omega, ?_⟩
  unfold bI
  rw [if_pos h, hs, nz (by omega)]
  congr 1
theorem bI_n {A : gA} {r a b : Nat} (h : Bk A r a b = 9999) : bI (Sk A r a b) (Bk A r a b) = 1 := by
  unfold bI
  rw [if_neg (by omega)]
theorem bI_1 {A : gA} {r a b : Nat} (hva : pV A a) (hvb : pV A b) : (bI (Sk A r a b) (Bk A r a b) = 1 ↔ Bk A r a b = 9999) ∧ ¬ bI (Sk A r a b) (Bk A r a b) = 0 := by
  rcases Bk_s A r a b with h | h
  · rw [bI_n h]
    exact ⟨⟨fun _ => h, fun _ => rfl⟩, by decide⟩
  · obtain ⟨s, h1, h2, h3, h4⟩ := bI_f hva hvb h
    rw [h4, i1, nI_eq (by omega) (by decide), ← nI_0, nI_eq (by omega) (by decide)]
    exact ⟨⟨fun z => by omega, fun z => by omega⟩, by omega⟩
theorem bestOf_c {P : zp} {A : gA} {σ : zc_N} {r a b n : Nat} (hn : n ≤ 24) (ha : a < n) (hb : b < n) (hca : pC P A σ a) (hcb : pC P A σ b) (hva : pV A a) (hvb : pV A b) (hr : r < 4) (hre : σ 10 0 = nI r) (hK : iK A n σ) : pX4_bestOf P σ a b ∧ rX4_bestOf P σ a b = bI (Sk A r a b) (Bk A r a b) ∧ iK A n (sX4_bestOf P σ a b) ∧ off sK σ (sX4_bestOf P σ a b) ∧ ∀ k, k ≠ 8 → k ≠ 9 → sX4_bestOf P σ a b 10 k = σ 10 k := by
  have e : (((((σ 10) 0) * (24 : Int32)) + ((σ (pO a)) 0)) * (24 : Int32)) + ((σ (pO b)) 0) = nI ((r * 24 + a) * 24 + b) := by
    rw [hre, hca.2.1, hcb.2.1, show (24 : Int32) = nI 24 from rfl, pk_mul, nI_add, pk_mul, nI_add]
  have v : vp_in (nI ((r * 24 + a) * 24 + b)) 2304 := vp_in_nI (by omega) (by decide)
  obtain ⟨s1, s2, s3, s4⟩ := search_c hca hcb hva hvb hr hre
  have s2 : rX4_search P σ a b = bI (Sk A r a b) (Bk A r a b) := s2
  unfold pX4_bestOf rX4_bestOf sX4_bestOf
  rw [e, cl_n (by omega)]
  by_cases c : σ 11 ((r * 24 + a) * 24 + b) = 0
  · rw [if_pos c, if_pos c, s2, zu_self]
    refine ⟨⟨v, fun _ => ⟨s1, v, v⟩, fun _ => v⟩, rfl, ⟨fun r' a' b' h1 h2 h3 => ?_, fun r' a' b' h1 h2 h3 h4 => ?_⟩, off_zu (off_sub s3 (by decide)) (by decide) _, fun k h8 h9 => by rw [zu_ne _ _ (by decide)]; exact s4 k h8 h9⟩
    · rw [zu_self]
      by_cases e2 : (r' * 24 + a') * 24 + b' = (r * 24 + a) * 24 + b
      · have : r' = r ∧ a' = a ∧ b' = b := by omega
        obtain ⟨e3, e4, e5⟩ := this
        subst e3 e4 e5
        rw [zu_self]
        exact Or.inr rfl
      · rw [zu_ne _ _ e2, s3 11 (by decide)]
        exact hK.1 r' a' b' h1 h2 h3
    · rw [zu_self, zu_ne _ _ (by omega), s3 11 (by decide)]
      exact hK.2 r' a' b' h1 h2 h3 h4
  · rw [if_neg c, if_neg c]
    exact ⟨⟨v, fun z => absurd z c, fun _ => v⟩, (hK.1 r a b hr ha hb).resolve_left c, hK, off_rf _ _, fun _ _ _ => rfl⟩
theorem unp {s x : Nat} (hs : s ≤ 2000) (hx : x < 3844) : rX4_unpackScore (nI (s * 3844 + x)) = zI ((s : Int) - 1000) ∧ rX4_unpackTurn (nI (s * 3844 + x)) = nI (x / 961) ∧ rX4_unpackRow (nI (s * 3844 + x)) = zI (kdy x) ∧ rX4_unpackColumn (nI (s * 3844 + x)) = zI (kdx x) := by
  unfold rX4_unpackScore rX4_unpackTurn rX4_unpackRow rX4_unpackColumn
  rw [show (3844 : Int32) = nI 3844 from rfl, show (961 : Int32) = nI 961 from rfl, show (4 : Int32) = nI 4 from rfl, show (31 : Int32) = nI 31 from rfl, pk_div (by omega) (by decide) (by decide), pk_div (d := 961) (by omega) (by decide) (by decide), pk_rem (a := (s * 3844 + x) / 961) (by omega) (by decide) (by decide), pk_rem (a := s * 3844 + x) (d := 31) (by omega) (by decide) (by decide), pk_div (d := 31) (by omega) (by decide) (by decide), pk_rem (a := (s * 3844 + x) / 31) (by omega) (by decide) (by decide)]
  refine ⟨?_, ?_, ?_, ?_⟩
  · rw [show (-1000 : Int32) = zI (-1000) from rfl, nz (by omega), zI_add]
    congr 1
    omega
  · congr 1
    omega
  · rw [shf (by omega)]
    unfold kdy
    congr 1
    omega
  · rw [shf (by omega)]
    unfold kdx
    congr 1
    omega
theorem scoreOf_c {P : zp} {A : gA} {σ : zc_N} {r a b n : Nat} (hn : n ≤ 24) (ha : a < n) (hb : b < n) (hca : pC P A σ a) (hcb : pC P A σ b) (hva : pV A a) (hvb : pV A b) (hr : r < 4) (hre : σ 10 0 = nI r) (hK : iK A n σ) : pX4_scoreOf P σ a b ∧ rX4_scoreOf P σ a b = zI (mval A r a b) ∧ iK A n (sX4_scoreOf P σ a b) ∧ off sK σ (sX4_scoreOf P σ a b) ∧ ∀ k, k ≠ 8 → k ≠ 9 → sX4_scoreOf P σ a b 10 k = σ 10 k := by
  obtain ⟨b1, b2, b3, b4, b5⟩ := bestOf_c hn ha hb hca hcb hva hvb hr hre hK
  refine ⟨b1, ?_, b3, b4, b5⟩
  unfold rX4_scoreOf mval
  rw [b2]
  have h1 := (bI_1 (r := r) hva hvb).1
  rcases Bk_s A r a b with h | h
  · rw [if_pos (h1.mpr h), if_neg (by omega)]; rfl
  · rw [if_neg (fun z => by have := h1.mp z; omega), if_pos h]
    obtain ⟨s, h2, h3, h4, h5⟩ := bI_f hva hvb h
    rw [h5, (unp (by omega) h).1]
    congr 1
    omega
/-- what a match leaves in a laying of the class -/
def lres_l (A : gA) (r a b : Nat) (τ : zc_N) : Prop := (Bk A r a b < 3844 ∧ τ 23 0 = 1 ∧ τ 23 1 = nI (bQ A r a b) ∧ τ 23 2 = zI (bX A r a b) ∧ τ 23 3 = zI (bY A r a b) ∧ filled_l A r a b (bQ A r a b) (bX A r a b) (bY A r a b) τ) ∨ (Bk A r a b = 9999 ∧ (∀ k, k < 9 → τ 23 k = 0) ∧ ∀ i, i < 12 → τ 24 i = -1)
theorem layBest_l {P : zp} {A : gA} {σ : zc_N} {r a b n : Nat} (hn : n ≤ 24) (ha : a < n) (hb : b < n) (hca : pC P A σ a) (hcb : pC P A σ b) (hva : pV A a) (hvb : pV A b) (hr : r < 4) (hre : σ 10 0 = nI r) (hK : iK A n σ) : pX4_layBest_l P σ a b ∧ lres_l A r a b (sX4_layBest_l P σ a b) ∧ iK A n (sX4_layBest_l P σ a b) ∧ off (23 :: 24 :: sK) σ (sX4_layBest_l P σ a b) ∧ ∀ k, k ≠ 8 → k ≠ 9 → sX4_layBest_l P σ a b 10 k = σ 10 k := by
  obtain ⟨b1, b2, b3, b4, b5⟩ := bestOf_c hn ha hb hca hcb hva hvb hr hre hK
  have h1 := (bI_1 (r := r) hva hvb).1
  unfold pX4_layBest_l sX4_layBest_l vX4_layBest_l_1
  rw [b2]
  generalize sX4_bestOf P σ a b = τ at b3 b4 b5
  rcases Bk_s A r a b with h | h
  · rw [if_pos (h1.mpr h)]
    obtain ⟨f1, f2, f3⟩ := fill24 (zu (sX3_set_l τ 0 0 0) 23 (zu (zu (zu (zu (zu (zu ((sX3_set_l τ 0 0 0) 23) 0 0) 4 0) 5 0) 6 0) 7 0) 8 0)) (-1)
    have oS : off (23 :: 24 :: sK) σ (sX3_setNone_l τ) := off_tr (off_zu (off_zu (off_sub b4 (by decide)) (by decide) _) (by decide) _) (off_sub f3 (by decide))
    refine ⟨⟨b1, fun _ => f1, fun z => absurd (h1.mpr h) z⟩, Or.inr ⟨h, fun k hk => ?_, f2⟩, ?_, oS, fun k h8 h9 => ?_⟩
    · show sJ7_fill_53178_24 (zu (sX3_set_l τ 0 0 0) 23 (zu (zu (zu (zu (zu (zu ((sX3_set_l τ 0 0 0) 23) 0 0) 4 0) 5 0) 6 0) 7 0) 8 0)) (-1) 23 k = 0
      rw [f3 23 (by decide), zu_self]
      unfold sX3_set_l
      rw [zu_self]
      have : k = 0 ∨ k = 1 ∨ k = 2 ∨ k = 3 ∨ k = 4 ∨ k = 5 ∨ k = 6 ∨ k = 7 ∨ k = 8 := by omega
      unfold zu
      rcases this with rfl | rfl | rfl | rfl | rfl | rfl | rfl | rfl | rfl <;> rfl
    · refine iK_11 b3 ?_
      show sJ7_fill_53178_24 (zu (sX3_set_l τ 0 0 0) 23 (zu (zu (zu (zu (zu (zu ((sX3_set_l τ 0 0 0) 23) 0 0) 4 0) 5 0) 6 0) 7 0) 8 0)) (-1) 11 = τ 11
      rw [f3 11 (by decide), zu_ne _ _ (by decide)]
      unfold sX3_set_l
      rw [zu_ne _ _ (by decide)]
    · show sJ7_fill_53178_24 (zu (sX3_set_l τ 0 0 0) 23 (zu (zu (zu (zu (zu (zu ((sX3_set_l τ 0 0 0) 23) 0 0) 4 0) 5 0) 6 0) 7 0) 8 0)) (-1) 10 k = _
      rw [f3 10 (by decide), zu_ne _ _ (by decide)]
      unfold sX3_set_l
      rw [zu_ne _ _ (by decide)]
      exact b5 k h8 h9
  · have hn1 : ¬ bI (Sk A r a b) (Bk A r a b) = 1 := fun z => by have := h1.mp z; omega
    obtain ⟨s, h2, h3, h4, h5⟩ := bI_f hva hvb h
    obtain ⟨g1, g2, g3⟩ := bQXY h
    have u := unp (s := s) (x := Bk A r a b) (by omega) h
    rw [if_neg hn1, h5, u.2.1, u.2.2.1, u.2.2.2]
    have oS : off (23 :: 24 :: sK) σ (sX3_set_l τ (nI (bQ A r a b)) (zI (bX A r a b)) (zI (bY A r a b))) := off_zu (off_sub b4 (by decide)) (by decide) _
    have e10 : (sX3_set_l τ (nI (bQ A r a b)) (zI (bX A r a b)) (zI (bY A r a b))) 10 = τ 10 := by unfold sX3_set_l; rw [zu_ne _ _ (by decide)]
    have e11 : (sX3_set_l τ (nI (bQ A r a b)) (zI (bX A r a b)) (zI (bY A r a b))) 11 = τ 11 := by unfold sX3_set_l; rw [zu_ne _ _ (by decide)]
    have c0 : (sX3_set_l τ (nI (bQ A r a b)) (zI (bX A r a b)) (zI (bY A r a b))) 23 0 = 1 := by unfold sX3_set_l; rw [zu_self, zu_ne _ _ (by decide), zu_ne _ _ (by decide), zu_ne _ _ (by decide), zu_self]
    have c1 : (sX3_set_l τ (nI (bQ A r a b)) (zI (bX A r a b)) (zI (bY A r a b))) 23 1 = nI (bQ A r a b) := by unfold sX3_set_l; rw [zu_self, zu_ne _ _ (by decide), zu_ne _ _ (by decide), zu_self]
    have c2 : (sX3_set_l τ (nI (bQ A r a b)) (zI (bX A r a b)) (zI (bY A r a b))) 23 2 = zI (bX A r a b) := by unfold sX3_set_l; rw [zu_self, zu_ne _ _ (by decide), zu_self]
    have c3 : (sX3_set_l τ (nI (bQ A r a b)) (zI (bX A r a b)) (zI (bY A r a b))) 23 3 = zI (bY A r a b) := by unfold sX3_set_l; rw [zu_self, zu_self]
    have u1 : nI (Bk A r a b / 961) = nI (bQ A r a b) := rfl
    have u2 : zI (kdx (Bk A r a b)) = zI (bX A r a b) := rfl
    have u3 : zI (kdy (Bk A r a b)) = zI (bY A r a b) := rfl
    rw [u1, u2, u3]
    obtain ⟨f1, f2, f3, f4, f5⟩ := fillIn_l (P := P) (A := A) (σ := sX3_set_l τ (nI (bQ A r a b)) (zI (bX A r a b)) (zI (bY A r a b))) (pC_off hca oS (by decide)) (pC_off hcb oS (by decide)) hva hvb hr g1 g2 g3 (by rw [e10, b5 0 (by decide) (by decide)]; exact hre) c1 c2 c3
    generalize sX3_set_l τ (nI (bQ A r a b)) (zI (bX A r a b)) (zI (bY A r a b)) = υ at f1 f2 f3 f4 f5 oS e10 e11 c0 c1 c2 c3
    refine ⟨⟨b1, fun z => absurd (h5.trans z) hn1, fun _ => f1⟩, Or.inl ⟨h, by rw [f3 0 (by decide)]; exact c0, by rw [f3 1 (by decide)]; exact c1, by rw [f3 2 (by decide)]; exact c2, by rw [f3 3 (by decide)]; exact c3, f2⟩, ?_, off_tr oS (off_sub f5 (by decide)), fun k h8 h9 => ?_⟩
    · refine iK_11 b3 ?_
      rw [f5 11 (by decide), e11]
    · rw [f4 k h8 h9, e10]
      exact b5 k h8 h9
/-- what a match leaves in a laying of the class -/
def lres_t (A : gA) (r a b : Nat) (τ : zc_N) : Prop := (Bk A r a b < 3844 ∧ τ 25 0 = 1 ∧ τ 25 1 = nI (bQ A r a b) ∧ τ 25 2 = zI (bX A r a b) ∧ τ 25 3 = zI (bY A r a b) ∧ filled_t A r a b (bQ A r a b) (bX A r a b) (bY A r a b) τ) ∨ (Bk A r a b = 9999 ∧ (∀ k, k < 9 → τ 25 k = 0) ∧ ∀ i, i < 12 → τ 26 i = -1)
theorem layBest_t {P : zp} {A : gA} {σ : zc_N} {r a b n : Nat} (hn : n ≤ 24) (ha : a < n) (hb : b < n) (hca : pC P A σ a) (hcb : pC P A σ b) (hva : pV A a) (hvb : pV A b) (hr : r < 4) (hre : σ 10 0 = nI r) (hK : iK A n σ) : pX4_layBest_t P σ a b ∧ lres_t A r a b (sX4_layBest_t P σ a b) ∧ iK A n (sX4_layBest_t P σ a b) ∧ off (25 :: 26 :: sK) σ (sX4_layBest_t P σ a b) ∧ ∀ k, k ≠ 8 → k ≠ 9 → sX4_layBest_t P σ a b 10 k = σ 10 k := by
  obtain ⟨b1, b2, b3, b4, b5⟩ := bestOf_c hn ha hb hca hcb hva hvb hr hre hK
  have h1 := (bI_1 (r := r) hva hvb).1
  unfold pX4_layBest_t sX4_layBest_t vX4_layBest_t_2
  rw [b2]
  generalize sX4_bestOf P σ a b = τ at b3 b4 b5
  rcases Bk_s A r a b with h | h
  · rw [if_pos (h1.mpr h)]
    obtain ⟨f1, f2, f3⟩ := fill26 (zu (sX3_set_t τ 0 0 0) 25 (zu (zu (zu (zu (zu (zu ((sX3_set_t τ 0 0 0) 25) 0 0) 4 0) 5 0) 6 0) 7 0) 8 0)) (-1)
    have oS : off (25 :: 26 :: sK) σ (sX3_setNone_t τ) := off_tr (off_zu (off_zu (off_sub b4 (by decide)) (by decide) _) (by decide) _) (off_sub f3 (by decide))
    refine ⟨⟨b1, fun _ => f1, fun z => absurd (h1.mpr h) z⟩, Or.inr ⟨h, fun k hk => ?_, f2⟩, ?_, oS, fun k h8 h9 => ?_⟩
    · show sJ7_fill_53178_26 (zu (sX3_set_t τ 0 0 0) 25 (zu (zu (zu (zu (zu (zu ((sX3_set_t τ 0 0 0) 25) 0 0) 4 0) 5 0) 6 0) 7 0) 8 0)) (-1) 25 k = 0
      rw [f3 25 (by decide), zu_self]
      unfold sX3_set_t
      rw [zu_self]
      have : k = 0 ∨ k = 1 ∨ k = 2 ∨ k = 3 ∨ k = 4 ∨ k = 5 ∨ k = 6 ∨ k = 7 ∨ k = 8 := by omega
      unfold zu
      rcases this with rfl | rfl | rfl | rfl | rfl | rfl | rfl | rfl | rfl <;> rfl
    · refine iK_11 b3 ?_
      show sJ7_fill_53178_26 (zu (sX3_set_t τ 0 0 0) 25 (zu (zu (zu (zu (zu (zu ((sX3_set_t τ 0 0 0) 25) 0 0) 4 0) 5 0) 6 0) 7 0) 8 0)) (-1) 11 = τ 11
      rw [f3 11 (by decide), zu_ne _ _ (by decide)]
      unfold sX3_set_t
      rw [zu_ne _ _ (by decide)]
    · show sJ7_fill_53178_26 (zu (sX3_set_t τ 0 0 0) 25 (zu (zu (zu (zu (zu (zu ((sX3_set_t τ 0 0 0) 25) 0 0) 4 0) 5 0) 6 0) 7 0) 8 0)) (-1) 10 k = _
      rw [f3 10 (by decide), zu_ne _ _ (by decide)]
      unfold sX3_set_t
      rw [zu_ne _ _ (by decide)]
      exact b5 k h8 h9
  · have hn1 : ¬ bI (Sk A r a b) (Bk A r a b) = 1 := fun z => by have := h1.mp z; omega
    obtain ⟨s, h2, h3, h4, h5⟩ := bI_f hva hvb h
    obtain ⟨g1, g2, g3⟩ := bQXY h
    have u := unp (s := s) (x := Bk A r a b) (by omega) h
    rw [if_neg hn1, h5, u.2.1, u.2.2.1, u.2.2.2]
    have oS : off (25 :: 26 :: sK) σ (sX3_set_t τ (nI (bQ A r a b)) (zI (bX A r a b)) (zI (bY A r a b))) := off_zu (off_sub b4 (by decide)) (by decide) _
    have e10 : (sX3_set_t τ (nI (bQ A r a b)) (zI (bX A r a b)) (zI (bY A r a b))) 10 = τ 10 := by unfold sX3_set_t; rw [zu_ne _ _ (by decide)]
    have e11 : (sX3_set_t τ (nI (bQ A r a b)) (zI (bX A r a b)) (zI (bY A r a b))) 11 = τ 11 := by unfold sX3_set_t; rw [zu_ne _ _ (by decide)]
    have c0 : (sX3_set_t τ (nI (bQ A r a b)) (zI (bX A r a b)) (zI (bY A r a b))) 25 0 = 1 := by unfold sX3_set_t; rw [zu_self, zu_ne _ _ (by decide), zu_ne _ _ (by decide), zu_ne _ _ (by decide), zu_self]
    have c1 : (sX3_set_t τ (nI (bQ A r a b)) (zI (bX A r a b)) (zI (bY A r a b))) 25 1 = nI (bQ A r a b) := by unfold sX3_set_t; rw [zu_self, zu_ne _ _ (by decide), zu_ne _ _ (by decide), zu_self]
    have c2 : (sX3_set_t τ (nI (bQ A r a b)) (zI (bX A r a b)) (zI (bY A r a b))) 25 2 = zI (bX A r a b) := by unfold sX3_set_t; rw [zu_self, zu_ne _ _ (by decide), zu_self]
    have c3 : (sX3_set_t τ (nI (bQ A r a b)) (zI (bX A r a b)) (zI (bY A r a b))) 25 3 = zI (bY A r a b) := by unfold sX3_set_t; rw [zu_self, zu_self]
    have u1 : nI (Bk A r a b / 961) = nI (bQ A r a b) := rfl
    have u2 : zI (kdx (Bk A r a b)) = zI (bX A r a b) := rfl
    have u3 : zI (kdy (Bk A r a b)) = zI (bY A r a b) := rfl
    rw [u1, u2, u3]
    obtain ⟨f1, f2, f3, f4, f5⟩ := fillIn_t (P := P) (A := A) (σ := sX3_set_t τ (nI (bQ A r a b)) (zI (bX A r a b)) (zI (bY A r a b))) (pC_off hca oS (by decide)) (pC_off hcb oS (by decide)) hva hvb hr g1 g2 g3 (by rw [e10, b5 0 (by decide) (by decide)]; exact hre) c1 c2 c3
    generalize sX3_set_t τ (nI (bQ A r a b)) (zI (bX A r a b)) (zI (bY A r a b)) = υ at f1 f2 f3 f4 f5 oS e10 e11 c0 c1 c2 c3
    refine ⟨⟨b1, fun z => absurd (h5.trans z) hn1, fun _ => f1⟩, Or.inl ⟨h, by rw [f3 0 (by decide)]; exact c0, by rw [f3 1 (by decide)]; exact c1, by rw [f3 2 (by decide)]; exact c2, by rw [f3 3 (by decide)]; exact c3, f2⟩, ?_, off_tr oS (off_sub f5 (by decide)), fun k h8 h9 => ?_⟩
    · refine iK_11 b3 ?_
      rw [f5 11 (by decide), e11]
    · rw [f4 k h8 h9, e10]
      exact b5 k h8 h9
