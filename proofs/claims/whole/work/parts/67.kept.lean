/-! ===== calls about prints and tools ===== -/
theorem prt {σ : zc_N} {n : Nat} (hn : n ≤ 24) (h11 : σ 32 11 = nI n) (a : Int32) : (rX8_isWithin a 0 (nI n - 1) = 0 ∧ rX9_isPrint σ a = 0) ∨ ∃ p, p < n ∧ a = nI p ∧ rX8_isWithin a 0 (nI n - 1) = 1 ∧ rX9_isPrint σ a = 1 := by
  unfold rX8_isWithin rX9_isPrint
  rw [h11]
  by_cases c : a < 0
  · exact Or.inl ⟨if_pos c, if_pos c⟩
  · obtain ⟨p, hp, rfl⟩ := nI_of c
    rw [if_neg c, if_neg c]
    by_cases c2 : n ≤ p
    · rw [if_pos (nI_le c2 hp)]
      refine Or.inl ⟨?_, rfl⟩
      cases n with
      | zero =>
        rw [if_pos]
        rw [Int32.lt_iff_toInt_lt, nI_toInt hp]
        show (-1 : Int) < p
        omega
      | succ n => rw [m1_succ, if_pos (nI_lt (by omega) hp)]
    · rw [if_neg (nI_ge (by omega) (by omega))]
      refine Or.inr ⟨p, by omega, rfl, ?_, rfl⟩
      obtain ⟨m, rfl⟩ : ∃ m, n = m + 1 := ⟨n - 1, by omega⟩
      rw [m1_succ, if_neg (nI_nlt (by omega) (by omega))]
theorem tol (a : Int32) : (rX8_isTool a = 0 ∧ rX9_isTool a = 0) ∨ ∃ t, t < 10 ∧ a = nI t ∧ rX8_isTool a = 1 ∧ rX9_isTool a = 1 := by
  unfold rX8_isTool rX8_isWithin rX9_isTool
  by_cases c : a < 0
  · exact Or.inl ⟨if_pos c, if_pos c⟩
  · obtain ⟨p, hp, rfl⟩ := nI_of c
    rw [if_neg c, if_neg c, show (9 : Int32) = nI 9 from rfl, show (10 : Int32) = nI 10 from rfl]
    by_cases c2 : 10 ≤ p
    · exact Or.inl ⟨if_pos (nI_lt (by omega) hp), if_pos (nI_le c2 hp)⟩
    · exact Or.inr ⟨p, by omega, rfl, if_neg (nI_nlt (by omega) (by decide)), if_neg (nI_ge (by omega) (by decide))⟩
theorem pAt {P : zp} {σ : zc_N} (h3 : σ 3 3 = nI P.2.1) (hn : P.2.1 ≤ 24) (a : Int32) (hq : ∀ p, p < P.2.1 → a = nI p → True) : (∀ p, p < P.2.1 → a = nI p → (vp_in a 24 ∧ a.toNatClampNeg < P.2.1)) := fun p hp e => by
  rw [e]
  exact ⟨vp_in_nI (by omega) (by decide), by rw [cl_n (by omega)]; exact hp⟩
theorem pAt_ok {P : zp} {σ : zc_N} (h3 : σ 3 3 = nI P.2.1) (h11 : σ 32 11 = nI P.2.1) (hn : P.2.1 ≤ 24) (a : Int32) : pX8_printAt P σ a := by
  unfold pX8_printAt
  rw [h3]
  rcases prt hn h11 a with ⟨e1, -⟩ | ⟨p, hp, rfl, e1, -⟩
  · exact ⟨fun _ => trivial, fun z => absurd e1 z⟩
  · exact ⟨fun _ => trivial, fun _ => ⟨vp_in_nI (by omega) (by decide), by rw [cl_n (by omega)]; exact hp⟩⟩
theorem kept_c {P : zp} {σ : zc_N} (h3 : σ 3 3 = nI P.2.1) (hn : P.2.1 ≤ 24) (t : Int32) : pX8_keptBy P σ t ∧ rX8_keptBy σ t = nI (cnt (fun p => decide (σ (pO p) 3 = t)) P.2.1) := by
  unfold pX8_keptBy rX8_keptBy
  rw [h3, cl_n (by omega)]
  refine ⟨⟨lc_n (by omega), fun i hi => ⟨vp_in_nI (by omega) (by decide), by rw [cl_n (by omega)]; exact hi⟩⟩, ?_⟩
  refine zfor_inv (fun i x => x = nI (cnt (fun p => decide (σ (pO p) 3 = t)) i)) (fX8_keptBy_4 σ t) P.2.1 0 rfl (fun i hi x hx => ?_) P.2.1 (Nat.le_refl _)
  unfold fX8_keptBy_4
  rw [hx, cl_n (by omega)]
  show _ = nI (cnt _ i + (decide (σ (pO i) 3 = t)).toNat)
  by_cases c : σ (pO i) 3 = t
  · rw [if_pos c, decide_eq_true c, nI_1]; rfl
  · rw [if_neg c, decide_eq_false c]; rfl
theorem kept_m {σ : zc_N} {n : Nat} (h11 : σ 32 11 = nI n) (hn : n ≤ 24) (t : Int32) : pX9_keptBy σ t ∧ rX9_keptBy σ t = nI (cnt (fun p => decide (σ 42 p = t)) n) := by
  unfold pX9_keptBy rX9_keptBy
  rw [h11, cl_n (by omega)]
  refine ⟨⟨lc_n (by omega), fun i hi => vp_in_nI (by omega) (by decide)⟩, ?_⟩
  refine zfor_inv (fun i x => x = nI (cnt (fun p => decide (σ 42 p = t)) i)) (fX9_keptBy_4 σ t) n 0 rfl (fun i hi x hx => ?_) n (Nat.le_refl _)
  unfold fX9_keptBy_4
  rw [hx, cl_n (by omega)]
  show _ = nI (cnt _ i + (decide (σ 42 i = t)).toNat)
  by_cases c : σ 42 i = t
  · rw [if_pos c, decide_eq_true c, nI_1]; rfl
  · rw [if_neg c, decide_eq_false c]; exact Int32.add_zero _
/-- a loop that looks for the first -/
theorem lookF {E : Int32 → Prop} {f : Int32 → Int32} (hf : ∀ a, f a = a + 1) {n : Nat} {c : Nat → Prop} (hn : n ≤ 24) (hE : ∀ i, i ≤ n → (E (nI i) ↔ n ≤ i ∨ c i)) : (∃ t, E (zit f t 0)) ∧ ∃ N, N ≤ n ∧ zwn (fun t => E (zit f t 0)) = N ∧ zit f N 0 = nI N ∧ (∀ i, zit f i 0 = nI i) ∧ (n ≤ N ∨ c N) ∧ ∀ i, i < N → ¬ c i := by
  have hz : ∀ i, zit f i 0 = nI i := zit_inv (fun i a => a = nI i) f 0 rfl (fun i a h => by rw [hf, h, nI_1])
  obtain ⟨N, h1, h2⟩ := pk_least (fun i => n ≤ i ∨ c i) ⟨n, Or.inl (Nat.le_refl _)⟩
  have hN : N ≤ n := by
    by_cases h : N ≤ n
    · exact h
    · exact absurd (Or.inl (Nat.le_refl n)) (h2 n (by omega))
  refine ⟨⟨n, by rw [hz]; exact (hE n (Nat.le_refl _)).mpr (Or.inl (Nat.le_refl _))⟩, N, hN, zwn_eq (by rw [hz]; exact (hE N hN).mpr h1) (fun j hj z => h2 j hj (by rw [hz] at z; exact (hE j (by omega)).mp z)), hz N, hz, h1, fun i hi z => h2 i hi (Or.inr z)⟩
theorem year_c {P : zp} {σ : zc_N} (h3 : σ 3 3 = nI P.2.1) (hn : P.2.1 ≤ 24) (t y : Int32) : pX8_hasYear P σ t y ∧ (rX8_hasYear σ t y = 0 ↔ ¬ ∃ p, p < P.2.1 ∧ σ (pO p) 3 = t ∧ σ (pO p) 4 = y) := by
  have hE : ∀ i, i ≤ P.2.1 → (eX8_hasYear_2 σ t y (nI i) ↔ P.2.1 ≤ i ∨ (σ (pO i) 3 = t ∧ σ (pO i) 4 = y)) := fun i hi => by
    unfold eX8_hasYear_2
    rw [h3, cl_n (by omega), nI_leI (by omega) (by omega)]
    simp only [and_true, and_false, or_false]
    by_cases c : P.2.1 ≤ i
    · simp [c]
    · simp [c]
  obtain ⟨hx, N, n1, n2, n3, n4, n5, n6⟩ := lookF (f := fX8_hasYear_2) (fun _ => rfl) hn hE
  have q : ∀ i, i ≤ N → qX8_hasYear_2 P σ t (nI i) := fun i hi => by
    unfold qX8_hasYear_2
    rw [h3, cl_n (by omega)]
    refine ⟨fun _ => trivial, fun c => ?_⟩
    have hlt : i < P.2.1 := Nat.lt_of_not_le (fun z => c (nI_le z (by omega)))
    have v : vp_in (nI i) 24 := vp_in_nI (by omega) (by decide)
    exact ⟨⟨v, hlt⟩, fun _ => ⟨v, hlt⟩, fun _ => trivial⟩
  have hw : wX8_hasYear_2 σ t y 0 = nI N := by unfold wX8_hasYear_2; rw [n2, n3]
  unfold pX8_hasYear rX8_hasYear
  rw [hw]
  refine ⟨⟨⟨hx, fun i hi => by rw [n4]; exact q i (by omega)⟩, q N (Nat.le_refl _)⟩, ?_⟩
  rw [h3]
  by_cases c : P.2.1 ≤ N
  · rw [if_pos (nI_le c (by omega))]
    exact ⟨fun _ ⟨p, h1, h2⟩ => n6 p (by omega) h2, fun _ => rfl⟩
  · rw [if_neg (nI_ge (by omega) (by omega))]
    exact ⟨fun z => absurd z n10, fun z => absurd ⟨N, by omega, n5.resolve_left c⟩ z⟩
theorem printOf_m {σ : zc_N} {n : Nat} (h11 : σ 32 11 = nI n) (hn : n ≤ 24) (t y : Int32) : pX9_printOf σ t y ∧ (rX9_printOf σ t y < 0 ↔ ¬ ∃ p, p < n ∧ σ 42 p = t ∧ σ 43 p = y) := by
  have hE : ∀ i, i ≤ n → (eX9_printOf_2 σ t y (nI i) ↔ n ≤ i ∨ (σ 42 i = t ∧ σ 43 i = y)) := fun i hi => by
    unfold eX9_printOf_2
    rw [h11, cl_n (by omega), nI_leI (by omega) (by omega)]
    simp only [and_true, and_false, or_false]
    by_cases c : n ≤ i
    · simp [c]
    · simp [c]
  obtain ⟨hx, N, n1, n2, n3, n4, n5, n6⟩ := lookF (f := fX9_printOf_2) (fun _ => rfl) hn hE
  have q : ∀ i, i ≤ N → qX9_printOf_2 σ t (nI i) := fun i hi => by
    unfold qX9_printOf_2
    rw [h11, cl_n (by omega)]
    refine ⟨fun _ => trivial, fun c => ?_⟩
    have hlt : i < n := Nat.lt_of_not_le (fun z => c (nI_le z (by omega)))
    have v : vp_in (nI i) 24 := vp_in_nI (by omega) (by decide)
    exact ⟨v, fun _ => v, fun _ => trivial⟩
  have hw : wX9_printOf_2 σ t y 0 = nI N := by unfold wX9_printOf_2; rw [n2, n3]
  unfold pX9_printOf rX9_printOf
  rw [hw]
  refine ⟨⟨⟨hx, fun i hi => by rw [n4]; exact q i (by omega)⟩, q N (Nat.le_refl _)⟩, ?_⟩
  rw [h11]
  by_cases c : n ≤ N
  · rw [if_pos (nI_le c (by omega))]
    exact ⟨fun _ ⟨p, h1, h2⟩ => n6 p (by omega) h2, fun _ => by decide⟩
  · rw [if_neg (nI_ge (by omega) (by omega))]
    exact ⟨fun z => absurd z (nI_pos (by omega)), fun z => absurd ⟨N, by omega, n5.resolve_left c⟩ z⟩
/-- tools and years may change alone, on both sides alike -/
theorem Inv_tool {P : zp} {A : gA} {σ τ : zc_N} (h : Inv P A σ) (h1 : ∀ k, k < 57 → k ≠ 42 → k ≠ 43 → τ k = σ k) (h2 : ∀ p, p < P.2.1 → τ (pO p) 0 = σ (pO p) 0 ∧ τ (pP p) = σ (pP p) ∧ τ (pT p) = σ (pT p)) (h3 : ∀ p, p < P.2.1 → τ (pO p) 3 = τ 42 p ∧ τ (pO p) 4 = τ 43 p ∧ tlr (τ 42 p) (τ 43 p)) (hY : iY P τ) : Inv P A τ := by
  obtain ⟨⟨D, g1, g2⟩, ⟨p1, p2, p3⟩, l, t, a, k, w, -⟩ := h
  have ok : ∀ k, k < 57 → k ≠ 42 → k ≠ 43 → τ k = σ k := h1
  refine ⟨⟨D, fun y hy => by rw [ok 5 (by decide) (by decide) (by decide)]; exact g1 y hy, fun y hy => by rw [ok 33 (by decide) (by decide) (by decide)]; exact g2 y hy⟩, ⟨⟨p1.1, by rw [ok 3 (by decide) (by decide) (by decide)]; exact p1.2.1, by rw [ok 32 (by decide) (by decide) (by decide)]; exact p1.2.2⟩, fun p hp => ⟨?_, ?_, (p2 p hp).2.2⟩, h3⟩, ?_, ?_, ?_, iK_11 k (ok 11 (by decide) (by decide) (by decide)), ?_, hY⟩
  · obtain ⟨q1, q2, q3, q4⟩ := (p2 p hp).1
    exact ⟨q1, by rw [(h2 p hp).1]; exact q2, by rw [(h2 p hp).2.1]; exact q3, by rw [(h2 p hp).2.2]; exact q4⟩
  · unfold pM
    rw [ok 37 (by decide) (by decide) (by decide), ok 38 (by decide) (by decide) (by decide), ok 39 (by decide) (by decide) (by decide), ok 40 (by decide) (by decide) (by decide), ok 41 (by decide) (by decide) (by decide)]
    exact (p2 p hp).2.1
  · unfold iL
    rw [ok 10 (by decide) (by decide) (by decide), ok 32 (by decide) (by decide) (by decide)]; exact l
  · unfold iT
    rw [ok 3 (by decide) (by decide) (by decide), ok 32 (by decide) (by decide) (by decide), ok 52 (by decide) (by decide) (by decide), ok 53 (by decide) (by decide) (by decide), ok 23 (by decide) (by decide) (by decide), ok 24 (by decide) (by decide) (by decide)]
    exact t
  · unfold iA
    rw [ok 3 (by decide) (by decide) (by decide), ok 32 (by decide) (by decide) (by decide)]; exact a
  · unfold iW
    rw [ok 1 (by decide) (by decide) (by decide), ok 2 (by decide) (by decide) (by decide)]; exact w
theorem pO_inj {p q : Nat} (h : pO p = pO q) : p = q := by
  have : 57 + 3 * p = 57 + 3 * q := h
  omega
theorem pO_ge (p : Nat) : 57 ≤ pO p := by show 57 ≤ 57 + 3 * p; omega
theorem pP_ne (p q : Nat) : pP p ≠ pO q := fun h => by
  have : 58 + 3 * p = 57 + 3 * q := h
  omega
theorem pT_ne (p q : Nat) : pT p ≠ pO q := fun h => by
  have : 59 + 3 * p = 57 + 3 * q := h
  omega
theorem ok_of {P : zp} {A : gA} {σ : zc_N} (h : Inv P A σ) (a1 a2 : Int32) : pX8_of P σ a1 ∧ pX9_of σ a1 a2 ∧ rX8_of σ a1 a2 = rX9_of σ a1 a2 := by
  obtain ⟨-, ⟨p1, p2, p3⟩, -⟩ := h
  unfold pX8_of pX9_of rX8_of rX9_of
  have hp := pAt_ok p1.2.1 p1.2.2 p1.1 a1
  rw [p1.2.1]
  rcases prt p1.1 p1.2.2 a1 with ⟨e1, e2⟩ | ⟨p, hp2, rfl, e1, e2⟩
  · rw [if_pos e1, if_pos e2]
    exact ⟨⟨hp, fun _ => trivial, fun z => absurd e1 z⟩, ⟨fun _ => trivial, fun z => absurd e2 z⟩, rfl⟩
  · have n1 : ¬ rX8_isWithin (nI p) 0 (nI P.2.1 - 1) = 0 := fun z => n10 (e1.symm.trans z)
    have n2 : ¬ rX9_isPrint σ (nI p) = 0 := fun z => n10 (e2.symm.trans z)
    have v : vp_in (nI p) 24 := vp_in_nI (by omega) (by decide)
    rw [if_neg n1, if_neg n2, cl_n (by omega)]
    refine ⟨⟨hp, fun _ => trivial, fun _ => hp2⟩, ⟨fun _ => trivial, fun _ => ⟨fun _ => trivial, fun _ => ⟨fun _ => v, fun _ => v⟩⟩⟩, ?_⟩
    have e : rX8_isWithin a2 0 1 = rX9_within a2 0 1 := rfl
    rw [e, (p3 p hp2).1, (p3 p hp2).2.1]
theorem ok_part {P : zp} {A : gA} {σ : zc_N} (h : Inv P A σ) (a1 : Int32) : pX8_part P σ a1 ∧ pX9_part (sX8_part σ a1) a1 ∧ rX8_part σ a1 = rX9_part (sX8_part σ a1) a1 ∧ Inv P A (sX9_part (sX8_part σ a1) a1) := by
  have h' := h
  obtain ⟨-, ⟨p1, p2, p3⟩, -⟩ := h'
  have hpa := pAt_ok p1.2.1 p1.2.2 p1.1 a1
  unfold pX8_part rX8_part sX8_part
  rw [p1.2.1]
  rcases prt p1.1 p1.2.2 a1 with ⟨e1, e2⟩ | ⟨p, hp, rfl, e1, e2⟩
  · rw [if_pos e1, if_pos e1]
    have s9 : sX9_part σ a1 = σ := if_pos e2
    have r9 : rX9_part σ a1 = -1 := if_pos e2
    rw [s9, r9]
    exact ⟨⟨hpa, fun _ => trivial, fun z => absurd e1 z⟩, ⟨fun _ => trivial, fun z => absurd e2 z⟩, rfl, h⟩
  · have n1 : ¬ rX8_isWithin (nI p) 0 (nI P.2.1 - 1) = 0 := fun z => n10 (e1.symm.trans z)
    have v : vp_in (nI p) 24 := vp_in_nI (by omega) (by decide)
    have hc : (nI p).toNatClampNeg = p := cl_n (by omega)
    have q := p3 p hp
    rw [if_neg n1, if_neg n1, hc, q.1]
    refine ⟨⟨hpa, fun _ => trivial, fun _ => hp⟩, ?_⟩
    rcases q.2.2 with ⟨t1, t2⟩ | ⟨t, z, t1, t2, t3, t4⟩
    · rw [if_pos t1, if_pos t1]
      have n2 : ¬ rX9_isPrint σ (nI p) = 0 := fun z => n10 (e2.symm.trans z)
      have nn : ¬ (0 : Int32) ≤ σ 42 (nI p).toNatClampNeg := by rw [hc, t1]; decide
      have s9 : sX9_part σ (nI p) = σ := (if_neg n2).trans (if_neg nn)
      have r9 : rX9_part σ (nI p) = -4 := (if_neg n2).trans (if_neg nn)
      rw [s9, r9]
      exact ⟨⟨fun _ => trivial, fun _ => ⟨v, fun _ => ⟨v, v⟩, fun _ => trivial⟩⟩, rfl, h⟩
    · have nt : ¬ σ 42 p = -1 := by rw [t3]; exact fun z => absurd ((hI_m1 t).mp (by rw [hI_lt (by omega)]; exact z)) (by omega)
      rw [if_neg nt, if_neg nt]
      have k32 : (zu σ (pO p) (zu (zu (σ (pO p)) 3 (-1)) 4 (-1))) 32 = σ 32 := zu_ne _ _ (by have := pO_ge p; omega)
      have k42 : (zu σ (pO p) (zu (zu (σ (pO p)) 3 (-1)) 4 (-1))) 42 = σ 42 := zu_ne _ _ (by have := pO_ge p; omega)
      have k43 : (zu σ (pO p) (zu (zu (σ (pO p)) 3 (-1)) 4 (-1))) 43 = σ 43 := zu_ne _ _ (by have := pO_ge p; omega)
      have kO : (zu σ (pO p) (zu (zu (σ (pO p)) 3 (-1)) 4 (-1))) (pO p) = zu (zu (σ (pO p)) 3 (-1)) 4 (-1) := zu_self _ _ _
      have kn : ∀ k, k ≠ pO p → (zu σ (pO p) (zu (zu (σ (pO p)) 3 (-1)) 4 (-1))) k = σ k := fun k hk => zu_ne _ _ hk
      generalize zu σ (pO p) (zu (zu (σ (pO p)) 3 (-1)) 4 (-1)) = τ at k32 k42 k43 kO kn
      have n2 : ¬ rX9_isPrint τ (nI p) = 0 := by
        have : rX9_isPrint τ (nI p) = rX9_isPrint σ (nI p) := by unfold rX9_isPrint; rw [k32]
        rw [this, e2]; decide
      have nn : (0 : Int32) ≤ τ 42 (nI p).toNatClampNeg := by rw [hc, k42, t3]; exact nI_pos' (by omega)
      have s9 : sX9_part τ (nI p) = zu (zu τ 42 (zu (τ 42) p (-1))) 43 (zu (τ 43) p (-1)) := by
        refine ((if_neg n2).trans (if_pos nn)).trans ?_
        rw [hc]
      have r9 : rX9_part τ (nI p) = 1 := (if_neg n2).trans (if_pos nn)
      rw [s9, r9]
      refine ⟨⟨fun _ => trivial, fun _ => ⟨v, fun _ => ⟨v, v⟩, fun _ => trivial⟩⟩, rfl, Inv_tool h (fun k hk h42 h43 => ?_) (fun q hq => ?_) (fun q hq => ?_) (fun x y hx hy hne he hn1 => ?_)⟩
      · rw [zu_ne _ _ h43, zu_ne _ _ h42, kn k (by have := pO_ge p; omega)]
      · rw [zu_ne _ _ (by have := pO_ge q; omega), zu_ne _ _ (by have := pO_ge q; omega), zu_ne _ _ (show pP q ≠ 43 by show 58 + 3 * q ≠ 43; omega), zu_ne _ _ (show pP q ≠ 42 by show 58 + 3 * q ≠ 42; omega), zu_ne _ _ (show pT q ≠ 43 by show 59 + 3 * q ≠ 43; omega), zu_ne _ _ (show pT q ≠ 42 by show 59 + 3 * q ≠ 42; omega), kn _ (pP_ne q p), kn _ (pT_ne q p)]
        refine ⟨?_, rfl, rfl⟩
        by_cases e : q = p
        · rw [e, kO, zu_ne _ _ (by decide), zu_ne _ _ (by decide)]
        · rw [kn _ (fun z => e (pO_inj z))]
      · rw [zu_ne _ _ (show pO q ≠ 43 by have := pO_ge q; omega), zu_ne _ _ (show pO q ≠ 42 by have := pO_ge q; omega), zu_ne _ _ (show 42 ≠ 43 by decide), zu_self, zu_self]
        by_cases e : q = p
        · rw [e, kO, zu_self, zu_self, zu_ne _ _ (by decide), zu_self, zu_self]
          exact ⟨rfl, rfl, Or.inl ⟨rfl, rfl⟩⟩
        · rw [kn _ (fun z => e (pO_inj z)), zu_ne _ _ e, zu_ne _ _ e, k42, k43]
          exact p3 q hq
      · rw [zu_ne _ _ (show 42 ≠ 43 by decide), zu_self] at he hn1
        rw [zu_self]
        by_cases ex : x = p
        · rw [ex, zu_self] at hn1; exact absurd rfl hn1
        · by_cases ey : y = p
          · rw [ey, zu_self] at he; exact absurd he hn1
          · rw [zu_ne _ _ ex, zu_ne _ _ ey, k42] at he
            rw [zu_ne _ _ ex, k42] at hn1
            rw [zu_ne _ _ ex, zu_ne _ _ ey, k43]
            exact h.2.2.2.2.2.2.2 x y hx hy hne he hn1
