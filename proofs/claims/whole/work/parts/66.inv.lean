/-! ===== the invariant between two calls, and the plain calls ===== -/
def tlr (x y : Int32) : Prop := (x = -1 ∧ y = -1) ∨ ∃ t z, t < 10 ∧ z ≤ 9999 ∧ x = nI t ∧ y = nI z
def iG (σ : zc_N) : Prop := ∃ D, gC D σ ∧ gM D σ
def iP (P : zp) (A : gA) (σ : zc_N) : Prop := (P.2.1 ≤ 24 ∧ σ 3 3 = nI P.2.1 ∧ σ 32 11 = nI P.2.1) ∧ (∀ p, p < P.2.1 → pC P A σ p ∧ pM A σ p ∧ pV A p) ∧ ∀ p, p < P.2.1 → σ (pO p) 3 = σ 42 p ∧ σ (pO p) 4 = σ 43 p ∧ tlr (σ 42 p) (σ 43 p)
def iL (σ : zc_N) : Prop := ∃ r, r < 4 ∧ σ 10 0 = nI r ∧ σ 32 12 = nI r
def iT (σ : zc_N) : Prop := (σ 3 6 = 0 ∧ σ 32 30 = -1) ∨ (σ 3 6 = 1 ∧ ∃ m, m ≤ 12 ∧ σ 32 30 = nI m ∧ (σ 52 0 = σ 23 4 ∧ σ 52 1 = σ 23 5 ∧ σ 52 2 = σ 23 6 ∧ σ 52 3 = σ 23 1 ∧ σ 52 4 = σ 23 2 ∧ σ 52 5 = σ 23 3 ∧ σ 52 6 = σ 23 0 ∧ (σ 23 0 = 0 ∨ σ 23 0 = 1)) ∧ (∀ i, i < m → σ 53 i = σ 24 i) ∧ ∀ i, m ≤ i → i < 12 → σ 24 i = -1)
def iA (σ : zc_N) : Prop := (σ 3 11 = 0 ∧ σ 32 36 = -1 ∧ σ 32 37 = -1) ∨ (σ 3 11 = 1 ∧ σ 3 9 = σ 32 36 ∧ σ 3 10 = σ 32 37)
def iW (σ : zc_N) : Prop := (∀ w, w < 8 → σ 1 w = [0, 1, 0, -1, 1, 1, -1, -1].getD w 0) ∧ ∀ w, w < 8 → σ 2 w = [-1, 0, 1, 0, -1, 1, 1, -1].getD w 0
/-- a tool has one print of a year -/
def iY (P : zp) (σ : zc_N) : Prop := ∀ p q, p < P.2.1 → q < P.2.1 → p ≠ q → σ 42 p = σ 42 q → σ 42 p ≠ -1 → σ 43 p ≠ σ 43 q
def Inv (P : zp) (A : gA) (σ : zc_N) : Prop := iG σ ∧ iP P A σ ∧ iL σ ∧ iT σ ∧ iA σ ∧ iK A P.2.1 σ ∧ iW σ ∧ iY P σ
def kept : List Nat := [1, 2, 3, 5, 23, 24, 33, 37, 38, 39, 40, 41, 42, 43, 52, 53]
theorem Inv_sub {P : zp} {A : gA} {σ τ : zc_N} {S : List Nat} (h : Inv P A σ) (ho : off S σ τ) (hS : ∀ k, k ∈ S → k < 57 ∧ k ∉ kept) (h10 : τ 10 0 = σ 10 0) (h32 : ∀ k, k ∈ [11, 12, 30, 36, 37] → τ 32 k = σ 32 k) (hK : iK A P.2.1 τ) : Inv P A τ := by
  obtain ⟨⟨D, g1, g2⟩, ⟨p1, p2, p3⟩, l, t, a, -, w, yy⟩ := h
  have ok : ∀ k, k ∈ kept → τ k = σ k := fun k hk => ho k (fun z => (hS k z).2 hk)
  have okp : ∀ k, 57 ≤ k → τ k = σ k := fun k hk => ho k (fun z => by have := (hS k z).1; omega)
  refine ⟨⟨D, fun y hy => by rw [ok 5 (by decide)]; exact g1 y hy, fun k hk => by rw [ok 33 (by decide)]; exact g2 k hk⟩, ⟨⟨p1.1, by rw [ok 3 (by decide)]; exact p1.2.1, by rw [h32 11 (by decide)]; exact p1.2.2⟩, fun p hp => ⟨?_, ?_, (p2 p hp).2.2⟩, fun p hp => ?_⟩, ?_, ?_, ?_, hK, ?_, by unfold iY; rw [ok 42 (by decide), ok 43 (by decide)]; exact yy⟩
  · have := (p2 p hp).1
    unfold pC
    rw [okp (pO p) (by show 57 ≤ 57 + 3 * p; omega), okp (pP p) (by show 57 ≤ 58 + 3 * p; omega), okp (pT p) (by show 57 ≤ 59 + 3 * p; omega)]
    exact this
  · have := (p2 p hp).2.1
    unfold pM
    rw [ok 37 (by decide), ok 38 (by decide), ok 39 (by decide), ok 40 (by decide), ok 41 (by decide)]
    exact this
  · rw [okp (pO p) (by show 57 ≤ 57 + 3 * p; omega), ok 42 (by decide), ok 43 (by decide)]
    exact p3 p hp
  · obtain ⟨r, r1, r2, r3⟩ := l
    exact ⟨r, r1, by rw [h10]; exact r2, by rw [h32 12 (by decide)]; exact r3⟩
  · unfold iT
    rw [ok 3 (by decide), ok 52 (by decide), ok 53 (by decide), ok 23 (by decide), ok 24 (by decide), h32 30 (by decide)]
    exact t
  · unfold iA
    rw [ok 3 (by decide), h32 36 (by decide), h32 37 (by decide)]
    exact a
  · unfold iW
    rw [ok 1 (by decide), ok 2 (by decide)]
    exact w
/-- a grid may change alone -/
theorem Inv_grid {P : zp} {A : gA} {σ τ : zc_N} {S : List Nat} (h : Inv P A σ) (ho : off S σ τ) (hS : ∀ k, k ∈ S → k ∈ [5, 33]) (hg : iG τ) : Inv P A τ := by
  obtain ⟨-, ⟨p1, p2, p3⟩, l, t, a, k, w, yy⟩ := h
  have ok : ∀ k, k ≠ 5 → k ≠ 33 → τ k = σ k := fun k h1 h2 => ho k (fun z => by
    have := hS k z
    simp only [List.mem_cons, List.not_mem_nil, or_false] at this
    omega)
  have okp : ∀ p, τ (pO p) = σ (pO p) ∧ τ (pP p) = σ (pP p) ∧ τ (pT p) = σ (pT p) := fun p => by
    have e1 : pO p = 57 + 3 * p := rfl
    have e2 : pP p = 58 + 3 * p := rfl
    have e3 : pT p = 59 + 3 * p := rfl
    exact ⟨ok _ (by omega) (by omega), ok _ (by omega) (by omega), ok _ (by omega) (by omega)⟩
  have e3 := ok 3 (by decide) (by decide)
  have e32 := ok 32 (by decide) (by decide)
  refine ⟨hg, ⟨by rw [e3, e32]; exact p1, fun p hp => ⟨?_, ?_, (p2 p hp).2.2⟩, fun p hp => ?_⟩, ?_, ?_, ?_, iK_11 k (ok 11 (by decide) (by decide)), ?_, by unfold iY; rw [ok 42 (by decide) (by decide), ok 43 (by decide) (by decide)]; exact yy⟩
  · unfold pC
    rw [(okp p).1, (okp p).2.1, (okp p).2.2]
    exact (p2 p hp).1
  · exact pM_off (p2 p hp).2.1 ho (fun k hk z => by
      have := hS k z
      simp only [List.mem_cons, List.not_mem_nil, or_false] at this hk
      omega)
  · rw [(okp p).1, ok 42 (by decide) (by decide), ok 43 (by decide) (by decide)]
    exact p3 p hp
  · unfold iL
    rw [ok 10 (by decide) (by decide), e32]; exact l
  · unfold iT
    rw [e3, e32, ok 52 (by decide) (by decide), ok 53 (by decide) (by decide), ok 23 (by decide) (by decide), ok 24 (by decide) (by decide)]
    exact t
  · unfold iA
    rw [e3, e32]; exact a
  · unfold iW
    rw [ok 1 (by decide) (by decide), ok 2 (by decide) (by decide)]; exact w
theorem gC_off {D : Nat → Bool} {σ τ : zc_N} {S : List Nat} (h : gC D σ) (ho : off S σ τ) (hS : 5 ∉ S) : gC D τ := fun y hy => by rw [ho 5 hS]; exact h y hy
theorem gM_off {D : Nat → Bool} {σ τ : zc_N} {S : List Nat} (h : gM D σ) (ho : off S σ τ) (hS : 33 ∉ S) : gM D τ := fun y hy => by rw [ho 33 hS]; exact h y hy
theorem w15 (a : Int32) : (rX8_isWithin a 0 15 = 0 ∧ rX9_within a 0 15 = 0) ∨ ∃ j, j ≤ 15 ∧ a = nI j ∧ rX8_isWithin a 0 15 = 1 ∧ rX9_within a 0 15 = 1 := win a 15 (by decide)
theorem n10 : ¬ (1 : Int32) = 0 := by decide
theorem ok_feed {P : zp} {A : gA} {σ : zc_N} (h : Inv P A σ) (a1 a2 : Int32) : pX8_feed a1 a2 ∧ pX9_feed (sX8_feed σ a1 a2) a1 a2 ∧ rX8_feed σ a1 a2 = rX9_feed (sX8_feed σ a1 a2) a1 a2 ∧ Inv P A (sX9_feed (sX8_feed σ a1 a2) a1 a2) := by
  rcases win a1 15 (by decide) with ⟨e1, e2⟩ | ⟨r, hr, rfl, e1, e2⟩
  · have s8 : sX8_feed σ a1 a2 = σ := if_pos e1
    have s9 : sX9_feed σ a1 a2 = σ := if_pos e2
    have r8 : rX8_feed σ a1 a2 = -1 := if_pos e1
    have r9 : rX9_feed σ a1 a2 = -1 := if_pos e2
    rw [s8, s9, r8, r9]
    exact ⟨⟨fun _ => trivial, fun z => absurd e1 z⟩, ⟨fun _ => trivial, fun z => absurd e2 z⟩, rfl, h⟩
  · have n1 : ¬ rX8_isWithin (nI r) 0 15 = 0 := fun z => n10 (e1.symm.trans z)
    have n2 : ¬ rX9_within (nI r) 0 15 = 0 := fun z => n10 (e2.symm.trans z)
    rcases win a2 65535 (by decide) with ⟨f1, f2⟩ | ⟨b, hb, rfl, f1, f2⟩
    · have s8 : sX8_feed σ (nI r) a2 = σ := (if_neg n1).trans (if_pos f1)
      have s9 : sX9_feed σ (nI r) a2 = σ := (if_neg n2).trans (if_pos f2)
      have r8 : rX8_feed σ (nI r) a2 = -1 := (if_neg n1).trans (if_pos f1)
      have r9 : rX9_feed σ (nI r) a2 = -1 := (if_neg n2).trans (if_pos f2)
      rw [s8, s9, r8, r9]
      exact ⟨⟨fun _ => trivial, fun _ => ⟨fun _ => trivial, fun z => absurd f1 z⟩⟩, ⟨fun _ => trivial, fun _ => ⟨fun _ => trivial, fun z => absurd f2 z⟩⟩, rfl, h⟩
    · have n3 : ¬ rX8_isWithin (nI b) 0 65535 = 0 := fun z => n10 (f1.symm.trans z)
      have n4 : ¬ rX9_within (nI b) 0 65535 = 0 := fun z => n10 (f2.symm.trans z)
      have h' := h
      obtain ⟨⟨D, g1, g2⟩, -⟩ := h'
      obtain ⟨c1, c2, c3⟩ := feed_c g1 (show r < 16 by omega) (show b < 65536 by omega)
      obtain ⟨m1, m2, m3⟩ := feed_m (gM_off g2 c2 (by decide)) (show r < 16 by omega) (show b < 65536 by omega)
      have s8 : sX8_feed σ (nI r) (nI b) = sX1_setRow σ (nI r) (nI b) := (if_neg n1).trans (if_neg n3)
      have s9 : sX9_feed (sX1_setRow σ (nI r) (nI b)) (nI r) (nI b) = zfor (fX9_feed_24 (nI r) (nI b)) 16 (sX1_setRow σ (nI r) (nI b)) := (if_neg n2).trans (if_neg n4)
      have r8 : rX8_feed σ (nI r) (nI b) = rX1_darkCells (sX1_setRow σ (nI r) (nI b)) := (if_neg n1).trans (if_neg n3)
      have r9 : rX9_feed (sX1_setRow σ (nI r) (nI b)) (nI r) (nI b) = rX9_darkMany (zfor (fX9_feed_24 (nI r) (nI b)) 16 (sX1_setRow σ (nI r) (nI b))) := (if_neg n2).trans (if_neg n4)
      rw [s8, s9, r8, r9]
      refine ⟨⟨fun z => absurd z n1, fun _ => ⟨fun z => absurd z n3, fun _ => c3⟩⟩, ⟨fun z => absurd z n2, fun _ => ⟨fun z => absurd z n4, fun _ i hi => m3 i hi _⟩⟩, ?_, ?_⟩
      · rw [dc_c c1, dm_m m1]
      · exact Inv_grid h (off_tr (off_sub c2 (T := [5, 33]) (by simp)) (off_sub m2 (by simp))) (fun k hk => hk) ⟨_, gC_off c1 m2 (by decide), m1⟩
theorem ok_row {P : zp} {A : gA} {σ : zc_N} (h : Inv P A σ) (a1 : Int32) : pX8_row a1 ∧ pX9_row σ a1 ∧ rX8_row σ a1 = rX9_row σ a1 := by
  unfold pX8_row pX9_row rX8_row rX9_row
  rcases win a1 15 (by decide) with ⟨e1, e2⟩ | ⟨r, hr, rfl, e1, e2⟩
  · rw [show (15 : Int32) = nI 15 from rfl, e1, e2]
    exact ⟨⟨fun _ => trivial, fun z => absurd rfl z⟩, ⟨fun _ => trivial, fun z => absurd rfl z⟩, rfl⟩
  · rw [show (15 : Int32) = nI 15 from rfl, e1, e2, if_neg n10, if_neg n10]
    obtain ⟨⟨D, g1, g2⟩, -⟩ := h
    have c := row_c g1 (show r < 16 by omega)
    have m := row_m g2 (show r < 16 by omega)
    exact ⟨⟨fun z => absurd z n10, fun _ => c.2⟩, ⟨fun z => absurd z n10, fun _ i hi => m.2 i hi _⟩, by rw [c.1, m.1]⟩
theorem ok_thin {P : zp} {A : gA} {σ : zc_N} (h : Inv P A σ) : pX8_thin σ ∧ pX9_thin (sX8_thin σ) ∧ rX8_thin σ = rX9_thin (sX8_thin σ) ∧ Inv P A (sX9_thin (sX8_thin σ)) := by
  have h' := h
  obtain ⟨⟨D, g1, g2⟩, -⟩ := h'
  obtain ⟨N, n1, n2, n3⟩ := tn_end D
  obtain ⟨c1, c2, c3, c4⟩ := thin_c g1 n1 n2 n3
  obtain ⟨m1, m2, m3, m4⟩ := thin_m (σ := sX1_takeThinned σ) (gM_off g2 c4 (by decide)) n1 n2 n3
  unfold pX8_thin rX8_thin sX8_thin
  refine ⟨c1, m1, by rw [c2, m2], ?_⟩
  exact Inv_grid h (off_tr (off_sub c4 (T := [5, 33]) (by simp)) (off_sub m4 (by simp))) (fun k hk => hk) ⟨_, gC_off c3 m4 (by decide), m3⟩
theorem ok_reach {P : zp} {A : gA} {σ : zc_N} (h : Inv P A σ) (a1 : Int32) : rX8_reach σ a1 = rX9_reach (sX8_reach σ a1) a1 ∧ Inv P A (sX9_reach (sX8_reach σ a1) a1) := by
  unfold rX8_reach rX9_reach sX9_reach sX8_reach
  rcases win a1 3 (by decide) with ⟨e1, e2⟩ | ⟨r, hr, rfl, e1, e2⟩
  · rw [show (3 : Int32) = nI 3 from rfl, e1, e2]
    exact ⟨rfl, h⟩
  · rw [show (3 : Int32) = nI 3 from rfl, e1, e2, if_neg n10, if_neg n10, if_neg n10, if_neg n10]
    obtain ⟨g, ⟨p1, p2, p3⟩, ⟨r0, l1, l2, l3⟩, t, a, k, w, yy⟩ := h
    refine ⟨by rw [zu_ne _ _ (by decide), l2, l3], ?_⟩
    have ok : ∀ k, k ≠ 10 → k ≠ 32 → (zu (zu σ 10 (zu (σ 10) 0 (nI r))) 32 (zu ((zu σ 10 (zu (σ 10) 0 (nI r))) 32) 12 (nI r))) k = σ k := fun k h1 h2 => by rw [zu_ne _ _ h2, zu_ne _ _ h1]
    have o32 : ∀ k, k ≠ 12 → (zu (zu σ 10 (zu (σ 10) 0 (nI r))) 32 (zu ((zu σ 10 (zu (σ 10) 0 (nI r))) 32) 12 (nI r))) 32 k = σ 32 k := fun k h1 => by rw [zu_self, zu_ne _ _ h1, zu_ne _ _ (by decide)]
    have o10 : (zu (zu σ 10 (zu (σ 10) 0 (nI r))) 32 (zu ((zu σ 10 (zu (σ 10) 0 (nI r))) 32) 12 (nI r))) 10 0 = nI r := by rw [zu_ne _ _ (by decide), zu_self, zu_self]
    have o12 : (zu (zu σ 10 (zu (σ 10) 0 (nI r))) 32 (zu ((zu σ 10 (zu (σ 10) 0 (nI r))) 32) 12 (nI r))) 32 12 = nI r := by rw [zu_self, zu_self]
    generalize zu (zu σ 10 (zu (σ 10) 0 (nI r))) 32 (zu ((zu σ 10 (zu (σ 10) 0 (nI r))) 32) 12 (nI r)) = τ at ok o32 o10 o12
    have okp : ∀ p, τ (pO p) = σ (pO p) ∧ τ (pP p) = σ (pP p) ∧ τ (pT p) = σ (pT p) := fun p => by
      have e1 : pO p = 57 + 3 * p := rfl
      have e2 : pP p = 58 + 3 * p := rfl
      have e3 : pT p = 59 + 3 * p := rfl
      exact ⟨ok _ (by omega) (by omega), ok _ (by omega) (by omega), ok _ (by omega) (by omega)⟩
    obtain ⟨D, g1, g2⟩ := g
    refine ⟨⟨D, fun y hy => by rw [ok 5 (by decide) (by decide)]; exact g1 y hy, fun y hy => by rw [ok 33 (by decide) (by decide)]; exact g2 y hy⟩, ⟨⟨p1.1, by rw [ok 3 (by decide) (by decide)]; exact p1.2.1, by rw [o32 11 (by decide)]; exact p1.2.2⟩, fun p hp => ⟨?_, ?_, (p2 p hp).2.2⟩, fun p hp => ?_⟩, ⟨r, by omega, o10, o12⟩, ?_, ?_, iK_11 k (ok 11 (by decide) (by decide)), ?_, by unfold iY; rw [ok 42 (by decide) (by decide), ok 43 (by decide) (by decide)]; exact yy⟩
    · unfold pC
      rw [(okp p).1, (okp p).2.1, (okp p).2.2]
      exact (p2 p hp).1
    · unfold pM
      rw [ok 37 (by decide) (by decide), ok 38 (by decide) (by decide), ok 39 (by decide) (by decide), ok 40 (by decide) (by decide), ok 41 (by decide) (by decide)]
      exact (p2 p hp).2.1
    · rw [(okp p).1, ok 42 (by decide) (by decide), ok 43 (by decide) (by decide)]
      exact p3 p hp
    · unfold iT
      rw [ok 3 (by decide) (by decide), o32 30 (by decide), ok 52 (by decide) (by decide), ok 53 (by decide) (by decide), ok 23 (by decide) (by decide), ok 24 (by decide) (by decide)]
      exact t
    · unfold iA
      rw [ok 3 (by decide) (by decide), o32 36 (by decide), o32 37 (by decide)]
      exact a
    · unfold iW
      rw [ok 1 (by decide) (by decide), ok 2 (by decide) (by decide)]
      exact w
theorem ne_of_nI {a b : Nat} (ha : a < 2 ^ 31) (hb : b < 2 ^ 31) (h : a ≠ b) : ¬ nI a = nI b := fun z => h ((nI_eq ha hb).mp z)
theorem ok_told {P : zp} {A : gA} {σ : zc_N} (h : Inv P A σ) (a1 : Int32) : pX9_told σ a1 ∧ rX8_told σ a1 = rX9_told σ a1 := by
  obtain ⟨-, -, -, t, -⟩ := h
  unfold pX9_told rX8_told rX9_told
  rcases t with ⟨t1, t2⟩ | ⟨t1, m, m1, m2, ⟨v0, v1, v2, v3, v4, v5, v6, v7⟩, -⟩
  · rw [t1, t2]
    exact ⟨⟨fun _ => trivial, fun z => absurd (by decide) z⟩, rfl⟩
  · have hm : ¬ nI m < 0 := nI_pos (by omega)
    rw [t1, m2, if_neg n10, if_neg hm]
    rcases win a1 6 (by decide) with ⟨e1, e2⟩ | ⟨j, hj, rfl, e1, e2⟩
    · rw [show (6 : Int32) = nI 6 from rfl, e2]
      refine ⟨⟨fun _ => trivial, fun _ => ⟨fun _ => trivial, fun z => absurd rfl z⟩⟩, ?_⟩
      have hne : ∀ k, k ≤ 6 → ¬ a1 = nI k := fun k hk z => by
        subst z
        unfold rX9_within at e2
        rw [if_neg (nI_pos (by omega)), if_neg (nI_nlt hk (by decide))] at e2
        exact absurd e2 n10
      rw [if_neg (show ¬ a1 = 0 from hne 0 (by decide)), if_neg (show ¬ a1 = 1 from hne 1 (by decide)), if_neg (show ¬ a1 = 2 from hne 2 (by decide)), if_neg (show ¬ a1 = 3 from hne 3 (by decide)), if_neg (show ¬ a1 = 4 from hne 4 (by decide)), if_neg (show ¬ a1 = 5 from hne 5 (by decide)), if_neg (hne 6 (by decide)), if_pos (show (0 : Int32) = 0 from rfl)]
    · rw [show (6 : Int32) = nI 6 from rfl, e2]
      refine ⟨⟨fun z => absurd z hm, fun _ => ⟨fun z => absurd z n10, fun _ => vp_in_nI (by omega) (by decide)⟩⟩, ?_⟩
      rw [if_neg n10, cl_n (by omega)]
      have : j = 0 ∨ j = 1 ∨ j = 2 ∨ j = 3 ∨ j = 4 ∨ j = 5 ∨ j = 6 := by omega
      rcases this with rfl | rfl | rfl | rfl | rfl | rfl | rfl
      · exact v0.symm
      · exact v1.symm
      · exact v2.symm
      · exact v3.symm
      · exact v4.symm
      · exact v5.symm
      · rw [v6]
        show (if σ 23 0 = 0 then (0 : Int32) else 1) = σ 23 0
        rcases v7 with e | e <;> rw [e] <;> rfl
theorem ok_pair {P : zp} {A : gA} {σ : zc_N} (h : Inv P A σ) (a1 : Int32) : pX8_pair σ a1 ∧ pX9_pair σ a1 ∧ rX8_pair σ a1 = rX9_pair σ a1 := by
  obtain ⟨-, -, -, t, -⟩ := h
  unfold pX8_pair pX9_pair rX8_pair rX9_pair
  rcases t with ⟨t1, t2⟩ | ⟨t1, m, m1, m2, -, v8, v9⟩
  · rw [t1, t2]
    by_cases c : a1 < 0
    · rw [if_pos rfl, if_pos c]
      exact ⟨⟨fun _ => trivial, fun z => absurd rfl z⟩, ⟨fun _ => trivial, fun z => absurd c z⟩, rfl⟩
    · have c2 : (-1 : Int32) ≤ a1 := by
        obtain ⟨j, hj, rfl⟩ := nI_of c
        rw [Int32.le_iff_toInt_le, nI_toInt hj]
        show (-1 : Int) ≤ j
        omega
      rw [if_pos rfl, if_neg c, if_pos c2]
      exact ⟨⟨fun _ => trivial, fun z => absurd rfl z⟩, ⟨fun _ => trivial, fun _ => ⟨fun _ => trivial, fun z => absurd c2 z⟩⟩, rfl⟩
  · rw [t1, m2, if_neg n10]
    by_cases c : a1 < 0
    · have e1 : rX8_isWithin a1 0 11 = 0 := by unfold rX8_isWithin; rw [if_pos c]
      rw [e1, if_pos c]
      exact ⟨⟨fun _ => trivial, fun _ => ⟨fun _ => trivial, fun z => absurd rfl z⟩⟩, ⟨fun _ => trivial, fun z => absurd c z⟩, rfl⟩
    · obtain ⟨j, hj, rfl⟩ := nI_of c
      rw [if_neg c]
      have e1 : rX8_isWithin (nI j) 0 11 = if 11 < j then 0 else 1 := by
        unfold rX8_isWithin
        rw [if_neg c, show (11 : Int32) = nI 11 from rfl]
        simp only [nI_ltI (show 11 < 2 ^ 31 by decide) hj]
      rw [e1]
      by_cases c2 : 11 < j
      · rw [if_pos c2, if_pos (nI_le (show m ≤ j by omega) hj)]
        exact ⟨⟨fun _ => trivial, fun _ => ⟨fun _ => trivial, fun z => absurd rfl z⟩⟩, ⟨fun _ => trivial, fun _ => ⟨fun _ => trivial, fun z => absurd (nI_le (show m ≤ j by omega) hj) z⟩⟩, rfl⟩
      · have v12 : vp_in (nI j) 12 := vp_in_nI (by omega) (by decide)
        rw [if_neg c2, if_neg n10, cl_n hj]
        refine ⟨⟨fun z => absurd z n10, fun _ => ⟨fun z => absurd z n10, fun _ => v12⟩⟩, ⟨fun z => absurd z c, fun _ => ⟨fun _ => trivial, fun _ => v12⟩⟩, ?_⟩
        by_cases c3 : m ≤ j
        · rw [if_pos (nI_le c3 hj)]; exact v9 j c3 (by omega)
        · rw [if_neg (nI_ge (by omega) (by omega))]; exact (v8 j (by omega)).symm
theorem ok_struck {P : zp} {A : gA} {σ : zc_N} (h : Inv P A σ) (a1 : Int32) : rX8_struck σ a1 = rX9_struck σ a1 := by
  obtain ⟨-, -, -, -, a, -⟩ := h
  unfold rX8_struck rX9_struck
  have key : rX8_isWithin a1 0 1 = if a1 = 0 then 1 else if a1 = 1 then 1 else 0 := by
    rcases win a1 1 (by decide) with ⟨e1, e2⟩ | ⟨j, hj, rfl, e1, e2⟩
    · rw [show (1 : Int32) = nI 1 from rfl, e1]
      have hne : ∀ k, k ≤ 1 → ¬ a1 = nI k := fun k hk z => by
        subst z
        unfold rX9_within at e2
        rw [if_neg (nI_pos (by omega)), if_neg (nI_nlt hk (by decide))] at e2
        exact absurd e2 n10
      have h0 : ¬ a1 = 0 := hne 0 (by decide)
      rw [if_neg h0, if_neg (hne 1 (by decide))]
    · have : j = 0 ∨ j = 1 := by omega
      rcases this with rfl | rfl
      · exact e1
      · exact e1
  rw [key]
  rcases a with ⟨a1', a2, a3⟩ | ⟨a1', a2, a3⟩
  · rw [a1', a2, a3, if_pos rfl]
    by_cases c : a1 = 0
    · rw [if_pos c]
    · rw [if_neg c]
      by_cases c2 : a1 = 1
      · rw [if_pos c2]
      · rw [if_neg c2]
  · rw [a1', if_neg n10, a2, a3]
    by_cases c : a1 = 0
    · rw [if_pos c, if_neg n10, if_pos c, if_pos c]
    · rw [if_neg c]
      by_cases c2 : a1 = 1
      · rw [if_pos c2, if_neg n10, if_neg c, if_neg c, if_pos c2]
      · rw [if_neg c2, if_pos (show (0 : Int32) = 0 from rfl), if_neg c, if_neg c2]
