/-! ===== findFlaws of the reference, whole ===== -/
noncomputable def fl (P : zp) (A : gA) (σ : zc_N) (r t L : Nat) (i : Nat) : Bool := cdec (∃ y, Vl A σ r t L P.2.1 i y)
def fO : List Nat := 54 :: 55 :: 56 :: mO
def FM (P : zp) (A : gA) (σ : zc_N) (r t L n : Nat) (τ : zc_N) : Prop := off fO σ τ ∧ (∀ m, m ≠ 33 → m ≠ 34 → m ∉ mF → τ 32 m = σ 32 m) ∧ VD P A σ r t L τ ∧ τ 32 33 = nI (cnt (fl P A σ r t L) n) ∧ ∀ j, j < n → fl P A σ r t L j = true → τ 54 (cnt (fl P A σ r t L) j) = nI j ∧ ∃ x z, mxS (Vl A σ r t L P.2.1 j) x ∧ τ 55 (cnt (fl P A σ r t L) j) = zI z ∧ mnS (Vc A σ r t L P.2.1 j x) z
theorem Inv_fO {P : zp} {A : gA} {σ τ : zc_N} (h : Inv P A σ) (ho : off fO σ τ) (h32 : ∀ m, m ≠ 33 → m ≠ 34 → m ∉ mF → τ 32 m = σ 32 m) : Inv P A τ := by
  refine Inv_sub h ho (by decide) (by rw [ho 10 (by decide)]) (fun k hk => ?_) (iK_11 h.2.2.2.2.2.1 (ho 11 (by decide)))
  have g : ∀ k, k ∈ [11, 12, 30, 36, 37] → k ≠ 33 ∧ k ≠ 34 ∧ k ∉ mF := by decide
  exact h32 k (g k hk).1 (g k hk).2.1 (g k hk).2.2
theorem iP_fO {P : zp} {A : gA} {σ τ : zc_N} (h : iP P A σ) (ho : off fO σ τ) (h11 : τ 32 11 = σ 32 11) : iP P A τ := by
  obtain ⟨p1, p2, p3⟩ := h
  have g : ∀ m, m ∈ fO → m < 57 := by decide
  have okp : ∀ k, 57 ≤ k → τ k = σ k := fun k hk => ho k (fun z => by have := g k z; omega)
  refine ⟨⟨p1.1, by rw [ho 3 (by decide)]; exact p1.2.1, by rw [h11]; exact p1.2.2⟩, fun p hp => ⟨?_, pM_off (p2 p hp).2.1 ho (by decide), (p2 p hp).2.2⟩, fun p hp => ?_⟩
  · have := (p2 p hp).1
    unfold pC
    rw [okp (pO p) (by show 57 ≤ 57 + 3 * p; omega), okp (pP p) (by show 57 ≤ 58 + 3 * p; omega), okp (pT p) (by show 57 ≤ 59 + 3 * p; omega)]
    exact this
  · rw [okp (pO p) (by show 57 ≤ 57 + 3 * p; omega), ho 42 (by decide), ho 43 (by decide)]
    exact p3 p hp
/-- while the prints below k have been asked -/
def AS (A : gA) (σ : zc_N) (r t L k : Nat) (τ : zc_N) : Prop := off fO σ τ ∧ (∀ m, m ≠ 34 → m ∉ mF → τ 32 m = σ 32 m) ∧ τ 32 34 = nI L ∧ ∀ p, p < k → σ 42 p = nI t → p ≠ L → ∀ i, i < aN A L → τ 56 (12 * p + i) = vd A r L p i
theorem f70_m {P : zp} {A : gA} {σ τ : zc_N} {r t L k : Nat} (h : iP P A σ) (hr : r < 4) (h12 : σ 32 12 = nI r) (hL : L < P.2.1) (hk : k < P.2.1) (hs : AS A σ r t L k τ) : AS A σ r t L (k + 1) (fX9_findFlaws_70 (nI t) k τ) ∧ qX9_findFlaws_70 (nI t) k τ := by
  obtain ⟨hn, h3, h11, p2, p3⟩ := iPp h
  obtain ⟨s1, s2, s3, s4⟩ := hs
  have vL := (p2 L hL).2.2.1
  have hI := iP_fO h s1 (s2 11 (by decide) (by decide))
  obtain ⟨a1, a2, a3, a4, a5⟩ := ask_m (σ := τ) (r := r) (L := L) (k := k) hI hr (by rw [s2 12 (by decide) (by decide)]; exact h12) hL hk s3
  have vk : vp_in (nI k) 24 := vp_in_nI (by omega) (by decide)
  unfold fX9_findFlaws_70 qX9_findFlaws_70
  rw [cl_n (a := k) (by omega), s1 42 (by decide), s3]
  refine ⟨?_, vk, fun _ => ⟨fun _ => trivial, fun _ => a1⟩, fun _ => trivial⟩
  by_cases c1 : σ 42 k = nI t
  · rw [if_pos c1]
    by_cases c2 : k = L
    · rw [if_pos (show nI k = nI L by rw [c2])]
      refine ⟨s1, s2, s3, fun p hp q1 q2 i hi => s4 p ?_ q1 q2 i hi⟩
      omega
    · rw [if_neg (ne_of_nI (by omega) (by omega) c2)]
      refine ⟨off_tr s1 (off_sub a4 (by decide)), fun m g1 g2 => (a5 m g2).trans (s2 m g1 g2), (a5 34 (by decide)).trans s3, fun p hp q1 q2 i hi => ?_⟩
      by_cases e : p = k
      · rw [e]; exact a2 i hi
      · rw [a3 _ (by omega)]; exact s4 p (by omega) q1 q2 i hi
  · rw [if_neg c1]
    refine ⟨s1, s2, s3, fun p hp q1 q2 i hi => s4 p ?_ q1 q2 i hi⟩
    by_cases e : p = k
    · rw [e] at q1; exact absurd q1 c1
    · omega
theorem z545 (τ : zc_N) (a b c : Nat → Int32) : zu (zu (zu τ 54 a) 55 b) 32 c 54 = a ∧ zu (zu (zu τ 54 a) 55 b) 32 c 55 = b := ⟨by rw [zu_ne _ _ (by decide), zu_ne _ _ (by decide), zu_self], by rw [zu_ne _ _ (by decide), zu_self]⟩
theorem f114_m {P : zp} {A : gA} {σ τ : zc_N} {r t L i : Nat} (h : iP P A σ) (ht : t < 10) (hL : L < P.2.1) (tL : σ 42 L = nI t) (hi : i < aN A L) (hs : FM P A σ r t L i τ) : FM P A σ r t L (i + 1) (fX9_findFlaws_114 (nI t) i τ) ∧ qX9_findFlaws_114 (nI t) i τ := by
  obtain ⟨hn, h3, h11, p2, p3⟩ := iPp h
  obtain ⟨s1, s2, s3, s4, s5⟩ := hs
  have h12 : i < 12 := Nat.lt_of_lt_of_le hi (p2 L hL).2.2.1
  obtain ⟨w1, w2⟩ := in132 h ht hL s3 hi h12
  have e11 : τ 32 11 = nI P.2.1 := by rw [s2 11 (by decide) (by decide) (by decide)]; exact h11
  have e34 : τ 32 34 = nI L := s3.2.2.1
  obtain ⟨x, x1, x2⟩ := w1 P.2.1 (Nat.le_refl _)
  have xb := Vl_b x2
  obtain ⟨v1, v2⟩ := in231 h ht hL tL s3 hi h12 xb
  obtain ⟨z, z1, z2⟩ := v1 P.2.1 (Nat.le_refl _)
  have cl := cnt_le (fl P A σ r t L) i
  have lt : zI x < (0 : Int32) ↔ x < 0 := zlt (a := x) (b := 0) (by omega) (by omega)
  have vc : vp_in (nI (cnt (fl P A σ r t L) i)) 12 := vp_in_nI (by omega) (by decide)
  have v34 : vp_in (nI L) 24 := vp_in_nI (by omega) (by decide)
  have hs1 : cnt (fl P A σ r t L) (i + 1) = cnt (fl P A σ r t L) i + (fl P A σ r t L i).toNat := rfl
  unfold fX9_findFlaws_114 qX9_findFlaws_114 vX9_findFlaws_3
  rw [e11, cl_n (a := P.2.1) (by omega), x1, e34, cl_n (a := L) (by omega), z1, s4, cl_n (a := cnt (fl P A σ r t L) i) (by omega)]
  refine ⟨?_, ⟨fun k hk => nI_leI (by omega) (by omega), fun k hk => w2 k hk _⟩, v34, ⟨fun k hk => nI_leI (by omega) (by omega), fun k hk => v2 k hk _ _⟩, fun _ => trivial, fun _ => ⟨vc, vc⟩⟩
  by_cases c : x < 0
  · have no : fl P A σ r t L i = false := cdec_f (fun ⟨y, hy⟩ => by
      rcases x2 with ⟨-, q⟩ | ⟨⟨k, -, -, -, -, -, q, -⟩, -⟩
      · exact q y hy
      · omega)
    rw [if_pos (lt.mpr c)]
    refine ⟨s1, s2, s3, by rw [hs1, no]; exact s4, fun j hj hf => s5 j ?_ hf⟩
    by_cases e : j = i
    · rw [e, no] at hf; cases hf
    · omega
  · have yes : fl P A σ r t L i = true := by
      rcases x2 with ⟨q, -⟩ | ⟨q, -⟩
      · omega
      · exact cdec_t ⟨x, q⟩
    rw [if_neg (fun w => c (lt.mp w)), nI_1]
    refine ⟨off_zu (off_zu (off_zu s1 (by decide) _) (by decide) _) (by decide) _, fun m g1 g2 g3 => ?_, ⟨?_, ?_, ?_, ?_⟩, ?_, fun j hj hf => ?_⟩
    · rw [zu_self, zu_ne _ _ g1]; exact s2 m g1 g2 g3
    · rw [zu_ne _ _ (by decide), zu_ne _ _ (by decide), zu_ne _ _ (by decide)]; exact s3.1
    · rw [zu_ne _ _ (by decide), zu_ne _ _ (by decide), zu_ne _ _ (by decide)]; exact s3.2.1
    · rw [zu_self, zu_ne _ _ (by decide)]; exact e34
    · rw [zu_ne _ _ (by decide), zu_ne _ _ (by decide), zu_ne _ _ (by decide)]; exact s3.2.2.2
    · rw [zu_self, zu_self, hs1, yes]; rfl
    · rw [(z545 _ _ _ _).1, (z545 _ _ _ _).2]
      by_cases e : j = i
      · rw [e, zu_self, zu_self]
        exact ⟨rfl, x, z, x2, rfl, z2⟩
      · have := cnt_lt_isp (f := fl P A σ r t L) (show j < i by omega) hf
        rw [zu_ne _ _ (by omega), zu_ne _ _ (by omega)]
        exact s5 j (by omega) hf
theorem find_m {P : zp} {A : gA} {σ : zc_N} {r t L : Nat} (h : iP P A σ) (hY : iY P σ) (hr : r < 4) (h12 : σ 32 12 = nI r) (ht : t < 10) (hw : nwo P σ (nI t) = some L) : pX9_findFlaws σ (nI t) ∧ FM P A σ r t L (aN A L) (sX9_findFlaws σ (nI t)) := by
  obtain ⟨hn, h3, h11, p2, p3⟩ := iPp h
  obtain ⟨hL, tL, -⟩ := newestP h hY ht hw
  have n12 := (p2 L hL).2.2.1
  have la := latest_m h (nI t)
  have z11 : zu σ 32 (zu (σ 32) 34 (-1)) 32 11 = nI P.2.1 := by rw [zu_self, zu_ne _ _ (by decide)]; exact h11
  have e6 : vX9_findFlaws_6 (nI t) σ = zu σ 32 (zu (σ 32) 34 (nI L)) := by
    unfold vX9_findFlaws_6
    rw [z11, cl_n (by omega), (la P.2.1 (Nat.le_refl _)).1]
    have : zfor (nwf σ (nI t)) P.2.1 none = some L := hw
    rw [this]
    rfl
  have A0 : AS A σ r t L 0 (vX9_findFlaws_6 (nI t) σ) := by
    rw [e6]
    refine ⟨off_zu (off_rf _ _) (by decide) _, fun m g1 g2 => ?_, ?_, fun p hp => absurd hp (by omega)⟩
    · rw [zu_self, zu_ne _ _ g1]
    · rw [zu_self, zu_self]
  have AA := zfor_inv (AS A σ r t L) (fX9_findFlaws_70 (nI t)) P.2.1 (vX9_findFlaws_6 (nI t) σ) A0 (fun k hk τ hh => (f70_m h hr h12 hL hk hh).1)
  have AQ : ∀ k, k < P.2.1 → qX9_findFlaws_70 (nI t) k (zfor (fX9_findFlaws_70 (nI t)) k (vX9_findFlaws_6 (nI t) σ)) := fun k hk => (f70_m h hr h12 hL hk (AA k (by omega))).2
  have e611 : vX9_findFlaws_6 (nI t) σ 32 11 = nI P.2.1 := by rw [A0.2.1 11 (by decide) (by decide)]; exact h11
  have e7 : vX9_findFlaws_7 (nI t) σ = zfor (fX9_findFlaws_70 (nI t)) P.2.1 (vX9_findFlaws_6 (nI t) σ) := by
    unfold vX9_findFlaws_7
    rw [e611, cl_n (by omega)]
  have AE := AA P.2.1 (Nat.le_refl _)
  rw [← e7] at AE
  have F0 : FM P A σ r t L 0 (zu (vX9_findFlaws_7 (nI t) σ) 32 (zu (vX9_findFlaws_7 (nI t) σ 32) 33 0)) := by
    refine ⟨off_zu AE.1 (by decide) _, fun m g1 g2 g3 => ?_, ⟨?_, ?_, ?_, ?_⟩, ?_, fun j hj => absurd hj (by omega)⟩
    · rw [zu_self, zu_ne _ _ g1]; exact AE.2.1 m g2 g3
    · rw [zu_ne _ _ (by decide)]; exact AE.1 42 (by decide)
    · rw [zu_ne _ _ (by decide)]; exact AE.1 43 (by decide)
    · rw [zu_self, zu_ne _ _ (by decide)]; exact AE.2.2.1
    · rw [zu_ne _ _ (by decide)]; exact AE.2.2.2
    · rw [zu_self, zu_self]; rfl
  have eN : ∀ n τ, FM P A σ r t L n τ → τ 37 (τ 32 34).toNatClampNeg = nI (aN A L) := fun n τ hf => by
    rw [hf.2.2.1.2.2.1, cl_n (a := L) (by omega), hf.1 37 (by decide)]
    exact (p2 L hL).2.1.1
  unfold pX9_findFlaws sX9_findFlaws vX9_findFlaws_8
  rw [z11, cl_n (a := P.2.1) (by omega), e611, cl_n (a := P.2.1) (by omega)]
  generalize zu (vX9_findFlaws_7 (nI t) σ) 32 (zu (vX9_findFlaws_7 (nI t) σ 32) 33 0) = β at F0
  rw [eN 0 β F0, cl_n (a := aN A L) (by omega)]
  have FA := zfor_inv (FM P A σ r t L) (fX9_findFlaws_114 (nI t)) (aN A L) β F0 (fun k hk τ hh => (f114_m h ht hL tL hk hh).1)
  refine ⟨⟨⟨fun i hi => ?_, fun i hi => ?_⟩, ⟨fun i hi => ?_, AQ⟩, fun i hi => ?_, fun i hi => ?_, fun i hi => (f114_m h ht hL tL hi (FA i (by omega))).2⟩, FA _ (Nat.le_refl _)⟩
  · rw [(la i hi).1, zu_self, zu_ne _ _ (by decide), h11]
    exact nI_leI (by omega) (by omega)
  · have l1 := la i (by omega)
    rw [l1.1]
    have vi : vp_in (nI i) 24 := vp_in_nI (by omega) (by decide)
    unfold qX9_findFlaws_7
    rw [zu_self, zu_self]
    refine ⟨vi, fun _ => ⟨fun _ => trivial, fun g => ⟨vi, ?_⟩⟩, fun _ => trivial⟩
    cases hz : zfor (nwf σ (nI t)) i none with
    | none => rw [hz] at g; exact absurd (show (-1 : Int32) < 0 by decide) g
    | some j => exact vp_in_nI (by have := l1.2 j hz; omega) (by decide)
  · rw [(AA i hi).2.1 11 (by decide) (by decide), h11]
    exact nI_leI (by omega) (by omega)
  · rw [eN i _ (FA i hi)]
    exact nI_leI (by omega) (by omega)
  · unfold uX9_findFlaws_114
    rw [(FA i hi).2.2.1.2.2.1]
    exact vp_in_nI (by omega) (by decide)
