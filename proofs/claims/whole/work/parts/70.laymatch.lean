/-! ===== lay, match ===== -/
theorem chH_ge (M : Nat → Nat → Bool) (n q : Nat) (h : n ≤ q) : chH M n q = 99 := by
  refine zfor_inv (fun k (y : cT) => ∀ q, k ≤ q → y.2.2 q = 99) (chs M n) n _ (fun _ _ => rfl) (fun k hk y hy => ?_) n (Nat.le_refl _) q h
  intro q hq
  unfold chs
  split
  · show zu y.2.2 k _ q = 99
    rw [zu_ne _ _ (by omega)]; exact hy q (by omega)
  · show zu y.2.2 k 99 q = 99
    rw [zu_ne _ _ (by omega)]; exact hy q (by omega)
theorem tell_m {σ : zc_N} {a na : Nat} (ha : a < 24) (hna : na ≤ 12) (h37 : σ 37 a = nI na) : pX9_tell σ (nI a) ∧ (sX9_tell σ (nI a) 52 0 = σ 32 20 ∧ sX9_tell σ (nI a) 52 1 = σ 32 21 ∧ sX9_tell σ (nI a) 52 2 = σ 32 25 ∧ sX9_tell σ (nI a) 52 3 = σ 32 22 ∧ sX9_tell σ (nI a) 52 4 = σ 32 23 ∧ sX9_tell σ (nI a) 52 5 = σ 32 24 ∧ sX9_tell σ (nI a) 52 6 = if σ 32 26 = 0 then 0 else 1) ∧ sX9_tell σ (nI a) 32 30 = nI na ∧ (∀ k, k ≠ 30 → sX9_tell σ (nI a) 32 k = σ 32 k) ∧ (∀ i, i < na → sX9_tell σ (nI a) 53 i = σ 51 i) ∧ off [32, 52, 53] σ (sX9_tell σ (nI a)) := by
  have hac : (nI a).toNatClampNeg = a := nI_clamp (by omega)
  have va24 : vp_in (nI a) 24 := vp_in_nI ha (by decide)
  unfold pX9_tell sX9_tell vX9_tell_1
  rw [hac, h37, show (0 : Int32).toNatClampNeg = 0 from rfl, show (1 : Int32).toNatClampNeg = 1 from rfl, show (2 : Int32).toNatClampNeg = 2 from rfl, show (3 : Int32).toNatClampNeg = 3 from rfl, show (4 : Int32).toNatClampNeg = 4 from rfl, show (5 : Int32).toNatClampNeg = 5 from rfl, show (6 : Int32).toNatClampNeg = 6 from rfl]
  generalize hT : zu (zu σ 52 (zu (zu (zu (zu (zu (zu (zu (σ 52) 0 (σ 32 20)) 1 (σ 32 21)) 2 (σ 32 25)) 3 (σ 32 22)) 4 (σ 32 23)) 5 (σ 32 24)) 6 (if σ 32 26 = 0 then 0 else 1))) 32 (zu (σ 32) 30 (nI na)) = T
  have t37 : T 37 a = nI na := by rw [← hT, zu_ne _ _ (by decide), zu_ne _ _ (by decide)]; exact h37
  have oT : off [32, 52, 53] σ T := by rw [← hT]; exact off_zu (off_zu (off_rf _ _) (by simp) _) (by simp) _
  have t51 : T 51 = σ 51 := oT 51 (by decide)
  rw [t37, cl_n (a := na) (by omega)]
  have key := zfor_inv (fun k (τ : zc_N) => (∀ i, i < k → τ 53 i = σ 51 i) ∧ off [53] T τ) fX9_tell_91 na T ⟨fun i hi => absurd hi (by omega), off_rf _ _⟩ (fun k hk τ h => by
    unfold fX9_tell_91
    rw [cl_n (by omega), h.2 51 (by decide), t51]
    refine ⟨fun i hi => ?_, off_zu h.2 (by simp) _⟩
    rw [zu_self]
    by_cases e : i = k
    · rw [e, zu_self]
    · rw [zu_ne _ _ e]; exact h.1 i (by omega))
  obtain ⟨k1, k2⟩ := key na (Nat.le_refl _)
  refine ⟨⟨va24, fun i hi => ?_, fun _ _ => va24, fun i hi => ⟨vp_in_nI (by omega) (by decide), vp_in_nI (by omega) (by decide)⟩⟩, ?_⟩
  · rw [(key i hi).2 37 (by decide), t37]; exact nI_leI (by omega) (by omega)
  · generalize zfor fX9_tell_91 na T = ω at k1 k2
    rw [k2 52 (by decide), k2 32 (by decide)]
    have e52 : T 52 = zu (zu (zu (zu (zu (zu (zu (σ 52) 0 (σ 32 20)) 1 (σ 32 21)) 2 (σ 32 25)) 3 (σ 32 22)) 4 (σ 32 23)) 5 (σ 32 24)) 6 (if σ 32 26 = 0 then 0 else 1) := by rw [← hT, zu_ne _ _ (by decide), zu_self]
    have e32 : T 32 = zu (σ 32) 30 (nI na) := by rw [← hT, zu_self]
    rw [e52, e32]
    refine ⟨⟨?_, ?_, ?_, ?_, ?_, ?_, ?_⟩, zu_self _ _ _, fun k hk => zu_ne _ _ hk, k1, off_tr oT (off_sub k2 (by simp))⟩
    · rw [zu_ne _ _ (by decide), zu_ne _ _ (by decide), zu_ne _ _ (by decide), zu_ne _ _ (by decide), zu_ne _ _ (by decide), zu_ne _ _ (by decide), zu_self]
    · rw [zu_ne _ _ (by decide), zu_ne _ _ (by decide), zu_ne _ _ (by decide), zu_ne _ _ (by decide), zu_ne _ _ (by decide), zu_self]
    · rw [zu_ne _ _ (by decide), zu_ne _ _ (by decide), zu_ne _ _ (by decide), zu_ne _ _ (by decide), zu_self]
    · rw [zu_ne _ _ (by decide), zu_ne _ _ (by decide), zu_ne _ _ (by decide), zu_self]
    · rw [zu_ne _ _ (by decide), zu_ne _ _ (by decide), zu_self]
    · rw [zu_ne _ _ (by decide), zu_self]
    · rw [zu_self]
def lS : List Nat := [3, 10, 11, 13, 14, 15, 16, 17, 18, 19, 20, 21, 22, 23, 24, 32, 44, 45, 46, 47, 48, 49, 50, 51, 52, 53]
theorem Inv_laid {P : zp} {A : gA} {σ τ : zc_N} (h : Inv P A σ) (ho : off lS σ τ) (h3 : ∀ k, k ≠ 6 → τ 3 k = σ 3 k) (h10 : τ 10 0 = σ 10 0) (h32 : ∀ k, k ∈ [11, 12, 36, 37] → τ 32 k = σ 32 k) (hK : iK A P.2.1 τ) (hT : iT τ) : Inv P A τ := by
  obtain ⟨⟨D, g1, g2⟩, ⟨p1, p2, p3⟩, l, -, a, -, w, yy⟩ := h
  have okp : ∀ k, 57 ≤ k → τ k = σ k := fun k hk => ho k (fun z => by
    have : ∀ m, m ∈ lS → m < 57 := by decide
    have := this k z
    omega)
  refine ⟨⟨D, fun y hy => by rw [ho 5 (by decide)]; exact g1 y hy, fun k hk => by rw [ho 33 (by decide)]; exact g2 k hk⟩, ⟨⟨p1.1, by rw [h3 3 (by decide)]; exact p1.2.1, by rw [h32 11 (by decide)]; exact p1.2.2⟩, fun p hp => ⟨?_, pM_off (p2 p hp).2.1 ho (by decide), (p2 p hp).2.2⟩, fun p hp => ?_⟩, ?_, hT, ?_, hK, ?_, by unfold iY; rw [ho 42 (by decide), ho 43 (by decide)]; exact yy⟩
  · have := (p2 p hp).1
    unfold pC
    rw [okp (pO p) (by show 57 ≤ 57 + 3 * p; omega), okp (pP p) (by show 57 ≤ 58 + 3 * p; omega), okp (pT p) (by show 57 ≤ 59 + 3 * p; omega)]
    exact this
  · rw [okp (pO p) (by show 57 ≤ 57 + 3 * p; omega), ho 42 (by decide), ho 43 (by decide)]
    exact p3 p hp
  · obtain ⟨r, r1, r2, r3⟩ := l
    exact ⟨r, r1, by rw [h10]; exact r2, by rw [h32 12 (by decide)]; exact r3⟩
  · unfold iA
    rw [h3 11 (by decide), h3 9 (by decide), h3 10 (by decide), h32 36 (by decide), h32 37 (by decide)]
    exact a
  · unfold iW
    rw [ho 1 (by decide), ho 2 (by decide)]
    exact w
theorem winz (a : Int32) : (rX8_isWithin a (-30) 30 = 0 ∧ rX9_within a (-30) 30 = 0) ∨ ∃ z : Int, (-30 ≤ z ∧ z ≤ 30) ∧ a = zI z ∧ rX8_isWithin a (-30) 30 = 1 ∧ rX9_within a (-30) 30 = 1 := by
  unfold rX8_isWithin rX9_within
  by_cases c1 : a < -30
  · exact Or.inl ⟨if_pos c1, if_pos c1⟩
  · rw [if_neg c1]
    by_cases c2 : 30 < a
    · exact Or.inl ⟨if_pos c2, if_pos c2⟩
    · rw [if_neg c2]
      refine Or.inr ⟨a.toInt, ?_, ?_, rfl, rfl⟩
      · rw [Int32.lt_iff_toInt_lt] at c1 c2
        have e1 : (-30 : Int32).toInt = -30 := rfl
        have e2 : (30 : Int32).toInt = 30 := rfl
        omega
      · unfold zI
        rw [Int32.ofInt_toInt]
theorem ok_match {P : zp} {A : gA} {σ : zc_N} (h : Inv P A σ) (a1 a2 : Int32) : pX8_match P σ a1 a2 ∧ pX9_match (sX8_match P σ a1 a2) a1 a2 ∧ rX8_match P σ a1 a2 = rX9_match (sX8_match P σ a1 a2) a1 a2 ∧ Inv P A (sX9_match (sX8_match P σ a1 a2) a1 a2) := by
  obtain ⟨hn, h3, h11, p2, p3⟩ := iP_parts h
  have h' := h
  obtain ⟨-, -, ⟨r, r1, r2, r3⟩, -, -, hK, -⟩ := h'
  have hpa := pAt_ok h3 h11 hn a1
  have hpb := pAt_ok h3 h11 hn a2
  unfold pX8_match rX8_match sX8_match
  rw [h3]
  rcases prt hn h11 a1 with ⟨e1, e2⟩ | ⟨a, ha, rfl, e1, e2⟩
  · rw [if_pos e1, if_pos e1]
    have s9 : sX9_match σ a1 a2 = σ := if_pos e2
    have r9 : rX9_match σ a1 a2 = -1000 := if_pos e2
    rw [s9, r9]
    exact ⟨⟨hpa, hpb, fun _ => trivial, fun z => absurd e1 z⟩, ⟨fun _ => trivial, fun z => absurd e2 z⟩, rfl, h⟩
  · have n1 : ¬ rX8_isWithin (nI a) 0 (nI P.2.1 - 1) = 0 := fun z => n10 (e1.symm.trans z)
    have n2 : ¬ rX9_isPrint σ (nI a) = 0 := fun z => n10 (e2.symm.trans z)
    have hac : (nI a).toNatClampNeg = a := nI_clamp (by omega)
    rw [if_neg n1, if_neg n1, hac]
    rcases prt hn h11 a2 with ⟨f1, f2⟩ | ⟨b, hb, rfl, f1, f2⟩
    · rw [if_pos f1, if_pos f1]
      have s9 : sX9_match σ (nI a) a2 = σ := (if_neg n2).trans (if_pos f2)
      have r9 : rX9_match σ (nI a) a2 = -1000 := (if_neg n2).trans (if_pos f2)
      rw [s9, r9]
      exact ⟨⟨hpa, hpb, fun _ => trivial, fun _ => ⟨ha, fun _ => trivial, fun z => absurd f1 z⟩⟩, ⟨fun _ => trivial, fun _ => ⟨fun _ => trivial, fun z => absurd f2 z⟩⟩, rfl, h⟩
    · have m1 : ¬ rX8_isWithin (nI b) 0 (nI P.2.1 - 1) = 0 := fun z => n10 (f1.symm.trans z)
      have m2 : ¬ rX9_isPrint σ (nI b) = 0 := fun z => n10 (f2.symm.trans z)
      have hbc : (nI b).toNatClampNeg = b := nI_clamp (by omega)
      rw [if_neg m1, if_neg m1, hbc]
      obtain ⟨ca, ma, va⟩ := p2 a ha
      obtain ⟨cb, mb, vb⟩ := p2 b hb
      have hNa := va.1
      obtain ⟨l1, l2, l3, l4, l5⟩ := layBest_l hn ha hb ca cb va vb r1 r2 hK
      generalize sX4_layBest_l P σ a b = τ at l2 l3 l4 l5
      have oS : off lS σ (zu τ 3 (zu (τ 3) 6 1)) := off_zu (off_sub l4 (by decide)) (by decide) _
      have s32 : (zu τ 3 (zu (τ 3) 6 1)) 32 = σ 32 := by rw [zu_ne _ _ (by decide), l4 32 (by decide)]
      have s3 : ∀ k, k ≠ 6 → (zu τ 3 (zu (τ 3) 6 1)) 3 k = σ 3 k := fun k hk => by rw [zu_self, zu_ne _ _ hk, l4 3 (by decide)]
      have s36 : (zu τ 3 (zu (τ 3) 6 1)) 3 6 = 1 := by rw [zu_self, zu_self]
      have sk : ∀ k, k ≠ 3 → (zu τ 3 (zu (τ 3) 6 1)) k = τ k := fun k hk => zu_ne _ _ hk
      have s23 := sk 23 (by decide)
      have s24 := sk 24 (by decide)
      have s10 := sk 10 (by decide)
      have s11 := sk 11 (by decide)
      have mA : ∀ p, p < P.2.1 → pM A (zu τ 3 (zu (τ 3) 6 1)) p := fun p hp => by
        have := (p2 p hp).2.1
        unfold pM
        rw [sk 37 (by decide), sk 38 (by decide), sk 39 (by decide), sk 40 (by decide), sk 41 (by decide), l4 37 (by decide), l4 38 (by decide), l4 39 (by decide), l4 40 (by decide), l4 41 (by decide)]
        exact this
      generalize zu τ 3 (zu (τ 3) 6 1) = υ at oS s32 s3 s36 s23 s24 s10 s11 mA
      obtain ⟨q1, q2, q3, q4, q5⟩ := matchOf_m (A := A) (σ := υ) (show a < 24 by omega) (show b < 24 by omega) (show r ≤ 3 by omega) va vb (mA a ha) (mA b hb) (by rw [s32]; exact r3)
      have n2' : ¬ rX9_isPrint υ (nI a) = 0 := by
        have : rX9_isPrint υ (nI a) = rX9_isPrint σ (nI a) := by unfold rX9_isPrint; rw [s32]
        rw [this]; exact n2
      have m2' : ¬ rX9_isPrint υ (nI b) = 0 := by
        have : rX9_isPrint υ (nI b) = rX9_isPrint σ (nI b) := by unfold rX9_isPrint; rw [s32]
        rw [this]; exact m2
      have s9 : sX9_match υ (nI a) (nI b) = sX9_tell (sX9_matchOf υ (nI a) (nI b)) (nI a) := (if_neg n2').trans (if_neg m2')
      have r9 : rX9_match υ (nI a) (nI b) = rX9_matchOf υ (nI a) (nI b) := (if_neg n2').trans (if_neg m2')
      rw [s9, r9, q2]
      generalize sX9_matchOf υ (nI a) (nI b) = ψ at q3 q4 q5
      have psi : sX9_match υ (nI a) (nI b) = sX9_match υ (nI a) (nI b) := rfl
      obtain ⟨t1, ⟨t20, t21, t25, t22, t23, t24, t26⟩, t2, t3, t4, t5⟩ := tell_m (σ := ψ) (a := a) (na := aN A a) (show a < 24 by omega) hNa (by rw [q4 37 (by decide)]; exact (mA a ha).1)
      have hp9 : pX9_match υ (nI a) (nI b) := by
        refine ⟨fun _ => trivial, fun _ => ⟨fun _ => trivial, fun _ => ⟨q1, ?_⟩⟩⟩
        exact (tell_m (a := a) (na := aN A a) (show a < 24 by omega) hNa (by rw [(matchOf_m (A := A) (σ := υ) (show a < 24 by omega) (show b < 24 by omega) (show r ≤ 3 by omega) va vb (mA a ha) (mA b hb) (by rw [s32]; exact r3)).2.2.2.1 37 (by decide)]; exact (mA a ha).1)).1
      refine ⟨⟨hpa, hpb, fun _ => trivial, fun _ => ⟨ha, fun _ => trivial, fun _ => ⟨hb, l1⟩⟩⟩, hp9, ?_, ?_⟩
      · rcases l2 with ⟨b1, x0, x1, x2, x3, xf⟩ | ⟨b1, x0, x1⟩
        · have : mval A r a b = SC A r a b (bQ A r a b) (bX A r a b) (bY A r a b) := by unfold mval; rw [if_pos b1, SkB]
          rw [this]; exact xf.2.2.1
        · have : mval A r a b = 0 := by unfold mval; rw [if_neg (by omega)]
          rw [this]; exact x0 6 (by decide)
      · have w23 : sX9_tell ψ (nI a) 23 = τ 23 := by rw [t5 23 (by decide), q4 23 (by decide), s23]
        have w24 : sX9_tell ψ (nI a) 24 = τ 24 := by rw [t5 24 (by decide), q4 24 (by decide), s24]
        have w3 : sX9_tell ψ (nI a) 3 = υ 3 := by rw [t5 3 (by decide), q4 3 (by decide)]
        refine Inv_laid h (off_tr oS (off_tr (off_sub q4 (by decide)) (off_sub t5 (by decide)))) (fun k hk => by rw [w3]; exact s3 k hk) (by rw [t5 10 (by decide), q4 10 (by decide), s10, l5 0 (by decide) (by decide)]) (fun k hk => ?_) (iK_11 l3 (by rw [t5 11 (by decide), q4 11 (by decide), s11])) ?_
        · have hk2 : k ∉ mF ∧ k ≠ 30 := by
            have : ∀ k, k ∈ [11, 12, 36, 37] → k ∉ mF ∧ k ≠ 30 := by decide
            exact this k hk
          rw [t3 k hk2.2, q5 k hk2.1, s32]
        · unfold iT
          rw [w3, w23, w24, s36]
          refine Or.inr ⟨rfl, aN A a, hNa, t2, ?_⟩
          rcases q3 with ⟨b1, y26, y25, y22, y23, y24, y20, y21, -, y51⟩ | ⟨b1, y0, y51⟩
          · rcases l2 with ⟨-, x0, x1, x2, x3, xf⟩ | ⟨b2, -⟩
            · refine ⟨⟨?_, ?_, ?_, ?_, ?_, ?_, ?_, Or.inr x0⟩, fun i hi => ?_, fun i h1 h2 => ?_⟩
              · rw [t20, y20, xf.1]
              · rw [t21, y21, xf.2.1]
              · rw [t25, y25, xf.2.2.1]
              · rw [t22, y22, x1]
              · rw [t23, y23, x2]
              · rw [t24, y24, x3]
              · rw [t26, y26, x0, if_neg n10]
              · rw [t4 i hi, y51 i hi, xf.2.2.2.2.2 i (by omega)]
              · rw [xf.2.2.2.2.2 i h2, chH_ge _ _ _ h1]; rfl
            · omega
          · rcases l2 with ⟨b2, -⟩ | ⟨-, x0, x1⟩
            · omega
            · refine ⟨⟨?_, ?_, ?_, ?_, ?_, ?_, ?_, Or.inl (x0 0 (by decide))⟩, fun i hi => ?_, fun i h1 h2 => x1 i h2⟩
              · rw [t20, y0 20 (by decide), x0 4 (by decide)]
              · rw [t21, y0 21 (by decide), x0 5 (by decide)]
              · rw [t25, y0 25 (by decide), x0 6 (by decide)]
              · rw [t22, y0 22 (by decide), x0 1 (by decide)]
              · rw [t23, y0 23 (by decide), x0 2 (by decide)]
              · rw [t24, y0 24 (by decide), x0 3 (by decide)]
              · rw [t26, y0 26 (by decide), x0 0 (by decide), if_pos rfl]
              · rw [t4 i hi, y51 i hi, x1 i (by omega)]
theorem ok_lay {P : zp} {A : gA} {σ : zc_N} (h : Inv P A σ) (a1 a2 a3 a4 a5 : Int32) : pX8_lay P σ a1 a2 a3 a4 a5 ∧ pX9_lay (sX8_lay P σ a1 a2 a3 a4 a5) a1 a2 a3 a4 a5 ∧ rX8_lay P σ a1 a2 a3 a4 a5 = rX9_lay (sX8_lay P σ a1 a2 a3 a4 a5) a1 a2 a3 a4 a5 ∧ Inv P A (sX9_lay (sX8_lay P σ a1 a2 a3 a4 a5) a1 a2 a3 a4 a5) := by
  obtain ⟨hn, h3, h11, p2, p3⟩ := iP_parts h
  have h' := h
  obtain ⟨-, -, ⟨r, r1, r2, r3⟩, -, -, hK, -⟩ := h'
  have hpa := pAt_ok h3 h11 hn a1
  have hpb := pAt_ok h3 h11 hn a2
  unfold pX8_lay rX8_lay sX8_lay
  rw [h3]
  rcases prt hn h11 a1 with ⟨e1, e2⟩ | ⟨a, ha, rfl, e1, e2⟩
  · rw [if_pos e1, if_pos e1]
    have s9 : sX9_lay σ a1 a2 a3 a4 a5 = σ := if_pos e2
    have r9 : rX9_lay σ a1 a2 a3 a4 a5 = -1000 := if_pos e2
    rw [s9, r9]
    exact ⟨⟨hpa, hpb, fun _ => trivial, fun z => absurd e1 z⟩, ⟨fun _ => trivial, fun z => absurd e2 z⟩, rfl, h⟩
  · have n1 : ¬ rX8_isWithin (nI a) 0 (nI P.2.1 - 1) = 0 := fun z => n10 (e1.symm.trans z)
    have n2 : ¬ rX9_isPrint σ (nI a) = 0 := fun z => n10 (e2.symm.trans z)
    have hac : (nI a).toNatClampNeg = a := nI_clamp (by omega)
    rw [if_neg n1, if_neg n1, hac]
    rcases prt hn h11 a2 with ⟨f1, f2⟩ | ⟨b, hb, rfl, f1, f2⟩
    · rw [if_pos f1, if_pos f1]
      have s9 : sX9_lay σ (nI a) a2 a3 a4 a5 = σ := (if_neg n2).trans (if_pos f2)
      have r9 : rX9_lay σ (nI a) a2 a3 a4 a5 = -1000 := (if_neg n2).trans (if_pos f2)
      rw [s9, r9]
      exact ⟨⟨hpa, hpb, fun _ => trivial, fun _ => ⟨ha, fun _ => trivial, fun z => absurd f1 z⟩⟩, ⟨fun _ => trivial, fun _ => ⟨fun _ => trivial, fun z => absurd f2 z⟩⟩, rfl, h⟩
    · have m1 : ¬ rX8_isWithin (nI b) 0 (nI P.2.1 - 1) = 0 := fun z => n10 (f1.symm.trans z)
      have m2 : ¬ rX9_isPrint σ (nI b) = 0 := fun z => n10 (f2.symm.trans z)
      have hbc : (nI b).toNatClampNeg = b := nI_clamp (by omega)
      rw [if_neg m1, if_neg m1, hbc]
      rcases win a3 3 (by decide) with ⟨g1, g2⟩ | ⟨q, hq, rfl, g1, g2⟩
      · have g1' : rX8_isWithin a3 0 3 = 0 := g1
        have g2' : rX9_within a3 0 3 = 0 := g2
        rw [if_pos g1', if_pos g1']
        have s9 : sX9_lay σ (nI a) (nI b) a3 a4 a5 = σ := ((if_neg n2).trans (if_neg m2)).trans (if_pos g2')
        have r9 : rX9_lay σ (nI a) (nI b) a3 a4 a5 = -1000 := ((if_neg n2).trans (if_neg m2)).trans (if_pos g2')
        rw [s9, r9]
        exact ⟨⟨hpa, hpb, fun _ => trivial, fun _ => ⟨ha, fun _ => trivial, fun _ => ⟨hb, fun _ => trivial, fun z => absurd g1' z⟩⟩⟩, ⟨fun _ => trivial, fun _ => ⟨fun _ => trivial, fun _ => ⟨fun _ => trivial, fun z => absurd g2' z⟩⟩⟩, rfl, h⟩
      · have o1 : ¬ rX8_isWithin (nI q) 0 3 = 0 := fun z => n10 (g1.symm.trans z)
        have o2 : ¬ rX9_within (nI q) 0 3 = 0 := fun z => n10 (g2.symm.trans z)
        rw [if_neg o1, if_neg o1]
        rcases winz a4 with ⟨u1, u2⟩ | ⟨dx, hdx, rfl, u1, u2⟩
        · rw [if_pos u1, if_pos u1]
          have s9 : sX9_lay σ (nI a) (nI b) (nI q) a4 a5 = σ := (((if_neg n2).trans (if_neg m2)).trans (if_neg o2)).trans (if_pos u2)
          have r9 : rX9_lay σ (nI a) (nI b) (nI q) a4 a5 = -1000 := (((if_neg n2).trans (if_neg m2)).trans (if_neg o2)).trans (if_pos u2)
          rw [s9, r9]
          exact ⟨⟨hpa, hpb, fun _ => trivial, fun _ => ⟨ha, fun _ => trivial, fun _ => ⟨hb, fun _ => trivial, fun _ => ⟨fun _ => trivial, fun z => absurd u1 z⟩⟩⟩⟩, ⟨fun _ => trivial, fun _ => ⟨fun _ => trivial, fun _ => ⟨fun _ => trivial, fun _ => ⟨fun _ => trivial, fun z => absurd u2 z⟩⟩⟩⟩, rfl, h⟩
        · have v1 : ¬ rX8_isWithin (zI dx) (-30) 30 = 0 := fun z => n10 (u1.symm.trans z)
          have v2 : ¬ rX9_within (zI dx) (-30) 30 = 0 := fun z => n10 (u2.symm.trans z)
          rw [if_neg v1, if_neg v1]
          rcases winz a5 with ⟨y1, y2⟩ | ⟨dy, hdy, rfl, y1, y2⟩
          · rw [if_pos y1, if_pos y1]
            have s9 : sX9_lay σ (nI a) (nI b) (nI q) (zI dx) a5 = σ := ((((if_neg n2).trans (if_neg m2)).trans (if_neg o2)).trans (if_neg v2)).trans (if_pos y2)
            have r9 : rX9_lay σ (nI a) (nI b) (nI q) (zI dx) a5 = -1000 := ((((if_neg n2).trans (if_neg m2)).trans (if_neg o2)).trans (if_neg v2)).trans (if_pos y2)
            rw [s9, r9]
            exact ⟨⟨hpa, hpb, fun _ => trivial, fun _ => ⟨ha, fun _ => trivial, fun _ => ⟨hb, fun _ => trivial, fun _ => ⟨fun _ => trivial, fun _ => ⟨fun _ => trivial, fun z => absurd y1 z⟩⟩⟩⟩⟩, ⟨fun _ => trivial, fun _ => ⟨fun _ => trivial, fun _ => ⟨fun _ => trivial, fun _ => ⟨fun _ => trivial, fun _ => ⟨fun _ => trivial, fun z => absurd y2 z⟩⟩⟩⟩⟩, rfl, h⟩
          · have w1 : ¬ rX8_isWithin (zI dy) (-30) 30 = 0 := fun z => n10 (y1.symm.trans z)
            have w2 : ¬ rX9_within (zI dy) (-30) 30 = 0 := fun z => n10 (y2.symm.trans z)
            rw [if_neg w1, if_neg w1]
            obtain ⟨ca, ma, va⟩ := p2 a ha
            obtain ⟨cb, mb, vb⟩ := p2 b hb
            have hNa := va.1
            have hNb := vb.1
            have oS0 : off [23] σ (sX3_set_l σ (nI q) (zI dx) (zI dy)) := off_zu (off_rf _ _) (by simp) _
            have c0 : (sX3_set_l σ (nI q) (zI dx) (zI dy)) 23 0 = 1 := by unfold sX3_set_l; rw [zu_self, zu_ne _ _ (by decide), zu_ne _ _ (by decide), zu_ne _ _ (by decide), zu_self]
            have c1 : (sX3_set_l σ (nI q) (zI dx) (zI dy)) 23 1 = nI q := by unfold sX3_set_l; rw [zu_self, zu_ne _ _ (by decide), zu_ne _ _ (by decide), zu_self]
            have c2 : (sX3_set_l σ (nI q) (zI dx) (zI dy)) 23 2 = zI dx := by unfold sX3_set_l; rw [zu_self, zu_ne _ _ (by decide), zu_self]
            have c3 : (sX3_set_l σ (nI q) (zI dx) (zI dy)) 23 3 = zI dy := by unfold sX3_set_l; rw [zu_self, zu_self]
            obtain ⟨i1, i2, i3, i4, i5⟩ := fillIn_l (P := P) (A := A) (r := r) (σ := sX3_set_l σ (nI q) (zI dx) (zI dy)) (pC_off ca oS0 (by decide)) (pC_off cb oS0 (by decide)) va vb r1 (by omega) hdx hdy (by rw [oS0 10 (by decide)]; exact r2) c1 c2 c3
            have j0 := (i3 0 (by decide)).trans c0
            have j1 := (i3 1 (by decide)).trans c1
            have j2 := (i3 2 (by decide)).trans c2
            have j3 := (i3 3 (by decide)).trans c3
            have k10 : sX4_fillIn_l P (sX3_set_l σ (nI q) (zI dx) (zI dy)) a b 10 0 = σ 10 0 := by rw [i4 0 (by decide) (by decide), oS0 10 (by decide)]
            have oF : off [10, 13, 14, 15, 16, 17, 18, 19, 20, 21, 23, 24] σ (sX4_fillIn_l P (sX3_set_l σ (nI q) (zI dx) (zI dy)) a b) := off_tr (off_sub oS0 (by simp)) i5
            generalize sX4_fillIn_l P (sX3_set_l σ (nI q) (zI dx) (zI dy)) a b = τ at i2 j0 j1 j2 j3 k10 oF
            have oS : off lS σ (zu τ 3 (zu (τ 3) 6 1)) := off_zu (off_sub oF (by decide)) (by decide) _
            have s32 : (zu τ 3 (zu (τ 3) 6 1)) 32 = σ 32 := by rw [zu_ne _ _ (by decide), oF 32 (by decide)]
            have s3 : ∀ k, k ≠ 6 → (zu τ 3 (zu (τ 3) 6 1)) 3 k = σ 3 k := fun k hk => by rw [zu_self, zu_ne _ _ hk, oF 3 (by decide)]
            have s36 : (zu τ 3 (zu (τ 3) 6 1)) 3 6 = 1 := by rw [zu_self, zu_self]
            have sk : ∀ k, k ≠ 3 → (zu τ 3 (zu (τ 3) 6 1)) k = τ k := fun k hk => zu_ne _ _ hk
            have s23 := sk 23 (by decide)
            have s24 := sk 24 (by decide)
            have s10 := sk 10 (by decide)
            have s11 : (zu τ 3 (zu (τ 3) 6 1)) 11 = σ 11 := by rw [sk 11 (by decide), oF 11 (by decide)]
            have mA : ∀ p, p < P.2.1 → pM A (zu τ 3 (zu (τ 3) 6 1)) p := fun p hp => by
              have := (p2 p hp).2.1
              unfold pM
              rw [sk 37 (by decide), sk 38 (by decide), sk 39 (by decide), sk 40 (by decide), sk 41 (by decide), oF 37 (by decide), oF 38 (by decide), oF 39 (by decide), oF 40 (by decide), oF 41 (by decide)]
              exact this
            generalize zu τ 3 (zu (τ 3) 6 1) = υ at oS s32 s3 s36 s23 s24 s10 s11 mA
            have n2' : ¬ rX9_isPrint υ (nI a) = 0 := by
              have : rX9_isPrint υ (nI a) = rX9_isPrint σ (nI a) := by unfold rX9_isPrint; rw [s32]
              rw [this]; exact n2
            have m2' : ¬ rX9_isPrint υ (nI b) = 0 := by
              have : rX9_isPrint υ (nI b) = rX9_isPrint σ (nI b) := by unfold rX9_isPrint; rw [s32]
              rw [this]; exact m2
            have s9 : sX9_lay υ (nI a) (nI b) (nI q) (zI dx) (zI dy) = sX9_tell (vX9_lay_2 (nI a) (nI b) (nI q) (zI dx) (zI dy) υ) (nI a) := ((((if_neg n2').trans (if_neg m2')).trans (if_neg o2)).trans (if_neg v2)).trans (if_neg w2)
            have r9 : rX9_lay υ (nI a) (nI b) (nI q) (zI dx) (zI dy) = sX9_tell (vX9_lay_2 (nI a) (nI b) (nI q) (zI dx) (zI dy) υ) (nI a) 32 25 := ((((if_neg n2').trans (if_neg m2')).trans (if_neg o2)).trans (if_neg v2)).trans (if_neg w2)
            rw [s9, r9]
            -- the reference
            generalize hZ : zu υ 32 (zu (zu (zu (zu (υ 32) 26 1) 22 (nI q)) 23 (zI dx)) 24 (zI dy)) = Z
            have z26 : Z 32 26 = 1 := by rw [← hZ, zu_self, zu_ne _ _ (by decide), zu_ne _ _ (by decide), zu_ne _ _ (by decide), zu_self]
            have z22 : Z 32 22 = nI q := by rw [← hZ, zu_self, zu_ne _ _ (by decide), zu_ne _ _ (by decide), zu_self]
            have z23 : Z 32 23 = zI dx := by rw [← hZ, zu_self, zu_ne _ _ (by decide), zu_self]
            have z24 : Z 32 24 = zI dy := by rw [← hZ, zu_self, zu_self]
            have zk : ∀ k, k ∉ mF → Z 32 k = σ 32 k := fun k hk => by
              have hh : ∀ j, j ∈ mF → k ≠ j := fun j hj e => hk (by rw [e]; exact hj)
              rw [← hZ, zu_self, zu_ne _ _ (hh 24 (by decide)), zu_ne _ _ (hh 23 (by decide)), zu_ne _ _ (hh 22 (by decide)), zu_ne _ _ (hh 26 (by decide)), s32]
            have oZ : off [32] υ Z := by rw [← hZ]; exact off_zu (off_rf _ _) (by simp) _
            obtain ⟨x1, x2, x3, x4, x5, x6, x7⟩ := scoreOf_m (A := A) (σ := Z) (r := r) (q := q) (dx := dx) (dy := dy) (show a < 24 by omega) (show b < 24 by omega) (by omega) (by omega) va vb (pM_off (mA a ha) oZ (by decide)) (pM_off (mA b hb) oZ (by decide)) (by rw [zk 12 (by decide)]; exact r3) hdx hdy
            have oX : off mO υ (sX9_scoreOf Z (nI a) (nI b) (nI q) (zI dx) (zI dy)) := off_tr (off_sub oZ (by decide)) (off_sub x7 (by decide))
            have x37a : sX9_scoreOf Z (nI a) (nI b) (nI q) (zI dx) (zI dy) 37 (nI a).toNatClampNeg = nI (aN A a) := by rw [hac]; exact (pM_off (mA a ha) oX (by decide)).1
            have x37b : sX9_scoreOf Z (nI a) (nI b) (nI q) (zI dx) (zI dy) 37 (nI b).toNatClampNeg = nI (aN A b) := by rw [hbc]; exact (pM_off (mA b hb) oX (by decide)).1
            have eV : vX9_lay_2 (nI a) (nI b) (nI q) (zI dx) (zI dy) υ = sX9_findFirst (zu (sX9_scoreOf Z (nI a) (nI b) (nI q) (zI dx) (zI dy)) 32 (zu (sX9_scoreOf Z (nI a) (nI b) (nI q) (zI dx) (zI dy) 32) 25 (zI (SC A r a b q dx dy)))) (nI (aN A a)) (nI (aN A b)) := by
              unfold vX9_lay_2 vX9_lay_1
              rw [hZ, x37a, x37b, x2]
            have P9a : pX9_lay υ (nI a) (nI b) (nI q) (zI dx) (zI dy) ↔ (pX9_findFirst (zu (sX9_scoreOf Z (nI a) (nI b) (nI q) (zI dx) (zI dy)) 32 (zu (sX9_scoreOf Z (nI a) (nI b) (nI q) (zI dx) (zI dy) 32) 25 (zI (SC A r a b q dx dy)))) (nI (aN A a)) (nI (aN A b)) ∧ pX9_tell (vX9_lay_2 (nI a) (nI b) (nI q) (zI dx) (zI dy) υ) (nI a)) := by
              unfold pX9_lay vX9_lay_1
              rw [hZ, x37a, x37b, x2]
              constructor
              · intro hh
                have := (((((hh.2 n2').2 m2').2 o2).2 v2).2 w2)
                exact ⟨this.2.2.2.1, this.2.2.2.2⟩
              · rintro ⟨g1, g2⟩
                exact ⟨fun _ => trivial, fun _ => ⟨fun _ => trivial, fun _ => ⟨fun _ => trivial, fun _ => ⟨fun _ => trivial, fun _ => ⟨fun _ => trivial, fun _ => ⟨x1, vp_in_nI (by omega) (by decide), vp_in_nI (by omega) (by decide), g1, g2⟩⟩⟩⟩⟩⟩
            rw [P9a, eV]
            generalize sX9_scoreOf Z (nI a) (nI b) (nI q) (zI dx) (zI dy) = ξ at x3 x4 x5 x6 x7 oX
            obtain ⟨g1, g2, g3⟩ := first_m (M := mayB A r a b q dx dy) (n := aN A a) (nb := aN A b) (σ := zu ξ 32 (zu (ξ 32) 25 (zI (SC A r a b q dx dy)))) hNa hNb (fun i j hh => may0 A r a b _ _ _ i j hh) (fun i j hi hj => by rw [zu_ne _ _ (by decide)]; exact x3.1 i j hi hj)
            have oG : off mO υ (sX9_findFirst (zu ξ 32 (zu (ξ 32) 25 (zI (SC A r a b q dx dy)))) (nI (aN A a)) (nI (aN A b))) := off_tr (off_zu oX (by decide) _) (off_sub g3 (by decide))
            have k32 : sX9_findFirst (zu ξ 32 (zu (ξ 32) 25 (zI (SC A r a b q dx dy)))) (nI (aN A a)) (nI (aN A b)) 32 = zu (ξ 32) 25 (zI (SC A r a b q dx dy)) := by rw [g3 32 (by decide), zu_self]
            generalize sX9_findFirst (zu ξ 32 (zu (ξ 32) 25 (zI (SC A r a b q dx dy)))) (nI (aN A a)) (nI (aN A b)) = ψ at g2 oG k32
            obtain ⟨t1, ⟨t20, t21, t25, t22, t23, t24, t26⟩, t2, t3, t4, t5⟩ := tell_m (σ := ψ) (a := a) (na := aN A a) (show a < 24 by omega) hNa (by rw [oG 37 (by decide)]; exact (mA a ha).1)
            have y20 : ψ 32 20 = nI (PR A r a b q dx dy) := by rw [k32, zu_ne _ _ (by decide)]; exact x4
            have y21 : ψ 32 21 = nI (bw (SB A a b q dx dy) (PR A r a b q dx dy)) := by rw [k32, zu_ne _ _ (by decide)]; exact x5
            have y25 : ψ 32 25 = zI (SC A r a b q dx dy) := by rw [k32, zu_self]
            have y22 : ψ 32 22 = nI q := by rw [k32, zu_ne _ _ (by decide), x6 22 (by decide) (by decide)]; exact z22
            have y23 : ψ 32 23 = zI dx := by rw [k32, zu_ne _ _ (by decide), x6 23 (by decide) (by decide)]; exact z23
            have y24 : ψ 32 24 = zI dy := by rw [k32, zu_ne _ _ (by decide), x6 24 (by decide) (by decide)]; exact z24
            have y26 : ψ 32 26 = 1 := by rw [k32, zu_ne _ _ (by decide), x6 26 (by decide) (by decide)]; exact z26
            have yk : ∀ k, k ∉ mF → ψ 32 k = σ 32 k := fun k hk => by
              have hh : ∀ j, j ∈ mF → k ≠ j := fun j hj e => hk (by rw [e]; exact hj)
              rw [k32, zu_ne _ _ (hh 25 (by decide)), x6 k (hh 20 (by decide)) (hh 21 (by decide))]
              exact zk k hk
            refine ⟨⟨hpa, hpb, fun _ => trivial, fun _ => ⟨ha, fun _ => trivial, fun _ => ⟨hb, fun _ => trivial, fun _ => ⟨fun _ => trivial, fun _ => ⟨fun _ => trivial, fun _ => i1⟩⟩⟩⟩⟩, ⟨g1, t1⟩, ?_, ?_⟩
            · rw [t3 25 (by decide), y25]; exact i2.2.2.1
            · have w23 : sX9_tell ψ (nI a) 23 = τ 23 := by rw [t5 23 (by decide), oG 23 (by decide), s23]
              have w24 : sX9_tell ψ (nI a) 24 = τ 24 := by rw [t5 24 (by decide), oG 24 (by decide), s24]
              have w3 : sX9_tell ψ (nI a) 3 = υ 3 := by rw [t5 3 (by decide), oG 3 (by decide)]
              refine Inv_laid h (off_tr oS (off_tr (off_sub oG (by decide)) (off_sub t5 (by decide)))) (fun k hk => by rw [w3]; exact s3 k hk) (by rw [t5 10 (by decide), oG 10 (by decide), s10, k10]) (fun k hk => ?_) (iK_11 hK (by rw [t5 11 (by decide), oG 11 (by decide), s11])) ?_
              · have hk2 : k ∉ mF ∧ k ≠ 30 := by
                  have : ∀ k, k ∈ [11, 12, 36, 37] → k ∉ mF ∧ k ≠ 30 := by decide
                  exact this k hk
                rw [t3 k hk2.2, yk k hk2.1]
              · unfold iT
                rw [w3, w23, w24, s36]
                refine Or.inr ⟨rfl, aN A a, hNa, t2, ⟨?_, ?_, ?_, ?_, ?_, ?_, ?_, Or.inr j0⟩, fun i hi => ?_, fun i h1 h2 => ?_⟩
                · rw [t20, y20, i2.1]
                · rw [t21, y21, i2.2.1]
                · rw [t25, y25, i2.2.2.1]
                · rw [t22, y22, j1]
                · rw [t23, y23, j2]
                · rw [t24, y24, j3]
                · rw [t26, y26, j0, if_neg n10]
                · rw [t4 i hi, g2 i hi, i2.2.2.2.2.2 i (by omega)]
                · rw [i2.2.2.2.2.2 i h2, chH_ge _ _ _ h1]; rfl
