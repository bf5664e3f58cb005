/-! ===== flaw ===== -/
theorem nI_below {a : Int32} {c : Nat} (hc : c < 1000) (h0 : ¬ a < 0) (h : a < nI c) : ∃ j, j < c ∧ a = nI j := by
  obtain ⟨j, hj, e⟩ := nI_of2 (M := nI c) (n := c) (nI_toInt (by omega)) h0 (Int32.le_of_lt h)
  refine ⟨j, ?_, e⟩
  have : j ≠ c := fun z => by
    rw [e, z] at h
    exact Int32.lt_irrefl h
  omega
theorem flaw_core {P : zp} {A : gA} {σ τ ω : zc_N} {r t L : Nat} {a2 a3 : Int32} (h12 : aN A L ≤ 12) (hR : RH P A σ r t L τ) (hF : FM P A τ r t L (aN A L) ω) (eV : Vl A τ = Vl A σ) (eC : Vc A τ = Vc A σ) (ef : fl P A τ = fl P A σ) (h0 : ¬ a2 < 0) :
    (pX2_flawAt τ a2 ∧ (((0 : Int32) ≤ rX2_flawAt τ a2 → ((a3 = 0 → True) ∧ (¬ a3 = 0 → vp_in (rX2_flawAt τ a2) 12))) ∧ (¬ (0 : Int32) ≤ rX2_flawAt τ a2 → True))) ∧ ((a2 < ω 32 33 → ((a3 = 0 → vp_in a2 12) ∧ (¬ a3 = 0 → vp_in a2 12))) ∧ (¬ a2 < ω 32 33 → True)) ∧ (if (0 : Int32) ≤ rX2_flawAt τ a2 then (if a3 = 0 then rX2_flawAt τ a2 else τ 28 (rX2_flawAt τ a2).toNatClampNeg) else (-1)) = (if a2 < ω 32 33 then (if a3 = 0 then ω 54 a2.toNatClampNeg else ω 55 a2.toNatClampNeg) else (-1)) := by
  obtain ⟨-, -, -, f4, f5⟩ := hF
  obtain ⟨-, -, -, g4, g5⟩ := hR
  rw [ef] at f4 f5
  rw [eV, eC] at f5
  have g4 : τ 27 0 = nI (msk (fl P A σ r t L)) := g4
  obtain ⟨p1, p2⟩ := flawAt_c g4 a2
  have c12 := fl_12 (P := P) (σ := σ) (r := r) (t := t) h12
  have cl := cnt_le (fl P A σ r t L) 12
  have v2 : a2 < ω 32 33 → vp_in a2 12 := fun z => by
    rw [f4] at z
    obtain ⟨j, hj, e⟩ := nI_below (by omega) h0 z
    rw [e]
    exact vp_in_nI (by omega) (by decide)
  refine ⟨⟨p1, fun z => ⟨fun _ => trivial, fun _ => ?_⟩, fun _ => trivial⟩, ⟨fun z => ⟨fun _ => v2 z, fun _ => v2 z⟩, fun _ => trivial⟩, ?_⟩
  · rcases p2 with ⟨j, j1, -, -, j4⟩ | ⟨q, -⟩
    · rw [j4]; exact vp_in_nI j1 (by decide)
    · rw [q] at z; exact absurd z (by decide)
  · rw [f4]
    rcases p2 with ⟨j, j1, j2, j3, j4⟩ | ⟨q, q2⟩
    · have jN : j < aN A L := Nat.lt_of_not_le (fun z => by rw [fl_ge z] at j2; cases j2)
      have lt := cnt_lt_isp (f := fl P A σ r t L) j1 j2
      rw [j4, ← j3, if_pos (show (0 : Int32) ≤ nI j from nI_le (a := 0) (Nat.zero_le _) (by omega)), if_pos (nI_lt (by omega) (by omega)), cl_n (a := j) (by omega), cl_n (a := cnt (fl P A σ r t L) j) (by omega)]
      obtain ⟨e1, x, z, x1, x2, x3⟩ := f5 j jN j2
      obtain ⟨x', z', y1, y2, y3⟩ := g5 j j1
      rw [e1, x2, y2]
      have ex : x = x' := mxS_uni x1 y1
      rw [← ex] at y3
      have ez : z = z' := mnS_uni x3 y3
      rw [ez]
    · rw [q, if_neg (show ¬ (0 : Int32) ≤ -1 by decide), if_neg (fun z => ?_)]
      obtain ⟨j, hj, e⟩ := nI_below (by omega) h0 z
      obtain ⟨p, w1, w2, w3⟩ := cnt_ex (f := fl P A σ r t L) (aN A L) j hj
      exact q2 p (by omega) w2 (by rw [w3, e])
theorem ok_flaw {P : zp} {A : gA} {σ : zc_N} (h : Inv P A σ) (a1 a2 a3 : Int32) : pX8_flaw P σ a1 a2 a3 ∧ pX9_flaw (sX8_flaw P σ a1 a2 a3) a1 a2 a3 ∧ rX8_flaw P σ a1 a2 a3 = rX9_flaw (sX8_flaw P σ a1 a2 a3) a1 a2 a3 ∧ Inv P A (sX9_flaw (sX8_flaw P σ a1 a2 a3) a1 a2 a3) := by
  obtain ⟨hn, h3, h11, p2, p3⟩ := iP_parts h
  rcases tol a1 with ⟨e1, e2⟩ | ⟨t, ht, rfl, e1, e2⟩
  · have s8 : sX8_flaw P σ a1 a2 a3 = σ := if_pos e1
    have s9 : sX9_flaw σ a1 a2 a3 = σ := if_pos e2
    have r8 : rX8_flaw P σ a1 a2 a3 = -1 := if_pos e1
    have r9 : rX9_flaw σ a1 a2 a3 = -1 := if_pos e2
    rw [s8, s9, r8, r9]
    exact ⟨⟨fun _ => trivial, fun z => absurd e1 z⟩, ⟨fun _ => trivial, fun z => absurd e2 z⟩, rfl, h⟩
  · have n1 : ¬ rX8_isTool (nI t) = 0 := fun z => n10 (e1.symm.trans z)
    have n2 : ¬ rX9_isTool (nI t) = 0 := fun z => n10 (e2.symm.trans z)
    by_cases c2 : a2 < 0
    · have s8 : sX8_flaw P σ (nI t) a2 a3 = σ := (if_neg n1).trans (if_pos c2)
      have s9 : sX9_flaw σ (nI t) a2 a3 = σ := (if_neg n2).trans (if_pos c2)
      have r8 : rX8_flaw P σ (nI t) a2 a3 = -1 := (if_neg n1).trans (if_pos c2)
      have r9 : rX9_flaw σ (nI t) a2 a3 = -1 := (if_neg n2).trans (if_pos c2)
      rw [s8, s9, r8, r9]
      exact ⟨⟨fun z => absurd z n1, fun _ => ⟨fun _ => trivial, fun z => absurd c2 z⟩⟩, ⟨fun z => absurd z n2, fun _ => ⟨fun _ => trivial, fun z => absurd c2 z⟩⟩, rfl, h⟩
    · rcases win a3 1 (by decide) with ⟨f1, f2⟩ | ⟨b, hb, e3, f1, f2⟩
      · have f1 : rX8_isWithin a3 0 1 = 0 := f1
        have f2 : rX9_within a3 0 1 = 0 := f2
        have s8 : sX8_flaw P σ (nI t) a2 a3 = σ := ((if_neg n1).trans (if_neg c2)).trans (if_pos f1)
        have s9 : sX9_flaw σ (nI t) a2 a3 = σ := ((if_neg n2).trans (if_neg c2)).trans (if_pos f2)
        have r8 : rX8_flaw P σ (nI t) a2 a3 = -1 := ((if_neg n1).trans (if_neg c2)).trans (if_pos f1)
        have r9 : rX9_flaw σ (nI t) a2 a3 = -1 := ((if_neg n2).trans (if_neg c2)).trans (if_pos f2)
        rw [s8, s9, r8, r9]
        exact ⟨⟨fun z => absurd z n1, fun _ => ⟨fun z => absurd z c2, fun _ => ⟨fun _ => trivial, fun z => absurd f1 z⟩⟩⟩, ⟨fun z => absurd z n2, fun _ => ⟨fun z => absurd z c2, fun _ => ⟨fun _ => trivial, fun z => absurd f2 z⟩⟩⟩, rfl, h⟩
      · have n3 : ¬ rX8_isWithin a3 0 1 = 0 := fun z => n10 (f1.symm.trans z)
        have n4 : ¬ rX9_within a3 0 1 = 0 := fun z => n10 (f2.symm.trans z)
        have s8 : sX8_flaw P σ (nI t) a2 a3 = sX8_readHistory P σ (nI t) := ((if_neg n1).trans (if_neg c2)).trans (if_neg n3)
        rcases hist h ht with ⟨q1, q2, q3, q4⟩ | ⟨r, L, r1, r2, r3, hw, q1, q2, q3, q4⟩
        · have r8 : rX8_flaw P σ (nI t) a2 a3 = -4 := (((if_neg n1).trans (if_neg c2)).trans (if_neg n3)).trans (if_pos q2)
          have s9 : sX9_flaw σ (nI t) a2 a3 = σ := (((if_neg n2).trans (if_neg c2)).trans (if_neg n4)).trans (if_neg q4)
          have r9 : rX9_flaw σ (nI t) a2 a3 = -4 := (((if_neg n2).trans (if_neg c2)).trans (if_neg n4)).trans (if_neg q4)
          rw [s8, q3, s9, r8, r9]
          exact ⟨⟨fun z => absurd z n1, fun _ => ⟨fun z => absurd z c2, fun _ => ⟨fun z => absurd z n3, fun _ => ⟨q1, fun _ => trivial, fun z => absurd q2 z⟩⟩⟩⟩, ⟨fun z => absurd z n2, fun _ => ⟨fun z => absurd z c2, fun _ => ⟨fun z => absurd z n4, fun _ => ⟨(kept_m h11 hn (nI t)).1, fun z => absurd z q4, fun _ => trivial⟩⟩⟩⟩, rfl, h⟩
        · have nq : ¬ rX8_readHistory P σ (nI t) = 0 := fun z => n10 (q2.symm.trans z)
          have r8 : rX8_flaw P σ (nI t) a2 a3 = (if (0 : Int32) ≤ rX2_flawAt (sX8_readHistory P σ (nI t)) a2 then (if a3 = 0 then rX2_flawAt (sX8_readHistory P σ (nI t)) a2 else sX8_readHistory P σ (nI t) 28 (rX2_flawAt (sX8_readHistory P σ (nI t)) a2).toNatClampNeg) else (-1)) := (((if_neg n1).trans (if_neg c2)).trans (if_neg n3)).trans (if_neg nq)
          have hL := (newest h ht hw).1
          obtain ⟨hI, b1, b2, b3, b4, b5, b6, b7⟩ := both h r1 r3 ht hw q3 q4
          obtain ⟨k1, k2, k3⟩ := flaw_core (a2 := a2) (a3 := a3) (p2 L hL).2.2.1 q3 b4 b5 b6 b7 c2
          have P8 : pX8_flaw P σ (nI t) a2 a3 := ⟨fun z => absurd z n1, fun _ => ⟨fun z => absurd z c2, fun _ => ⟨fun z => absurd z n3, fun _ => ⟨q1, fun z => absurd z nq, fun _ => k1⟩⟩⟩⟩
          rw [s8, r8]
          generalize sX8_readHistory P σ (nI t) = τ at q3 hI b1 b2 b3 b4 b5 b6 b7 k1 k2 k3
          have s9 : sX9_flaw τ (nI t) a2 a3 = sX9_findFlaws τ (nI t) := (((if_neg n2).trans (if_neg c2)).trans (if_neg n4)).trans (if_pos b2)
          have r9 : rX9_flaw τ (nI t) a2 a3 = (if a2 < sX9_findFlaws τ (nI t) 32 33 then (if a3 = 0 then sX9_findFlaws τ (nI t) 54 a2.toNatClampNeg else sX9_findFlaws τ (nI t) 55 a2.toNatClampNeg) else (-1)) := (((if_neg n2).trans (if_neg c2)).trans (if_neg n4)).trans (if_pos b2)
          rw [s9, r9]
          exact ⟨P8, ⟨fun z => absurd z n2, fun _ => ⟨fun z => absurd z c2, fun _ => ⟨fun z => absurd z n4, fun _ => ⟨b1, fun _ => ⟨b3, k2⟩, fun z => absurd b2 z⟩⟩⟩⟩, k3, Inv_FM hI b4⟩
