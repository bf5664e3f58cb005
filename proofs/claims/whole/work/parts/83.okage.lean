theorem ok_age {P : zp} {A : gA} {σ : zc_N} (h : Inv P A σ) (a1 a2 : Int32) : pX8_age P σ a1 a2 ∧ pX9_age (sX8_age P σ a1 a2) a1 a2 ∧ rX8_age P σ a1 a2 = rX9_age (sX8_age P σ a1 a2) a1 a2 ∧ Inv P A (sX9_age (sX8_age P σ a1 a2) a1 a2) := by
  obtain ⟨hn, h3, h11, p2, p3⟩ := iP_parts h
  have pa : ∀ a, pX8_printAt P σ a := fun a => by
    unfold pX8_printAt
    rw [h3]
    rcases prt hn h11 a with ⟨e1, -⟩ | ⟨p, hp, rfl, e1, -⟩
    · exact ⟨fun _ => trivial, fun z => absurd e1 z⟩
    · exact ⟨fun _ => trivial, fun _ => ⟨vp_in_nI (by omega) (by decide), by rw [cl_n (by omega)]; exact hp⟩⟩
  rcases prt hn h11 a1 with ⟨e1, e2⟩ | ⟨p, hp, rfl, e1, e2⟩
  · rw [← h3] at e1
    have s8 : sX8_age P σ a1 a2 = σ := if_pos e1
    have s9 : sX9_age σ a1 a2 = σ := if_pos e2
    have r8 : rX8_age P σ a1 a2 = -1 := if_pos e1
    have r9 : rX9_age σ a1 a2 = -1 := if_pos e2
    rw [s8, s9, r8, r9]
    exact ⟨⟨pa a1, fun _ => trivial, fun z => absurd e1 z⟩, ⟨fun _ => trivial, fun z => absurd e2 z⟩, rfl, h⟩
  · rw [← h3] at e1
    have n1 : ¬ rX8_isWithin (nI p) 0 (σ 3 3 - 1) = 0 := fun z => n10 (e1.symm.trans z)
    have n2 : ¬ rX9_isPrint σ (nI p) = 0 := fun z => n10 (e2.symm.trans z)
    have clp : (nI p).toNatClampNeg = p := cl_n (by omega)
    have lp : (nI p).toNatClampNeg < P.2.1 := by rw [clp]; exact hp
    have vp : vp_in (nI p) 24 := vp_in_nI (by omega) (by decide)
    rcases tol a2 with ⟨f1, f2⟩ | ⟨t, ht, rfl, f1, f2⟩
    · have s8 : sX8_age P σ (nI p) a2 = σ := (if_neg n1).trans (if_pos f1)
      have s9 : sX9_age σ (nI p) a2 = σ := (if_neg n2).trans (if_pos f2)
      have r8 : rX8_age P σ (nI p) a2 = -1 := (if_neg n1).trans (if_pos f1)
      have r9 : rX9_age σ (nI p) a2 = -1 := (if_neg n2).trans (if_pos f2)
      rw [s8, s9, r8, r9]
      exact ⟨⟨pa _, fun z => absurd z n1, fun _ => ⟨lp, fun _ => trivial, fun z => absurd f1 z⟩⟩, ⟨fun z => absurd z n2, fun _ => ⟨fun _ => trivial, fun z => absurd f2 z⟩⟩, rfl, h⟩
    · have n3 : ¬ rX8_isTool (nI t) = 0 := fun z => n10 (f1.symm.trans z)
      have n4 : ¬ rX9_isTool (nI t) = 0 := fun z => n10 (f2.symm.trans z)
      have kp := (kept_m h11 hn (nI t)).1
      by_cases c : σ 42 p = nI t
      · have c8 : σ (pO (nI p).toNatClampNeg) 3 = nI t := by rw [clp, (p3 p hp).1]; exact c
        have c9 : σ 42 (nI p).toNatClampNeg = nI t := by rw [clp]; exact c
        have s8 : sX8_age P σ (nI p) (nI t) = σ := ((if_neg n1).trans (if_neg n3)).trans (if_pos c8)
        have r8 : rX8_age P σ (nI p) (nI t) = -4 := ((if_neg n1).trans (if_neg n3)).trans (if_pos c8)
        have s9 : sX9_age σ (nI p) (nI t) = σ := by
          refine ((if_neg n2).trans (if_neg n4)).trans ?_
          by_cases d : rX9_keptBy σ (nI t) < 2
          · exact if_pos d
          · exact (if_neg d).trans (if_pos c9)
        have r9 : rX9_age σ (nI p) (nI t) = -4 := by
          refine ((if_neg n2).trans (if_neg n4)).trans ?_
          by_cases d : rX9_keptBy σ (nI t) < 2
          · exact if_pos d
          · exact (if_neg d).trans (if_pos c9)
        rw [s8, s9, r8, r9]
        exact ⟨⟨pa _, fun z => absurd z n1, fun _ => ⟨lp, fun z => absurd z n3, fun _ => ⟨fun _ => trivial, fun z => absurd c8 z⟩⟩⟩, ⟨fun z => absurd z n2, fun _ => ⟨fun z => absurd z n4, fun _ => ⟨kp, fun _ => trivial, fun _ => ⟨vp, fun _ => trivial, fun z => absurd c9 z⟩⟩⟩⟩, rfl, h⟩
      · have c8 : ¬ σ (pO (nI p).toNatClampNeg) 3 = nI t := by rw [clp, (p3 p hp).1]; exact c
        rcases hist h ht with ⟨q1, q2, q3, q4⟩ | ⟨r, L, r1, r2, r3, hw, q1, q2, q3, q4⟩
        · have d : rX9_keptBy σ (nI t) < 2 := Int32.not_le.mp q4
          have s8 : sX8_age P σ (nI p) (nI t) = σ := (((if_neg n1).trans (if_neg n3)).trans (if_neg c8)).trans ((if_pos q2).trans q3)
          have r8 : rX8_age P σ (nI p) (nI t) = -4 := (((if_neg n1).trans (if_neg n3)).trans (if_neg c8)).trans (if_pos q2)
          have s9 : sX9_age σ (nI p) (nI t) = σ := ((if_neg n2).trans (if_neg n4)).trans (if_pos d)
          have r9 : rX9_age σ (nI p) (nI t) = -4 := ((if_neg n2).trans (if_neg n4)).trans (if_pos d)
          rw [s8, s9, r8, r9]
          exact ⟨⟨pa _, fun z => absurd z n1, fun _ => ⟨lp, fun z => absurd z n3, fun _ => ⟨fun z => absurd z c8, fun _ => ⟨q1, fun _ => trivial, fun z => absurd q2 z⟩⟩⟩⟩, ⟨fun z => absurd z n2, fun _ => ⟨fun z => absurd z n4, fun _ => ⟨kp, fun _ => trivial, fun z => absurd d z⟩⟩⟩, rfl, h⟩
        · have nq : ¬ rX8_readHistory P σ (nI t) = 0 := fun z => n10 (q2.symm.trans z)
          have hL := (newest h ht hw).1
          have wτ : nwo P (sX8_readHistory P σ (nI t)) (nI t) = some L := by rw [nwo_off q3.1]; exact hw
          have sm : ¬ nwo P (sX8_readHistory P σ (nI t)) (nI t) = none := fun z => by rw [wτ] at z; cases z
          have gd : (nwo P (sX8_readHistory P σ (nI t)) (nI t)).getD 0 = L := by rw [wτ]; rfl
          have hv : vX8_age_1 P (nI p) (nI t) σ = sX4_layBest_t P (sX8_readHistory P σ (nI t)) L p := by
            unfold vX8_age_1
            rw [gd, clp]
          obtain ⟨v, hv'⟩ : ∃ v, vX8_age_1 P (nI p) (nI t) σ = v := ⟨_, rfl⟩
          obtain ⟨l, hl⟩ : ∃ l, rX2_lastComing v (v 25 7) 0 = l := ⟨_, rfl⟩
          obtain ⟨f, hf⟩ : ∃ f, rX2_firstComing (zu v 3 (zu (v 3) 9 l)) (rX3_lacking_t (zu v 3 (zu (v 3) 9 l))) 10000 = f := ⟨_, rfl⟩
          have e9 : zu (zu (zu (v 3) 9 l) 10 f) 11 1 9 = l := by rw [zu_ne _ _ (by decide), zu_ne _ _ (by decide), zu_self]
          have e10 : zu (zu (zu (v 3) 9 l) 10 f) 11 1 10 = f := by rw [zu_ne _ _ (by decide), zu_self]
          have s8 : sX8_age P σ (nI p) (nI t) = zu v 3 (zu (zu (zu (v 3) 9 l) 10 f) 11 1) := by
            refine (((if_neg n1).trans (if_neg n3)).trans (if_neg c8)).trans (((if_neg nq).trans (if_neg sm)).trans ?_)
            rw [hv', hl, hf]
          have r8 : rX8_age P σ (nI p) (nI t) = if l < f then 1 else 0 := by
            refine (((if_neg n1).trans (if_neg n3)).trans (if_neg c8)).trans (((if_neg nq).trans (if_neg sm)).trans ?_)
            rw [hv', hl, hf, e9, e10]
          obtain ⟨ζ, hζ⟩ : ∃ ζ, zu v 3 (zu (zu (zu (v 3) 9 l) 10 f) 11 1) = ζ := ⟨_, rfl⟩
          obtain ⟨k1, k2, k3, k4, k5, k6, k7⟩ := age_core h r1 r2 r3 ht hw hp q3 (hv.symm.trans hv') hl hf hζ
          have P8 : pX8_age P σ (nI p) (nI t) := by
            refine ⟨pa _, fun z => absurd z n1, fun _ => ⟨lp, fun z => absurd z n3, fun _ => ⟨fun z => absurd z c8, fun _ => ⟨q1, fun z => absurd z nq, fun _ => ⟨?_, fun z => absurd z sm, fun _ => ?_⟩⟩⟩⟩⟩
            · have := iP_parts (Inv_RH h q3)
              exact ⟨this.2.1, this.1⟩
            · rw [gd, clp]
              exact ⟨hL, k1⟩
          rw [s8, r8, hζ]
          have m2 : ¬ rX9_isPrint ζ (nI p) = 0 := by
            have : rX9_isPrint ζ (nI p) = rX9_isPrint σ (nI p) := by unfold rX9_isPrint; rw [k7]
            rw [this]; exact n2
          have mk : ¬ rX9_keptBy ζ (nI t) < 2 := by
            rw [kept_off h k6 (by rw [k7])]
            exact fun z => (Int32.not_le.mpr z) q4
          have m9 : ¬ ζ 42 (nI p).toNatClampNeg = nI t := by rw [clp, k6]; exact c
          have s9 : sX9_age ζ (nI p) (nI t) = vX9_age_2 (nI p) (nI t) ζ := (((if_neg m2).trans (if_neg n4)).trans (if_neg mk)).trans (if_neg m9)
          have r9 : rX9_age ζ (nI p) (nI t) = if vX9_age_2 (nI p) (nI t) ζ 32 37 ≤ vX9_age_2 (nI p) (nI t) ζ 32 36 then 0 else 1 := (((if_neg m2).trans (if_neg n4)).trans (if_neg mk)).trans (if_neg m9)
          rw [s9, r9, k3, k4]
          refine ⟨P8, k2, ?_, k5⟩
          by_cases d : f ≤ l
          · rw [if_pos d, if_neg (fun z => (Int32.not_le.mpr z) d)]
          · rw [if_neg d, if_pos (Int32.not_le.mp d)]
