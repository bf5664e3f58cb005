/-! ===== point, keep, melt, count ===== -/
theorem iP_parts {P : zp} {A : gA} {σ : zc_N} (h : Inv P A σ) : P.2.1 ≤ 24 ∧ σ 3 3 = nI P.2.1 ∧ σ 32 11 = nI P.2.1 ∧ (∀ p, p < P.2.1 → pC P A σ p ∧ pM A σ p ∧ pV A p) ∧ (∀ p, p < P.2.1 → σ (pO p) 3 = σ 42 p ∧ σ (pO p) 4 = σ 43 p ∧ tlr (σ 42 p) (σ 43 p)) := by
  obtain ⟨-, ⟨p1, p2, p3⟩, -⟩ := h
  exact ⟨p1.1, p1.2.1, p1.2.2, p2, p3⟩
theorem ok_point {P : zp} {A : gA} {σ : zc_N} (h : Inv P A σ) (a1 a2 : Int32) : pX8_point P σ a1 a2 ∧ pX9_point σ a1 a2 ∧ rX8_point P σ a1 a2 = rX9_point σ a1 a2 := by
  obtain ⟨hn, h3, h11, p2, p3⟩ := iP_parts h
  have hpa := pAt_ok h3 h11 hn a1
  unfold pX8_point pX9_point rX8_point rX9_point
  rw [h3]
  rcases prt hn h11 a1 with ⟨e1, e2⟩ | ⟨p, hp, rfl, e1, e2⟩
  · rw [if_pos e1, if_pos e2]
    exact ⟨⟨hpa, fun _ => trivial, fun z => absurd e1 z⟩, ⟨fun _ => trivial, fun z => absurd e2 z⟩, rfl⟩
  · have n1 : ¬ rX8_isWithin (nI p) 0 (nI P.2.1 - 1) = 0 := fun z => n10 (e1.symm.trans z)
    have n2 : ¬ rX9_isPrint σ (nI p) = 0 := fun z => n10 (e2.symm.trans z)
    have v24 : vp_in (nI p) 24 := vp_in_nI (by omega) (by decide)
    have hc : (nI p).toNatClampNeg = p := cl_n (by omega)
    obtain ⟨c, m, v⟩ := p2 p hp
    have hN := v.1
    have sz := (sz_c c v).1
    rw [if_neg n1, if_neg n2, hc, sz, m.1]
    by_cases c1 : a2 = -1
    · subst c1
      have x1 : ¬ (-1 : Int32) < -1 := by decide
      have x2 : (-1 : Int32) < 3 * nI (aN A p) := by
        rw [show (3 : Int32) = nI 3 from rfl, pk_mul, Int32.lt_iff_toInt_lt, nI_toInt (by omega)]
        show (-1 : Int) < _
        omega
      have x3 : ¬ (0 : Int32) ≤ -1 := by decide
      rw [if_pos rfl, if_neg x1, if_pos x2, if_neg x3]
      exact ⟨⟨hpa, fun _ => trivial, fun _ => ⟨hp, fun _ => trivial, fun z => absurd rfl z⟩⟩, ⟨fun _ => trivial, fun _ => ⟨fun _ => trivial, fun _ => ⟨v24, fun _ => ⟨fun z => absurd z x3, fun _ => v24⟩, fun _ => trivial⟩⟩⟩, rfl⟩
    · rw [if_neg c1]
      by_cases c2 : a2 < 0
      · have x1 : a2 < -1 := by
          rw [Int32.lt_iff_toInt_lt] at c2 ⊢
          have : a2.toInt ≠ -1 := fun z => c1 (by rw [← Int32.toInt_inj, z]; rfl)
          have e0 : (0 : Int32).toInt = 0 := rfl
          have e1 : (-1 : Int32).toInt = -1 := rfl
          omega
        rw [if_pos c2, if_pos x1]
        exact ⟨⟨hpa, fun _ => trivial, fun _ => ⟨hp, fun _ => trivial, fun _ => ⟨fun _ => trivial, fun z => absurd c2 z⟩⟩⟩, ⟨fun _ => trivial, fun _ => ⟨fun _ => trivial, fun z => absurd x1 z⟩⟩, rfl⟩
      · obtain ⟨w, hw, rfl⟩ := nI_of c2
        have x1 : ¬ nI w < -1 := by
          rw [Int32.lt_iff_toInt_lt, nI_toInt hw]
          show ¬ (w : Int) < -1
          omega
        have x3 : (0 : Int32) ≤ nI w := nI_pos' hw
        rw [if_neg c2, if_neg x1, if_pos x3, show (3 : Int32) = nI 3 from rfl, pk_mul, pk_div hw (by decide) (by decide)]
        by_cases c3 : w / 3 < aN A p
        · have r := rd_c c v c3
          have a := a12 (show p < 24 by omega) (show w / 3 < 12 by omega)
          rw [if_pos (nI_lt c3 (by omega)), if_pos (nI_lt (show w < 3 * aN A p by omega) (by omega)), r.1, r.2.1, r.2.2.1, a.1, (m.2.1 _ c3).1, (m.2.1 _ c3).2.1, (m.2.1 _ c3).2.2]
          refine ⟨⟨hpa, fun _ => trivial, fun _ => ⟨hp, fun _ => trivial, fun _ => ⟨fun _ => trivial, fun _ => ⟨fun _ => ⟨fun _ => r.2.2.2, fun _ => r.2.2.2, fun _ _ => r.2.2.2⟩, fun _ => trivial⟩⟩⟩⟩, ⟨fun _ => trivial, fun _ => ⟨fun _ => trivial, fun _ => ⟨v24, fun _ => ⟨fun _ => ⟨fun _ => a.2, fun _ => ⟨fun _ => a.2, fun _ => a.2⟩⟩, fun _ => v24⟩, fun _ => trivial⟩⟩⟩, rfl⟩
        · rw [if_neg (nI_nlt (by omega) (by omega)), if_neg (nI_nlt (show 3 * aN A p ≤ w by omega) hw)]
          refine ⟨⟨hpa, fun _ => trivial, fun _ => ⟨hp, fun _ => trivial, fun _ => ⟨fun _ => trivial, fun _ => ⟨fun z => absurd z (nI_nlt (by omega) (by omega)), fun _ => trivial⟩⟩⟩⟩, ⟨fun _ => trivial, fun _ => ⟨fun _ => trivial, fun _ => ⟨v24, fun z => absurd z (nI_nlt (show 3 * aN A p ≤ w by omega) hw), fun _ => trivial⟩⟩⟩, rfl⟩
theorem ok_keep {P : zp} {A : gA} {σ : zc_N} (h : Inv P A σ) (a1 a2 a3 : Int32) : pX8_keep P σ a1 a2 a3 ∧ pX9_keep (sX8_keep σ a1 a2 a3) a1 a2 a3 ∧ rX8_keep σ a1 a2 a3 = rX9_keep (sX8_keep σ a1 a2 a3) a1 a2 a3 ∧ Inv P A (sX9_keep (sX8_keep σ a1 a2 a3) a1 a2 a3) := by
  obtain ⟨hn, h3, h11, p2, p3⟩ := iP_parts h
  have hpa := pAt_ok h3 h11 hn a2
  unfold pX8_keep rX8_keep sX8_keep
  rw [h3]
  rcases prt hn h11 a2 with ⟨e1, e2⟩ | ⟨p, hp, rfl, e1, e2⟩
  · rw [if_pos e1, if_pos e1]
    refine ⟨⟨hpa, fun _ => trivial, fun z => absurd e1 z⟩, ⟨fun _ => trivial, fun _ => ⟨fun _ => trivial, fun z => absurd e2 z⟩⟩, ?_⟩
    rcases tol a1 with ⟨-, t2⟩ | ⟨t, -, rfl, -, t2⟩
    · have r9 : rX9_keep σ a1 a2 a3 = -1 := if_pos t2
      have s9 : sX9_keep σ a1 a2 a3 = σ := if_pos t2
      rw [r9, s9]; exact ⟨rfl, h⟩
    · have nt : ¬ rX9_isTool (nI t) = 0 := fun z => n10 (t2.symm.trans z)
      have r9 : rX9_keep σ (nI t) a2 a3 = -1 := (if_neg nt).trans (if_pos e2)
      have s9 : sX9_keep σ (nI t) a2 a3 = σ := (if_neg nt).trans (if_pos e2)
      rw [r9, s9]; exact ⟨rfl, h⟩
  · have n1 : ¬ rX8_isWithin (nI p) 0 (nI P.2.1 - 1) = 0 := fun z => n10 (e1.symm.trans z)
    have n2 : ¬ rX9_isPrint σ (nI p) = 0 := fun z => n10 (e2.symm.trans z)
    have v24 : vp_in (nI p) 24 := vp_in_nI (by omega) (by decide)
    have hc : (nI p).toNatClampNeg = p := cl_n (by omega)
    rw [if_neg n1, if_neg n1, hc]
    rcases tol a1 with ⟨t1, t2⟩ | ⟨t, ht, rfl, t1, t2⟩
    · rw [if_pos t1, if_pos t1]
      have r9 : rX9_keep σ a1 (nI p) a3 = -1 := if_pos t2
      have s9 : sX9_keep σ a1 (nI p) a3 = σ := if_pos t2
      rw [r9, s9]
      exact ⟨⟨hpa, fun _ => trivial, fun _ => ⟨hp, fun _ => trivial, fun z => absurd t1 z⟩⟩, ⟨fun _ => trivial, fun z => absurd t2 z⟩, rfl, h⟩
    · have nt1 : ¬ rX8_isTool (nI t) = 0 := fun z => n10 (t1.symm.trans z)
      have nt2 : ¬ rX9_isTool (nI t) = 0 := fun z => n10 (t2.symm.trans z)
      rw [if_neg nt1, if_neg nt1]
      rcases win a3 9999 (by decide) with ⟨y1, y2⟩ | ⟨y, hy, rfl, y1, y2⟩
      · have y1' : rX8_isWithin a3 0 9999 = 0 := y1
        have y2' : rX9_within a3 0 9999 = 0 := y2
        rw [if_pos y1', if_pos y1']
        have r9 : rX9_keep σ (nI t) (nI p) a3 = -1 := ((if_neg nt2).trans (if_neg n2)).trans (if_pos y2')
        have s9 : sX9_keep σ (nI t) (nI p) a3 = σ := ((if_neg nt2).trans (if_neg n2)).trans (if_pos y2')
        rw [r9, s9]
        exact ⟨⟨hpa, fun _ => trivial, fun _ => ⟨hp, fun _ => trivial, fun _ => ⟨fun _ => trivial, fun z => absurd y1' z⟩⟩⟩, ⟨fun _ => trivial, fun _ => ⟨fun _ => trivial, fun _ => ⟨fun _ => trivial, fun z => absurd y2' z⟩⟩⟩, rfl, h⟩
      · have ny1 : ¬ rX8_isWithin (nI y) 0 9999 = 0 := fun z => n10 (y1.symm.trans z)
        have ny2 : ¬ rX9_within (nI y) 0 9999 = 0 := fun z => n10 (y2.symm.trans z)
        rw [if_neg ny1, if_neg ny1, (p3 p hp).1]
        have yc := year_c h3 hn (nI t) (nI y)
        have pm := printOf_m h11 hn (nI t) (nI y)
        have same : (∃ q, q < P.2.1 ∧ σ (pO q) 3 = nI t ∧ σ (pO q) 4 = nI y) ↔ ∃ q, q < P.2.1 ∧ σ 42 q = nI t ∧ σ 43 q = nI y := by
          constructor
          · rintro ⟨q, q1, q2, q3⟩; exact ⟨q, q1, by rw [← (p3 q q1).1]; exact q2, by rw [← (p3 q q1).2.1]; exact q3⟩
          · rintro ⟨q, q1, q2, q3⟩; exact ⟨q, q1, by rw [(p3 q q1).1]; exact q2, by rw [(p3 q q1).2.1]; exact q3⟩
        have kc : ∀ τ : zc_N, τ 3 3 = nI P.2.1 → pX8_keptBy P τ (nI t) := fun τ e => (kept_c e hn (nI t)).1
        have km : ∀ τ : zc_N, τ 32 11 = nI P.2.1 → pX9_keptBy τ (nI t) := fun τ e => (kept_m e hn (nI t)).1
        have k3 : (zu σ (pO p) (zu (zu (σ (pO p)) 3 (nI t)) 4 (nI y))) 3 3 = nI P.2.1 := by rw [zu_ne _ _ (by have := pO_ge p; omega)]; exact h3
        have P8 : pX8_printAt P σ (nI p) ∧ ((rX8_isWithin (nI p) 0 (nI P.2.1 - 1) = 0 → True) ∧ (¬ rX8_isWithin (nI p) 0 (nI P.2.1 - 1) = 0 → (p < P.2.1 ∧ ((rX8_isTool (nI t) = 0 → True) ∧ (¬ rX8_isTool (nI t) = 0 → ((rX8_isWithin (nI y) 0 9999 = 0 → True) ∧ (¬ rX8_isWithin (nI y) 0 9999 = 0 → ((σ 42 p = -1 → (pX8_hasYear P σ (nI t) (nI y) ∧ ((rX8_hasYear σ (nI t) (nI y) = 0 → pX8_keptBy P (zu σ (pO p) (zu (zu (σ (pO p)) 3 (nI t)) 4 (nI y))) (nI t)) ∧ (¬ rX8_hasYear σ (nI t) (nI y) = 0 → True)))) ∧ (¬ σ 42 p = -1 → True))))))))) := ⟨hpa, fun _ => trivial, fun _ => ⟨hp, fun _ => trivial, fun _ => ⟨fun _ => trivial, fun _ => ⟨fun _ => ⟨yc.1, fun _ => kc _ k3, fun _ => trivial⟩, fun _ => trivial⟩⟩⟩⟩
        refine ⟨P8, ?_⟩
        have P9 : ∀ τ : zc_N, τ 32 11 = nI P.2.1 → pX9_keep τ (nI t) (nI p) (nI y) := fun τ e => ⟨fun _ => trivial, fun _ => ⟨fun _ => trivial, fun _ => ⟨fun _ => trivial, fun _ => ⟨v24, fun _ => trivial, fun _ => ⟨(printOf_m e hn (nI t) (nI y)).1, fun _ => ⟨v24, v24, km _ (by rw [zu_ne _ _ (by decide), zu_ne _ _ (by decide)]; exact e)⟩, fun _ => trivial⟩⟩⟩⟩⟩
        by_cases c1 : σ 42 p = -1
        · rw [if_pos c1, if_pos c1]
          have nn : ¬ (0 : Int32) ≤ σ 42 (nI p).toNatClampNeg := by rw [hc, c1]; decide
          by_cases c2 : rX8_hasYear σ (nI t) (nI y) = 0
          · rw [if_pos c2, if_pos c2]
            have hno : ¬ ∃ q, q < P.2.1 ∧ σ 42 q = nI t ∧ σ 43 q = nI y := fun z => (yc.2.mp c2) (same.mpr z)
            have k32 : (zu σ (pO p) (zu (zu (σ (pO p)) 3 (nI t)) 4 (nI y))) 32 = σ 32 := zu_ne _ _ (by have := pO_ge p; omega)
            have k42 : (zu σ (pO p) (zu (zu (σ (pO p)) 3 (nI t)) 4 (nI y))) 42 = σ 42 := zu_ne _ _ (by have := pO_ge p; omega)
            have k43 : (zu σ (pO p) (zu (zu (σ (pO p)) 3 (nI t)) 4 (nI y))) 43 = σ 43 := zu_ne _ _ (by have := pO_ge p; omega)
            have kO : (zu σ (pO p) (zu (zu (σ (pO p)) 3 (nI t)) 4 (nI y))) (pO p) = zu (zu (σ (pO p)) 3 (nI t)) 4 (nI y) := zu_self _ _ _
            have kn : ∀ k, k ≠ pO p → (zu σ (pO p) (zu (zu (σ (pO p)) 3 (nI t)) 4 (nI y))) k = σ k := fun k hk => zu_ne _ _ hk
            rw [(kept_c k3 hn (nI t)).2]
            generalize zu σ (pO p) (zu (zu (σ (pO p)) 3 (nI t)) 4 (nI y)) = τ at k3 k32 k42 k43 kO kn
            have n2' : ¬ rX9_isPrint τ (nI p) = 0 := by
              have : rX9_isPrint τ (nI p) = rX9_isPrint σ (nI p) := by unfold rX9_isPrint; rw [k32]
              rw [this]; exact n2
            have nn' : ¬ (0 : Int32) ≤ τ 42 (nI p).toNatClampNeg := by rw [k42]; exact nn
            have lt' : rX9_printOf τ (nI t) (nI y) < 0 := by
              rw [(printOf_m (σ := τ) (by rw [k32]; exact h11) hn (nI t) (nI y)).2, k42, k43]
              exact hno
            have r9 : rX9_keep τ (nI t) (nI p) (nI y) = rX9_keptBy (zu (zu τ 42 (zu (τ 42) p (nI t))) 43 (zu (τ 43) p (nI y))) (nI t) := by
              refine (((((if_neg nt2).trans (if_neg n2')).trans (if_neg ny2)).trans (if_neg nn')).trans (if_pos lt')).trans ?_
              rw [hc]
            have s9 : sX9_keep τ (nI t) (nI p) (nI y) = zu (zu τ 42 (zu (τ 42) p (nI t))) 43 (zu (τ 43) p (nI y)) := by
              refine (((((if_neg nt2).trans (if_neg n2')).trans (if_neg ny2)).trans (if_neg nn')).trans (if_pos lt')).trans ?_
              rw [hc]
            rw [r9, s9, (kept_m (by rw [zu_ne _ _ (by decide), zu_ne _ _ (by decide), k32]; exact h11) hn (nI t)).2]
            refine ⟨P9 τ (by rw [k32]; exact h11), ?_, Inv_tool h (fun k hk h42 h43 => ?_) (fun q hq => ?_) (fun q hq => ?_) (fun v w hv hw hne he hn1 => ?_)⟩
            · congr 1
              refine cnt_congr _ (fun q hq => ?_)
              rw [zu_ne _ _ (show 42 ≠ 43 by decide), zu_self]
              by_cases e : q = p
              · rw [e, kO, zu_ne _ _ (by decide), zu_self, zu_self]
              · rw [kn _ (fun z => e (pO_inj z)), zu_ne _ _ e, k42, (p3 q hq).1]
            · rw [zu_ne _ _ h43, zu_ne _ _ h42, kn k (by have := pO_ge p; omega)]
            · rw [zu_ne _ _ (by have := pO_ge q; omega), zu_ne _ _ (by have := pO_ge q; omega), zu_ne _ _ (show pP q ≠ 43 by show 58 + 3 * q ≠ 43; omega), zu_ne _ _ (show pP q ≠ 42 by show 58 + 3 * q ≠ 42; omega), zu_ne _ _ (show pT q ≠ 43 by show 59 + 3 * q ≠ 43; omega), zu_ne _ _ (show pT q ≠ 42 by show 59 + 3 * q ≠ 42; omega), kn _ (pP_ne q p), kn _ (pT_ne q p)]
              refine ⟨?_, rfl, rfl⟩
              by_cases e : q = p
              · rw [e, kO, zu_ne _ _ (by decide), zu_ne _ _ (by decide)]
              · rw [kn _ (fun z => e (pO_inj z))]
            · rw [zu_ne _ _ (show pO q ≠ 43 by have := pO_ge q; omega), zu_ne _ _ (show pO q ≠ 42 by have := pO_ge q; omega), zu_ne _ _ (show 42 ≠ 43 by decide), zu_self, zu_self]
              by_cases e : q = p
              · rw [e, kO, zu_self, zu_self, zu_ne _ _ (by decide), zu_self, zu_self]
                exact ⟨rfl, rfl, Or.inr ⟨t, y, ht, hy, rfl, rfl⟩⟩
              · rw [kn _ (fun z => e (pO_inj z)), zu_ne _ _ e, zu_ne _ _ e, k42, k43]
                exact p3 q hq
            · rw [zu_ne _ _ (show 42 ≠ 43 by decide), zu_self, k42] at he hn1
              rw [zu_self, k43]
              by_cases ev : v = p
              · have ew : w ≠ p := fun z => hne (ev.trans z.symm)
                rw [ev, zu_self, zu_ne _ _ ew] at he
                rw [ev, zu_self, zu_ne _ _ ew]
                exact fun z => hno ⟨w, hw, he.symm, z.symm⟩
              · rw [zu_ne _ _ ev] at he hn1
                rw [zu_ne _ _ ev]
                by_cases ew : w = p
                · rw [ew, zu_self] at he
                  rw [ew, zu_self]
                  exact fun z => hno ⟨v, hv, he, z⟩
                · rw [zu_ne _ _ ew] at he ⊢
                  exact h.2.2.2.2.2.2.2 v w hv hw hne he hn1
          · rw [if_neg c2, if_neg c2]
            have hyes : ∃ q, q < P.2.1 ∧ σ 42 q = nI t ∧ σ 43 q = nI y := by
              apply Classical.byContradiction
              intro z
              exact c2 (yc.2.mpr (fun w => z (same.mp w)))
            have nlt : ¬ rX9_printOf σ (nI t) (nI y) < 0 := fun z => pm.2.mp z hyes
            have r9 : rX9_keep σ (nI t) (nI p) (nI y) = -3 := ((((if_neg nt2).trans (if_neg n2)).trans (if_neg ny2)).trans (if_neg nn)).trans (if_neg nlt)
            have s9 : sX9_keep σ (nI t) (nI p) (nI y) = σ := ((((if_neg nt2).trans (if_neg n2)).trans (if_neg ny2)).trans (if_neg nn)).trans (if_neg nlt)
            rw [r9, s9]
            exact ⟨P9 σ h11, rfl, h⟩
        · rw [if_neg c1, if_neg c1]
          have nn : (0 : Int32) ≤ σ 42 (nI p).toNatClampNeg := by
            rw [hc]
            rcases (p3 p hp).2.2 with ⟨z1, -⟩ | ⟨t', -, z1, -, z3, -⟩
            · exact absurd z1 c1
            · rw [z3]; exact nI_pos' (by omega)
          have r9 : rX9_keep σ (nI t) (nI p) (nI y) = -3 := (((if_neg nt2).trans (if_neg n2)).trans (if_neg ny2)).trans (if_pos nn)
          have s9 : sX9_keep σ (nI t) (nI p) (nI y) = σ := (((if_neg nt2).trans (if_neg n2)).trans (if_neg ny2)).trans (if_pos nn)
          rw [r9, s9]
          exact ⟨P9 σ h11, rfl, h⟩
