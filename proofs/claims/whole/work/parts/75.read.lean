/-! ===== the whole history of a tool, by the class ===== -/
/-- the years that may be i's: L's, and those of the others that show it after x -/
def Vc (A : gA) (σ : zc_N) (r t L n i : Nat) (x y : Int) : Prop := (σ 43 L = zI y ∧ 0 ≤ y ∧ y ≤ 9999) ∨ ∃ k, k < n ∧ σ 42 k = nI t ∧ k ≠ L ∧ hs A r L k i = true ∧ σ 43 k = zI y ∧ 0 ≤ y ∧ y ≤ 9999 ∧ x < y
def RH (P : zp) (A : gA) (σ : zc_N) (r t L : Nat) (τ : zc_N) : Prop := off hO σ τ ∧ (∀ m, m ≠ 8 → m ≠ 9 → τ 10 m = σ 10 m) ∧ iK A P.2.1 τ ∧ τ 27 0 = nI (msk (fun i => cdec (∃ y, Vl A σ r t L P.2.1 i y))) ∧ ∀ i, i < 12 → ∃ x z, mxS (Vl A σ r t L P.2.1 i) x ∧ τ 28 i = zI z ∧ mnS (Vc A σ r t L P.2.1 i x) z
theorem Inv_RH {P : zp} {A : gA} {σ τ : zc_N} {r t L : Nat} (h : Inv P A σ) (hr : RH P A σ r t L τ) : Inv P A τ := Inv_sub h hr.1 (by decide) (hr.2.1 0 (by decide) (by decide)) (fun k _ => by rw [hr.1 32 (by decide)]) hr.2.2.1
theorem nI_t1 {t : Nat} (ht : t < 10) : nI t ≠ -1 := fun z => absurd ((hI_m1 t).mp (by rw [hI_lt (by omega)]; exact z)) (by omega)
theorem newestP {P : zp} {A : gA} {σ : zc_N} {t L : Nat} (h : iP P A σ) (hY : iY P σ) (ht : t < 10) (hw : nwo P σ (nI t) = some L) : L < P.2.1 ∧ σ 42 L = nI t ∧ ∃ y : Int, 0 ≤ y ∧ y ≤ 9999 ∧ σ 43 L = zI y ∧ ∀ k, k < P.2.1 → σ 42 k = nI t → k ≠ L → ∀ z, σ 43 k = zI z → 0 ≤ z → z ≤ 9999 → z < y := by
  obtain ⟨hn, h3, h11, p2, p3⟩ := iPp h
  rcases nwf_s σ (nI t) P.2.1 with ⟨e, -⟩ | ⟨j, e, h1, h2, h4⟩
  · have : nwo P σ (nI t) = none := e
    rw [this] at hw; cases hw
  · have e' : nwo P σ (nI t) = some j := e
    rw [hw] at e'
    have ej : L = j := Option.some.inj e'
    rw [← ej] at h1 h2 h4
    have hL : σ 42 L = nI t := by rw [← (p3 L h1).1]; exact h2
    obtain ⟨y, y1, y2, y3⟩ := yrP h h1 hL ht
    refine ⟨h1, hL, y, by omega, by omega, y3, fun k hk tk nk z z1 z2 z3 => ?_⟩
    have le := h4 k hk (by rw [(p3 k hk).1]; exact tk)
    rw [(p3 k hk).2.1, (p3 L h1).2.1, z1, y3] at le
    have le := (zle (by omega) (by omega)).mp le
    have ne := hY k L hk h1 nk (by rw [tk, hL]) (by rw [tk]; exact nI_t1 ht)
    rw [z1, y3] at ne
    have : z ≠ y := fun w => ne (by rw [w])
    omega
theorem newest {P : zp} {A : gA} {σ : zc_N} {t L : Nat} (h : Inv P A σ) (ht : t < 10) (hw : nwo P σ (nI t) = some L) : L < P.2.1 ∧ σ 42 L = nI t ∧ ∃ y : Int, 0 ≤ y ∧ y ≤ 9999 ∧ σ 43 L = zI y ∧ ∀ k, k < P.2.1 → σ 42 k = nI t → k ≠ L → ∀ z, σ 43 k = zI z → 0 ≤ z → z ≤ 9999 → z < y := newestP h.2.1 h.2.2.2.2.2.2.2 ht hw
theorem read_c {P : zp} {A : gA} {σ : zc_N} {r t L : Nat} (h : Inv P A σ) (hr : r < 4) (h10 : σ 10 0 = nI r) (ht : t < 10) (hw : nwo P σ (nI t) = some L) : pX8_readHistory P σ (nI t) ∧ RH P A σ r t L (vX8_readHistory_3 P (nI t) σ) := by
  obtain ⟨hn, h3, h11, p2, p3⟩ := iP_parts h
  obtain ⟨hL, tL, yL, l1, l2, l3, l4⟩ := newest h ht hw
  obtain ⟨c1, c2, c3⟩ := fill31 (zu σ 27 (zu (zu (σ 27) 0 0) 2 0)) (-1)
  have C1 : pX2_clear σ := c1
  have c2 : ∀ j, j < 12 → sX2_clear σ 31 j = -1 := c2
  have c3 : off [31] (zu σ 27 (zu (zu (σ 27) 0 0) 2 0)) (sX2_clear σ) := c3
  have v2 : vX8_readHistory_2 P (nI t) σ = zfor (fX8_readHistory_30 P L (nI t)) P.2.1 (sX2_clear σ) := by
    unfold vX8_readHistory_2
    rw [hw, Option.getD_some, c3 3 (by decide), zu_ne _ _ (by decide), h3, cl_n (by omega)]
  have v3 : vX8_readHistory_3 P (nI t) σ = sX2_dateFlaws (sX2_hear (vX8_readHistory_2 P (nI t) σ) L 4095 0) := by
    unfold vX8_readHistory_3
    rw [hw, Option.getD_some]
  have k33 : sX2_clear σ 3 3 = nI P.2.1 := by rw [c3 3 (by decide), zu_ne _ _ (by decide), h3]
  have k270 : sX2_clear σ 27 0 = 0 := by rw [c3 27 (by decide), zu_self, zu_ne _ _ (by decide), zu_self]
  have k272 : sX2_clear σ 27 2 = 0 := by rw [c3 27 (by decide), zu_self, zu_self]
  have kO : off hO σ (sX2_clear σ) := off_tr (off_zu (off_rf _ _) (by decide) _) (off_sub c3 (by decide))
  generalize hκ : sX2_clear σ = κ at c2 c3 v2 k33 k270 k272 kO
  have H0 : HR P A σ r t L 0 κ := by
    refine ⟨kO, fun m _ _ => ?_, ?_, k272, ?_, fun i hi => ⟨-1, (c2 i hi).trans (show (-1 : Int32) = zI (-1) by decide), Or.inl ⟨rfl, fun y ⟨k, hk, _⟩ => absurd hk (by omega)⟩⟩, fun p hp => absurd hp (by omega)⟩
    · rw [c3 10 (by decide), zu_ne _ _ (by decide)]
    · exact iK_11 h.2.2.2.2.2.1 (by rw [c3 11 (by decide), zu_ne _ _ (by decide)])
    · rw [k270]
      exact msk_f (fun i hi => cdec_f (fun ⟨y, k, hk, _⟩ => absurd hk (by omega)))
  have HA := zfor_inv (HR P A σ r t L) (fX8_readHistory_30 P L (nI t)) P.2.1 κ H0 (fun k hk τ hh => (h30 h hr h10 ht hL hk τ hh).1)
  have HQ : ∀ k, k < P.2.1 → qX8_readHistory_30 P L (nI t) k (zfor (fX8_readHistory_30 P L (nI t)) k κ) := fun k hk => (h30 h hr h10 ht hL hk _ (HA k (by omega))).2
  have HE := HA P.2.1 (Nat.le_refl _)
  have HC : ∀ k, k ≤ P.2.1 → zfor (fX8_readHistory_30 P L (nI t)) k κ 3 3 = nI P.2.1 := fun k hk => by rw [(HA k hk).1 3 (by decide), h3]
  rw [← v2] at HE
  have hI := Inv_HR h HE
  have FIN : pX2_hear (vX8_readHistory_2 P (nI t) σ) ∧ pX2_dateFlaws (sX2_hear (vX8_readHistory_2 P (nI t) σ) L 4095 0) ∧ RH P A σ r t L (sX2_dateFlaws (sX2_hear (vX8_readHistory_2 P (nI t) σ) L 4095 0)) := by
    generalize vX8_readHistory_2 P (nI t) σ = lam at HE hI
    obtain ⟨o1, o2, o3, o4, o5, o6, o7⟩ := HE
    have hx : ∀ i, ∃ x, i < 12 → lam 31 i = zI x ∧ mxS (Vl A σ r t L P.2.1 i) x := fun i => by
      by_cases hi : i < 12
      · obtain ⟨x, z⟩ := o6 i hi; exact ⟨x, fun _ => z⟩
      · exact ⟨0, fun z => absurd z hi⟩
    obtain ⟨l, hl⟩ : ∃ l : Nat → Int, ∀ i, i < 12 → lam 31 i = zI (l i) ∧ mxS (Vl A σ r t L P.2.1 i) (l i) := ⟨fun i => Classical.choose (hx i), fun i hi => Classical.choose_spec (hx i) hi⟩
    have hg : ∀ m, ∃ p, m < hN σ t L P.2.1 → p < P.2.1 ∧ σ 42 p = nI t ∧ p ≠ L ∧ hN σ t L p = m := fun m => by
      by_cases hm : m < hN σ t L P.2.1
      · obtain ⟨p, q1, q2, q3⟩ := cnt_ex P.2.1 m hm
        have q2 := cdec_of q2
        exact ⟨p, fun _ => ⟨q1, q2.1, q2.2, q3⟩⟩
      · exact ⟨0, fun z => absurd z hm⟩
    obtain ⟨g, hg⟩ : ∃ g : Nat → Nat, ∀ m, m < hN σ t L P.2.1 → g m < P.2.1 ∧ σ 42 (g m) = nI t ∧ g m ≠ L ∧ hN σ t L (g m) = m := ⟨fun m => Classical.choose (hg m), fun m hm => Classical.choose_spec (hg m) hm⟩
    have hy : ∀ p, ∃ y : Int, p < P.2.1 → σ 42 p = nI t → σ 43 p = zI y ∧ 0 ≤ y ∧ y ≤ 9999 := fun p => by
      by_cases c : p < P.2.1 ∧ σ 42 p = nI t
      · obtain ⟨y, y1, y2, y3⟩ := yr h c.1 c.2 ht
        exact ⟨y, fun _ _ => ⟨y3, by omega, by omega⟩⟩
      · exact ⟨0, fun a b => absurd ⟨a, b⟩ c⟩
    obtain ⟨yv, hy⟩ : ∃ yv : Nat → Int, ∀ p, p < P.2.1 → σ 42 p = nI t → σ 43 p = zI (yv p) ∧ 0 ≤ yv p ∧ yv p ≤ 9999 := ⟨fun m => Classical.choose (hy m), fun m => Classical.choose_spec (hy m)⟩
    have inj : ∀ p q, p < P.2.1 → q < P.2.1 → σ 42 p = nI t → σ 42 q = nI t → p ≠ L → q ≠ L → hN σ t L p = hN σ t L q → p = q := fun p q _ _ a1 a2 b1 b2 e => by
      rcases Nat.lt_trichotomy p q with c | c | c
      · have := hN_lt (σ := σ) (t := t) (L := L) c a1 b1; omega
      · exact c
      · have := hN_lt (σ := σ) (t := t) (L := L) c a2 b2; omega
    have top := hN_top (σ := σ) (t := t) hL
    have py : lam (pO L) 4 = zI yL := by
      rw [((iP_parts hI).2.2.2.2 L hL).2.1, o1 43 (by decide)]
      exact l3
    obtain ⟨a1, a2, a3, a4, a5, a6, a7⟩ := hear_c (σ := lam) (p := L) (s := hN σ t L P.2.1) (H := fun _ => true) (K := fun _ => false) (y := yL) (l := l) o4 (by omega) py ⟨l1, l2⟩ (fun i hi => ⟨(hl i hi).1, Vl_b (hl i hi).2⟩)
    rw [← msk_all, ← msk_f (f := fun _ => false) (fun _ _ => rfl)] at a2 a3 a4 a5 a6 a7
    refine ⟨a1, ?_⟩
    generalize hS : hN σ t L P.2.1 = s at *
    generalize sX2_hear lam L 4095 0 = ω at a2 a3 a4 a5 a6 a7
    obtain ⟨d1, d2, d3⟩ := date_c (σ := ω) (N := s + 1) (Y := fun m => if m = s then yL else yv (g m)) (M := fun m => if m = s then (fun _ => true) else hs A r L (g m)) (x := l) (by omega) a4 (fun m hm => by
        rw [a2 m]
        by_cases e : m = s
        · rw [if_pos e, if_pos e]; exact ⟨rfl, l1, l2⟩
        · rw [if_neg e, if_neg e]
          obtain ⟨g1, g2, g3, g4⟩ := hg m (by omega)
          have := (o7 (g m) g1 g2 g3).1
          rw [g4] at this
          rw [this]
          exact hy (g m) g1 g2) (fun m hm => by
        rw [a3 m]
        by_cases e : m = s
        · rw [if_pos e, if_pos e]; exact msk_all
        · rw [if_neg e, if_neg e]
          obtain ⟨g1, g2, g3, g4⟩ := hg m (by omega)
          have := (o7 (g m) g1 g2 g3).2
          rw [g4] at this
          exact this) (fun i hi => by
        rw [a6 i hi, if_neg (show ¬ false = true by decide)]
        exact ⟨rfl, Vl_b (hl i hi).2⟩)
    refine ⟨d1, off_tr o1 (off_tr (off_sub a7 (by decide)) (off_sub d3 (by decide))), fun m h8 h9 => ?_, iK_11 o3 (by rw [d3 11 (by decide), a7 11 (by decide)]), ?_, fun i hi => ?_⟩
    · rw [d3 10 (by decide), a7 10 (by decide)]; exact o2 m h8 h9
    · rw [d3 27 (by decide), a5, o5]
      exact Int32.or_zero
    · obtain ⟨z, z1, z2⟩ := d2 i hi
      refine ⟨l i, z, (hl i hi).2, z1, ?_⟩
      have lx : l i < yL := by
        rcases (hl i hi).2 with ⟨q1, -⟩ | ⟨⟨k, k1, k2, k3, -, k5, k6, k7⟩, -⟩
        · omega
        · exact l4 k k1 k2 k3 _ k5 k6 k7
      have inW : Ws (fun m => if m = s then yL else yv (g m)) (fun m => if m = s then (fun _ => true) else hs A r L (g m)) i (l i) (s + 1) yL := Or.inr ⟨s, by omega, by dsimp only; rw [if_pos rfl], by dsimp only; rw [if_pos rfl], lx⟩
      have zle' := z2.2 yL inW
      refine ⟨?_, fun y hy' => z2.2 y ?_⟩
      · rcases z2.1 with q | ⟨k, k1, k2, k3, k4⟩
        · omega
        · dsimp only at k2 k3
          by_cases e : k = s
          · rw [if_pos e] at k3
            exact Or.inl ⟨by rw [k3]; exact l3, by omega, by omega⟩
          · rw [if_neg e] at k2 k3
            obtain ⟨g1, g2, g3, g4⟩ := hg k (by omega)
            have := hy (g k) g1 g2
            exact Or.inr ⟨g k, g1, g2, g3, k2, by rw [k3]; exact this.1, by omega, by omega, k4⟩
      · rcases hy' with ⟨q1, q2, q3⟩ | ⟨k, k1, k2, k3, k4, k5, k6, k7, k8⟩
        · rw [l3] at q1
          have : yL = y := (zeq (by omega) (by omega)).mp q1
          rw [← this]; exact inW
        · have lt := hN_lt (σ := σ) (t := t) (L := L) k1 k2 k3
          have gk := hg (hN σ t L k) (by omega)
          have e : g (hN σ t L k) = k := inj _ _ gk.1 k1 gk.2.1 k2 gk.2.2.1 k3 gk.2.2.2
          have ne : ¬ hN σ t L k = s := by omega
          have yy := hy k k1 k2
          rw [k5] at yy
          have : y = yv k := (zeq (by omega) (by omega)).mp yy.1
          exact Or.inr ⟨hN σ t L k, by omega, by dsimp only; rw [if_neg ne, e]; exact k4, by dsimp only; rw [if_neg ne, e]; exact this, k8⟩
  rw [v3]
  refine ⟨?_, FIN.2.2⟩
  have sm : ¬ (some L : Option Nat) = none := fun z => by cases z
  unfold pX8_readHistory
  rw [hw, Option.getD_some]
  refine ⟨⟨h3, hn⟩, fun _ => trivial, fun _ => ⟨hL, (kept_c h3 hn (nI t)).1, fun _ => ⟨C1, ?_, FIN.1, FIN.2.1⟩, fun _ => trivial⟩⟩
  rw [hκ, k33, cl_n (by omega)]
  exact ⟨fun k hk => by rw [HC k hk]; exact nI_leI (by omega) (by omega), HQ⟩
