/-! ===== pure rows: a laying is filled in, by the class ===== -/
theorem bare_c {s p : Nat} (hs : s ≤ 1000) (hp : p ≤ 1000) : (if (0 : Int32) < nI s - (2 : Int32) * nI p then nI s - (2 : Int32) * nI p else (0 : Int32)) = nI (bw s p) := by
  rw [i2, pk_mul, nz (n := s) (by omega), nz (n := 2 * p) (by omega), zI_sub, show (0 : Int32) = zI 0 from rfl]
  simp only [zlt (a := 0) (b := (s : Int) - (2 * p : Nat)) (by omega) (by omega)]
  unfold bw
  by_cases h : 0 < (s : Int) - (2 * p : Nat)
  · rw [if_pos h, nz (by omega)]
    congr 1
    omega
  · rw [if_neg h, show s - 2 * p = 0 by omega]; rfl
theorem bw_c {σ : zc_N} {s p : Nat} (h : σ 10 9 = nI s) (hs : s ≤ 1000) (hp : p ≤ 1000) : rX4_bareWith σ (nI p) = nI (bw s p) ∧ rX4_scoreWith σ (nI p) = zI (sw s p) := by
  have e : rX4_bareWith σ (nI p) = nI (bw s p) := by
    unfold rX4_bareWith
    rw [h]
    exact bare_c hs hp
  refine ⟨e, ?_⟩
  unfold rX4_scoreWith
  rw [e]
  exact sw_z hs hp
/-- laid by turn and shift: what is learnt and turned already -/
theorem prep_c {P : zp} {A : gA} {σ : zc_N} {r a b q : Nat} (hca : pC P A σ a) (hcb : pC P A σ b) (hva : pV A a) (hvb : pV A b) (hr : r < 4) (hq : q < 4) : pX0_learn P σ b (nI r) ∧ pX4_turnBy P (sX0_learn P σ b (nI r)) a (nI q) ∧ learned A r b (aN A b) (sX4_turnBy P (sX0_learn P σ b (nI r)) a (nI q)) ∧ turned A a q (sX4_turnBy P (sX0_learn P σ b (nI r)) a (nI q)) ∧ off [13, 14, 15, 19, 20, 21] σ (sX4_turnBy P (sX0_learn P σ b (nI r)) a (nI q)) ∧ off [13, 14, 15] σ (sX0_learn P σ b (nI r)) := by
  obtain ⟨l1, l2, l3⟩ := learn_c hcb hvb hr
  obtain ⟨t1, t2, t3⟩ := turn_c (pC_off hca l3 (by decide)) hva hq
  refine ⟨l1, t1, ?_, t2, off_tr (off_sub l3 (by simp)) (off_sub t3 (by simp)), l3⟩
  unfold learned
  rw [t3 13 (by decide), t3 14 (by decide), t3 15 (by decide)]
  exact l2
def filled_l (A : gA) (r a b q : Nat) (dx dy : Int) (τ : zc_N) : Prop := τ 23 4 = nI (PR A r a b q dx dy) ∧ τ 23 5 = nI (bw (SB A a b q dx dy) (PR A r a b q dx dy)) ∧ τ 23 6 = zI (SC A r a b q dx dy) ∧ τ 23 7 = nI (msk (fun i => decide (chH (mayB A r a b q dx dy) (aN A a) i < 12))) ∧ τ 23 8 = nI (msk (fun i => decide (i < aN A a) && inA A a b q dx dy i)) ∧ ∀ i, i < 12 → τ 24 i = hI (chH (mayB A r a b q dx dy) (aN A a) i)
theorem fillIn_l {P : zp} {A : gA} {σ : zc_N} {r a b q : Nat} {dx dy : Int} (hca : pC P A σ a) (hcb : pC P A σ b) (hva : pV A a) (hvb : pV A b) (hr : r < 4) (hq : q < 4) (hdx : -30 ≤ dx ∧ dx ≤ 30) (hdy : -30 ≤ dy ∧ dy ≤ 30) (hre : σ 10 0 = nI r) (h1 : σ 23 1 = nI q) (h2 : σ 23 2 = zI dx) (h3 : σ 23 3 = zI dy) :
    pX4_fillIn_l P σ a b ∧ filled_l A r a b q dx dy (sX4_fillIn_l P σ a b) ∧ (∀ k, k < 4 → sX4_fillIn_l P σ a b 23 k = σ 23 k) ∧ (∀ k, k ≠ 8 → k ≠ 9 → sX4_fillIn_l P σ a b 10 k = σ 10 k) ∧ off [10, 13, 14, 15, 16, 17, 18, 19, 20, 21, 23, 24] σ (sX4_fillIn_l P σ a b) := by
  have hNa := hva.1
  obtain ⟨l1, t1, l2, t2, o1, o0⟩ := prep_c hca hcb hva hvb hr hq
  have hSB := SB_le (q := q) (dx := dx) (dy := dy) hva hvb
  have hPR := PR_le (r := r) (b := b) (q := q) (dx := dx) (dy := dy) hva
  have e1 : sX0_learn P σ b (nI r) 23 1 = nI q := by rw [o0 23 (by decide)]; exact h1
  unfold pX4_fillIn_l sX4_fillIn_l vX4_fillIn_l_3 vX4_fillIn_l_2 vX4_fillIn_l_1
  rw [hre, e1]
  generalize hT : sX4_turnBy P (sX0_learn P σ b (nI r)) a (nI q) = T at t2 l2 o1
  have e2 : T 23 2 = zI dx := by rw [o1 23 (by decide)]; exact h2
  have e3 : T 23 3 = zI dy := by rw [o1 23 (by decide)]; exact h3
  rw [e2, e3]
  obtain ⟨s1, s2, s3, s4, s5⟩ := shift_c (pC_off hca o1 (by decide)) (pC_off hcb o1 (by decide)) hva hvb hr l2 t2 hdx hdy
  generalize sX4_shiftBy P T a b (zI dx) (zI dy) = υ at s2 s3 s4 s5
  obtain ⟨m1, m2, m3⟩ := most_c (M := mayB A r a b q dx dy) (n := aN A a) (first := 0) (F := fun _ => true) (σ := υ) hNa (Nat.zero_le _) s2.1 s2.2.1
  rw [nI_0, ← msk_all] at m1 m2 m3
  have eP : PR A r a b q dx dy = mst (mayB A r a b q dx dy) 0 (aN A a) (fun _ => true) := rfl
  rw [m2]
  generalize sX5_most υ 0 4095 = ω at m3
  rw [← eP]
  have w10 : ω 10 = υ 10 := m3.1 10 (by decide)
  have b1 := bw_c (σ := zu ω 23 (zu (ω 23) 4 (nI (PR A r a b q dx dy)))) (s := SB A a b q dx dy) (p := PR A r a b q dx dy) (by rw [zu_ne _ _ (by decide), w10]; exact s2.2.2.2) (by omega) (by omega)
  rw [zu_self (f := ω 23) (i := 4), b1.1]
  have z1 : zu (zu (ω 23) 4 (nI (PR A r a b q dx dy))) 5 (nI (bw (SB A a b q dx dy) (PR A r a b q dx dy))) 4 = nI (PR A r a b q dx dy) := by rw [zu_ne _ _ (by decide), zu_self]
  rw [z1]
  have b2' := bw_c (σ := zu ω 23 (zu (zu (ω 23) 4 (nI (PR A r a b q dx dy))) 5 (nI (bw (SB A a b q dx dy) (PR A r a b q dx dy))))) (s := SB A a b q dx dy) (p := PR A r a b q dx dy) (by rw [zu_ne _ _ (by decide), w10]; exact s2.2.2.2) (by omega) (by omega)
  rw [b2'.2]
  have eSC : sw (SB A a b q dx dy) (PR A r a b q dx dy) = SC A r a b q dx dy := rfl
  rw [eSC, zu_self (f := ω), zu_ne (f := ω) _ (show 10 ≠ 23 by decide), w10, s2.2.2.1]
  generalize hG : zu (zu (zu (ω 23) 4 (nI (PR A r a b q dx dy))) 5 (nI (bw (SB A a b q dx dy) (PR A r a b q dx dy)))) 6 (zI (SC A r a b q dx dy)) = G
  have g4 : G 4 = nI (PR A r a b q dx dy) := by rw [← hG, zu_ne _ _ (by decide), zu_ne _ _ (by decide), zu_self]
  have g5 : G 5 = nI (bw (SB A a b q dx dy) (PR A r a b q dx dy)) := by rw [← hG, zu_ne _ _ (by decide), zu_self]
  have g6 : G 6 = zI (SC A r a b q dx dy) := by rw [← hG, zu_self]
  have gk : ∀ k, k < 4 → G k = σ 23 k := fun k hk => by
    rw [← hG, zu_ne _ _ (by omega), zu_ne _ _ (by omega), zu_ne _ _ (by omega), m3.1 23 (by decide), s5 23 (by decide), o1 23 (by decide)]
  have z4 : zu G 8 (nI (msk (fun i => decide (i < aN A a) && inA A a b q dx dy i))) 4 = nI (PR A r a b q dx dy) := by rw [zu_ne _ _ (by decide)]; exact g4
  rw [z4, zu_zu]
  have oW : off [10, 13, 14, 15, 16, 17, 18, 19, 20, 21, 23, 24] σ ω := off_tr (off_tr (off_sub o1 (by simp)) (off_sub s5 (by simp))) (off_sub m3.1 (by simp))
  obtain ⟨c1, c2, c3, c4⟩ := choose_l (M := mayB A r a b q dx dy) (n := aN A a) (σ := zu ω 23 (zu G 8 (nI (msk (fun i => decide (i < aN A a) && inA A a b q dx dy i))))) hNa (fun i hi => by rw [zu_ne _ _ (by decide), m3.1 17 (by decide)]; exact s2.1 i hi) (by rw [zu_ne _ _ (by decide), m3.2 1 (by decide)]; exact s2.2.1)
  rw [← eP] at c1 c2 c3 c4
  rw [c2]
  have q23 : sX5_choose_l (zu ω 23 (zu G 8 (nI (msk (fun i => decide (i < aN A a) && inA A a b q dx dy i))))) (nI (PR A r a b q dx dy)) 23 = zu G 8 (nI (msk (fun i => decide (i < aN A a) && inA A a b q dx dy i))) := by rw [c4.1 23 (by decide), zu_self]
  have q10 : sX5_choose_l (zu ω 23 (zu G 8 (nI (msk (fun i => decide (i < aN A a) && inA A a b q dx dy i))))) (nI (PR A r a b q dx dy)) 10 = υ 10 := by rw [c4.1 10 (by decide), zu_ne _ _ (by decide), w10]
  have qo := off_tr (off_zu oW (show 23 ∈ [10, 13, 14, 15, 16, 17, 18, 19, 20, 21, 23, 24] by simp) (zu G 8 (nI (msk (fun i => decide (i < aN A a) && inA A a b q dx dy i))))) (off_sub c4.1 (T := [10, 13, 14, 15, 16, 17, 18, 19, 20, 21, 23, 24]) (by simp))
  generalize sX5_choose_l (zu ω 23 (zu G 8 (nI (msk (fun i => decide (i < aN A a) && inA A a b q dx dy i))))) (nI (PR A r a b q dx dy)) = Z at c3 q23 q10 qo
  rw [q23]
  refine ⟨⟨l1, t1, s1, m1, c1⟩, ⟨?_, ?_, ?_, ?_, ?_, fun i hi => ?_⟩, fun k hk => ?_, fun k h8 h9 => ?_, off_zu qo (by simp) _⟩
  · rw [zu_self, zu_ne _ _ (by decide), zu_ne _ _ (by decide)]; exact g4
  · rw [zu_self, zu_ne _ _ (by decide), zu_ne _ _ (by decide)]; exact g5
  · rw [zu_self, zu_ne _ _ (by decide), zu_ne _ _ (by decide)]; exact g6
  · rw [zu_self, zu_self]
  · rw [zu_self, zu_ne _ _ (by decide), zu_self]
  · rw [zu_ne _ _ (by decide)]; exact c3 i hi
  · rw [zu_self, zu_ne _ _ (by omega), zu_ne _ _ (by omega)]; exact gk k hk
  · rw [zu_ne _ _ (by decide), q10, s3 k h8 h9, o1 10 (by decide)]
def filled_t (A : gA) (r a b q : Nat) (dx dy : Int) (τ : zc_N) : Prop := τ 25 4 = nI (PR A r a b q dx dy) ∧ τ 25 5 = nI (bw (SB A a b q dx dy) (PR A r a b q dx dy)) ∧ τ 25 6 = zI (SC A r a b q dx dy) ∧ τ 25 7 = nI (msk (fun i => decide (chH (mayB A r a b q dx dy) (aN A a) i < 12))) ∧ τ 25 8 = nI (msk (fun i => decide (i < aN A a) && inA A a b q dx dy i)) ∧ ∀ i, i < 12 → τ 26 i = hI (chH (mayB A r a b q dx dy) (aN A a) i)
theorem fillIn_t {P : zp} {A : gA} {σ : zc_N} {r a b q : Nat} {dx dy : Int} (hca : pC P A σ a) (hcb : pC P A σ b) (hva : pV A a) (hvb : pV A b) (hr : r < 4) (hq : q < 4) (hdx : -30 ≤ dx ∧ dx ≤ 30) (hdy : -30 ≤ dy ∧ dy ≤ 30) (hre : σ 10 0 = nI r) (h1 : σ 25 1 = nI q) (h2 : σ 25 2 = zI dx) (h3 : σ 25 3 = zI dy) :
    pX4_fillIn_t P σ a b ∧ filled_t A r a b q dx dy (sX4_fillIn_t P σ a b) ∧ (∀ k, k < 4 → sX4_fillIn_t P σ a b 25 k = σ 25 k) ∧ (∀ k, k ≠ 8 → k ≠ 9 → sX4_fillIn_t P σ a b 10 k = σ 10 k) ∧ off [10, 13, 14, 15, 16, 17, 18, 19, 20, 21, 25, 26] σ (sX4_fillIn_t P σ a b) := by
  have hNa := hva.1
  obtain ⟨l1, t1, l2, t2, o1, o0⟩ := prep_c hca hcb hva hvb hr hq
  have hSB := SB_le (q := q) (dx := dx) (dy := dy) hva hvb
  have hPR := PR_le (r := r) (b := b) (q := q) (dx := dx) (dy := dy) hva
  have e1 : sX0_learn P σ b (nI r) 25 1 = nI q := by rw [o0 25 (by decide)]; exact h1
  unfold pX4_fillIn_t sX4_fillIn_t vX4_fillIn_t_6 vX4_fillIn_t_5 vX4_fillIn_t_4
  rw [hre, e1]
  generalize hT : sX4_turnBy P (sX0_learn P σ b (nI r)) a (nI q) = T at t2 l2 o1
  have e2 : T 25 2 = zI dx := by rw [o1 25 (by decide)]; exact h2
  have e3 : T 25 3 = zI dy := by rw [o1 25 (by decide)]; exact h3
  rw [e2, e3]
  obtain ⟨s1, s2, s3, s4, s5⟩ := shift_c (pC_off hca o1 (by decide)) (pC_off hcb o1 (by decide)) hva hvb hr l2 t2 hdx hdy
  generalize sX4_shiftBy P T a b (zI dx) (zI dy) = υ at s2 s3 s4 s5
  obtain ⟨m1, m2, m3⟩ := most_c (M := mayB A r a b q dx dy) (n := aN A a) (first := 0) (F := fun _ => true) (σ := υ) hNa (Nat.zero_le _) s2.1 s2.2.1
  rw [nI_0, ← msk_all] at m1 m2 m3
  have eP : PR A r a b q dx dy = mst (mayB A r a b q dx dy) 0 (aN A a) (fun _ => true) := rfl
  rw [m2]
  generalize sX5_most υ 0 4095 = ω at m3
  rw [← eP]
  have w10 : ω 10 = υ 10 := m3.1 10 (by decide)
  have b1 := bw_c (σ := zu ω 25 (zu (ω 25) 4 (nI (PR A r a b q dx dy)))) (s := SB A a b q dx dy) (p := PR A r a b q dx dy) (by rw [zu_ne _ _ (by decide), w10]; exact s2.2.2.2) (by omega) (by omega)
  rw [zu_self (f := ω 25) (i := 4), b1.1]
  have z1 : zu (zu (ω 25) 4 (nI (PR A r a b q dx dy))) 5 (nI (bw (SB A a b q dx dy) (PR A r a b q dx dy))) 4 = nI (PR A r a b q dx dy) := by rw [zu_ne _ _ (by decide), zu_self]
  rw [z1]
  have b2' := bw_c (σ := zu ω 25 (zu (zu (ω 25) 4 (nI (PR A r a b q dx dy))) 5 (nI (bw (SB A a b q dx dy) (PR A r a b q dx dy))))) (s := SB A a b q dx dy) (p := PR A r a b q dx dy) (by rw [zu_ne _ _ (by decide), w10]; exact s2.2.2.2) (by omega) (by omega)
  rw [b2'.2]
  have eSC : sw (SB A a b q dx dy) (PR A r a b q dx dy) = SC A r a b q dx dy := rfl
  rw [eSC, zu_self (f := ω), zu_ne (f := ω) _ (show 10 ≠ 25 by decide), w10, s2.2.2.1]
  generalize hG : zu (zu (zu (ω 25) 4 (nI (PR A r a b q dx dy))) 5 (nI (bw (SB A a b q dx dy) (PR A r a b q dx dy)))) 6 (zI (SC A r a b q dx dy)) = G
  have g4 : G 4 = nI (PR A r a b q dx dy) := by rw [← hG, zu_ne _ _ (by decide), zu_ne _ _ (by decide), zu_self]
  have g5 : G 5 = nI (bw (SB A a b q dx dy) (PR A r a b q dx dy)) := by rw [← hG, zu_ne _ _ (by decide), zu_self]
  have g6 : G 6 = zI (SC A r a b q dx dy) := by rw [← hG, zu_self]
  have gk : ∀ k, k < 4 → G k = σ 25 k := fun k hk => by
    rw [← hG, zu_ne _ _ (by omega), zu_ne _ _ (by omega), zu_ne _ _ (by omega), m3.1 25 (by decide), s5 25 (by decide), o1 25 (by decide)]
  have z4 : zu G 8 (nI (msk (fun i => decide (i < aN A a) && inA A a b q dx dy i))) 4 = nI (PR A r a b q dx dy) := by rw [zu_ne _ _ (by decide)]; exact g4
  rw [z4, zu_zu]
  have oW : off [10, 13, 14, 15, 16, 17, 18, 19, 20, 21, 25, 26] σ ω := off_tr (off_tr (off_sub o1 (by simp)) (off_sub s5 (by simp))) (off_sub m3.1 (by simp))
  obtain ⟨c1, c2, c3, c4⟩ := choose_t (M := mayB A r a b q dx dy) (n := aN A a) (σ := zu ω 25 (zu G 8 (nI (msk (fun i => decide (i < aN A a) && inA A a b q dx dy i))))) hNa (fun i hi => by rw [zu_ne _ _ (by decide), m3.1 17 (by decide)]; exact s2.1 i hi) (by rw [zu_ne _ _ (by decide), m3.2 1 (by decide)]; exact s2.2.1)
  rw [← eP] at c1 c2 c3 c4
  rw [c2]
  have q23 : sX5_choose_t (zu ω 25 (zu G 8 (nI (msk (fun i => decide (i < aN A a) && inA A a b q dx dy i))))) (nI (PR A r a b q dx dy)) 25 = zu G 8 (nI (msk (fun i => decide (i < aN A a) && inA A a b q dx dy i))) := by rw [c4.1 25 (by decide), zu_self]
  have q10 : sX5_choose_t (zu ω 25 (zu G 8 (nI (msk (fun i => decide (i < aN A a) && inA A a b q dx dy i))))) (nI (PR A r a b q dx dy)) 10 = υ 10 := by rw [c4.1 10 (by decide), zu_ne _ _ (by decide), w10]
  have qo := off_tr (off_zu oW (show 25 ∈ [10, 13, 14, 15, 16, 17, 18, 19, 20, 21, 25, 26] by simp) (zu G 8 (nI (msk (fun i => decide (i < aN A a) && inA A a b q dx dy i))))) (off_sub c4.1 (T := [10, 13, 14, 15, 16, 17, 18, 19, 20, 21, 25, 26]) (by simp))
  generalize sX5_choose_t (zu ω 25 (zu G 8 (nI (msk (fun i => decide (i < aN A a) && inA A a b q dx dy i))))) (nI (PR A r a b q dx dy)) = Z at c3 q23 q10 qo
  rw [q23]
  refine ⟨⟨l1, t1, s1, m1, c1⟩, ⟨?_, ?_, ?_, ?_, ?_, fun i hi => ?_⟩, fun k hk => ?_, fun k h8 h9 => ?_, off_zu qo (by simp) _⟩
  · rw [zu_self, zu_ne _ _ (by decide), zu_ne _ _ (by decide)]; exact g4
  · rw [zu_self, zu_ne _ _ (by decide), zu_ne _ _ (by decide)]; exact g5
  · rw [zu_self, zu_ne _ _ (by decide), zu_ne _ _ (by decide)]; exact g6
  · rw [zu_self, zu_self]
  · rw [zu_self, zu_ne _ _ (by decide), zu_self]
  · rw [zu_ne _ _ (by decide)]; exact c3 i hi
  · rw [zu_self, zu_ne _ _ (by omega), zu_ne _ _ (by omega)]; exact gk k hk
  · rw [zu_ne _ _ (by decide), q10, s3 k h8 h9, o1 10 (by decide)]
