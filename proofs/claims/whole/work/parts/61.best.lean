/-! ===== pure rows: the search through all layings, by the class ===== -/
def sO : List Nat := [10, 13, 14, 15, 16, 17, 18, 19, 20, 21, 22]
/-- the state while layings by turn q are searched -/
def SR (A : gA) (r a b q : Nat) (σ τ : zc_N) : Prop := off sO σ τ ∧ (∀ k, k ≠ 8 → k ≠ 9 → τ 10 k = σ 10 k) ∧ learned A r b (aN A b) τ ∧ turned A a q τ ∧ ∀ row, row < 31 → τ 22 row = nI (mk31 (fun col => Lk A a b ((q * 31 + row) * 31 + col)))
theorem SR_sub {A : gA} {r a b q : Nat} {σ τ υ : zc_N} (h : SR A r a b q σ τ) (ho : off [10, 16, 17, 18] τ υ) (h10 : ∀ k, k ≠ 8 → k ≠ 9 → υ 10 k = τ 10 k) : SR A r a b q σ υ := by
  obtain ⟨h1, h2, h3, h4, h5⟩ := h
  refine ⟨off_tr h1 (off_sub ho (by decide)), fun k h8 h9 => (h10 k h8 h9).trans (h2 k h8 h9), ?_, ?_, ?_⟩
  · unfold learned
    rw [ho 13 (by decide), ho 14 (by decide), ho 15 (by decide)]
    exact h3
  · unfold turned
    rw [ho 19 (by decide), ho 20 (by decide), ho 21 (by decide)]
    exact h4
  · rw [ho 22 (by decide)]
    exact h5
theorem shf {c : Nat} (h : c < 31) : (nI c - (16 : Int32)) + (1 : Int32) = zI ((c : Int) - 15) := by
  rw [i16, i1, nz (n := c) (by omega), nz (n := 16) (by decide), nz (n := 1) (by decide), zI_sub, zI_add]
  congr 1
  omega
theorem pack_z {s : Int} {q row col : Nat} (hs : -1000 ≤ s ∧ s ≤ 1000) (hq : q < 4) (hr : row < 31) (hc : col < 31) : rX4_pack (zI s) (nI q) (nI row) (nI col) = zI ((s + 1000) * 3844 + ((q * 31 + row) * 31 + col : Nat)) := by
  unfold rX4_pack
  rw [show (-1000 : Int32) = zI (-1000) from rfl, show (4 : Int32) = zI 4 from rfl, show (31 : Int32) = zI 31 from rfl, nz (n := q) (by omega), nz (n := row) (by omega), nz (n := col) (by omega), zI_sub, zI_mul, zI_add, zI_mul, zI_add, zI_mul, zI_add]
  congr 1
  omega
theorem bst_1 (L : Nat → Bool) (S : Nat → Int) (k : Nat) : bst L S (k + 1) = bstf L S k (bst L S k) := rfl
theorem kdiv {q row col : Nat} (hr : row < 31) (hc : col < 31) : ((q * 31 + row) * 31 + col) / 961 = q ∧ ((q * 31 + row) * 31 + col) / 31 % 31 = row ∧ ((q * 31 + row) * 31 + col) % 31 = col := by omega
theorem Sk_b {A : gA} {r a b : Nat} (hva : pV A a) (hvb : pV A b) (k : Nat) : -72 ≤ Sk A r a b k ∧ Sk A r a b k ≤ 120 := by
  unfold Sk SC
  exact sw_b (SB_le hva hvb) (PR_le hva)
theorem s54 {P : zp} {A : gA} {σ τ : zc_N} {r a b q row t : Nat} (hca : pC P A σ a) (hcb : pC P A σ b) (hva : pV A a) (hvb : pV A b) (hr : r < 4) (hq : q < 4) (hrow : row < 31) (ht : t < 31) (hS : SR A r a b q σ τ) :
    (∃ υ, fX4_search_54 P a b (nI q) (nI row) (bI (Sk A r a b) (bst (Lk A a b) (Sk A r a b) ((q * 31 + row) * 31 + t)), gI (Sk A r a b) (bst (Lk A a b) (Sk A r a b) ((q * 31 + row) * 31 + t)), nI t, τ) = (bI (Sk A r a b) (bst (Lk A a b) (Sk A r a b) ((q * 31 + row) * 31 + (t + 1))), gI (Sk A r a b) (bst (Lk A a b) (Sk A r a b) ((q * 31 + row) * 31 + (t + 1))), nI (t + 1), υ) ∧ SR A r a b q σ υ) ∧
    qX4_search_54 P a b (nI row) (bI (Sk A r a b) (bst (Lk A a b) (Sk A r a b) ((q * 31 + row) * 31 + t)), gI (Sk A r a b) (bst (Lk A a b) (Sk A r a b) ((q * 31 + row) * 31 + t)), nI t, τ) := by
  have hk : (q * 31 + row) * 31 + t < 3844 := by omega
  have hx := bst_s (Lk A a b) (Sk A r a b) ((q * 31 + row) * 31 + t) (by omega)
  have e1 : bst (Lk A a b) (Sk A r a b) ((q * 31 + row) * 31 + (t + 1)) = bstf (Lk A a b) (Sk A r a b) ((q * 31 + row) * 31 + t) (bst (Lk A a b) (Sk A r a b) ((q * 31 + row) * 31 + t)) := rfl
  rw [e1]
  generalize bst (Lk A a b) (Sk A r a b) ((q * 31 + row) * 31 + t) = x at hx
  have kd := kdiv (q := q) hrow ht
  have hsk : Sk A r a b ((q * 31 + row) * 31 + t) = SC A r a b q ((t : Int) - 15) ((row : Int) - 15) := by unfold Sk; rw [kd.1, kd.2.1, kd.2.2]
  have hSb := Sk_b (r := r) hva hvb ((q * 31 + row) * 31 + t)
  have hxb := Sk_b (r := r) hva hvb x
  have hd1 : -30 ≤ (t : Int) - 15 ∧ (t : Int) - 15 ≤ 30 := by omega
  have hd2 : -30 ≤ (row : Int) - 15 ∧ (row : Int) - 15 ≤ 30 := by omega
  have hNa := hva.1
  obtain ⟨s1, s2, s3, s4, s5⟩ := shift_c (pC_off hca hS.1 (by decide)) (pC_off hcb hS.1 (by decide)) hva hvb hr hS.2.2.1 hS.2.2.2.1 hd1 hd2
  have hSB := SB_le (q := q) (dx := (t : Int) - 15) (dy := (row : Int) - 15) hva hvb
  have hPR := PR_le (r := r) (b := b) (q := q) (dx := (t : Int) - 15) (dy := (row : Int) - 15) hva
  unfold fX4_search_54 qX4_search_54 vX4_search_2 vX4_search_1
  dsimp only
  have hbit : zshr (τ 22 row) (nI t) &&& (1 : Int32) = b2 (Lk A a b ((q * 31 + row) * 31 + t)) := by rw [hS.2.2.2.2 row hrow, bit_n (mk31_lt _) (by omega), mk31_bit, decide_eq_true ht, Bool.true_and]
  rw [shf ht, shf hrow, cl_n (a := row) (by omega), nI_1]
  simp only [hbit]
  generalize sX4_shiftBy P τ a b (zI ((t : Int) - 15)) (zI ((row : Int) - 15)) = υ at s2 s3 s4 s5
  obtain ⟨b1, bd, b2', b3, b4⟩ := bound_c (M := mayB A r a b q ((t : Int) - 15) ((row : Int) - 15)) (n := aN A a) (σ := υ) hNa s2.1 s2.2.1 (fun i j h => by unfold mayB at h; exact (of_decide_eq_true h).1)
  obtain ⟨m1, m2, m3⟩ := most_c (M := mayB A r a b q ((t : Int) - 15) ((row : Int) - 15)) (n := aN A a) (first := 0) (F := fun _ => true) (σ := υ) hNa (Nat.zero_le _) s2.1 s2.2.1
  rw [nI_0, ← msk_all] at m1 m2 m3
  have hb4 : PR A r a b q ((t : Int) - 15) ((row : Int) - 15) ≤ bd := b4
  have wb := (bw_c (σ := υ) (s := SB A a b q ((t : Int) - 15) ((row : Int) - 15)) (p := bd) s2.2.2.2 (by omega) (by omega)).2
  have wm := (bw_c (σ := sX5_most υ 0 4095) (s := SB A a b q ((t : Int) - 15) ((row : Int) - 15)) (p := PR A r a b q ((t : Int) - 15) ((row : Int) - 15)) (by rw [m3.1 10 (by decide)]; exact s2.2.2.2) (by omega) (by omega)).2
  have eP : PR A r a b q ((t : Int) - 15) ((row : Int) - 15) = mst (mayB A r a b q ((t : Int) - 15) ((row : Int) - 15)) 0 (aN A a) (fun _ => true) := rfl
  rw [m2, ← eP, wm, b3, wb]
  have eS : sw (SB A a b q ((t : Int) - 15) ((row : Int) - 15)) (PR A r a b q ((t : Int) - 15) ((row : Int) - 15)) = Sk A r a b ((q * 31 + row) * 31 + t) := hsk.symm
  rw [eS]
  have hmono : Sk A r a b ((q * 31 + row) * 31 + t) ≤ sw (SB A a b q ((t : Int) - 15) ((row : Int) - 15)) bd := by rw [← eS]; exact sw_mono hb4
  have hbb := sw_b hSB b2'
  generalize sw (SB A a b q ((t : Int) - 15) ((row : Int) - 15)) bd = sb at hmono hbb
  have pk := pack_z (s := Sk A r a b ((q * 31 + row) * 31 + t)) (by omega) hq hrow ht
  rw [pk]
  have SRu : SR A r a b q σ υ := SR_sub hS (off_sub s5 (by decide)) s3
  have SRm : SR A r a b q σ (sX5_most υ 0 4095) := SR_sub SRu (off_sub m3.1 (by decide)) (fun k _ _ => by rw [m3.1 10 (by decide)])
  have v31 : vp_in (nI row) 31 := vp_in_nI hrow (by decide)
  have gle : ∀ z : Int, -100 ≤ z ∧ z ≤ 200 → (zI z ≤ gI (Sk A r a b) x ↔ (x < 3844 ∧ z ≤ Sk A r a b x)) := by
    intro z hz
    unfold gI
    by_cases c : x < 3844
    · rw [if_pos c, zle (by omega) (by omega)]; simp [c]
    · rw [if_neg c, show (-1000 : Int32) = zI (-1000) from rfl, zle (by omega) (by omega)]
      simp [c]
      omega
  have g1 := gle sb (by omega)
  have g2 := gle (Sk A r a b ((q * 31 + row) * 31 + t)) (by omega)
  refine ⟨?_, fun _ => trivial, fun _ => ⟨v31, fun _ => trivial, fun _ => ⟨v31, fun _ => trivial, fun _ => ⟨s1, b1, fun _ => trivial, fun _ => m1⟩⟩⟩⟩
  cases hL : Lk A a b ((q * 31 + row) * 31 + t) with
  | false =>
    rw [if_pos (show b2 false = 0 from rfl), if_pos (show b2 false = 0 from rfl), if_pos (show b2 false = 0 from rfl)]
    have : bstf (Lk A a b) (Sk A r a b) ((q * 31 + row) * 31 + t) x = x := by unfold bstf; rw [hL]; rfl
    rw [this]
    exact ⟨τ, rfl, hS⟩
  | true =>
    have nt : ¬ b2 true = (0 : Int32) := by decide
    rw [if_neg nt, if_neg nt, if_neg nt]
    by_cases c1 : zI sb ≤ gI (Sk A r a b) x
    · rw [if_pos c1, if_pos c1, if_pos c1, if_pos c1, if_pos c1]
      obtain ⟨c2, c3⟩ := g1.mp c1
      have : bstf (Lk A a b) (Sk A r a b) ((q * 31 + row) * 31 + t) x = x := by
        unfold bstf
        rw [hL, if_pos rfl, if_pos c2, if_neg (by omega)]
      rw [this]
      exact ⟨υ, rfl, SRu⟩
    · rw [if_neg c1, if_neg c1, if_neg c1]
      by_cases c4 : zI (Sk A r a b ((q * 31 + row) * 31 + t)) ≤ gI (Sk A r a b) x
      · rw [if_pos c4, if_pos c4]
        obtain ⟨c2, c3⟩ := g2.mp c4
        have : bstf (Lk A a b) (Sk A r a b) ((q * 31 + row) * 31 + t) x = x := by
          unfold bstf
          rw [hL, if_pos rfl, if_pos c2, if_neg (by omega)]
        rw [this]
        exact ⟨_, rfl, SRm⟩
      · rw [if_neg c4, if_neg c4]
        have : bstf (Lk A a b) (Sk A r a b) ((q * 31 + row) * 31 + t) x = (q * 31 + row) * 31 + t := by
          unfold bstf
          rw [hL, if_pos rfl]
          by_cases c2 : x < 3844
          · rw [if_pos c2, if_pos (by
              have : ¬ (x < 3844 ∧ Sk A r a b ((q * 31 + row) * 31 + t) ≤ Sk A r a b x) := fun z => c4 (g2.mpr z)
              omega)]
          · rw [if_neg c2]
        rw [this]
        have eb : bI (Sk A r a b) ((q * 31 + row) * 31 + t) = zI ((Sk A r a b ((q * 31 + row) * 31 + t) + 1000) * 3844 + ((q * 31 + row) * 31 + t : Nat)) := if_pos hk
        have eg : gI (Sk A r a b) ((q * 31 + row) * 31 + t) = zI (Sk A r a b ((q * 31 + row) * 31 + t)) := if_pos hk
        rw [eb, eg]
        exact ⟨_, rfl, SRm⟩
theorem eS54 (P : zp) (a b : Nat) (l6 : Int32) (x : Int32 × Int32 × Int32 × zc_N) : eX4_search_54 P a b l6 x ↔ 31 ≤ x.2.2.1 ∨ zshr (x.2.2.2 22 l6.toNatClampNeg) x.2.2.1 = 0 := by
  unfold eX4_search_54
  simp only [and_true, and_false, or_false]
  by_cases c1 : (31 : Int32) ≤ x.2.2.1
  · simp [c1]
  · simp [c1]
theorem bst_stay (L : Nat → Bool) (S : Nat → Int) (k : Nat) : ∀ m, k ≤ m → (∀ j, k ≤ j → j < m → L j = false) → bst L S m = bst L S k
  | 0, h, _ => by rw [show k = 0 by omega]
  | m + 1, h, hL => by
    by_cases e : k = m + 1
    · rw [e]
    · rw [bst_1, bst_stay L S k m (by omega) (fun j h1 h2 => hL j h1 (by omega))]
      unfold bstf
      rw [hL m (by omega) (by omega)]
      rfl
theorem s44 {P : zp} {A : gA} {σ τ : zc_N} {r a b q row : Nat} (hca : pC P A σ a) (hcb : pC P A σ b) (hva : pV A a) (hvb : pV A b) (hr : r < 4) (hq : q < 4) (hrow : row < 31) (hS : SR A r a b q σ τ) :
    (∃ υ, fX4_search_44 P a b (nI q) row (bI (Sk A r a b) (bst (Lk A a b) (Sk A r a b) ((q * 31 + row) * 31)), gI (Sk A r a b) (bst (Lk A a b) (Sk A r a b) ((q * 31 + row) * 31)), τ) = (bI (Sk A r a b) (bst (Lk A a b) (Sk A r a b) ((q * 31 + (row + 1)) * 31)), gI (Sk A r a b) (bst (Lk A a b) (Sk A r a b) ((q * 31 + (row + 1)) * 31)), υ) ∧ SR A r a b q σ υ) ∧
    qX4_search_44 P a b (nI q) row (bI (Sk A r a b) (bst (Lk A a b) (Sk A r a b) ((q * 31 + row) * 31)), gI (Sk A r a b) (bst (Lk A a b) (Sk A r a b) ((q * 31 + row) * 31)), τ) := by
  have key : ∀ t, t ≤ 31 → ∃ υ, zit (fX4_search_54 P a b (nI q) (nI row)) t (bI (Sk A r a b) (bst (Lk A a b) (Sk A r a b) ((q * 31 + row) * 31)), gI (Sk A r a b) (bst (Lk A a b) (Sk A r a b) ((q * 31 + row) * 31)), (0 : Int32), τ) = (bI (Sk A r a b) (bst (Lk A a b) (Sk A r a b) ((q * 31 + row) * 31 + t)), gI (Sk A r a b) (bst (Lk A a b) (Sk A r a b) ((q * 31 + row) * 31 + t)), nI t, υ) ∧ SR A r a b q σ υ := by
    intro t
    induction t with
    | zero => intro _; exact ⟨τ, rfl, hS⟩
    | succ t ih =>
      intro ht
      obtain ⟨υ, e, h⟩ := ih (by omega)
      obtain ⟨⟨ω, e2, h2⟩, -⟩ := s54 (P := P) (row := row) hca hcb hva hvb hr hq hrow (show t < 31 by omega) h
      refine ⟨ω, ?_, h2⟩
      show fX4_search_54 P a b (nI q) (nI row) (zit (fX4_search_54 P a b (nI q) (nI row)) t _) = _
      rw [e, e2]
  have hE : ∀ t, t ≤ 31 → (eX4_search_54 P a b (nI row) (zit (fX4_search_54 P a b (nI q) (nI row)) t (bI (Sk A r a b) (bst (Lk A a b) (Sk A r a b) ((q * 31 + row) * 31)), gI (Sk A r a b) (bst (Lk A a b) (Sk A r a b) ((q * 31 + row) * 31)), (0 : Int32), τ)) ↔ 31 ≤ t ∨ ∀ j, t ≤ j → j < 31 → Lk A a b ((q * 31 + row) * 31 + j) = false) := by
    intro t ht
    obtain ⟨υ, e, h⟩ := key t ht
    rw [e, eS54]
    dsimp only
    rw [cl_n (by omega), h.2.2.2.2 row hrow, show (31 : Int32) = nI 31 from rfl, nI_leI (by decide) (by omega)]
    by_cases c : 31 ≤ t
    · simp [c]
    · rw [mk31_sh (by omega)]
  have hex : ∃ t, eX4_search_54 P a b (nI row) (zit (fX4_search_54 P a b (nI q) (nI row)) t (bI (Sk A r a b) (bst (Lk A a b) (Sk A r a b) ((q * 31 + row) * 31)), gI (Sk A r a b) (bst (Lk A a b) (Sk A r a b) ((q * 31 + row) * 31)), (0 : Int32), τ)) := ⟨31, (hE 31 (Nat.le_refl _)).mpr (Or.inl (Nat.le_refl _))⟩
  obtain ⟨w1, w2⟩ := zwn_spec hex
  unfold fX4_search_44 qX4_search_44 vX4_search_7
  dsimp only
  have hw : wX4_search_54 P a b (nI q) (nI row) (bI (Sk A r a b) (bst (Lk A a b) (Sk A r a b) ((q * 31 + row) * 31)), gI (Sk A r a b) (bst (Lk A a b) (Sk A r a b) ((q * 31 + row) * 31)), (0 : Int32), τ) = zit (fX4_search_54 P a b (nI q) (nI row)) (zwn (fun n_ => eX4_search_54 P a b (nI row) (zit (fX4_search_54 P a b (nI q) (nI row)) n_ (bI (Sk A r a b) (bst (Lk A a b) (Sk A r a b) ((q * 31 + row) * 31)), gI (Sk A r a b) (bst (Lk A a b) (Sk A r a b) ((q * 31 + row) * 31)), (0 : Int32), τ)))) (bI (Sk A r a b) (bst (Lk A a b) (Sk A r a b) ((q * 31 + row) * 31)), gI (Sk A r a b) (bst (Lk A a b) (Sk A r a b) ((q * 31 + row) * 31)), (0 : Int32), τ) := rfl
  rw [hw]
  generalize zwn (fun n_ => eX4_search_54 P a b (nI row) (zit (fX4_search_54 P a b (nI q) (nI row)) n_ (bI (Sk A r a b) (bst (Lk A a b) (Sk A r a b) ((q * 31 + row) * 31)), gI (Sk A r a b) (bst (Lk A a b) (Sk A r a b) ((q * 31 + row) * 31)), (0 : Int32), τ))) = N at w1 w2
  have hN : N ≤ 31 := by
    by_cases h : N ≤ 31
    · exact h
    · exact absurd ((hE 31 (Nat.le_refl _)).mpr (Or.inl (Nat.le_refl _))) (w2 31 (by omega))
  have hq54 : ∀ t, t ≤ N → qX4_search_54 P a b (nI row) (zit (fX4_search_54 P a b (nI q) (nI row)) t (bI (Sk A r a b) (bst (Lk A a b) (Sk A r a b) ((q * 31 + row) * 31)), gI (Sk A r a b) (bst (Lk A a b) (Sk A r a b) ((q * 31 + row) * 31)), (0 : Int32), τ)) := by
    intro t ht
    obtain ⟨υ, e, h⟩ := key t (by omega)
    rw [e]
    by_cases c : t < 31
    · exact (s54 (P := P) (row := row) hca hcb hva hvb hr hq hrow c h).2
    · refine ⟨fun _ => trivial, fun z => absurd ?_ z⟩
      show (31 : Int32) ≤ nI t
      rw [show (31 : Int32) = nI 31 from rfl]
      exact nI_le (by omega) (by omega)
  have qN := hq54 N (Nat.le_refl _)
  obtain ⟨υ, e, h⟩ := key N hN
  have eb : bst (Lk A a b) (Sk A r a b) ((q * 31 + (row + 1)) * 31) = bst (Lk A a b) (Sk A r a b) ((q * 31 + row) * 31 + N) := by
    refine bst_stay _ _ _ _ (by omega) (fun j h1 h2 => ?_)
    rcases (hE N hN).mp w1 with c | c
    · omega
    · have := c (j - (q * 31 + row) * 31) (by omega) (by omega)
      rw [show (q * 31 + row) * 31 + (j - (q * 31 + row) * 31) = j by omega] at this
      exact this
  refine ⟨⟨υ, ?_, h⟩, ⟨hex, fun t ht => hq54 t (by omega)⟩, ?_⟩
  · rw [e, eb]
  · rw [e] at qN ⊢
    unfold qX4_search_54 vX4_search_1 at qN
    dsimp only at qN ⊢
    exact ⟨fun _ => trivial, fun c1 => ⟨fun _ => trivial, fun c2 => ⟨fun _ => trivial, fun c3 => ((qN.2 c1).2.2 c2).2.2 c3⟩⟩⟩
theorem search_c {P : zp} {A : gA} {σ : zc_N} {r a b : Nat} (hca : pC P A σ a) (hcb : pC P A σ b) (hva : pV A a) (hvb : pV A b) (hr : r < 4) (hre : σ 10 0 = nI r) : pX4_search P σ a b ∧ rX4_search P σ a b = bI (Sk A r a b) (bst (Lk A a b) (Sk A r a b) 3844) ∧ off sO σ (sX4_search P σ a b) ∧ ∀ k, k ≠ 8 → k ≠ 9 → sX4_search P σ a b 10 k = σ 10 k := by
  obtain ⟨l1, l2, l3⟩ := learn_c hcb hvb hr
  have st : ∀ q, q < 4 → ∀ τ : zc_N, off sO σ τ → (∀ k, k ≠ 8 → k ≠ 9 → τ 10 k = σ 10 k) → learned A r b (aN A b) τ →
      ((∃ υ, fX4_search_22 P a b q (bI (Sk A r a b) (bst (Lk A a b) (Sk A r a b) (q * 961)), gI (Sk A r a b) (bst (Lk A a b) (Sk A r a b) (q * 961)), τ) = (bI (Sk A r a b) (bst (Lk A a b) (Sk A r a b) ((q + 1) * 961)), gI (Sk A r a b) (bst (Lk A a b) (Sk A r a b) ((q + 1) * 961)), υ) ∧ off sO σ υ ∧ (∀ k, k ≠ 8 → k ≠ 9 → υ 10 k = σ 10 k) ∧ learned A r b (aN A b) υ) ∧
       qX4_search_22 P a b q (bI (Sk A r a b) (bst (Lk A a b) (Sk A r a b) (q * 961)), gI (Sk A r a b) (bst (Lk A a b) (Sk A r a b) (q * 961)), τ)) := by
    intro q hq τ h1 h2 h3
    obtain ⟨t1, t2, t3⟩ := turn_c (pC_off hca h1 (by decide)) hva hq
    have oT : off sO σ (sX4_turnBy P τ a (nI q)) := off_tr h1 (off_sub t3 (by decide))
    obtain ⟨m1, m2, m3⟩ := marks_c (pC_off hca oT (by decide)) (pC_off hcb oT (by decide)) hva hvb t2
    have S0 : SR A r a b q σ (sX4_markLandings P (sX4_turnBy P τ a (nI q)) a b) := by
      refine ⟨off_tr oT (off_sub m3 (by decide)), fun k h8 h9 => by rw [m3 10 (by decide), t3 10 (by decide)]; exact h2 k h8 h9, ?_, ?_, fun row hrow => ?_⟩
      · unfold learned
        rw [m3 13 (by decide), m3 14 (by decide), m3 15 (by decide), t3 13 (by decide), t3 14 (by decide), t3 15 (by decide)]
        exact h3
      · unfold turned
        rw [m3 19 (by decide), m3 20 (by decide), m3 21 (by decide)]
        exact t2
      · rw [m2 row hrow]
        congr 1
        refine mk31_congr (fun c hc => ?_)
        have kd := kdiv (q := q) hrow hc
        unfold Lk
        rw [kd.1, kd.2.1, kd.2.2]
    have key : ∀ row, row ≤ 31 → ∃ υ, zfor (fX4_search_44 P a b (nI q)) row (bI (Sk A r a b) (bst (Lk A a b) (Sk A r a b) (q * 961)), gI (Sk A r a b) (bst (Lk A a b) (Sk A r a b) (q * 961)), sX4_markLandings P (sX4_turnBy P τ a (nI q)) a b) = (bI (Sk A r a b) (bst (Lk A a b) (Sk A r a b) ((q * 31 + row) * 31)), gI (Sk A r a b) (bst (Lk A a b) (Sk A r a b) ((q * 31 + row) * 31)), υ) ∧ SR A r a b q σ υ := by
      intro row
      induction row with
      | zero =>
        intro _
        rw [show (q * 31 + 0) * 31 = q * 961 by omega]
        exact ⟨_, rfl, S0⟩
      | succ row ih =>
        intro hrow
        obtain ⟨υ, e, h⟩ := ih (by omega)
        obtain ⟨⟨ω, e2, h4⟩, -⟩ := s44 (P := P) hca hcb hva hvb hr hq (show row < 31 by omega) h
        refine ⟨ω, ?_, h4⟩
        show fX4_search_44 P a b (nI q) row (zfor (fX4_search_44 P a b (nI q)) row _) = _
        rw [e, e2]
    have hqq : ∀ row, row < 31 → qX4_search_44 P a b (nI q) row (zfor (fX4_search_44 P a b (nI q)) row (bI (Sk A r a b) (bst (Lk A a b) (Sk A r a b) (q * 961)), gI (Sk A r a b) (bst (Lk A a b) (Sk A r a b) (q * 961)), sX4_markLandings P (sX4_turnBy P τ a (nI q)) a b)) := fun row hrow => by
      obtain ⟨υ, e, h⟩ := key row (by omega)
      rw [e]
      exact (s44 (P := P) hca hcb hva hvb hr hq hrow h).2
    obtain ⟨υ, e, h⟩ := key 31 (Nat.le_refl _)
    refine ⟨⟨υ, ?_, h.1, h.2.1, h.2.2.1⟩, t1, m1, hqq⟩
    unfold fX4_search_22 vX4_search_12
    dsimp only
    rw [e, show (q * 31 + 31) * 31 = (q + 1) * 961 by omega]
  have key : ∀ q, q ≤ 4 → ∃ υ, zfor (fX4_search_22 P a b) q ((1 : Int32), (-1000 : Int32), sX0_learn P σ b (nI r)) = (bI (Sk A r a b) (bst (Lk A a b) (Sk A r a b) (q * 961)), gI (Sk A r a b) (bst (Lk A a b) (Sk A r a b) (q * 961)), υ) ∧ off sO σ υ ∧ (∀ k, k ≠ 8 → k ≠ 9 → υ 10 k = σ 10 k) ∧ learned A r b (aN A b) υ := by
    intro q
    induction q with
    | zero => intro _; exact ⟨_, rfl, off_sub l3 (by decide), fun k _ _ => by rw [l3 10 (by decide)], l2⟩
    | succ q ih =>
      intro hq
      obtain ⟨υ, e, h1, h2, h3⟩ := ih (by omega)
      obtain ⟨⟨ω, e2, h4⟩, -⟩ := st q (by omega) υ h1 h2 h3
      refine ⟨ω, ?_, h4⟩
      show fX4_search_22 P a b q (zfor (fX4_search_22 P a b) q _) = _
      rw [e, e2]
  unfold pX4_search rX4_search sX4_search vX4_search_13
  rw [hre]
  obtain ⟨υ, e, h1, h2, h3⟩ := key 4 (Nat.le_refl _)
  rw [e]
  refine ⟨⟨l1, fun q hq => ?_⟩, rfl, h1, h2⟩
  obtain ⟨υ, e, h1, h2, h3⟩ := key q (by omega)
  rw [e]
  exact (st q hq υ h1 h2 h3).2
