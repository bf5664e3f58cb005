/-! ===== pure rows: the best laying, by the reference ===== -/
def kdx (x : Nat) : Int := ((x % 31 : Nat) : Int) - 15
def kdy (x : Nat) : Int := ((x / 31 % 31 : Nat) : Int) - 15
def ob (S : Nat → Int) (O : Nat → Prop) (τ : zc_N) : Prop := ((τ 32 26 = 0 ∧ ∀ m, m ∈ [22, 23, 24, 25] → τ 32 m = 0) ∧ ∀ k, ¬ O k) ∨ ∃ x, x < 3844 ∧ O x ∧ τ 32 26 = 1 ∧ τ 32 25 = zI (S x) ∧ τ 32 22 = nI (x / 961) ∧ τ 32 23 = zI (kdx x) ∧ τ 32 24 = zI (kdy x) ∧ ∀ k, O k → (S k < S x ∨ (S k = S x ∧ x ≤ k))
theorem ob_congr {S : Nat → Int} {O O' : Nat → Prop} {τ : zc_N} (h : ob S O τ) (e : ∀ k, O k ↔ O' k) : ob S O' τ := by
  rcases h with ⟨h1, h2⟩ | ⟨x, h1, h2, h3, h4, h5, h6, h7, h8⟩
  · exact Or.inl ⟨h1, fun k z => h2 k ((e k).mpr z)⟩
  · exact Or.inr ⟨x, h1, (e x).mp h2, h3, h4, h5, h6, h7, fun k z => h8 k ((e k).mpr z)⟩
def mF : List Nat := [20, 21, 22, 23, 24, 25, 26]
def MR (σ τ : zc_N) : Prop := off [32, 44, 45, 46, 47, 48, 49] σ τ ∧ ∀ m, m ∉ mF → τ 32 m = σ 32 m
theorem MR_tr {σ τ υ : zc_N} (h1 : MR σ τ) (h2 : MR τ υ) : MR σ υ := ⟨off_tr h1.1 h2.1, fun m hm => (h2.2 m hm).trans (h1.2 m hm)⟩
theorem ahead_z {q row col x : Nat} (hq : q < 4) (hr : row < 31) (hc : col < 31) (hx : x < 3844) : (if nI q < nI (x / 961) then (1 : Int32) else (if nI q = nI (x / 961) then (if zI ((row : Int) - 15) < zI (kdy x) then (1 : Int32) else (if zI ((row : Int) - 15) = zI (kdy x) then (if zI (kdx x) ≤ zI ((col : Int) - 15) then (0 : Int32) else (1 : Int32)) else (0 : Int32))) else (0 : Int32))) = b2 (decide ((q * 31 + row) * 31 + col < x)) := by
  have e1 : nI q < nI (x / 961) ↔ q < x / 961 := nI_ltI (by omega) (by omega)
  have e2 : nI q = nI (x / 961) ↔ q = x / 961 := nI_eq (by omega) (by omega)
  unfold kdx kdy
  simp only [e1, e2, zlt (a := (row : Int) - 15) (b := ((x / 31 % 31 : Nat) : Int) - 15) (by omega) (by omega), zeq (a := (row : Int) - 15) (b := ((x / 31 % 31 : Nat) : Int) - 15) (by omega) (by omega), zle (a := ((x % 31 : Nat) : Int) - 15) (b := (col : Int) - 15) (by omega) (by omega)]
  by_cases c1 : q < x / 961
  · rw [if_pos c1, decide_eq_true (by omega)]; rfl
  · rw [if_neg c1]
    by_cases c2 : q = x / 961
    · rw [if_pos c2]
      by_cases c3 : (row : Int) - 15 < ((x / 31 % 31 : Nat) : Int) - 15
      · rw [if_pos c3, decide_eq_true (by omega)]; rfl
      · rw [if_neg c3]
        by_cases c4 : (row : Int) - 15 = ((x / 31 % 31 : Nat) : Int) - 15
        · rw [if_pos c4]
          by_cases c5 : ((x % 31 : Nat) : Int) - 15 ≤ (col : Int) - 15
          · rw [if_pos c5, decide_eq_false (by omega)]; rfl
          · rw [if_neg c5, decide_eq_true (by omega)]; rfl
        · rw [if_neg c4, decide_eq_false (by omega)]; rfl
    · rw [if_neg c2, decide_eq_false (by omega)]; rfl
theorem offer_m {A : gA} {σ : zc_N} {r a b q row col : Nat} {O : Nat → Prop} (ha : a < 24) (hb : b < 24) (hr : r ≤ 3) (hq : q < 4) (hrow : row < 31) (hcol : col < 31) (hva : pV A a) (hvb : pV A b) (hma : pM A σ a) (hmb : pM A σ b) (hre : σ 32 12 = nI r) (ho : ob (Sk A r a b) O σ) :
    pX9_offer σ (nI a) (nI b) (nI q) (zI ((col : Int) - 15)) (zI ((row : Int) - 15)) ∧ ob (Sk A r a b) (fun m => O m ∨ m = (q * 31 + row) * 31 + col) (sX9_offer σ (nI a) (nI b) (nI q) (zI ((col : Int) - 15)) (zI ((row : Int) - 15))) ∧ MR σ (sX9_offer σ (nI a) (nI b) (nI q) (zI ((col : Int) - 15)) (zI ((row : Int) - 15))) := by
  obtain ⟨s1, s2, -, s4, s5, s6, s7⟩ := scoreOf_m (A := A) (σ := σ) (r := r) (q := q) (dx := (col : Int) - 15) (dy := (row : Int) - 15) ha hb hr hq hva hvb hma hmb hre (by omega) (by omega)
  have kd := kdiv (q := q) hrow hcol
  have hsk : Sk A r a b ((q * 31 + row) * 31 + col) = SC A r a b q ((col : Int) - 15) ((row : Int) - 15) := by unfold Sk; rw [kd.1, kd.2.1, kd.2.2]
  rw [← hsk] at s2
  have hkb := Sk_b (r := r) hva hvb ((q * 31 + row) * 31 + col)
  refine ⟨s1, ?_⟩
  unfold sX9_offer
  rw [s2]
  generalize sX9_scoreOf σ (nI a) (nI b) (nI q) (zI ((col : Int) - 15)) (zI ((row : Int) - 15)) = τ at s4 s5 s6 s7
  have keep : MR σ τ := ⟨s7, fun m hm => s6 m (fun e => hm (by rw [e]; decide)) (fun e => hm (by rw [e]; decide))⟩
  have new : ob (Sk A r a b) (fun m => m = (q * 31 + row) * 31 + col) (zu τ 32 (zu (zu (zu (zu (zu (τ 32) 26 1) 25 (zI (Sk A r a b ((q * 31 + row) * 31 + col)))) 22 (nI q)) 23 (zI ((col : Int) - 15))) 24 (zI ((row : Int) - 15)))) := by
    refine Or.inr ⟨(q * 31 + row) * 31 + col, by omega, rfl, ?_, ?_, ?_, ?_, ?_, fun k hk => by rw [hk]; exact Or.inr ⟨rfl, Nat.le_refl _⟩⟩
    · rw [zu_self, zu_ne _ _ (by decide), zu_ne _ _ (by decide), zu_ne _ _ (by decide), zu_ne _ _ (by decide), zu_self]
    · rw [zu_self, zu_ne _ _ (by decide), zu_ne _ _ (by decide), zu_ne _ _ (by decide), zu_self]
    · rw [zu_self, zu_ne _ _ (by decide), zu_ne _ _ (by decide), zu_self, kd.1]
    · unfold kdx
      rw [zu_self, zu_ne _ _ (by decide), zu_self, kd.2.2]
    · unfold kdy
      rw [zu_self, zu_self, kd.2.1]
  have newMR : MR σ (zu τ 32 (zu (zu (zu (zu (zu (τ 32) 26 1) 25 (zI (Sk A r a b ((q * 31 + row) * 31 + col)))) 22 (nI q)) 23 (zI ((col : Int) - 15))) 24 (zI ((row : Int) - 15)))) := by
    refine ⟨off_zu keep.1 (by simp) _, fun m hm => ?_⟩
    have h : ∀ j, j ∈ mF → m ≠ j := fun j hj e => hm (by rw [e]; exact hj)
    rw [zu_self, zu_ne _ _ (h 24 (by decide)), zu_ne _ _ (h 23 (by decide)), zu_ne _ _ (h 22 (by decide)), zu_ne _ _ (h 25 (by decide)), zu_ne _ _ (h 26 (by decide))]
    exact keep.2 m hm
  have upd : (∀ k, O k → (Sk A r a b k < Sk A r a b ((q * 31 + row) * 31 + col) ∨ (Sk A r a b k = Sk A r a b ((q * 31 + row) * 31 + col) ∧ (q * 31 + row) * 31 + col ≤ k))) → ob (Sk A r a b) (fun m => O m ∨ m = (q * 31 + row) * 31 + col) (zu τ 32 (zu (zu (zu (zu (zu (τ 32) 26 1) 25 (zI (Sk A r a b ((q * 31 + row) * 31 + col)))) 22 (nI q)) 23 (zI ((col : Int) - 15))) 24 (zI ((row : Int) - 15)))) := by
    intro hb
    rcases new with ⟨-, h⟩ | ⟨x, h1, h2, h3⟩
    · exact absurd rfl (h ((q * 31 + row) * 31 + col))
    · refine Or.inr ⟨x, h1, Or.inr h2, h3.1, h3.2.1, h3.2.2.1, h3.2.2.2.1, h3.2.2.2.2.1, fun k hk => ?_⟩
      rw [h2]
      rcases hk with hk | hk
      · exact hb k hk
      · rw [hk]; exact Or.inr ⟨rfl, Nat.le_refl _⟩
  rcases ho with ⟨h1, h2⟩ | ⟨x, h1, h2, h3, h4, h5, h6, h7, h8⟩
  · have t26 : τ 32 26 = 0 := by rw [s6 26 (by decide) (by decide)]; exact h1.1
    rw [if_pos t26]
    exact ⟨upd (fun k hk => absurd hk (h2 k)), newMR⟩
  · have t26 : ¬ τ 32 26 = 0 := by rw [s6 26 (by decide) (by decide), h3]; decide
    have t25 : τ 32 25 = zI (Sk A r a b x) := by rw [s6 25 (by decide) (by decide)]; exact h4
    have t22 : τ 32 22 = nI (x / 961) := by rw [s6 22 (by decide) (by decide)]; exact h5
    have t23 : τ 32 23 = zI (kdx x) := by rw [s6 23 (by decide) (by decide)]; exact h6
    have t24 : τ 32 24 = zI (kdy x) := by rw [s6 24 (by decide) (by decide)]; exact h7
    have hxb := Sk_b (r := r) hva hvb x
    have stay : (Sk A r a b ((q * 31 + row) * 31 + col) < Sk A r a b x ∨ (Sk A r a b ((q * 31 + row) * 31 + col) = Sk A r a b x ∧ x ≤ (q * 31 + row) * 31 + col)) → ob (Sk A r a b) (fun m => O m ∨ m = (q * 31 + row) * 31 + col) τ := fun hh =>
      Or.inr ⟨x, h1, Or.inl h2, by rw [s6 26 (by decide) (by decide)]; exact h3, t25, t22, t23, t24, fun k hk => by
        rcases hk with hk | hk
        · exact h8 k hk
        · rw [hk]; exact hh⟩
    rw [if_neg t26, t25]
    have e1 := zlt (a := Sk A r a b x) (b := Sk A r a b ((q * 31 + row) * 31 + col)) (by omega) (by omega)
    have e2 := zeq (a := Sk A r a b ((q * 31 + row) * 31 + col)) (b := Sk A r a b x) (by omega) (by omega)
    by_cases c1 : Sk A r a b x < Sk A r a b ((q * 31 + row) * 31 + col)
    · rw [if_pos (e1.mpr c1)]
      exact ⟨upd (fun k hk => by
        rcases h8 k hk with h | h
        · exact Or.inl (by omega)
        · exact Or.inl (by omega)), newMR⟩
    · rw [if_neg (fun z => c1 (e1.mp z))]
      by_cases c2 : Sk A r a b ((q * 31 + row) * 31 + col) = Sk A r a b x
      · rw [if_pos (e2.mpr c2), t22, t23, t24, ahead_z hq hrow hcol h1]
        by_cases c3 : (q * 31 + row) * 31 + col < x
        · rw [decide_eq_true c3, if_neg (show ¬ b2 true = 0 by decide)]
          exact ⟨upd (fun k hk => by
            rcases h8 k hk with h | h
            · exact Or.inl (by omega)
            · exact Or.inr (by omega)), newMR⟩
        · rw [decide_eq_false c3, if_pos (show b2 false = 0 from rfl)]
          exact ⟨stay (Or.inr ⟨c2, by omega⟩), keep⟩
      · rw [if_neg (fun z => c2 (e2.mp z))]
        exact ⟨stay (Or.inl (by omega)), keep⟩
theorem pM_MR {A : gA} {σ τ : zc_N} {p : Nat} (h : pM A σ p) (hm : MR σ τ) : pM A τ p := pM_off h hm.1 (by decide)
/-- what has been offered -/
def Off (A : gA) (a b q i j : Nat) (k : Nat) : Prop := ∃ q' i' j', (q' < q ∨ (q' = q ∧ (i' < i ∨ (i' = i ∧ j' < j)))) ∧ q' < 4 ∧ i' < aN A a ∧ j' < aN A b ∧ aK A a i' = aK A b j' ∧ k = (q' * 31 + (aY A b j' + 15 - tY q' (aX A a i') (aY A a i'))) * 31 + (aX A b j' + 15 - tX q' (aX A a i') (aY A a i'))
theorem m49 {A : gA} {σ : zc_N} {r a b q i j : Nat} (ha : a < 24) (hb : b < 24) (hr : r ≤ 3) (hq : q < 4) (hva : pV A a) (hvb : pV A b) (hi : i < aN A a) (hj : j < aN A b) (hma : pM A σ a) (hmb : pM A σ b) (hre : σ 32 12 = nI r) (ho : ob (Sk A r a b) (Off A a b q i j) σ) :
    ob (Sk A r a b) (Off A a b q i (j + 1)) (fX9_matchOf_49 (nI a) (nI b) (nI q) (nI i) j σ) ∧ MR σ (fX9_matchOf_49 (nI a) (nI b) (nI q) (nI i) j σ) ∧ qX9_matchOf_49 (nI a) (nI b) (nI q) (nI i) j σ := by
  have hNa := hva.1
  have hNb := hvb.1
  have wa := a12 ha (show i < 12 by omega)
  have wb := a12 hb (show j < 12 by omega)
  have va := hva.2.1 i hi
  have vb := hvb.2.1 j hj
  have tl := t_lt (q := q) va.1 va.2.1
  have ts := t_s q hq _ va.1 _ va.2.1
  have ex : nI (aX A b j) - nI (tX q (aX A a i) (aY A a i)) = zI (((aX A b j + 15 - tX q (aX A a i) (aY A a i) : Nat) : Int) - 15) := by
    rw [nz (by omega), nz (by omega), zI_sub]
    congr 1
    omega
  have ey : nI (aY A b j) - nI (tY q (aX A a i) (aY A a i)) = zI (((aY A b j + 15 - tY q (aX A a i) (aY A a i) : Nat) : Int) - 15) := by
    rw [nz (by omega), nz (by omega), zI_sub]
    congr 1
    omega
  have of := offer_m (A := A) (σ := σ) (r := r) (q := q) (row := aY A b j + 15 - tY q (aX A a i) (aY A a i)) (col := aX A b j + 15 - tX q (aX A a i) (aY A a i)) ha hb hr hq (by omega) (by omega) hva hvb hma hmb hre ho
  unfold fX9_matchOf_49 qX9_matchOf_49 vX9_matchOf_1
  rw [wa.1, wb.1, (hma.2.1 i hi).2.2, (hmb.2.1 j hj).2.2, (hma.2.1 i hi).1, (hma.2.1 i hi).2.1, (hmb.2.1 j hj).1, (hmb.2.1 j hj).2.1, ts.2.2.1, ts.2.2.2, ex, ey]
  refine ⟨?_, ?_, wa.2, wb.2, fun _ => ⟨wb.2, wa.2, wa.2, wb.2, wa.2, wa.2, of.1⟩, fun _ => trivial⟩
  · by_cases ek : aK A a i = aK A b j
    · rw [if_pos (by rw [ek])]
      refine ob_congr of.2.1 (fun k => ⟨fun h => ?_, fun h => ?_⟩)
      · rcases h with ⟨q', i', j', h1, h2⟩ | h
        · exact ⟨q', i', j', by omega, h2⟩
        · exact ⟨q, i, j, by omega, hq, hi, hj, ek, h⟩
      · obtain ⟨q', i', j', h1, h2, h3, h4, h5, h6⟩ := h
        by_cases e : q' = q ∧ i' = i ∧ j' = j
        · obtain ⟨e1, e2, e3⟩ := e
          rw [e1, e2, e3] at h6
          exact Or.inr h6
        · exact Or.inl ⟨q', i', j', by omega, h2, h3, h4, h5, h6⟩
    · rw [if_neg (fun z => ek ((nI_eq (by omega) (by omega)).mp z))]
      refine ob_congr ho (fun k => ⟨fun ⟨q', i', j', h1, h2⟩ => ⟨q', i', j', by omega, h2⟩, fun ⟨q', i', j', h1, h2⟩ => ⟨q', i', j', ?_, h2⟩⟩)
      by_cases e : q' = q ∧ i' = i ∧ j' = j
      · obtain ⟨e1, e2, e3⟩ := e
        have := h2.2.2.2.1
        rw [e2, e3] at this
        exact absurd this ek
      · omega
  · split
    · exact of.2.2
    · exact ⟨off_rf _ _, fun _ _ => rfl⟩
theorem offers_m {A : gA} {σ : zc_N} {r a b : Nat} (ha : a < 24) (hb : b < 24) (hr : r ≤ 3) (hva : pV A a) (hvb : pV A b) (hma : pM A σ a) (hmb : pM A σ b) (hre : σ 32 12 = nI r) (h0 : σ 32 26 = 0 ∧ ∀ m, m ∈ [22, 23, 24, 25] → σ 32 m = 0) :
    (∀ q, q < 4 → qX9_matchOf_27 (nI a) (nI b) q (zfor (fX9_matchOf_27 (nI a) (nI b)) q σ)) ∧ ob (Sk A r a b) (Off A a b 4 0 0) (zfor (fX9_matchOf_27 (nI a) (nI b)) 4 σ) ∧ MR σ (zfor (fX9_matchOf_27 (nI a) (nI b)) 4 σ) := by
  have hNa := hva.1
  have hNb := hvb.1
  have hac : (nI a).toNatClampNeg = a := nI_clamp (by omega)
  have hbc : (nI b).toNatClampNeg = b := nI_clamp (by omega)
  have va24 : vp_in (nI a) 24 := vp_in_nI ha (by decide)
  have vb24 : vp_in (nI b) 24 := vp_in_nI hb (by decide)
  have n12 : (12 : Nat) ∉ mF := by decide
  have k49 : ∀ q, q < 4 → ∀ i, i < aN A a → ∀ τ, MR σ τ → ob (Sk A r a b) (Off A a b q i 0) τ → ∀ j, j ≤ aN A b → (ob (Sk A r a b) (Off A a b q i j) (zfor (fX9_matchOf_49 (nI a) (nI b) (nI q) (nI i)) j τ) ∧ MR σ (zfor (fX9_matchOf_49 (nI a) (nI b) (nI q) (nI i)) j τ)) := by
    intro q hq i hi τ hm ho
    refine zfor_inv (fun j υ => ob (Sk A r a b) (Off A a b q i j) υ ∧ MR σ υ) _ (aN A b) τ ⟨ho, hm⟩ (fun j hj υ hu => ?_)
    have := m49 (σ := υ) ha hb hr hq hva hvb hi hj (pM_MR hma hu.2) (pM_MR hmb hu.2) (by rw [hu.2.2 12 n12]; exact hre) hu.1
    exact ⟨this.1, MR_tr hu.2 this.2.1⟩
  have k35 : ∀ q, q < 4 → ∀ τ, MR σ τ → ob (Sk A r a b) (Off A a b q 0 0) τ → ∀ i, i ≤ aN A a → (ob (Sk A r a b) (Off A a b q i 0) (zfor (fX9_matchOf_35 (nI a) (nI b) (nI q)) i τ) ∧ MR σ (zfor (fX9_matchOf_35 (nI a) (nI b) (nI q)) i τ)) := by
    intro q hq τ hm ho
    refine zfor_inv (fun i υ => ob (Sk A r a b) (Off A a b q i 0) υ ∧ MR σ υ) _ (aN A a) τ ⟨ho, hm⟩ (fun i hi υ hu => ?_)
    unfold fX9_matchOf_35
    rw [hbc, (pM_MR hmb hu.2).1, cl_n (a := aN A b) (by omega)]
    have := k49 q hq i hi υ hu.2 hu.1 (aN A b) (Nat.le_refl _)
    refine ⟨ob_congr this.1 (fun k => ⟨fun ⟨q', i', j', h1, h2⟩ => ⟨q', i', j', by omega, h2⟩, fun ⟨q', i', j', h1, h2⟩ => ⟨q', i', j', ?_, h2⟩⟩), this.2⟩
    have := h2.2.2.1
    omega
  have k27 := zfor_inv (fun q υ => ob (Sk A r a b) (Off A a b q 0 0) υ ∧ MR σ υ) (fX9_matchOf_27 (nI a) (nI b)) 4 σ ⟨Or.inl ⟨h0, fun k ⟨q', i', j', h1, _⟩ => by omega⟩, off_rf _ _, fun _ _ => rfl⟩ (fun q hq υ hu => by
    unfold fX9_matchOf_27
    rw [hac, (pM_MR hma hu.2).1, cl_n (a := aN A a) (by omega)]
    have := k35 q hq υ hu.2 hu.1 (aN A a) (Nat.le_refl _)
    refine ⟨ob_congr this.1 (fun k => ⟨fun ⟨q', i', j', h1, h2⟩ => ⟨q', i', j', by omega, h2⟩, fun ⟨q', i', j', h1, h2⟩ => ⟨q', i', j', ?_, h2⟩⟩), this.2⟩
    have := h2.2.1
    omega)
  refine ⟨fun q hq => ?_, k27 4 (Nat.le_refl _)⟩
  have u := k27 q (by omega)
  generalize zfor (fX9_matchOf_27 (nI a) (nI b)) q σ = υ at u
  unfold qX9_matchOf_27
  rw [hac, (pM_MR hma u.2).1, cl_n (a := aN A a) (by omega)]
  refine ⟨fun i hi => ?_, fun _ _ => va24, fun i hi => ?_⟩
  · rw [(pM_MR hma (k35 q hq υ u.2 u.1 i hi).2).1]
    exact nI_leI (by omega) (by omega)
  · have w := k35 q hq υ u.2 u.1 i (by omega)
    generalize zfor (fX9_matchOf_35 (nI a) (nI b) (nI q)) i υ = ω at w
    unfold qX9_matchOf_35
    rw [hbc, (pM_MR hmb w.2).1, cl_n (a := aN A b) (by omega)]
    refine ⟨fun j hj => ?_, fun _ _ => vb24, fun j hj => ?_⟩
    · rw [(pM_MR hmb (k49 q hq i hi ω w.2 w.1 j hj).2).1]
      exact nI_leI (by omega) (by omega)
    · have z := k49 q hq i hi ω w.2 w.1 j (by omega)
      exact (m49 ha hb hr hq hva hvb hi hj (pM_MR hma z.2) (pM_MR hmb z.2) (by rw [z.2.2 12 n12]; exact hre) z.1).2.2
theorem Off_L {A : gA} {a b : Nat} (hva : pV A a) (hvb : pV A b) (k : Nat) : Off A a b 4 0 0 k ↔ (k < 3844 ∧ Lk A a b k = true) := by
  constructor
  · rintro ⟨q', i', j', h1, h2, h3, h4, h5, h6⟩
    have va := hva.2.1 i' h3
    have vb := hvb.2.1 j' h4
    have tl := t_lt (q := q') va.1 va.2.1
    have kd := kdiv (q := q') (row := aY A b j' + 15 - tY q' (aX A a i') (aY A a i')) (col := aX A b j' + 15 - tX q' (aX A a i') (aY A a i')) (by omega) (by omega)
    refine ⟨by omega, ?_⟩
    unfold Lk
    rw [h6, kd.1, kd.2.1, kd.2.2]
    exact cdec_t ⟨i', j', h3, h4, h5, by omega, by omega⟩
  · rintro ⟨h1, h2⟩
    unfold Lk at h2
    obtain ⟨i, j, o1, o2, o3, o4, o5⟩ := cdec_of h2
    have va := hva.2.1 i o1
    have tl := t_lt (q := k / 961) va.1 va.2.1
    refine ⟨k / 961, i, j, by omega, by omega, o1, o2, o3, ?_⟩
    generalize tX (k / 961) (aX A a i) (aY A a i) = tx at o4 tl ⊢
    generalize tY (k / 961) (aX A a i) (aY A a i) = ty at o5 tl ⊢
    omega
theorem ob_bst {A : gA} {r a b : Nat} {τ : zc_N} (hva : pV A a) (hvb : pV A b) (h : ob (Sk A r a b) (Off A a b 4 0 0) τ) :
    (bst (Lk A a b) (Sk A r a b) 3844 = 9999 ∧ τ 32 26 = 0 ∧ ∀ m, m ∈ [22, 23, 24, 25] → τ 32 m = 0) ∨ (bst (Lk A a b) (Sk A r a b) 3844 < 3844 ∧ τ 32 26 = 1 ∧ τ 32 25 = zI (Sk A r a b (bst (Lk A a b) (Sk A r a b) 3844)) ∧ τ 32 22 = nI (bst (Lk A a b) (Sk A r a b) 3844 / 961) ∧ τ 32 23 = zI (kdx (bst (Lk A a b) (Sk A r a b) 3844)) ∧ τ 32 24 = zI (kdy (bst (Lk A a b) (Sk A r a b) 3844))) := by
  have hb := bst_s (Lk A a b) (Sk A r a b) 3844 (Nat.le_refl _)
  generalize bst (Lk A a b) (Sk A r a b) 3844 = y at hb
  rcases h with ⟨h1, h2⟩ | ⟨x, h1, h2, h3, h4, h5, h6, h7, h8⟩
  · rcases hb with ⟨b1, b2⟩ | ⟨b1, b2, b3⟩
    · exact Or.inl ⟨b1, h1⟩
    · exact absurd ((Off_L hva hvb y).mpr ⟨b1, b2⟩) (h2 y)
  · have hx := (Off_L hva hvb x).mp h2
    rcases hb with ⟨b1, b2⟩ | ⟨b1, b2, b3⟩
    · rw [b2 x hx.1] at hx; cases hx.2
    · have e1 := b3 x hx.1 hx.2
      have e2 := h8 y ((Off_L hva hvb y).mpr ⟨b1, b2⟩)
      have : x = y := by omega
      subst this
      exact Or.inr ⟨b1, h3, h4, h5, h6, h7⟩
