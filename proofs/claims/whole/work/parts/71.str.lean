/-! ===== strangers ===== -/
def cKp (P : zp) (A : gA) (σ τ : zc_N) : Prop := off sK σ τ ∧ (∀ k, k ≠ 8 → k ≠ 9 → τ 10 k = σ 10 k) ∧ iK A P.2.1 τ
def mKp (σ τ : zc_N) : Prop := off mO σ τ ∧ ∀ m, m ∉ mF → τ 32 m = σ 32 m
theorem mKp_rf (σ : zc_N) : mKp σ σ := ⟨off_rf _ _, fun _ _ => rfl⟩
theorem Inv_cKp {P : zp} {A : gA} {σ τ : zc_N} (h : Inv P A σ) (hk : cKp P A σ τ) : Inv P A τ := Inv_sub h hk.1 (by decide) (hk.2.1 0 (by decide) (by decide)) (fun k _ => by rw [hk.1 32 (by decide)]) hk.2.2
theorem Inv_mKp {P : zp} {A : gA} {σ τ : zc_N} (h : Inv P A σ) (hk : mKp σ τ) : Inv P A τ := by
  have hK := h.2.2.2.2.2.1
  refine Inv_sub h hk.1 (by decide) (by rw [hk.1 10 (by decide)]) (fun k hk2 => hk.2 k ?_) (iK_11 hK (hk.1 11 (by decide)))
  have : ∀ k, k ∈ [11, 12, 30, 36, 37] → k ∉ mF := by decide
  exact this k hk2
theorem sc_step {P : zp} {A : gA} {σ τ : zc_N} {r a b : Nat} (h : Inv P A σ) (hr : r < 4) (h10 : σ 10 0 = nI r) (hk : cKp P A σ τ) (ha : a < P.2.1) (hb : b < P.2.1) : pX4_scoreOf P τ a b ∧ rX4_scoreOf P τ a b = zI (mval A r a b) ∧ cKp P A σ (sX4_scoreOf P τ a b) := by
  obtain ⟨hn, h3, h11, p2, p3⟩ := iP_parts h
  obtain ⟨s1, s2, s3, s4, s5⟩ := scoreOf_c (P := P) (A := A) (σ := τ) (r := r) (n := P.2.1) hn ha hb (pC_off (p2 a ha).1 hk.1 (by decide)) (pC_off (p2 b hb).1 hk.1 (by decide)) (p2 a ha).2.2 (p2 b hb).2.2 hr (by rw [hk.2.1 0 (by decide) (by decide)]; exact h10) hk.2.2
  exact ⟨s1, s2, off_tr hk.1 s4, fun k h8 h9 => (s5 k h8 h9).trans (hk.2.1 k h8 h9), s3⟩
theorem mo_step {P : zp} {A : gA} {σ τ : zc_N} {r a b : Nat} (h : Inv P A σ) (hr : r < 4) (h12 : σ 32 12 = nI r) (hk : mKp σ τ) (ha : a < P.2.1) (hb : b < P.2.1) : pX9_matchOf τ (nI a) (nI b) ∧ rX9_matchOf τ (nI a) (nI b) = zI (mval A r a b) ∧ mKp σ (sX9_matchOf τ (nI a) (nI b)) ∧ mres A r a b (sX9_matchOf τ (nI a) (nI b)) := by
  obtain ⟨hn, h3, h11, p2, p3⟩ := iP_parts h
  obtain ⟨s1, s2, s3, s4, s5⟩ := matchOf_m (A := A) (σ := τ) (r := r) (show a < 24 by omega) (show b < 24 by omega) (show r ≤ 3 by omega) (p2 a ha).2.2 (p2 b hb).2.2 (pM_off (p2 a ha).2.1 hk.1 (by decide)) (pM_off (p2 b hb).2.1 hk.1 (by decide)) (by rw [hk.2 12 (by decide)]; exact h12)
  exact ⟨s1, s2, ⟨off_tr hk.1 s4, fun m hm => (s5 m hm).trans (hk.2 m hm)⟩, s3⟩
noncomputable def adS (A : gA) (σ : zc_N) (r : Nat) (s w : Int32) (k m : Nat) : Bool := cdec (σ 42 k ≠ -1 ∧ σ 42 m ≠ -1 ∧ σ 42 k ≠ σ 42 m ∧ (w = 1 ∨ ¬ zI (mval A r k m) < s))
noncomputable def stS (A : gA) (σ : zc_N) (r : Nat) (s w : Int32) (k : Nat) (i : Nat) (x : Nat) : Nat := x + (adS A σ r s w k (k + 1 + i)).toNat
noncomputable def toS (A : gA) (σ : zc_N) (r : Nat) (s w : Int32) (n : Nat) (k : Nat) (x : Nat) : Nat := zfor (stS A σ r s w k) (n - (k + 1)) x
theorem t42 {P : zp} {A : gA} {σ : zc_N} (h : Inv P A σ) {p : Nat} (hp : p < P.2.1) : σ 42 p < 0 ↔ σ 42 p = -1 := by
  obtain ⟨hn, h3, h11, p2, p3⟩ := iP_parts h
  rcases (p3 p hp).2.2 with ⟨z1, -⟩ | ⟨t, -, z1, -, z3, -⟩
  · rw [z1]; exact ⟨fun _ => rfl, fun _ => by decide⟩
  · rw [z3]
    refine ⟨fun z => absurd z (nI_pos (by omega)), fun z => absurd ((hI_m1 t).mp (by rw [hI_lt (by omega)]; exact z)) (by omega)⟩
theorem s31_c {P : zp} {A : gA} {σ τ : zc_N} {r k i x : Nat} {s w : Int32} (h : Inv P A σ) (hr : r < 4) (h10 : σ 10 0 = nI r) (hk : cKp P A σ τ) (hm : k + 1 + i < P.2.1) : (fX8_strangers_31 P s w (nI k) (nI k + 1) i (nI x, τ)).1 = nI (stS A σ r s w k i x) ∧ cKp P A σ (fX8_strangers_31 P s w (nI k) (nI k + 1) i (nI x, τ)).2 ∧ qX8_strangers_31 P w (nI k) (nI k + 1) i (nI x, τ) := by
  obtain ⟨hn, h3, h11, p2, p3⟩ := iP_parts h
  obtain ⟨c1, c2, c3⟩ := sc_step (a := k) (b := k + 1 + i) h hr h10 hk (by omega) hm
  have tk : τ (pO k) 3 = σ 42 k := by
    have := (iP_parts (Inv_cKp h hk)).2.2.2.2 k (by omega)
    rw [this.1, hk.1 42 (by decide)]
  have tm : τ (pO (k + 1 + i)) 3 = σ 42 (k + 1 + i) := by
    have := (iP_parts (Inv_cKp h hk)).2.2.2.2 (k + 1 + i) hm
    rw [this.1, hk.1 42 (by decide)]
  have v1 : vp_in (nI k) 24 ∧ (nI k).toNatClampNeg < P.2.1 := ⟨vp_in_nI (by omega) (by decide), by rw [cl_n (by omega)]; omega⟩
  have v2 : vp_in (nI (k + 1 + i)) 24 ∧ (nI (k + 1 + i)).toNatClampNeg < P.2.1 := ⟨vp_in_nI (by omega) (by decide), by rw [cl_n (by omega)]; exact hm⟩
  unfold fX8_strangers_31 qX8_strangers_31 stS
  dsimp only
  rw [nI_1, nI_add, cl_n (a := k) (by omega), cl_n (a := k + 1 + i) (by omega), c2]
  have ea : rX8_areStrangers τ k (k + 1 + i) = if σ 42 k = -1 then 0 else if σ 42 (k + 1 + i) = -1 then 0 else if σ 42 k = σ 42 (k + 1 + i) then 0 else 1 := by
    unfold rX8_areStrangers
    rw [tk, tm]
  rw [cl_n (a := k) (by omega)] at v1
  rw [cl_n (a := k + 1 + i) (by omega)] at v2
  refine ⟨?_, ?_, v1, v2, fun _ => trivial, fun _ => ⟨fun _ => trivial, fun _ => ⟨v1, v2, c1⟩⟩⟩
  · rw [ea]
    unfold adS
    by_cases d1 : σ 42 k = -1
    · rw [if_pos d1, if_pos rfl, cdec_f (fun z => z.1 d1)]; rfl
    · rw [if_neg d1]
      by_cases d2 : σ 42 (k + 1 + i) = -1
      · rw [if_pos d2, if_pos rfl, cdec_f (fun z => z.2.1 d2)]; rfl
      · rw [if_neg d2]
        by_cases d3 : σ 42 k = σ 42 (k + 1 + i)
        · rw [if_pos d3, if_pos rfl, cdec_f (fun z => z.2.2.1 d3)]; rfl
        · rw [if_neg d3, if_neg n10]
          by_cases d4 : w = 1
          · rw [if_pos d4, cdec_t ⟨d1, d2, d3, Or.inl d4⟩, nI_1]; rfl
          · rw [if_neg d4]
            by_cases d5 : zI (mval A r k (k + 1 + i)) < s
            · rw [if_pos d5, cdec_f (fun z => z.2.2.2.elim d4 (fun y => y d5))]; rfl
            · rw [if_neg d5, cdec_t ⟨d1, d2, d3, Or.inr d5⟩, nI_1]; rfl
  · split
    · exact hk
    · split
      · exact hk
      · exact c3
theorem s31_m {P : zp} {A : gA} {σ τ : zc_N} {r k i x : Nat} {s w : Int32} (h : Inv P A σ) (hr : r < 4) (h12 : σ 32 12 = nI r) (hk : mKp σ τ) (hm : k + 1 + i < P.2.1) : (fX9_strangers_31 s w (nI k) (nI k + 1) i (nI x, τ)).1 = nI (stS A σ r s w k i x) ∧ mKp σ (fX9_strangers_31 s w (nI k) (nI k + 1) i (nI x, τ)).2 ∧ qX9_strangers_31 w (nI k) (nI k + 1) i (nI x, τ) := by
  obtain ⟨hn, h3, h11, p2, p3⟩ := iP_parts h
  obtain ⟨c1, c2, c3, -⟩ := mo_step (a := k) (b := k + 1 + i) h hr h12 hk (by omega) hm
  have v1 : vp_in (nI k) 24 := vp_in_nI (by omega) (by decide)
  have v2 : vp_in (nI (k + 1 + i)) 24 := vp_in_nI (by omega) (by decide)
  have e42 : τ 42 = σ 42 := hk.1 42 (by decide)
  have l1 := t42 h (show k < P.2.1 by omega)
  have l2 := t42 h hm
  unfold fX9_strangers_31 qX9_strangers_31 stS
  dsimp only
  rw [nI_1, nI_add, cl_n (a := k) (by omega), cl_n (a := k + 1 + i) (by omega), c2]
  refine ⟨?_, ?_, v1, fun _ => trivial, fun _ => ⟨v2, fun _ => trivial, fun _ => ⟨v1, v2, fun _ => trivial, fun _ => ⟨fun _ => trivial, fun _ => c1⟩⟩⟩⟩
  · simp only [e42, l1, l2]
    unfold adS
    by_cases d1 : σ 42 k = -1
    · rw [if_pos d1, cdec_f (fun z => z.1 d1)]; rfl
    · rw [if_neg d1]
      by_cases d2 : σ 42 (k + 1 + i) = -1
      · rw [if_pos d2, cdec_f (fun z => z.2.1 d2)]; rfl
      · rw [if_neg d2]
        by_cases d3 : σ 42 k = σ 42 (k + 1 + i)
        · rw [if_pos d3, cdec_f (fun z => z.2.2.1 d3)]; rfl
        · rw [if_neg d3]
          by_cases d4 : w = 1
          · rw [if_pos d4, cdec_t ⟨d1, d2, d3, Or.inl d4⟩, nI_1]; rfl
          · rw [if_neg d4]
            by_cases d5 : zI (mval A r k (k + 1 + i)) < s
            · rw [if_pos d5, cdec_f (fun z => z.2.2.2.elim d4 (fun y => y d5))]; exact Int32.add_zero _
            · rw [if_neg d5, cdec_t ⟨d1, d2, d3, Or.inr d5⟩, nI_1]; rfl
  · split
    · exact hk
    · split
      · exact hk
      · split
        · exact hk
        · split
          · exact hk
          · exact c3
theorem str_c {P : zp} {A : gA} {σ : zc_N} {r : Nat} {s w : Int32} (h : Inv P A σ) (hr : r < 4) (h10 : σ 10 0 = nI r) : (∀ k, k ≤ P.2.1 → (zfor (fX8_strangers_16 P s w) k (0, σ)).1 = nI (zfor (toS A σ r s w P.2.1) k 0) ∧ cKp P A σ (zfor (fX8_strangers_16 P s w) k (0, σ)).2) ∧ ∀ k, k < P.2.1 → qX8_strangers_16 P s w k (zfor (fX8_strangers_16 P s w) k (0, σ)) := by
  obtain ⟨hn, h3, h11, p2, p3⟩ := iP_parts h
  have e3 : ∀ τ, cKp P A σ τ → τ 3 3 = nI P.2.1 := fun τ hk => by rw [hk.1 3 (by decide)]; exact h3
  have inner : ∀ k, k < P.2.1 → ∀ x τ, cKp P A σ τ → ∀ i, i ≤ P.2.1 - (k + 1) → ((zfor (fX8_strangers_31 P s w (nI k) (nI k + 1)) i (nI x, τ)).1 = nI (zfor (stS A σ r s w k) i x) ∧ cKp P A σ (zfor (fX8_strangers_31 P s w (nI k) (nI k + 1)) i (nI x, τ)).2) := by
    intro k hk x τ hc
    refine zfor_sim (fun _ (a : Int32 × zc_N) (y : Nat) => a.1 = nI y ∧ cKp P A σ a.2) _ (stS A σ r s w k) (P.2.1 - (k + 1)) (nI x, τ) x ⟨rfl, hc⟩ (fun i hi a y ha => ?_)
    obtain ⟨a1, υ⟩ := a
    obtain ⟨h1, h2⟩ := ha
    dsimp only at h1 h2
    subst h1
    have := s31_c (s := s) (w := w) (x := y) h hr h10 h2 (show k + 1 + i < P.2.1 by omega)
    exact ⟨this.1, this.2.1⟩
  have outer : ∀ k, k ≤ P.2.1 → (zfor (fX8_strangers_16 P s w) k (0, σ)).1 = nI (zfor (toS A σ r s w P.2.1) k 0) ∧ cKp P A σ (zfor (fX8_strangers_16 P s w) k (0, σ)).2 := by
    refine zfor_sim (fun _ (a : Int32 × zc_N) (y : Nat) => a.1 = nI y ∧ cKp P A σ a.2) _ (toS A σ r s w P.2.1) P.2.1 (0, σ) 0 ⟨rfl, off_rf _ _, fun _ _ _ => rfl, h.2.2.2.2.2.1⟩ (fun k hk a y ha => ?_)
    obtain ⟨a1, υ⟩ := a
    obtain ⟨h1, h2⟩ := ha
    dsimp only at h1 h2
    subst h1
    have := inner k hk y υ h2 (P.2.1 - (k + 1)) (Nat.le_refl _)
    unfold fX8_strangers_16 vX8_strangers_1 vX8_strangers_2 toS
    dsimp only
    rw [e3 υ h2, nI_1, cl_sub (by omega) (by omega), ← nI_1]
    exact this
  refine ⟨outer, fun k hk => ?_⟩
  obtain ⟨o1, o2⟩ := outer k (by omega)
  generalize zfor (fX8_strangers_16 P s w) k (0, σ) = a at o1 o2
  obtain ⟨a1, υ⟩ := a
  dsimp only at o1 o2
  subst o1
  unfold qX8_strangers_16
  dsimp only
  have inn := inner k hk (zfor (toS A σ r s w P.2.1) k 0) υ o2
  have ec : ((υ 3 3) - (nI k + 1)).toNatClampNeg = P.2.1 - (k + 1) := by rw [e3 υ o2, nI_1, cl_sub (by omega) (by omega)]
  rw [ec]
  refine ⟨fun i hi => ?_, fun i hi => ?_⟩
  · rw [e3 _ (inn i hi).2, nI_1, nI_add, nI_leI (by omega) (by omega)]
    omega
  · obtain ⟨i1, i2⟩ := inn i (by omega)
    generalize zfor (fX8_strangers_31 P s w (nI k) (nI k + 1)) i (nI (zfor (toS A σ r s w P.2.1) k 0), υ) = b at i1 i2
    obtain ⟨b1, ω⟩ := b
    dsimp only at i1 i2
    subst i1
    exact (s31_c (s := s) (w := w) h hr h10 i2 (show k + 1 + i < P.2.1 by omega)).2.2
theorem str_m {P : zp} {A : gA} {σ : zc_N} {r : Nat} {s w : Int32} (h : Inv P A σ) (hr : r < 4) (h12 : σ 32 12 = nI r) : (∀ k, k ≤ P.2.1 → (zfor (fX9_strangers_16 s w) k (0, σ)).1 = nI (zfor (toS A σ r s w P.2.1) k 0) ∧ mKp σ (zfor (fX9_strangers_16 s w) k (0, σ)).2) ∧ ∀ k, k < P.2.1 → qX9_strangers_16 s w k (zfor (fX9_strangers_16 s w) k (0, σ)) := by
  obtain ⟨hn, h3, h11, p2, p3⟩ := iP_parts h
  have e3 : ∀ τ, mKp σ τ → τ 32 11 = nI P.2.1 := fun τ hk => by rw [hk.2 11 (by decide)]; exact h11
  have inner : ∀ k, k < P.2.1 → ∀ x τ, mKp σ τ → ∀ i, i ≤ P.2.1 - (k + 1) → ((zfor (fX9_strangers_31 s w (nI k) (nI k + 1)) i (nI x, τ)).1 = nI (zfor (stS A σ r s w k) i x) ∧ mKp σ (zfor (fX9_strangers_31 s w (nI k) (nI k + 1)) i (nI x, τ)).2) := by
    intro k hk x τ hc
    refine zfor_sim (fun _ (a : Int32 × zc_N) (y : Nat) => a.1 = nI y ∧ mKp σ a.2) _ (stS A σ r s w k) (P.2.1 - (k + 1)) (nI x, τ) x ⟨rfl, hc⟩ (fun i hi a y ha => ?_)
    obtain ⟨a1, υ⟩ := a
    obtain ⟨h1, h2⟩ := ha
    dsimp only at h1 h2
    subst h1
    have := s31_m (s := s) (w := w) (x := y) h hr h12 h2 (show k + 1 + i < P.2.1 by omega)
    exact ⟨this.1, this.2.1⟩
  have outer : ∀ k, k ≤ P.2.1 → (zfor (fX9_strangers_16 s w) k (0, σ)).1 = nI (zfor (toS A σ r s w P.2.1) k 0) ∧ mKp σ (zfor (fX9_strangers_16 s w) k (0, σ)).2 := by
    refine zfor_sim (fun _ (a : Int32 × zc_N) (y : Nat) => a.1 = nI y ∧ mKp σ a.2) _ (toS A σ r s w P.2.1) P.2.1 (0, σ) 0 ⟨rfl, mKp_rf _⟩ (fun k hk a y ha => ?_)
    obtain ⟨a1, υ⟩ := a
    obtain ⟨h1, h2⟩ := ha
    dsimp only at h1 h2
    subst h1
    have := inner k hk y υ h2 (P.2.1 - (k + 1)) (Nat.le_refl _)
    unfold fX9_strangers_16 vX9_strangers_1 vX9_strangers_2 toS
    dsimp only
    rw [e3 υ h2, nI_1, cl_sub (by omega) (by omega), ← nI_1]
    exact this
  refine ⟨outer, fun k hk => ?_⟩
  obtain ⟨o1, o2⟩ := outer k (by omega)
  generalize zfor (fX9_strangers_16 s w) k (0, σ) = a at o1 o2
  obtain ⟨a1, υ⟩ := a
  dsimp only at o1 o2
  subst o1
  unfold qX9_strangers_16
  dsimp only
  have inn := inner k hk (zfor (toS A σ r s w P.2.1) k 0) υ o2
  have ec : ((υ 32 11) - (nI k + 1)).toNatClampNeg = P.2.1 - (k + 1) := by rw [e3 υ o2, nI_1, cl_sub (by omega) (by omega)]
  rw [ec]
  refine ⟨fun i hi => ?_, fun i hi => ?_⟩
  · rw [e3 _ (inn i hi).2, nI_1, nI_add, nI_leI (by omega) (by omega)]
    omega
  · obtain ⟨i1, i2⟩ := inn i (by omega)
    generalize zfor (fX9_strangers_31 s w (nI k) (nI k + 1)) i (nI (zfor (toS A σ r s w P.2.1) k 0), υ) = b at i1 i2
    obtain ⟨b1, ω⟩ := b
    dsimp only at i1 i2
    subst i1
    exact (s31_m (s := s) (w := w) h hr h12 i2 (show k + 1 + i < P.2.1 by omega)).2.2
theorem toS_congr {A : gA} {σ τ : zc_N} {r n : Nat} {s w : Int32} (e : τ 42 = σ 42) : toS A τ r s w n = toS A σ r s w n := by
  funext k x
  unfold toS
  refine zfor_congr _ _ _ _ (fun i hi y => ?_)
  unfold stS adS
  rw [e]
theorem ok_strangers {P : zp} {A : gA} {σ : zc_N} (h : Inv P A σ) (a1 a2 : Int32) : pX8_strangers P σ a1 a2 ∧ pX9_strangers (sX8_strangers P σ a1 a2) a1 a2 ∧ rX8_strangers P σ a1 a2 = rX9_strangers (sX8_strangers P σ a1 a2) a1 a2 ∧ Inv P A (sX9_strangers (sX8_strangers P σ a1 a2) a1 a2) := by
  obtain ⟨hn, h3, h11, p2, p3⟩ := iP_parts h
  obtain ⟨r, r1, r2, r3⟩ := h.2.2.1
  have e : rX8_isWithin a2 0 1 = rX9_within a2 0 1 := rfl
  by_cases c : rX9_within a2 0 1 = 0
  · have c8 : rX8_isWithin a2 0 1 = 0 := c
    have s8 : sX8_strangers P σ a1 a2 = σ := if_pos c8
    have s9 : sX9_strangers σ a1 a2 = σ := if_pos c
    have r8 : rX8_strangers P σ a1 a2 = -1 := if_pos c8
    have r9 : rX9_strangers σ a1 a2 = -1 := if_pos c
    rw [s8, s9, r8, r9]
    exact ⟨⟨fun _ => trivial, fun z => absurd c8 z⟩, ⟨fun _ => trivial, fun z => absurd c z⟩, rfl, h⟩
  · have c8 : ¬ rX8_isWithin a2 0 1 = 0 := c
    obtain ⟨t1, t2⟩ := str_c (s := a1) (w := a2) h r1 r2
    obtain ⟨u1, u2⟩ := t1 P.2.1 (Nat.le_refl _)
    have s8 : sX8_strangers P σ a1 a2 = (zfor (fX8_strangers_16 P a1 a2) P.2.1 (0, σ)).2 := by
      refine (if_neg c8).trans ?_
      rw [h3, cl_n (by omega)]
    have r8 : rX8_strangers P σ a1 a2 = (zfor (fX8_strangers_16 P a1 a2) P.2.1 (0, σ)).1 := by
      refine (if_neg c8).trans ?_
      rw [h3, cl_n (by omega)]
    have P8 : pX8_strangers P σ a1 a2 := by
      refine ⟨fun _ => trivial, fun _ => ?_⟩
      rw [h3, cl_n (by omega)]
      refine ⟨fun k hk => ?_, t2⟩
      rw [(t1 k hk).2.1 3 (by decide), h3]
      exact nI_leI (by omega) (by omega)
    rw [s8, r8, u1]
    generalize (zfor (fX8_strangers_16 P a1 a2) P.2.1 (0, σ)).2 = τ at u2
    have hI := Inv_cKp h u2
    have e42 : τ 42 = σ 42 := u2.1 42 (by decide)
    have e12 : τ 32 12 = nI r := by rw [u2.1 32 (by decide)]; exact r3
    have e11 : τ 32 11 = nI P.2.1 := by rw [u2.1 32 (by decide)]; exact h11
    obtain ⟨v1, v2⟩ := str_m (s := a1) (w := a2) hI r1 e12
    obtain ⟨w1, w2⟩ := v1 P.2.1 (Nat.le_refl _)
    have s9 : sX9_strangers τ a1 a2 = (zfor (fX9_strangers_16 a1 a2) P.2.1 (0, τ)).2 := by
      refine (if_neg c).trans ?_
      rw [e11, cl_n (by omega)]
    have r9 : rX9_strangers τ a1 a2 = (zfor (fX9_strangers_16 a1 a2) P.2.1 (0, τ)).1 := by
      refine (if_neg c).trans ?_
      rw [e11, cl_n (by omega)]
    rw [s9, r9, w1, toS_congr e42]
    refine ⟨P8, ⟨fun _ => trivial, fun _ => ?_⟩, rfl, Inv_mKp hI w2⟩
    rw [e11, cl_n (by omega)]
    refine ⟨fun k hk => ?_, v2⟩
    rw [(v1 k hk).2.2 11 (by decide), e11]
    exact nI_leI (by omega) (by omega)
