/-! ===== pure rows: points of the reference ===== -/
theorem f66_m {F : Nat → Bool} {τ : zc_N} {r c i : Nat} (hF : ∀ j, j < 16 * r + c → τ 35 j = b2 (F j)) (hc : c < 16) (hr : r < 16) (hi : i < 3) (a : Bool) : fX9_findPoints_66 τ (nI r) (nI c - 1) i (b2 a) = b2 (a || pd (mk F (16 * r + c)) (c + i) r) := by
  unfold fX9_findPoints_66
  cases a with
  | true => rfl
  | false =>
    rw [if_pos (show b2 false = 0 from rfl), Bool.false_or]
    by_cases h0 : r = 0
    · subst h0
      rw [pd_y0]
      rfl
    · rw [if_neg (nI_nle (by omega) (by omega)), st3]
      cases hx : c + i with
      | zero => rw [pd_0]; rfl
      | succ x =>
        rw [m1_succ, if_neg (nI_pos (by omega)), i16]
        by_cases hx2 : 16 ≤ x
        · rw [if_pos (nI_le hx2 (by omega))]
          have : pd (mk F (16 * r + c)) (x + 1) r = false := by unfold pd; simp; omega
          rw [this]; rfl
        · obtain ⟨r', rfl⟩ : ∃ r', r = r' + 1 := ⟨r - 1, by omega⟩
          rw [if_neg (nI_ge (by omega) (by decide)), m1_succ, pk_mul, nI_add, nI_clamp (by omega), hF _ (by omega), b2_if, pd_in (by omega) (by omega)]
          unfold mk
          have : 16 * r' + x < 16 * (r' + 1) + c := by omega
          simp [this]
theorem ahd_m {F : Nat → Bool} {τ : zc_N} {k : Nat} (hk : k < 256) (hF : ∀ j, j < k → τ 35 j = b2 (F j)) : vX9_findPoints_4 (nI k) τ = b2 (ahd (mk F k) k) := by
  have hc : k % 16 < 16 := Nat.mod_lt _ (by decide)
  have hr : k / 16 < 16 := by omega
  have hk2 : 16 * (k / 16) + k % 16 = k := Nat.div_add_mod k 16
  have hF2 : ∀ j, j < 16 * (k / 16) + k % 16 → τ 35 j = b2 (F j) := by rw [hk2]; exact hF
  unfold vX9_findPoints_4
  rw [rem16 hk, div16 hk, cl3 _ hc]
  have e0 : (if nI (k % 16) ≤ (0 : Int32) then (0 : Int32) else (if ((τ 35) (nI k - (if nI (k % 16) ≤ (0 : Int32) then (0 : Int32) else (1 : Int32))).toNatClampNeg) = (0 : Int32) then (0 : Int32) else (1 : Int32))) = b2 (pd (mk F k) (k % 16) (k / 16 + 1)) := by
    by_cases h0 : k % 16 = 0
    · rw [h0, pd_0, if_pos (by decide)]; rfl
    · have hn : ¬ nI (k % 16) ≤ (0 : Int32) := nI_nle (by omega) (by omega)
      obtain ⟨k', rfl⟩ : ∃ k', k = k' + 1 := ⟨k - 1, by omega⟩
      rw [if_neg hn, if_neg hn, m1_succ, nI_clamp (by omega), hF k' (by omega), b2_if]
      have := pd_in (D := mk F (k' + 1)) (x := (k' + 1) % 16 - 1) (y := (k' + 1) / 16) (by omega) hr
      rw [show (k' + 1) % 16 - 1 + 1 = (k' + 1) % 16 by omega] at this
      rw [this, show 16 * ((k' + 1) / 16) + ((k' + 1) % 16 - 1) = k' by omega]
      unfold mk
      simp
  rw [e0]
  show fX9_findPoints_66 τ (nI (k / 16)) (nI (k % 16) - 1) 2 (fX9_findPoints_66 τ (nI (k / 16)) (nI (k % 16) - 1) 1 (fX9_findPoints_66 τ (nI (k / 16)) (nI (k % 16) - 1) 0 (b2 (pd (mk F k) (k % 16) (k / 16 + 1))))) = _
  rw [f66_m hF2 hc hr (by decide), f66_m hF2 hc hr (by decide), f66_m hF2 hc hr (by decide), hk2]
  have e1 : pd (mk F k) (k % 16 + 1) (k / 16 + 1) = false := by
    rw [pd_in hc hr, hk2]; unfold mk; simp
  have e2 : pd (mk F k) (k % 16 + 2) (k / 16 + 1) = false := by
    by_cases h15 : k % 16 = 15
    · rw [h15]; exact pd_17 _ _
    · have := pd_in (D := mk F k) (x := k % 16 + 1) (y := k / 16) (by omega) hr
      rw [show k % 16 + 1 + 1 = k % 16 + 2 from rfl] at this
      rw [this, show 16 * (k / 16) + (k % 16 + 1) = k + 1 by omega]
      unfold mk
      simp
  unfold ahd
  rw [e1, e2, Nat.add_zero]
  cases pd (mk F k) (k % 16) (k / 16) <;> cases pd (mk F k) (k % 16 + 1) (k / 16) <;> cases pd (mk F k) (k % 16 + 2) (k / 16) <;> cases pd (mk F k) (k % 16) (k / 16 + 1) <;> rfl
theorem v35 : ∀ n, n ≤ 8 → ∀ d a : Bool, (if b2 d = (0 : Int32) then (0 : Int32) else (if nI n < (3 : Int32) then (0 : Int32) else (if b2 a = (0 : Int32) then (1 : Int32) else (0 : Int32)))) = b2 (d && (decide (3 ≤ n) && !a)) := by decide +kernel
theorem v36 : ∀ n, n ≤ 8 → ∀ d f : Bool, (if b2 d = (0 : Int32) then (-1 : Int32) else (if nI n = (0 : Int32) then (0 : Int32) else (if nI n = (1 : Int32) then (1 : Int32) else (if b2 f = (0 : Int32) then (-1 : Int32) else (2 : Int32))))) = kI (if d = false then 3 else if n = 0 then 0 else if n = 1 then 1 else if f then 2 else 3) := by decide +kernel
theorem fp5 {D : Nat → Bool} {τ : zc_N} (h : gM D τ) {k : Nat} (hk : k < 256) (hF : ∀ j, j < k → τ 35 j = b2 (FK D j)) : vX9_findPoints_5 (nI k) τ = zu (zu τ 35 (zu (τ 35) k (b2 (FK D k)))) 36 (zu (τ 36) k (kI (kdn D k))) := by
  have hc : k % 16 < 16 := Nat.mod_lt _ (by decide)
  have hr : k / 16 < 16 := by omega
  have hn : at8 D (k % 16) (k / 16) n8 ≤ 8 := n8_le _ _ _ _ _ _ _ _
  unfold vX9_findPoints_5
  rw [rem16 hk, div16 hk, nI_clamp (by omega), md_n h hc hr, ahd_m hk hF]
  simp only [h k hk]
  rw [zu_self, v35 _ hn, ← FK_eq, v36 _ hn]
  rfl
theorem findPoints_m {D : Nat → Bool} {σ : zc_N} (h : gM D σ) : pX9_findPoints σ ∧ rX9_findPoints σ = nI (cnt (isp D) 256) ∧ (gM D (sX9_findPoints σ) ∧ (∀ j, j < 256 → sX9_findPoints σ 36 j = kI (kdn D j)) ∧ off [35, 36] σ (sX9_findPoints σ)) := by
  have key := zfor_inv (fun k (x : Int32 × zc_N) => x.1 = nI (cnt (isp D) k) ∧ gM D x.2 ∧ (∀ j, j < k → x.2 35 j = b2 (FK D j)) ∧ (∀ j, j < k → x.2 36 j = kI (kdn D j)) ∧ off [35, 36] σ x.2) fX9_findPoints_4 256 (0, σ) ⟨rfl, h, fun j hj => absurd hj (by omega), fun j hj => absurd hj (by omega), off_rf _ _⟩ (fun k hk x hx => by
    obtain ⟨x1, x2⟩ := x
    obtain ⟨g1, g2, g3, g4, g5⟩ := hx
    dsimp only at g1 g2 g3 g4 g5
    unfold fX9_findPoints_4
    dsimp only
    rw [fp5 g2 hk g3, g1]
    have hk3 := kdn_le D k
    refine ⟨?_, fun j hj => ?_, fun j hj => ?_, fun j hj => ?_, off_zu (off_zu g5 (by simp) _) (by simp) _⟩
    · show _ = nI (cnt (isp D) k + (isp D k).toNat)
      rw [zu_self, nI_clamp (by omega), zu_self]
      by_cases e : kdn D k = 3
      · have e2 : isp D k = false := by unfold isp; simp [e]
        rw [if_pos ((kI_lt hk3).mpr e), e2]
        exact Int32.add_zero _
      · have e2 : isp D k = true := by unfold isp; simp; omega
        rw [if_neg (fun g => e ((kI_lt hk3).mp g)), e2, nI_1]
        rfl
    · rw [zu_ne _ _ (by decide), zu_ne _ _ (by decide)]
      exact g2 j hj
    · rw [zu_ne _ _ (by decide), zu_self]
      by_cases e : j = k
      · subst e; rw [zu_self]
      · rw [zu_ne _ _ e]; exact g3 j (by omega)
    · rw [zu_self]
      by_cases e : j = k
      · subst e; rw [zu_self]
      · rw [zu_ne _ _ e]; exact g4 j (by omega))
  unfold pX9_findPoints rX9_findPoints sX9_findPoints
  refine ⟨fun k hk => ?_, (key 256 (Nat.le_refl _)).1, (key 256 (Nat.le_refl _)).2.1, (key 256 (Nat.le_refl _)).2.2.2.1, (key 256 (Nat.le_refl _)).2.2.2.2⟩
  have hc : k % 16 < 16 := Nat.mod_lt _ (by decide)
  have hr : k / 16 < 16 := by omega
  have key3 : ∀ c, c < 16 → ∀ i, i ≤ 3 → ((nI c + (1 : Int32)) < ((nI c - (1 : Int32)) + nI i) ↔ 3 ≤ i) := by decide +kernel
  unfold qX9_findPoints_4
  rw [rem16 hk, div16 hk, cl3 _ hc]
  refine ⟨pz_n (D := D) hc hr, ⟨fun _ => trivial, fun g => ?_⟩, key3 _ hc, fun i hi => ?_⟩
  · rw [if_neg g]
    have : k % 16 ≠ 0 := by
      intro e
      rw [e] at g
      exact g (by decide)
    rw [show (1 : Int32) = nI 1 from rfl, sub_n (by omega)]
    exact vp_in_nI (by omega) (by decide)
  · unfold qX9_findPoints_66
    refine ⟨fun _ => ⟨fun _ => trivial, fun g => ⟨fun _ => trivial, fun g2 => ⟨fun _ => trivial, fun g3 => ?_⟩⟩⟩, fun _ => trivial⟩
    rw [st3] at g2 g3 ⊢
    cases hx : k % 16 + i with
    | zero => rw [hx] at g2; exact absurd m1_lt g2
    | succ x =>
      rw [hx, m1_succ, i16] at g3
      have hx2 : ¬ 16 ≤ x := fun q => g3 (nI_le q (by omega))
      obtain ⟨r', hr'⟩ : ∃ r', k / 16 = r' + 1 := ⟨k / 16 - 1, by
        have : k / 16 ≠ 0 := by
          intro e
          rw [e] at g
          exact g (by decide)
        omega⟩
      rw [hr', m1_succ, m1_succ, i16, pk_mul, nI_add]
      exact vp_in_nI (by omega) (by decide)
/-- the points of print p are taken over -/
def took (D : Nat → Bool) (p k : Nat) (τ : zc_N) : Prop := ∀ j, j < k → isp D j = true → cnt (isp D) j < 12 → τ 38 (12 * p + cnt (isp D) j) = nI (j % 16) ∧ τ 39 (12 * p + cnt (isp D) j) = nI (j / 16) ∧ τ 40 (12 * p + cnt (isp D) j) = nI (kdn D j)
def keptP (p : Nat) (σ τ : zc_N) : Prop := (∀ q, q ≠ p → τ 37 q = σ 37 q) ∧ ∀ m, m < 12 * p → τ 38 m = σ 38 m ∧ τ 39 m = σ 39 m ∧ τ 40 m = σ 40 m
theorem ePR (l6 : Int32) (a : Int32 × zc_N) : eX9_print_136 l6 a ↔ (256 : Int32) ≤ a.1 ∨ (12 : Int32) ≤ a.2 37 l6.toNatClampNeg := by
  unfold eX9_print_136
  constructor
  · rintro (h | h)
    · exact Or.inl h.1
    · rcases h.2 with g | g
      · exact Or.inr g.1
      · rcases g.2 with q | q
        · exact q.2.elim
        · exact q.2.elim
  · intro h
    by_cases c : (256 : Int32) ≤ a.1
    · exact Or.inl ⟨c, trivial⟩
    · rcases h with h | h
      · exact absurd h c
      · exact Or.inr ⟨c, Or.inl ⟨h, trivial⟩⟩
theorem take_m {D : Nat → Bool} {σ : zc_N} {p : Nat} (hp : p < 24) (hk : ∀ j, j < 256 → σ 36 j = kI (kdn D j)) (h0 : σ 37 p = 0) :
    (∃ n_ : Nat, (eX9_print_136 (nI p)) (zit (fX9_print_136 (nI p)) n_ ((0 : Int32), σ))) ∧ (∀ i, i < zwn (fun n_ => (eX9_print_136 (nI p)) (zit (fX9_print_136 (nI p)) n_ ((0 : Int32), σ))) → qX9_print_136 (nI p) (zit (fX9_print_136 (nI p)) i ((0 : Int32), σ))) ∧ qX9_print_136 (nI p) (wX9_print_136 (nI p) ((0 : Int32), σ)) ∧
    ((wX9_print_136 (nI p) ((0 : Int32), σ)).2 37 p = nI (min 12 (cnt (isp D) 256)) ∧ took D p 256 (wX9_print_136 (nI p) ((0 : Int32), σ)).2 ∧ keptP p σ (wX9_print_136 (nI p) ((0 : Int32), σ)).2 ∧ off [37, 38, 39, 40] σ (wX9_print_136 (nI p) ((0 : Int32), σ)).2) := by
  obtain ⟨N, hN1, hN2⟩ := pk_least (fun i => 256 ≤ i ∨ 12 ≤ cnt (isp D) i) ⟨256, Or.inl (Nat.le_refl _)⟩
  have hN : N ≤ 256 := by
    by_cases h : N ≤ 256
    · exact h
    · exact absurd (Or.inl (Nat.le_refl 256)) (hN2 256 (by omega))
  have hb : ∀ i, i < N → i < 256 ∧ cnt (isp D) i < 12 := fun i hi => by
    have := hN2 i hi
    omega
  have hpc : (nI p).toNatClampNeg = p := nI_clamp (by omega)
  have key := zit_inv (fun i (x : Int32 × zc_N) => i ≤ N → x.1 = nI i ∧ x.2 37 p = nI (cnt (isp D) i) ∧ took D p i x.2 ∧ keptP p σ x.2 ∧ off [37, 38, 39, 40] σ x.2) (fX9_print_136 (nI p)) (0, σ) (fun _ => ⟨rfl, h0, fun j hj => absurd hj (by omega), ⟨fun _ _ => rfl, fun _ _ => ⟨rfl, rfl, rfl⟩⟩, off_rf _ _⟩) (fun i x hx hi => by
    obtain ⟨x1, x2⟩ := x
    obtain ⟨g1, g2, g3, g4, g5⟩ := hx (by omega)
    dsimp only at g1 g2 g3 g4 g5
    obtain ⟨hi1, hi2⟩ := hb i hi
    have hk3 := kdn_le D i
    have e36 : x2 36 i = kI (kdn D i) := by rw [g5 36 (by decide)]; exact hk i hi1
    unfold fX9_print_136
    dsimp only
    rw [g1, nI_1, nI_clamp (by omega), hpc]
    simp only [e36]
    refine ⟨trivial, ?_⟩
    show _ = nI (cnt (isp D) i + (isp D i).toNat) ∧ _
    by_cases e : kdn D i = 3
    · have e2 : isp D i = false := by unfold isp; simp [e]
      rw [if_pos ((kI_lt hk3).mpr e), e2]
      refine ⟨g2, fun j hj h1 h2 => ?_, g4, g5⟩
      by_cases hji : j = i
      · rw [hji, e2] at h1; cases h1
      · exact g3 j (by omega) h1 h2
    · have e2 : isp D i = true := by unfold isp; simp; omega
      rw [if_neg (fun g => e ((kI_lt hk3).mp g)), e2, g2, show (12 : Int32) = nI 12 from rfl, pk_mul, nI_add, nI_clamp (by omega), rem16 hi1, div16 hi1, kI_n (by omega), nI_1]
      refine ⟨by rw [zu_self, zu_self]; rfl, fun j hj h1 h2 => ?_, ⟨fun q hq => ?_, fun m hm => ?_⟩, off_zu (off_zu (off_zu (off_zu g5 (by simp) _) (by simp) _) (by simp) _) (by simp) _⟩
      · rw [zu_ne _ _ (show 38 ≠ 37 by decide), zu_ne _ _ (show 38 ≠ 40 by decide), zu_ne _ _ (show 38 ≠ 39 by decide), zu_self, zu_ne _ _ (show 39 ≠ 37 by decide), zu_ne _ _ (show 39 ≠ 40 by decide), zu_self, zu_ne _ _ (show 40 ≠ 37 by decide), zu_self]
        by_cases hji : j = i
        · subst hji
          rw [zu_self, zu_self, zu_self]
          exact ⟨rfl, rfl, rfl⟩
        · have h3 := cnt_lt_isp (f := isp D) (show j < i by omega) h1
          rw [zu_ne _ _ (by omega), zu_ne _ _ (by omega), zu_ne _ _ (by omega)]
          exact g3 j (by omega) h1 h2
      · rw [zu_self, zu_ne _ _ hq]
        exact g4.1 q hq
      · rw [zu_ne _ _ (show 38 ≠ 37 by decide), zu_ne _ _ (show 38 ≠ 40 by decide), zu_ne _ _ (show 38 ≠ 39 by decide), zu_self, zu_ne _ _ (show 39 ≠ 37 by decide), zu_ne _ _ (show 39 ≠ 40 by decide), zu_self, zu_ne _ _ (show 40 ≠ 37 by decide), zu_self, zu_ne _ _ (by omega), zu_ne _ _ (by omega), zu_ne _ _ (by omega)]
        exact g4.2 m hm)
  have hE : ∀ i, i ≤ N → (eX9_print_136 (nI p) (zit (fX9_print_136 (nI p)) i (0, σ)) ↔ 256 ≤ i ∨ 12 ≤ cnt (isp D) i) := by
    intro i hi
    obtain ⟨g1, g2, -⟩ := key i hi
    have := cnt_le (isp D) i
    rw [ePR, g1, hpc, g2, show (256 : Int32) = nI 256 from rfl, show (12 : Int32) = nI 12 from rfl, nI_leI (by decide) (by omega), nI_leI (by decide) (by omega)]
  have hw : zwn (fun n_ => (eX9_print_136 (nI p)) (zit (fX9_print_136 (nI p)) n_ ((0 : Int32), σ))) = N := zwn_eq ((hE N (Nat.le_refl _)).mpr hN1) (fun j hj g => hN2 j hj ((hE j (by omega)).mp g))
  have hq : ∀ i, i ≤ N → qX9_print_136 (nI p) (zit (fX9_print_136 (nI p)) i ((0 : Int32), σ)) := by
    intro i hi
    obtain ⟨g1, g2, -⟩ := key i hi
    have h24 : vp_in (nI p) 24 := vp_in_nI hp (by decide)
    have := cnt_le (isp D) i
    unfold qX9_print_136
    rw [g1, hpc, g2, show (256 : Int32) = nI 256 from rfl, show (12 : Int32) = nI 12 from rfl, pk_mul, nI_add]
    refine ⟨fun _ => ⟨h24, h24⟩, fun c => ⟨h24, fun _ => ⟨h24, h24⟩, fun c2 => ?_⟩⟩
    have l1 : i < 256 := Nat.lt_of_not_le (fun q => c (nI_le q (by omega)))
    have l2 : cnt (isp D) i < 12 := Nat.lt_of_not_le (fun q => c2 (nI_le q (by omega)))
    have h256 : vp_in (nI i) 256 := vp_in_nI l1 (by decide)
    have h288 : vp_in (nI (12 * p + cnt (isp D) i)) 288 := vp_in_nI (by omega) (by decide)
    exact ⟨h256, fun _ => trivial, fun _ => ⟨h24, h288, h288, h256, h288, h24, h24⟩⟩
  obtain ⟨g1, g2, g3, g4, g5⟩ := key N (Nat.le_refl _)
  unfold wX9_print_136
  rw [hw]
  refine ⟨⟨N, (hE N (Nat.le_refl _)).mpr hN1⟩, fun i hi => hq i (by omega), hq N (Nat.le_refl _), ?_, fun j hj h1 h2 => ?_, g4, g5⟩
  · rw [g2]
    congr 1
    have h1 := cnt_mono (isp D) hN
    cases N with
    | zero => rcases hN1 with h | h
              · omega
              · exact absurd (show 12 ≤ 0 from h) (by decide)
    | succ N' =>
      have h2 := hb N' (by omega)
      have h3 : cnt (isp D) (N' + 1) = cnt (isp D) N' + (isp D N').toNat := rfl
      have h4 := tb_toNat (isp D N')
      rcases hN1 with h | h
      · have : N' + 1 = 256 := by omega
        rw [this] at h3 ⊢
        omega
      · omega
  · refine g3 j ?_ h1 h2
    rcases hN1 with h | h
    · omega
    · by_cases c : j < N
      · exact c
      · have := cnt_mono (isp D) (show N ≤ j by omega)
        omega
