/-! ===== what the reference asks of one print ===== -/
noncomputable def vd (A : gA) (r L k i : Nat) : Int32 := if hs A r L k i = true then 1 else if lks A r L k i = true then 0 else -1
theorem mres_off {A : gA} {r a b : Nat} {σ τ : zc_N} (h : mres A r a b σ) (ho : off [56] σ τ) : mres A r a b τ := by
  unfold mres
  rw [ho 32 (by decide), ho 44 (by decide), ho 45 (by decide), ho 51 (by decide)]
  exact h
theorem ask_i {A : gA} {r L k i : Nat} {ω : zc_N} (hvL : pV A L) (hvk : pV A k) (hk : k < 24) (hm : pM A ω k) (hr : mres A r L k ω) (hi : i < aN A L) : vX9_ask_1 (nI k) (nI i) ω = vd A r L k i ∧ qX9_ask_12 (nI k) i ω := by
  have h12 : i < 12 := Nat.lt_of_lt_of_le hi hvL.1
  have v := (a12 hk h12).2
  have w : vp_in (nI i) 12 := vp_in_nI h12 (by decide)
  unfold vX9_ask_1 qX9_ask_12 vd
  rw [cl_n (a := i) (by omega)]
  rcases hr with ⟨b, e26, -, -, -, -, -, -, e4, e51⟩ | ⟨b, e26, -⟩
  · obtain ⟨g1, g2, g3⟩ := bQXY b
    have b1 := lxb (q := bQ A r L k) hvL hi g2
    have b2' := lyb (q := bQ A r L k) hvL hi g3
    rw [e26, e51 i hi, (e4 i hi).1, (e4 i hi).2]
    obtain ⟨l1, l2⟩ := lies_s (A := A) (σ := ω) (p := k) (x := lx A L (bQ A r L k) (bX A r L k) i) (y := ly A L (bQ A r L k) (bY A r L k) i) hk hm.2.2 hvk.2.2 (by omega) (by omega)
    refine ⟨?_, ⟨fun _ => trivial, fun _ => ⟨w, fun _ => ⟨w, w, l2⟩, fun _ => trivial⟩⟩, v⟩
    have eA : decide ((aR A k 0 : Int) ≤ lx A L (bQ A r L k) (bX A r L k) i ∧ lx A L (bQ A r L k) (bX A r L k) i ≤ aR A k 2 ∧ (aR A k 1 : Int) ≤ ly A L (bQ A r L k) (bY A r L k) i ∧ ly A L (bQ A r L k) (bY A r L k) i ≤ aR A k 3) = inA A L k (bQ A r L k) (bX A r L k) (bY A r L k) i := rfl
    rw [l1, eA, if_neg n10]
    unfold hs lks
    rw [decide_eq_true b, decide_eq_true hi, Bool.true_and, Bool.true_and, Bool.true_and]
    have ng := hI_neg (chH (mayB A r L k (bQ A r L k) (bX A r L k) (bY A r L k)) (aN A L) i)
    by_cases c : chH (mayB A r L k (bQ A r L k) (bX A r L k) (bY A r L k)) (aN A L) i < 12
    · rw [if_neg (fun z => ng.mp z c), decide_eq_true c, if_pos rfl]
    · rw [if_pos (ng.mpr c), decide_eq_false c, if_neg (show ¬ false = true by decide)]
      cases inA A L k (bQ A r L k) (bX A r L k) (bY A r L k) i <;> rfl
  · have nb : ¬ Bk A r L k < 3844 := by omega
    rw [e26 26 (by decide), if_pos rfl]
    refine ⟨?_, ⟨fun _ => trivial, fun z => absurd rfl z⟩, v⟩
    unfold hs lks
    rw [decide_eq_false nb]
    rfl
theorem mo_stepP {P : zp} {A : gA} {σ τ : zc_N} {r a b : Nat} (h : iP P A σ) (hr : r < 4) (h12 : σ 32 12 = nI r) (hk : mKp σ τ) (ha : a < P.2.1) (hb : b < P.2.1) : pX9_matchOf τ (nI a) (nI b) ∧ rX9_matchOf τ (nI a) (nI b) = zI (mval A r a b) ∧ mKp σ (sX9_matchOf τ (nI a) (nI b)) ∧ mres A r a b (sX9_matchOf τ (nI a) (nI b)) := by
  obtain ⟨hn, h3, h11, p2, p3⟩ := iPp h
  obtain ⟨s1, s2, s3, s4, s5⟩ := matchOf_m (A := A) (σ := τ) (r := r) (show a < 24 by omega) (show b < 24 by omega) (show r ≤ 3 by omega) (p2 a ha).2.2 (p2 b hb).2.2 (pM_off (p2 a ha).2.1 hk.1 (by decide)) (pM_off (p2 b hb).2.1 hk.1 (by decide)) (by rw [hk.2 12 (by decide)]; exact h12)
  exact ⟨s1, s2, ⟨off_tr hk.1 s4, fun m hm => (s5 m hm).trans (hk.2 m hm)⟩, s3⟩
theorem ask_m {P : zp} {A : gA} {σ : zc_N} {r L k : Nat} (h : iP P A σ) (hr : r < 4) (h12 : σ 32 12 = nI r) (hL : L < P.2.1) (hk : k < P.2.1) (h34 : σ 32 34 = nI L) : pX9_ask σ (nI k) ∧ (∀ i, i < aN A L → sX9_ask σ (nI k) 56 (12 * k + i) = vd A r L k i) ∧ (∀ m, ¬ (12 * k ≤ m ∧ m < 12 * k + 12) → sX9_ask σ (nI k) 56 m = σ 56 m) ∧ off (56 :: mO) σ (sX9_ask σ (nI k)) ∧ ∀ m, m ∉ mF → sX9_ask σ (nI k) 32 m = σ 32 m := by
  obtain ⟨hn, h3, h11, p2, p3⟩ := iPp h
  obtain ⟨s1, -, s3, s4⟩ := mo_stepP (a := L) (b := k) h hr h12 (mKp_rf σ) hL hk
  unfold pX9_ask sX9_ask vX9_ask_2
  rw [h34]
  generalize sX9_matchOf σ (nI L) (nI k) = ω at s3 s4
  have e34 : ω 32 34 = nI L := by rw [s3.2 34 (by decide)]; exact h34
  have mk : pM A ω k := pM_off (p2 k hk).2.1 s3.1 (by decide)
  have mL : pM A ω L := pM_off (p2 L hL).2.1 s3.1 (by decide)
  have vL := (p2 L hL).2.2
  have vk := (p2 k hk).2.2
  have n12 := vL.1
  rw [e34, cl_n (a := L) (by omega), mL.1, cl_n (a := aN A L) (by omega)]
  have key := zfor_inv (fun n (τ : zc_N) => (∀ i, i < n → τ 56 (12 * k + i) = vd A r L k i) ∧ (∀ m, ¬ (12 * k ≤ m ∧ m < 12 * k + 12) → τ 56 m = ω 56 m) ∧ off [56] ω τ) (fX9_ask_12 (nI k)) (aN A L) ω ⟨fun i hi => absurd hi (by omega), fun _ _ => rfl, off_rf _ _⟩ (fun n hn' τ ⟨t1, t2, t3⟩ => by
    have a := ask_i (A := A) (r := r) vL vk (show k < 24 by omega) (pM_off mk t3 (by decide)) (mres_off s4 t3) hn'
    unfold fX9_ask_12
    rw [a.1, (a12 (show k < 24 by omega) (show n < 12 by omega)).1]
    refine ⟨fun i hi => ?_, fun m hm => ?_, off_zu t3 (by simp) _⟩
    · rw [zu_self]
      by_cases e : i = n
      · rw [e, zu_self]
      · rw [zu_ne _ _ (by omega)]; exact t1 i (by omega)
    · rw [zu_self, zu_ne _ _ (by omega)]; exact t2 m hm)
  have kE := key (aN A L) (Nat.le_refl _)
  refine ⟨⟨s1, fun i hi => ?_, fun i hi => ?_, fun i hi => ?_⟩, kE.1, fun m hm => ?_, off_tr (off_sub s3.1 (by decide)) (off_sub kE.2.2 (by decide)), fun m hm => ?_⟩
  · have k3 := (key i hi).2.2
    rw [k3 37 (by decide), k3 32 (by decide), e34, cl_n (a := L) (by omega), mL.1]
    exact nI_leI (by omega) (by omega)
  · have k3 := (key i hi).2.2
    unfold uX9_ask_12
    rw [k3 32 (by decide), e34]
    exact vp_in_nI (by omega) (by decide)
  · have k3 := (key i (by omega)).2.2
    exact (ask_i (A := A) (r := r) vL vk (show k < 24 by omega) (pM_off mk k3 (by decide)) (mres_off s4 k3) hi).2
  · rw [kE.2.1 m hm, s3.1 56 (by decide)]
  · rw [kE.2.2 32 (by decide)]; exact s3.2 m hm
