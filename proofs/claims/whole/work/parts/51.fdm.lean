/-! ===== pure rows: the search of the reference ===== -/
def hI (v : Nat) : Int32 := if v < 12 then nI v else -1
theorem hI_lt {v : Nat} (h : v < 12) : hI v = nI v := if_pos h
theorem hI_ge {v : Nat} (h : ¬ v < 12) : hI v = -1 := if_neg h
theorem hI_neg (v : Nat) : hI v < 0 ↔ ¬ v < 12 := by
  by_cases h : v < 12
  · rw [hI_lt h]
    exact ⟨fun g => absurd g (nI_pos (by omega)), fun g => absurd h g⟩
  · rw [hI_ge h]
    exact ⟨fun _ => h, fun _ => by decide⟩
theorem hI_m1 (v : Nat) : hI v = -1 ↔ ¬ v < 12 := by
  by_cases h : v < 12
  · rw [hI_lt h]
    refine ⟨fun g => absurd ?_ (nI_pos (n := v) (by omega)), fun g => absurd h g⟩
    rw [g]; decide
  · rw [hI_ge h]
    exact ⟨fun _ => h, fun _ => rfl⟩
def mM (M : Nat → Nat → Bool) (n nb : Nat) (τ : zc_N) : Prop := ∀ i j, i < n → j < nb → τ 47 (12 * i + j) = b2 (M i j)
def mS (nb : Nat) (τ : zc_N) (s : sS) : Prop := ∀ j, j < nb → τ 49 j = b2 (!s.1 j) ∧ τ 48 j = hI (s.2 j)
theorem eFm (R : zc_N → Int32 → Int32 → Int32) (l1 l2 : Int32) (a : Int32 × zc_N) : eX9_finds_2 R l1 l2 a ↔ l2 ≤ a.1 ∨ (¬ a.2 47 (12 * l1 + a.1).toNatClampNeg = 0 ∧ a.2 49 a.1.toNatClampNeg = 0 ∧ (a.2 48 a.1.toNatClampNeg < 0 ∨ ¬ R (zu a.2 49 (zu (a.2 49) a.1.toNatClampNeg 1)) (a.2 48 a.1.toNatClampNeg) l2 = 0)) := by
  unfold eX9_finds_2
  simp only [and_true, and_false, or_false, false_or]
  by_cases c1 : l2 ≤ a.1
  · simp [c1]
  · by_cases c2 : a.2 48 a.1.toNatClampNeg < 0
    · simp [c1, c2]
    · simp [c1, c2]
theorem fd_m {M : Nat → Nat → Bool} {n nb : Nat} (hn : n ≤ 12) (hnb : nb ≤ 12) (hM0 : ∀ i j, nb ≤ j → M i j = false) : ∀ (k i : Nat) (τ : zc_N) (s : sS), i < n → cnt s.1 12 < k → sN n s → mM M n nb τ → mS nb τ s →
    ((zFm k).2.2 τ (nI i) (nI nb) ∧ (zFm k).1 τ (nI i) (nI nb) = b2 (fd M k i s).1 ∧ mS nb ((zFm k).2.1 τ (nI i) (nI nb)) (fd M k i s).2 ∧ off [48, 49] τ ((zFm k).2.1 τ (nI i) (nI nb)))
  | 0, i, τ, s, _, h, _, _, _ => absurd h (by omega)
  | k + 1, i, τ, s, hi, hcnt, hsn, hM, hS => by
    have ih := fd_m hn hnb hM0 k
    have okp := fd_okp M k (fd_ok M k) i s (by omega)
    have hnp := fd_np M n k (fd_n M n k) i s hi hsn
    have hx0 : ∀ n, zfor (lpf M i (fd M k)) (n + 1) (false, s) = lpf M i (fd M k) n (zfor (lpf M i (fd M k)) n (false, s)) := fun _ => rfl
    generalize hX : (fun n => zfor (lpf M i (fd M k)) n (false, s)) = X
    have hXn : ∀ n, zfor (lpf M i (fd M k)) n (false, s) = X n := fun n => by rw [← hX]
    have hX1 : ∀ n, X (n + 1) = lpf M i (fd M k) n (X n) := fun n => by rw [← hXn, ← hXn]; rfl
    have hfd : fd M (k + 1) i s = X 12 := by rw [← hXn]; rfl
    have okX : ∀ n, n ≤ 12 → fdok M i s (X n) := fun n hn => by rw [← hXn]; exact okp n hn
    have hX0 : X 0 = (false, s) := by rw [← hXn]; rfl
    have hXs : ∀ m, sN n (X m).2 := fun m => by rw [← hXn]; exact hnp m
    obtain ⟨N, hN1, hN2⟩ := pk_least (fun j => nb ≤ j ∨ (X (j + 1)).1 = true) ⟨nb, Or.inl (Nat.le_refl _)⟩
    have hN : N ≤ nb := by
      by_cases h : N ≤ nb
      · exact h
      · exact absurd (Or.inl (Nat.le_refl nb)) (hN2 nb (by omega))
    have hbf : ∀ j, j < N → j < nb ∧ (X (j + 1)).1 = false := fun j hj => by
      have h := hN2 j hj
      refine ⟨by omega, ?_⟩
      cases hq : (X (j + 1)).1
      · rfl
      · exact absurd (Or.inr hq) h
    have hXf : ∀ j, j ≤ N → (X j).1 = false := by
      intro j hj
      cases j with
      | zero => rw [hX0]
      | succ j => exact (hbf j (by omega)).2
    have hadr : ∀ j, j < 12 → (12 * nI i + nI j).toNatClampNeg = 12 * i + j := fun j hj => by
      rw [show (12 : Int32) = nI 12 from rfl, pk_mul, nI_add, nI_clamp (by omega)]
    -- a try at an open place
    have try_ : ∀ j (υ : zc_N), j ≤ N → j < nb → mM M n nb υ → mS nb υ (X j).2 → (M i j && (X j).2.1 j) = true → (X j).2.2 j < 12 →
        ((zFm k).2.2 (zu υ 49 (zu (υ 49) j 1)) (hI ((X j).2.2 j)) (nI nb) ∧ (zFm k).1 (zu υ 49 (zu (υ 49) j 1)) (hI ((X j).2.2 j)) (nI nb) = b2 (fd M k ((X j).2.2 j) (cut (X j).2.1 j, (X j).2.2)).1 ∧ mS nb ((zFm k).2.1 (zu υ 49 (zu (υ 49) j 1)) (hI ((X j).2.2 j)) (nI nb)) (fd M k ((X j).2.2 j) (cut (X j).2.1 j, (X j).2.2)).2 ∧ off [48, 49] υ ((zFm k).2.1 (zu υ 49 (zu (υ 49) j 1)) (hI ((X j).2.2 j)) (nI nb))) := by
      intro j υ hjN hj hMυ hSυ ho hh
      have hu : (X j).2.1 j = true := ((Bool.and_eq_true _ _).mp ho).2
      have c1 := cnt_clear (X j).2.1 j 12 (by omega) hu
      have c2 : cnt (X j).2.1 12 ≤ cnt s.1 12 := cnt_sub 12 (fun q _ hq => (okX j (by omega)).1 q hq)
      rw [hI_lt hh]
      have := ih ((X j).2.2 j) (zu υ 49 (zu (υ 49) j 1)) (cut (X j).2.1 j, (X j).2.2) (hXs j j hh) (by
        show cnt (cut (X j).2.1 j) 12 < k
        unfold cut
        omega) (hXs j) (fun a b ha hb => by rw [zu_ne _ _ (by decide)]; exact hMυ a b ha hb) (fun q hq => by
        rw [zu_self, zu_ne _ _ (show 48 ≠ 49 by decide)]
        refine ⟨?_, (hSυ q hq).2⟩
        unfold cut
        by_cases e : q = j
        · subst e; rw [zu_self]; simp [b2]
        · rw [zu_ne _ _ e, (hSυ q hq).1]; simp [e])
      obtain ⟨t1, t2, t3, t4⟩ := this
      exact ⟨t1, t2, t3, off_tr (off_zu (off_rf _ _) (by simp) _) t4⟩
    have key := zit_inv (fun j (a : Int32 × zc_N) => j ≤ N → a.1 = nI j ∧ mS nb a.2 (X j).2 ∧ off [48, 49] τ a.2) (fX9_finds_2 (zFm k).2.1 (nI i) (nI nb)) (0, τ) (fun _ => ⟨rfl, by rw [hX0]; exact hS, off_rf _ _⟩) (fun j a ha hj => by
      obtain ⟨g1, g2, g3⟩ := ha (by omega)
      obtain ⟨a1, υ⟩ := a
      dsimp only at g1 g2 g3
      obtain ⟨hj1, hj2⟩ := hbf j (by omega)
      have hMυ : mM M n nb υ := fun p q hp hq => by rw [g3 47 (by decide)]; exact hM p q hp hq
      have hf := hXf j (by omega)
      rw [hX1] at hj2 ⊢
      unfold fX9_finds_2
      dsimp only
      rw [g1, hadr j (by omega), nI_clamp (by omega), nI_1]
      refine ⟨rfl, ?_⟩
      simp only [hMυ i j hi hj1, (g2 j hj1).1, (g2 j hj1).2]
      cases hm : M i j with
      | false =>
        rw [lpf_shut (by rw [hm]; rfl)]
        exact ⟨g2, g3⟩
      | true =>
        cases hu : (X j).2.1 j with
        | false =>
          rw [lpf_shut (by rw [hu, Bool.and_false])]
          exact ⟨g2, g3⟩
        | true =>
          have ho : (M i j && (X j).2.1 j) = true := by rw [hm, hu]; rfl
          have hh : (X j).2.2 j < 12 := by
            by_cases c : (X j).2.2 j < 12
            · exact c
            · rw [lpf_free hf ho (by omega)] at hj2; cases hj2
          obtain ⟨t1, t2, t3, t4⟩ := try_ j υ (by omega) hj1 hMυ g2 ho hh
          have hno : (fd M k ((X j).2.2 j) (cut (X j).2.1 j, (X j).2.2)).1 = false := by
            cases c : (fd M k ((X j).2.2 j) (cut (X j).2.1 j, (X j).2.2)).1
            · rfl
            · rw [lpf_go hf ho (by omega) c] at hj2; cases hj2
          rw [lpf_no hf ho (by omega) hno]
          rw [if_neg (by decide), if_pos (by decide)]
          exact ⟨t3, off_tr g3 t4⟩)
    have hE : ∀ j, j ≤ N → (eX9_finds_2 (zFm k).1 (nI i) (nI nb) (zit (fX9_finds_2 (zFm k).2.1 (nI i) (nI nb)) j (0, τ)) ↔ nb ≤ j ∨ (X (j + 1)).1 = true) := by
      intro j hj
      obtain ⟨g1, g2, g3⟩ := key j hj
      generalize zit (fX9_finds_2 (zFm k).2.1 (nI i) (nI nb)) j (0, τ) = a at g1 g2 g3
      obtain ⟨a1, υ⟩ := a
      dsimp only at g1 g2 g3
      rw [eFm]
      dsimp only
      rw [g1, nI_leI (by omega) (by omega)]
      by_cases c : nb ≤ j
      · simp [c]
      · have hj1 : j < nb := by omega
        have hMυ : mM M n nb υ := fun p q hp hq => by rw [g3 47 (by decide)]; exact hM p q hp hq
        have hf := hXf j (by omega)
        rw [hadr j (by omega), nI_clamp (by omega), hMυ i j hi hj1, (g2 j hj1).1, (g2 j hj1).2, hX1]
        simp only [c, false_or]
        cases hm : M i j with
        | false =>
          rw [lpf_shut (by rw [hm]; rfl), hf]
          simp [b2]
        | true =>
          cases hu : (X j).2.1 j with
          | false =>
            rw [lpf_shut (by rw [hu, Bool.and_false]), hf]
            simp [b2]
          | true =>
            have ho : (M i j && (X j).2.1 j) = true := by rw [hm, hu]; rfl
            by_cases hh : (X j).2.2 j < 12
            · obtain ⟨t1, t2, t3, t4⟩ := try_ j υ (by omega) hj1 hMυ g2 ho hh
              rw [t2]
              cases cc : (fd M k ((X j).2.2 j) (cut (X j).2.1 j, (X j).2.2)).1 with
              | false => rw [lpf_no hf ho (by omega) cc]; simp [b2, hI_neg, hh]
              | true => rw [lpf_go hf ho (by omega) cc]; simp [b2]
            · rw [lpf_free hf ho (by omega)]
              simp [b2, hI_neg, hh]
    have hw : zwn (fun n_ => eX9_finds_2 (zFm k).1 (nI i) (nI nb) (zit (fX9_finds_2 (zFm k).2.1 (nI i) (nI nb)) n_ ((0 : Int32), τ))) = N := zwn_eq ((hE N (Nat.le_refl _)).mpr hN1) (fun j hj g => hN2 j hj ((hE j (by omega)).mp g))
    have hq : ∀ j, j ≤ N → qX9_finds_2 (zFm k).1 (zFm k).2.2 (nI i) (nI nb) (zit (fX9_finds_2 (zFm k).2.1 (nI i) (nI nb)) j ((0 : Int32), τ)) := by
      intro j hj
      obtain ⟨g1, g2, g3⟩ := key j hj
      generalize zit (fX9_finds_2 (zFm k).2.1 (nI i) (nI nb)) j (0, τ) = a at g1 g2 g3
      obtain ⟨a1, υ⟩ := a
      dsimp only at g1 g2 g3
      unfold qX9_finds_2
      dsimp only
      rw [g1]
      refine ⟨fun _ => trivial, fun c => ?_⟩
      have hj1 : j < nb := Nat.lt_of_not_le (fun q => c (nI_le q (by omega)))
      have hMυ : mM M n nb υ := fun p q hp hq => by rw [g3 47 (by decide)]; exact hM p q hp hq
      have v12 : vp_in (nI j) 12 := vp_in_nI (by omega) (by decide)
      refine ⟨by rw [show (12 : Int32) = nI 12 from rfl, pk_mul, nI_add]; exact vp_in_nI (by omega) (by decide), fun _ => trivial, fun c2 => ⟨v12, fun c3 => ⟨v12, v12, fun _ => v12, fun c4 => ⟨v12, ?_, fun _ => trivial, fun _ => v12⟩⟩, fun _ => trivial⟩⟩
      rw [hadr j (by omega), hMυ i j hi hj1] at c2
      rw [nI_clamp (by omega)] at c3 c4 ⊢
      rw [(g2 j hj1).1] at c3
      rw [(g2 j hj1).2] at c4 ⊢
      have ho : (M i j && (X j).2.1 j) = true := by
        have e1 : M i j = true := by cases h : M i j; rw [h] at c2; exact absurd rfl c2; rfl
        have e2 : (X j).2.1 j = true := by cases h : (X j).2.1 j; rw [h] at c3; exact absurd c3 (by decide); rfl
        rw [e1, e2]; rfl
      have hh : (X j).2.2 j < 12 := by
        by_cases c : (X j).2.2 j < 12
        · exact c
        · exact absurd ((hI_neg _).mpr c) c4
      exact (try_ j υ hj hj1 hMυ g2 ho hh).1
    obtain ⟨g1, g2, g3⟩ := key N (Nat.le_refl _)
    have hf := hXf N (Nat.le_refl _)
    have q1 := hq N (Nat.le_refl _)
    have hwX : wX9_finds_2 (zFm k).1 (zFm k).2.1 (nI i) (nI nb) ((0 : Int32), τ) = zit (fX9_finds_2 (zFm k).2.1 (nI i) (nI nb)) N (0, τ) := by
      unfold wX9_finds_2
      rw [hw]
    have goalP : pX9_finds τ (zFm k).1 (zFm k).2.1 (zFm k).2.2 (nI i) (nI nb) := by
      unfold pX9_finds
      rw [hw, hwX]
      refine ⟨⟨⟨N, (hE N (Nat.le_refl _)).mpr hN1⟩, fun j hj => hq j (by omega)⟩, ?_⟩
      exact q1
    refine ⟨goalP, ?_⟩
    rw [hfd]
    show rX9_finds τ (zFm k).1 (zFm k).2.1 (nI i) (nI nb) = b2 (X 12).1 ∧ mS nb (sX9_finds τ (zFm k).1 (zFm k).2.1 (nI i) (nI nb)) (X 12).2 ∧ off [48, 49] τ (sX9_finds τ (zFm k).1 (zFm k).2.1 (nI i) (nI nb))
    unfold rX9_finds sX9_finds vX9_finds_1
    rw [hwX]
    generalize zit (fX9_finds_2 (zFm k).2.1 (nI i) (nI nb)) N (0, τ) = a at g1 g2 g3
    obtain ⟨a1, υ⟩ := a
    dsimp only at g1 g2 g3 ⊢
    rw [g1, nI_clamp (by omega)]
    have hMυ : mM M n nb υ := fun p q hp hq => by rw [g3 47 (by decide)]; exact hM p q hp hq
    by_cases c : nb ≤ N
    · have e12 : X 12 = X N := by
        rw [← hXn 12]
        exact lpf_stay (X N) (hXn N) 12 (by omega) (Or.inr (fun j h1 h2 => by rw [hM0 i j (by omega)]; rfl))
      rw [if_pos (nI_le c (by omega)), if_pos (nI_le c (by omega)), e12, hf]
      exact ⟨rfl, g2, g3⟩
    · have hj1 : N < nb := by omega
      have hsuc : (X (N + 1)).1 = true := hN1.resolve_left c
      have e12 : X 12 = X (N + 1) := by
        rw [← hXn 12]
        exact lpf_stay (X (N + 1)) (hXn (N + 1)) 12 (by omega) (Or.inl hsuc)
      have ho : (M i N && (X N).2.1 N) = true := by
        cases h : (M i N && (X N).2.1 N)
        · rw [hX1, lpf_shut h, hf] at hsuc; cases hsuc
        · rfl
      rw [if_neg (nI_ge hj1 (by omega)), if_neg (nI_ge hj1 (by omega)), e12, hsuc]
      simp only [(g2 N hj1).2]
      refine ⟨rfl, ?_⟩
      rw [hX1]
      by_cases hh : (X N).2.2 N < 12
      · obtain ⟨t1, t2, t3, t4⟩ := try_ N υ (Nat.le_refl _) hj1 hMυ g2 ho hh
        have hyes : (fd M k ((X N).2.2 N) (cut (X N).2.1 N, (X N).2.2)).1 = true := by
          cases cc : (fd M k ((X N).2.2 N) (cut (X N).2.1 N, (X N).2.2)).1
          · rw [hX1, lpf_no hf ho (by omega) cc] at hsuc; cases hsuc
          · rfl
        rw [if_neg (fun z => (hI_neg _).mp z hh), lpf_go hf ho (by omega) hyes]
        refine ⟨fun q hq => ?_, off_zu (off_tr g3 t4) (by simp) _⟩
        rw [zu_ne _ _ (show 49 ≠ 48 by decide), zu_self]
        refine ⟨(t3 q hq).1, ?_⟩
        dsimp only
        by_cases e : q = N
        · subst e; rw [zu_self, zu_self, hI_lt (by omega)]
        · rw [zu_ne _ _ e, zu_ne _ _ e]; exact (t3 q hq).2
      · rw [if_pos ((hI_neg _).mpr hh), lpf_free hf ho (by omega)]
        refine ⟨fun q hq => ?_, off_zu (off_zu g3 (by simp) _) (by simp) _⟩
        rw [zu_ne _ _ (show 49 ≠ 48 by decide), zu_self, zu_self]
        dsimp only
        unfold cut
        by_cases e : q = N
        · subst e; rw [zu_self, zu_self, zu_self, hI_lt (by omega)]; simp [b2]
        · rw [zu_ne _ _ e, zu_ne _ _ e, zu_ne _ _ e]
          refine ⟨?_, (g2 q hq).2⟩
          rw [(g2 q hq).1]; simp [e]
