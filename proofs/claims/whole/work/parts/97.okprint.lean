/-! ===== print: the call ===== -/
noncomputable def atp (D : Nat → Bool) (i : Nat) : Nat := @dite _ (∃ p, p < 256 ∧ isp D p = true ∧ cnt (isp D) p = i) (Classical.propDecidable _) (fun h => Classical.choose h) (fun _ => 0)
theorem atp_s {D : Nat → Bool} {i : Nat} (h : i < cnt (isp D) 256) : atp D i < 256 ∧ isp D (atp D i) = true ∧ cnt (isp D) (atp D i) = i := by
  have hx := cnt_ex (f := isp D) 256 i h
  unfold atp
  rw [dif_pos hx]
  exact Classical.choose_spec hx
/-- one print more -/
noncomputable def extA (A : gA) (D : Nat → Bool) (n m v : Nat) : gA := (zu A.1 n m, zu A.2.1 n (fun i => atp D i % 16), zu A.2.2.1 n (fun i => atp D i / 16), zu A.2.2.2.1 n (fun i => kdn D (atp D i)), zu A.2.2.2.2 n (fun t => [v / 4096, v / 256 % 16, v / 16 % 16, v % 16].getD t 0))
theorem extA_o {A : gA} {D : Nat → Bool} {n m v p : Nat} (h : p ≠ n) : agr A (extA A D n m v) p := by
  unfold agr extA aN aX aY aK aR
  refine ⟨zu_ne _ _ h, zu_ne _ _ h, zu_ne _ _ h, zu_ne _ _ h, zu_ne _ _ h⟩
theorem extA_n {A : gA} {D : Nat → Bool} {n m v : Nat} : aN (extA A D n m v) n = m ∧ (∀ i, aX (extA A D n m v) n i = atp D i % 16 ∧ aY (extA A D n m v) n i = atp D i / 16 ∧ aK (extA A D n m v) n i = kdn D (atp D i)) ∧ ∀ t, aR (extA A D n m v) n t = [v / 4096, v / 256 % 16, v / 16 % 16, v % 16].getD t 0 := by
  unfold extA aN aX aY aK aR
  exact ⟨zu_self _ _ _, fun i => ⟨congrFun (zu_self _ _ _) i, congrFun (zu_self _ _ _) i, congrFun (zu_self _ _ _) i⟩, fun t => congrFun (zu_self _ _ _) t⟩
theorem bits4 {v : Nat} (h : v ≤ 65535) : zshr (nI v) (12 : Int32) = nI (v / 4096) ∧ (zshr (nI v) (8 : Int32)) &&& (15 : Int32) = nI (v / 256 % 16) ∧ (zshr (nI v) (4 : Int32)) &&& (15 : Int32) = nI (v / 16 % 16) ∧ (nI v) &&& (15 : Int32) = nI (v % 16) := by
  have e15 : ∀ w, nI w &&& (15 : Int32) = nI (w % 16) := fun w => by
    rw [show (15 : Int32) = nI (2 ^ 4 - 1) from rfl, and_n, Nat.and_two_pow_sub_one_eq_mod]
  refine ⟨?_, ?_, ?_, e15 v⟩
  · rw [show (12 : Int32) = nI 12 from rfl, zshr_n (by omega) (by decide)]
  · rw [show (8 : Int32) = nI 8 from rfl, zshr_n (by omega) (by decide), e15]
  · rw [show (4 : Int32) = nI 4 from rfl, zshr_n (by omega) (by decide), e15]
theorem prB_no {a1 : Int32} (h : ¬ prB a1) : ∃ v, v ≤ 65535 ∧ a1 = nI v := by
  rcases win a1 65535 (by decide) with ⟨e1, e2⟩ | ⟨j, hj, e, -, -⟩
  · exact absurd (Or.inl e1) h
  · exact ⟨j, hj, e⟩
theorem print_bad {σ : zc_N} {a1 : Int32} (h : prB a1) : pX9_print σ a1 ∧ rX9_print σ a1 = -1 ∧ sX9_print σ a1 = σ := by
  unfold pX9_print rX9_print sX9_print
  by_cases w1 : rX9_within a1 (0 : Int32) (65535 : Int32) = 0
  · rw [if_pos w1, if_pos w1]
    exact ⟨⟨fun _ => trivial, fun z => absurd w1 z⟩, rfl, rfl⟩
  · by_cases w2 : ((zshr a1 (4 : Int32)) &&& (15 : Int32)) < (zshr a1 (12 : Int32))
    · rw [if_neg w1, if_neg w1, if_pos w2, if_pos w2]
      exact ⟨⟨fun z => absurd z w1, fun _ => ⟨fun _ => trivial, fun z => absurd w2 z⟩⟩, rfl, rfl⟩
    · have w3 : ¬ ((zshr a1 (8 : Int32)) &&& (15 : Int32)) ≤ (a1 &&& (15 : Int32)) := by
        rcases h with z | z | z
        · exact absurd z w1
        · exact absurd z w2
        · exact z
      rw [if_neg w1, if_neg w1, if_neg w2, if_neg w2, if_neg w3, if_neg w3]
      exact ⟨⟨fun z => absurd z w1, fun _ => ⟨fun z => absurd z w2, fun _ => ⟨fun z => absurd z w3, fun _ => trivial⟩⟩⟩, rfl, rfl⟩
theorem print_full {σ : zc_N} {a1 : Int32} (h : ¬ prB a1) (h24 : σ 32 11 = (24 : Int32)) : pX9_print σ a1 ∧ rX9_print σ a1 = -2 ∧ sX9_print σ a1 = σ := by
  have w1 : ¬ rX9_within a1 (0 : Int32) (65535 : Int32) = 0 := fun z => h (Or.inl z)
  have w2 : ¬ ((zshr a1 (4 : Int32)) &&& (15 : Int32)) < (zshr a1 (12 : Int32)) := fun z => h (Or.inr (Or.inl z))
  have w3 : ((zshr a1 (8 : Int32)) &&& (15 : Int32)) ≤ (a1 &&& (15 : Int32)) := Classical.byContradiction (fun z => h (Or.inr (Or.inr z)))
  unfold pX9_print rX9_print sX9_print
  rw [if_neg w1, if_neg w1, if_neg w2, if_neg w2, if_pos w3, if_pos w3, if_pos h24, if_pos h24]
  exact ⟨⟨fun z => absurd z w1, fun _ => ⟨fun z => absurd z w2, fun _ => ⟨fun _ => ⟨fun _ => trivial, fun z => absurd h24 z⟩, fun z => absurd w3 z⟩⟩⟩, rfl, rfl⟩
theorem print_yes {P : zp} {A : gA} {σ τ : zc_N} {a1 : Int32} {D : Nat → Bool} (h : Inv P A σ) (g1 : gC D σ) (g2 : gM D σ) (hb : ¬ prB a1) (hn : P.2.1 < 24) (hW : prW P σ a1 (min 12 (cnt (isp D) 256)) τ) : ∃ A', pX9_print τ a1 ∧ rX9_print τ a1 = nI P.2.1 ∧ Inv (prN P (min 12 (cnt (isp D) 256))) A' (sX9_print τ a1) := by
  obtain ⟨-, ⟨p1, p2, p3⟩, l, t, a, hK, w, yy⟩ := h
  obtain ⟨-, -, -, r4, r5⟩ := readPoints_c g1
  obtain ⟨q1, q2, q3, q4, q5⟩ := hW
  obtain ⟨v, hv, rfl⟩ := prB_no hb
  obtain ⟨v1, v2, v3, v4⟩ := bits4 hv
  have hq3 : sX1_readPoints σ 3 = σ 3 := r5 3 (by decide)
  rw [hq3] at q2 q3
  have kσ : ∀ k, k ≠ 3 → k ≠ 8 → k < 57 + 3 * P.2.1 → τ k = σ k := fun k h1 h2 h3 => by
    rw [q1 k h1 h3]
    exact r5 k (by simp only [List.mem_cons, List.not_mem_nil, or_false]; exact h2)
  have k57 : ∀ k, k < 57 → k < 57 + 3 * P.2.1 := fun k hk => by omega
  have gm : gM D τ := fun k hk => by rw [kσ 33 (by decide) (by decide) (k57 33 (by decide))]; exact g2 k hk
  have h11 : τ 32 11 = nI P.2.1 := by rw [kσ 32 (by decide) (by decide) (k57 32 (by decide))]; exact p1.2.2
  obtain ⟨m1, m2, m3, m4, ⟨m5, m6⟩, ⟨m7, m8, m9⟩, ⟨m10, m11, m12, m13, m14⟩, ⟨m15, m16, m17⟩⟩ := print_m gm h11 hn hb
  generalize sX9_print τ (nI v) = s at *
  have c12 : min 12 (cnt (isp D) 256) ≤ 12 := by omega
  have cle : min 12 (cnt (isp D) 256) ≤ cnt (isp D) 256 := by omega
  generalize hm : min 12 (cnt (isp D) 256) = m at *
  refine ⟨extA A D P.2.1 m v, m1, m2, ?_⟩
  have ks : ∀ k, k ∉ [3, 8, 32, 35, 36, 37, 38, 39, 40, 41, 42, 43] → k < 57 + 3 * P.2.1 → s k = σ k := fun k hk h3 => by
    rw [m4 k (fun z => hk (by simp only [List.mem_cons, List.not_mem_nil, or_false] at z ⊢; omega))]
    exact kσ k (fun z => hk (by rw [z]; decide)) (fun z => hk (by rw [z]; decide)) h3
  have kp : ∀ k, 57 ≤ k → s k = τ k := fun k hk => m4 k (fun z => by simp only [List.mem_cons, List.not_mem_nil, or_false] at z; omega)
  have kpO : ∀ k, 57 ≤ k → k < 57 + 3 * P.2.1 → s k = σ k := fun k h1 h2 => (kp k h1).trans (kσ k (by omega) (by omega) h2)
  have s3 : ∀ j, j ≠ 3 → s 3 j = σ 3 j := fun j hj => by rw [m4 3 (by decide), q2, zu_ne _ _ hj]
  have s33 : s 3 3 = nI (P.2.1 + 1) := by rw [m4 3 (by decide), q2, zu_self, p1.2.1, nI_1]
  have s32 : ∀ j, j ≠ 11 → s 32 j = σ 32 j := fun j hj => by rw [m6 j hj, kσ 32 (by decide) (by decide) (k57 32 (by decide))]
  have xA := extA_n (A := A) (D := D) (n := P.2.1) (m := m) (v := v)
  have old : ∀ p, p < P.2.1 → agr A (extA A D P.2.1 m v) p := fun p hp => extA_o (by omega)
  refine ⟨⟨D, fun y hy => ?_, m3⟩, ⟨⟨hn, s33, m5⟩, fun p hp => ?_, fun p hp => ?_⟩, ?_, ?_, ?_, ⟨fun r a b hr ha hb => ?_, fun r a b hr ha hb hab => ?_⟩, ?_, fun p q hp hq hpq e1 e2 => ?_⟩
  · rw [ks 5 (by decide) (k57 5 (by decide))]; exact g1 y hy
  · by_cases ep : p = P.2.1
    · subst ep
      refine ⟨⟨?_, ?_, fun i hi => ?_, fun t ht => ?_⟩, ⟨?_, fun i hi => ?_, fun t ht => ?_⟩, ⟨?_, fun i hi => ?_, fun t ht => ?_⟩⟩
      · rw [xA.1]; exact zu_self _ _ _
      · rw [kp _ (by show 57 ≤ 57 + 3 * P.2.1; omega), q3.1]; exact p1.2.1
      · rw [xA.1] at hi
        obtain ⟨y1, y2, y3⟩ := atp_s (D := D) (i := i) (by omega)
        rw [kp _ (by show 57 ≤ 58 + 3 * P.2.1; omega), q4 i hi, (xA.2.1 i).1, (xA.2.1 i).2.1, (xA.2.1 i).2.2]
        have := r4 (atp D i) y1 y2 (by rw [y3]; omega)
        rw [y3] at this
        rw [this]
        congr 1
        omega
      · rw [kp _ (by show 57 ≤ 59 + 3 * P.2.1; omega), xA.2.2 t]
        have : t = 0 ∨ t = 1 ∨ t = 2 ∨ t = 3 := by omega
        rcases this with rfl | rfl | rfl | rfl
        · rw [q5.1]; exact v1
        · rw [q5.2.1]; exact v2
        · rw [q5.2.2.1]; exact v3
        · rw [q5.2.2.2]; exact v4
      · rw [xA.1]; exact m7
      · rw [xA.1] at hi
        obtain ⟨y1, y2, y3⟩ := atp_s (D := D) (i := i) (by omega)
        have := m8 (atp D i) y1 y2 (by rw [y3]; omega)
        rw [y3] at this
        rw [(xA.2.1 i).1, (xA.2.1 i).2.1, (xA.2.1 i).2.2]
        exact this
      · rw [xA.2.2 t]
        have : t = 0 ∨ t = 1 ∨ t = 2 ∨ t = 3 := by omega
        rcases this with rfl | rfl | rfl | rfl
        · exact m10.trans v1
        · exact m11.trans v2
        · exact m12.trans v3
        · exact m13.trans v4
      · rw [xA.1]; exact c12
      · rw [xA.1] at hi
        obtain ⟨y1, y2, y3⟩ := atp_s (D := D) (i := i) (by omega)
        rw [(xA.2.1 i).1, (xA.2.1 i).2.1, (xA.2.1 i).2.2]
        exact ⟨Nat.mod_lt _ (by decide), by omega, of_decide_eq_true y2⟩
      · rw [xA.2.2 t]
        have : t = 0 ∨ t = 1 ∨ t = 2 ∨ t = 3 := by omega
        rcases this with rfl | rfl | rfl | rfl
        · show v / 4096 < 16; omega
        · show v / 256 % 16 < 16; omega
        · show v / 16 % 16 < 16; omega
        · show v % 16 < 16; omega
    · have hp2 : p < P.2.1 := by have : p < P.2.1 + 1 := hp; omega
      obtain ⟨⟨c1, c2, c3, c4⟩, ⟨d1, d2, d3⟩, e1, e2, e3⟩ := p2 p hp2
      obtain ⟨b1, b2', b3, b4, b5⟩ := old p hp2
      have o1 : s (pO p) = σ (pO p) := kpO _ (by show 57 ≤ 57 + 3 * p; omega) (by show 57 + 3 * p < _; omega)
      have o2 : s (pP p) = σ (pP p) := kpO _ (by show 57 ≤ 58 + 3 * p; omega) (by show 58 + 3 * p < _; omega)
      have o3 : s (pT p) = σ (pT p) := kpO _ (by show 57 ≤ 59 + 3 * p; omega) (by show 59 + 3 * p < _; omega)
      have o37 : s 37 p = σ 37 p := by rw [m9.1 p ep, kσ 37 (by decide) (by decide) (k57 37 (by decide))]
      have o41 : ∀ t, t < 4 → s 41 (4 * p + t) = σ 41 (4 * p + t) := fun t ht => by rw [m14 _ (by omega), kσ 41 (by decide) (by decide) (k57 41 (by decide))]
      have o38 : ∀ i, i < 12 → s 38 (12 * p + i) = σ 38 (12 * p + i) ∧ s 39 (12 * p + i) = σ 39 (12 * p + i) ∧ s 40 (12 * p + i) = σ 40 (12 * p + i) := fun i hi => by
        have := m9.2 (12 * p + i) (by omega)
        rw [this.1, this.2.1, this.2.2, kσ 38 (by decide) (by decide) (k57 38 (by decide)), kσ 39 (by decide) (by decide) (k57 39 (by decide)), kσ 40 (by decide) (by decide) (k57 40 (by decide))]
        exact ⟨rfl, rfl, rfl⟩
      refine ⟨⟨?_, ?_, fun i hi => ?_, fun t ht => ?_⟩, ⟨?_, fun i hi => ?_, fun t ht => ?_⟩, ⟨?_, fun i hi => ?_, fun t ht => ?_⟩⟩
      · rw [b1, ← c1]; exact zu_ne _ _ ep
      · rw [o1]; exact c2
      · rw [b1] at hi
        rw [o2, b2', b3, b4]; exact c3 i hi
      · rw [o3, b5]; exact c4 t ht
      · rw [o37, b1]; exact d1
      · rw [b1] at hi
        have := o38 i (by omega)
        rw [this.1, this.2.1, this.2.2, b2', b3, b4]
        exact d2 i hi
      · rw [o41 t ht, b5]; exact d3 t ht
      · rw [b1]; exact e1
      · rw [b1] at hi
        rw [b2', b3, b4]; exact e2 i hi
      · rw [b5]; exact e3 t ht
  · by_cases ep : p = P.2.1
    · subst ep
      rw [kp _ (by show 57 ≤ 57 + 3 * P.2.1; omega), q3.2.1, q3.2.2, m15, m16]
      exact ⟨rfl, rfl, Or.inl ⟨rfl, rfl⟩⟩
    · have hp2 : p < P.2.1 := by have : p < P.2.1 + 1 := hp; omega
      rw [kpO (pO p) (by show 57 ≤ 57 + 3 * p; omega) (by show 57 + 3 * p < _; omega), (m17 p ep).1, (m17 p ep).2, kσ 42 (by decide) (by decide) (k57 42 (by decide)), kσ 43 (by decide) (by decide) (k57 43 (by decide))]
      exact p3 p hp2
  · obtain ⟨r, r1, r2, r3⟩ := l
    exact ⟨r, r1, by rw [ks 10 (by decide) (k57 10 (by decide))]; exact r2, by rw [s32 12 (by decide)]; exact r3⟩
  · unfold iT
    rw [s3 6 (by decide), s32 30 (by decide), ks 52 (by decide) (k57 52 (by decide)), ks 23 (by decide) (k57 23 (by decide)), ks 53 (by decide) (k57 53 (by decide)), ks 24 (by decide) (k57 24 (by decide))]
    exact t
  · unfold iA
    rw [s3 11 (by decide), s3 9 (by decide), s3 10 (by decide), s32 36 (by decide), s32 37 (by decide)]
    exact a
  · have ha : a < P.2.1 + 1 := ha
    have hb : b < P.2.1 + 1 := hb
    rw [ks 11 (by decide) (k57 11 (by decide))]
    by_cases hab : a < P.2.1 ∧ b < P.2.1
    · obtain ⟨e1, e2⟩ := agr_S (old a hab.1) (old b hab.2) r
      rw [e1, e2]
      exact hK.1 r a b hr hab.1 hab.2
    · exact Or.inl (hK.2 r a b hr (by omega) (by omega) (by omega))
  · have hab : P.2.1 + 1 ≤ a ∨ P.2.1 + 1 ≤ b := hab
    rw [ks 11 (by decide) (k57 11 (by decide))]
    exact hK.2 r a b hr ha hb (by omega)
  · unfold iW
    rw [ks 1 (by decide) (k57 1 (by decide)), ks 2 (by decide) (k57 2 (by decide))]
    exact w
  · have hp : p < P.2.1 + 1 := hp
    have hq : q < P.2.1 + 1 := hq
    by_cases ep : p = P.2.1
    · subst ep
      exact absurd m15 e2
    · by_cases eq : q = P.2.1
      · subst eq
        rw [e1] at e2
        exact absurd m15 e2
      · have c42 : τ 42 = σ 42 := kσ 42 (by decide) (by decide) (k57 42 (by decide))
        have c43 : τ 43 = σ 43 := kσ 43 (by decide) (by decide) (k57 43 (by decide))
        rw [(m17 p ep).1, (m17 q eq).1, c42] at e1
        rw [(m17 p ep).1, c42] at e2
        rw [(m17 p ep).2, (m17 q eq).2, c43]
        exact yy p q (by omega) (by omega) hpq e1 e2
theorem ok_print {P : zp} {A : gA} {σ : zc_N} (h : Inv P A σ) (a1 : Int32) : ∃ c, (σ 3 3 = nI P.2.1 ∧ P.2.1 ≤ 24 ∧ pX1_readPoints σ ∧ rX1_readPoints σ = nI c ∧ c ≤ 256 ∧ off [8] σ (sX1_readPoints σ)) ∧ ∀ r_ h_, prQ P σ a1 (min 12 c) r_ h_ → ∃ P' A' σ' v, r_ = some (.int v) ∧ h_ = hh P' σ' ∧ P'.1 = P.1 ∧ pX9_print σ' a1 ∧ v = rX9_print σ' a1 ∧ Inv P' A' (sX9_print σ' a1) := by
  have h' := h
  obtain ⟨⟨D, g1, g2⟩, ⟨p1, p2, p3⟩, -⟩ := h'
  obtain ⟨r1, r2, r3, r4, r5⟩ := readPoints_c g1
  refine ⟨cnt (isp D) 256, ⟨p1.2.1, p1.1, r1, r2, cnt_le _ 256, r5⟩, fun r_ h_ hq => ?_⟩
  rcases hq with ⟨hb, e1, e2⟩ | ⟨hb, h24, e1, e2⟩ | ⟨hb, h24, e1, σ', e2, hW⟩
  · obtain ⟨b1, b2', b3⟩ := print_bad (σ := σ) hb
    exact ⟨P, A, σ, -1, e1, e2, rfl, b1, b2'.symm, by rw [b3]; exact h⟩
  · have hn : P.2.1 = 24 := by
      apply Classical.byContradiction
      intro z
      rw [p1.2.1] at h24
      have l1 : nI P.2.1 < nI 24 := nI_lt (by have := p1.1; omega) (by decide)
      exact h24 l1
    obtain ⟨b1, b2', b3⟩ := print_full (σ := σ) hb (by rw [p1.2.2, hn]; rfl)
    exact ⟨P, A, σ, -2, e1, e2, rfl, b1, b2'.symm, by rw [b3]; exact h⟩
  · have hn : P.2.1 < 24 := by
      apply Classical.byContradiction
      intro z
      rw [p1.2.1] at h24
      have l1 : ¬ nI P.2.1 < nI 24 := nI_nlt (by omega) (by have := p1.1; omega)
      exact l1 h24
    obtain ⟨A', y1, y2, y3⟩ := print_yes h g1 g2 hb hn hW
    refine ⟨_, A', σ', _, e1, e2, rfl, y1, ?_, y3⟩
    rw [y2, r5 3 (by decide), p1.2.1, nI_1, nI_pred]
