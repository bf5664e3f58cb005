/-! ===== age ===== -/
theorem nwo_S {P : zp} {σ τ : zc_N} {S : List Nat} (ho : off S σ τ) (hS : ∀ m, m ∈ S → m < 57) (t : Int32) : nwo P τ t = nwo P σ t := by
  have ep : ∀ k, τ (pO k) = σ (pO k) := fun k => ho (pO k) (fun z => by
    have := hS _ z
    have := pO_ge k
    omega)
  have e : nwf τ t = nwf σ t := by
    funext k o
    unfold nwf
    simp only [ep]
  unfold nwo
  rw [e]
theorem come_3 (v : zc_N) (X : Nat → Int32) (m k : Int32) : rX2_firstComing (zu v 3 X) m k = rX2_firstComing v m k := by
  have e : fX2_firstComing_5 (zu v 3 X) m = fX2_firstComing_5 v m := by
    funext i a
    unfold fX2_firstComing_5
    rw [zu_ne v X (show 27 ≠ 3 by decide), zu_ne v X (show 28 ≠ 3 by decide)]
  unfold rX2_firstComing
  rw [e]
theorem lack_3 (v : zc_N) (X : Nat → Int32) : rX3_lacking_t (zu v 3 X) = rX3_lacking_t v := by
  unfold rX3_lacking_t
  rw [zu_ne v X (show 25 ≠ 3 by decide)]
theorem iP_3 {P : zp} {A : gA} {v : zc_N} {X : Nat → Int32} (h : iP P A v) (e : X 3 = v 3 3) : iP P A (zu v 3 X) := by
  obtain ⟨p1, p2, p3⟩ := h
  have ok : ∀ k, k ≠ 3 → zu v 3 X k = v k := fun k hk => zu_ne _ _ hk
  refine ⟨⟨p1.1, by rw [zu_self, e]; exact p1.2.1, by rw [ok 32 (by decide)]; exact p1.2.2⟩, fun p hp => ⟨?_, ?_, (p2 p hp).2.2⟩, fun p hp => ?_⟩
  · have := (p2 p hp).1
    unfold pC
    rw [ok (pO p) (by show 57 + 3 * p ≠ 3; omega), ok (pP p) (by show 58 + 3 * p ≠ 3; omega), ok (pT p) (by show 59 + 3 * p ≠ 3; omega)]
    exact this
  · have := (p2 p hp).2.1
    unfold pM
    rw [ok 37 (by decide), ok 38 (by decide), ok 39 (by decide), ok 40 (by decide), ok 41 (by decide)]
    exact this
  · rw [ok (pO p) (by show 57 + 3 * p ≠ 3; omega), ok 42 (by decide), ok 43 (by decide)]
    exact p3 p hp
theorem Inv_age {P : zp} {A : gA} {v γ : zc_N} (h : Inv P A v) (ho : off (3 :: fO) v γ) (h3 : ∀ m, m ≠ 9 → m ≠ 10 → m ≠ 11 → γ 3 m = v 3 m) (h32 : ∀ m, m ∈ [11, 12, 30] → γ 32 m = v 32 m) (q1 : γ 3 11 = 1) (q2 : γ 3 9 = γ 32 36) (q3 : γ 3 10 = γ 32 37) : Inv P A γ := by
  obtain ⟨⟨D, g1, g2⟩, ⟨p1, p2, p3⟩, l, t, -, k, w, yy⟩ := h
  have g : ∀ m, m ∈ (3 :: fO) → m < 57 := by decide
  have okp : ∀ k, 57 ≤ k → γ k = v k := fun k hk => ho k (fun z => by have := g k z; omega)
  refine ⟨⟨D, gC_off g1 ho (by decide), gM_off g2 ho (by decide)⟩, ⟨⟨p1.1, by rw [h3 3 (by decide) (by decide) (by decide)]; exact p1.2.1, by rw [h32 11 (by decide)]; exact p1.2.2⟩, fun p hp => ⟨?_, pM_off (p2 p hp).2.1 ho (by decide), (p2 p hp).2.2⟩, fun p hp => ?_⟩, ?_, ?_, Or.inr ⟨q1, q2, q3⟩, iK_11 k (ho 11 (by decide)), ?_, by unfold iY; rw [ho 42 (by decide), ho 43 (by decide)]; exact yy⟩
  · have := (p2 p hp).1
    unfold pC
    rw [okp (pO p) (by show 57 ≤ 57 + 3 * p; omega), okp (pP p) (by show 57 ≤ 58 + 3 * p; omega), okp (pT p) (by show 57 ≤ 59 + 3 * p; omega)]
    exact this
  · rw [okp (pO p) (by show 57 ≤ 57 + 3 * p; omega), ho 42 (by decide), ho 43 (by decide)]
    exact p3 p hp
  · obtain ⟨r, r1, r2, r3⟩ := l
    exact ⟨r, r1, by rw [ho 10 (by decide)]; exact r2, by rw [h32 12 (by decide)]; exact r3⟩
  · unfold iT
    rw [h3 6 (by decide) (by decide) (by decide), ho 52 (by decide), ho 53 (by decide), ho 23 (by decide), ho 24 (by decide), h32 30 (by decide)]
    exact t
  · unfold iW
    rw [ho 1 (by decide), ho 2 (by decide)]
    exact w
theorem age_core {P : zp} {A : gA} {σ τ v ζ : zc_N} {r t L p : Nat} {l f : Int32} (h : Inv P A σ) (hr : r < 4) (h10 : σ 10 0 = nI r) (h12 : σ 32 12 = nI r) (ht : t < 10) (hw : nwo P σ (nI t) = some L) (hp : p < P.2.1) (hR : RH P A σ r t L τ) (hv : sX4_layBest_t P τ L p = v) (hl : rX2_lastComing v (v 25 7) 0 = l) (hf : rX2_firstComing (zu v 3 (zu (v 3) 9 l)) (rX3_lacking_t (zu v 3 (zu (v 3) 9 l))) 10000 = f) (hζ : zu v 3 (zu (zu (zu (v 3) 9 l) 10 f) 11 1) = ζ) :
    pX4_layBest_t P τ L p ∧ pX9_age ζ (nI p) (nI t) ∧ vX9_age_2 (nI p) (nI t) ζ 32 36 = l ∧ vX9_age_2 (nI p) (nI t) ζ 32 37 = f ∧ Inv P A (vX9_age_2 (nI p) (nI t) ζ) ∧ ζ 42 = σ 42 ∧ ζ 32 = σ 32 := by
  have hI := Inv_RH h hR
  obtain ⟨hn, h3, h11, p2, p3⟩ := iP_parts hI
  have hL := (newest h ht hw).1
  obtain ⟨l1, l2, l3, l4, l5⟩ := layBest_t (P := P) (A := A) (σ := τ) (r := r) (n := P.2.1) hn hL hp (p2 L hL).1 (p2 p hp).1 (p2 L hL).2.2 (p2 p hp).2.2 hr (by rw [hR.2.1 0 (by decide) (by decide)]; exact h10) hR.2.2.1
  refine ⟨l1, ?_⟩
  rw [hv] at l2 l3 l4 l5
  have hV : Inv P A v := Inv_sub hI l4 (by decide) (l5 0 (by decide) (by decide)) (fun k _ => by rw [l4 32 (by decide)]) l3
  obtain ⟨m7, m8⟩ := lres_hs l2
  have n12 := (p2 L hL).2.2.1
  have hx : ∀ i, ∃ z : Int, i < 12 → ∃ x, mxS (Vl A σ r t L P.2.1 i) x ∧ τ 28 i = zI z ∧ mnS (Vc A σ r t L P.2.1 i x) z := fun i => by
    by_cases hi : i < 12
    · obtain ⟨x, z, q⟩ := hR.2.2.2.2 i hi; exact ⟨z, fun _ => ⟨x, q⟩⟩
    · exact ⟨0, fun z => absurd z hi⟩
  obtain ⟨Z, hZ⟩ : ∃ Z : Nat → Int, ∀ i, i < 12 → ∃ x, mxS (Vl A σ r t L P.2.1 i) x ∧ τ 28 i = zI (Z i) ∧ mnS (Vc A σ r t L P.2.1 i x) (Z i) := ⟨fun i => Classical.choose (hx i), fun i hi => Classical.choose_spec (hx i) hi⟩
  have bZ : ∀ i, i < 12 → 0 ≤ Z i ∧ Z i ≤ 10000 := fun i hi => by
    obtain ⟨x, -, -, q⟩ := hZ i hi
    have := Vc_b q.1
    omega
  have v27 : v 27 0 = nI (msk (fl P A σ r t L)) := by rw [l4 27 (by decide)]; exact hR.2.2.2.1
  have v28 : ∀ i, i < 12 → v 28 i = zI (Z i) ∧ 0 ≤ Z i ∧ Z i ≤ 10000 := fun i hi => by
    obtain ⟨x, -, q, -⟩ := hZ i hi
    rw [l4 28 (by decide)]
    exact ⟨q, bZ i hi⟩
  obtain ⟨x, x1, x2⟩ := (come_c (H := hs A r L p) v27 v28).1
  obtain ⟨y, y1, y2⟩ := (come_c (H := lks A r L p) v27 v28).2
  rw [m7, x1] at hl
  rw [lack_3, come_3, m8, y1] at hf
  have oζ : off [3] v ζ := by rw [← hζ]; exact off_zu (off_rf _ _) (by simp) _
  have iζ : iP P A ζ := by rw [← hζ]; exact iP_3 hV.2.1 (by rw [zu_ne _ _ (by decide), zu_ne _ _ (by decide), zu_ne _ _ (by decide)])
  have yζ : iY P ζ := by unfold iY; rw [oζ 42 (by decide), oζ 43 (by decide)]; exact hV.2.2.2.2.2.2.2
  have z9 : ζ 3 9 = l := by rw [← hζ, zu_self, zu_ne _ _ (by decide), zu_ne _ _ (by decide), zu_self]
  have z10 : ζ 3 10 = f := by rw [← hζ, zu_self, zu_ne _ _ (by decide), zu_self]
  have z11 : ζ 3 11 = 1 := by rw [← hζ, zu_self, zu_self]
  have z3 : ∀ m, m ≠ 9 → m ≠ 10 → m ≠ 11 → ζ 3 m = v 3 m := fun m g1 g2 g3 => by rw [← hζ, zu_self, zu_ne _ _ g3, zu_ne _ _ g2, zu_ne _ _ g1]
  have o1 : off (3 :: hO) σ ζ := off_tr (off_tr (off_sub hR.1 (by decide)) (off_sub l4 (by decide))) (off_sub oζ (by decide))
  have e42 : ζ 42 = σ 42 := o1 42 (by decide)
  have e43 : ζ 43 = σ 43 := o1 43 (by decide)
  have e32 : ζ 32 = σ 32 := o1 32 (by decide)
  clear hζ hv hx
  obtain ⟨f1, f2⟩ := find_m (σ := ζ) (r := r) (L := L) iζ yζ hr (by rw [e32]; exact h12) ht (by rw [nwo_S o1 (by decide)]; exact hw)
  unfold pX9_age vX9_age_2
  have kp := (kept_m (iPp iζ).2.2.1 hn (nI t)).1
  have vp : vp_in (nI p) 24 := vp_in_nI (by omega) (by decide)
  generalize sX9_findFlaws ζ (nI t) = ω at f2
  obtain ⟨f3, f4, f5, f6, f7⟩ := f2
  rw [fl_42 e42 e43] at f6 f7
  rw [Vl_42 e42 e43, Vc_42 e42 e43] at f7
  obtain ⟨a1, a2, a3, a4, a5⟩ := ask_m (σ := ω) (r := r) (L := L) (k := p) (iP_fO iζ f3 (f4 11 (by decide) (by decide) (by decide))) hr (by rw [f4 12 (by decide) (by decide) (by decide), e32]; exact h12) hL hp f5.2.2.1
  generalize sX9_ask ω (nI p) = β0 at a2 a3 a4 a5
  have hβ : ∀ m, m ≠ 36 → m ≠ 37 → zu β0 32 (zu (zu (β0 32) 36 0) 37 10000) 32 m = β0 32 m := fun m g1 g2 => by rw [zu_self, zu_ne _ _ g2, zu_ne _ _ g1]
  have b36 : zu β0 32 (zu (zu (β0 32) 36 0) 37 10000) 32 36 = 0 := by rw [zu_self, zu_ne _ _ (by decide), zu_self]
  have b37 : zu β0 32 (zu (zu (β0 32) 36 0) 37 10000) 32 37 = 10000 := by rw [zu_self, zu_self]
  have oβ : off [32] β0 (zu β0 32 (zu (zu (β0 32) 36 0) 37 10000)) := off_zu (off_rf _ _) (by simp) _
  generalize zu β0 32 (zu (zu (β0 32) 36 0) 37 10000) = β at hβ b36 b37 oβ
  have e33 : β 32 33 = nI (cnt (fl P A σ r t L) (aN A L)) := by rw [hβ 33 (by decide) (by decide), a5 33 (by decide)]; exact f6
  have cle := cnt_le (fl P A σ r t L) (aN A L)
  rw [e33, cl_n (a := cnt (fl P A σ r t L) (aN A L)) (by omega)]
  have h5 : ∀ j, j < aN A L → fl P A σ r t L j = true → β 54 (cnt (fl P A σ r t L) j) = nI j ∧ β 55 (cnt (fl P A σ r t L) j) = zI (Z j) := fun j hj hf' => by
    rw [oβ 54 (by decide), oβ 55 (by decide), a4 54 (by decide), a4 55 (by decide)]
    obtain ⟨w1, x', z', w2, w3, w4⟩ := f7 j hj hf'
    obtain ⟨x'', u1, -, u3⟩ := hZ j (by omega)
    have ex : x' = x'' := mxS_uni w2 u1
    rw [← ex] at u3
    have ez : z' = Z j := mnS_uni w4 u3
    exact ⟨w1, by rw [w3, ez]⟩
  have h6 : ∀ i, i < aN A L → β 56 (12 * p + i) = vd A r L p i := fun i hi => by rw [oβ 56 (by decide)]; exact a2 i hi
  have G0 : AG A r L p (aN A L) (fl P A σ r t L) Z β 0 β := ⟨off_rf _ _, fun _ _ _ => rfl, 0, 10000, b36, ⟨Or.inl rfl, by omega, fun i d => absurd d.2.1 (by omega)⟩, b37, ⟨Or.inl rfl, by omega, fun i d => absurd d.2.1 (by omega)⟩⟩
  have GA := zfor_inv (AG A r L p (aN A L) (fl P A σ r t L) Z β) (fX9_age_63 (nI p)) (cnt (fl P A σ r t L) (aN A L)) β G0 (fun s hs' τ' hh => (f63_m (show p < 24 by omega) n12 bZ h5 h6 hs' hh).1)
  have GQ : ∀ s, s < cnt (fl P A σ r t L) (aN A L) → qX9_age_63 (nI p) s (zfor (fX9_age_63 (nI p)) s β) := fun s hs' => (f63_m (show p < 24 by omega) n12 bZ h5 h6 hs' (GA s (by omega))).2
  have GC : ∀ s, s ≤ cnt (fl P A σ r t L) (aN A L) → (zfor (fX9_age_63 (nI p)) s β 32 33 ≤ nI s ↔ cnt (fl P A σ r t L) (aN A L) ≤ s) := fun s hs' => by
    rw [(GA s hs').2.1 33 (by decide) (by decide), e33]
    exact nI_leI (by omega) (by omega)
  obtain ⟨c1, c2, x', y', c3, c4, c5, c6⟩ := GA _ (Nat.le_refl _)
  have eD : ∀ (H : Nat → Bool) i, Dc H (fl P A σ r t L) (aN A L) (cnt (fl P A σ r t L) (aN A L)) i ↔ Dn H (fl P A σ r t L) 12 i := fun H i => by
    constructor
    · rintro ⟨q1, -, q3⟩; exact ⟨by omega, q3⟩
    · rintro ⟨-, q2, q3⟩
      have lt : i < aN A L := Nat.lt_of_not_le (fun z => by rw [fl_ge z] at q3; cases q3)
      exact ⟨lt, cnt_lt_isp (f := fl P A σ r t L) lt q3, q2, q3⟩
  have ex : x' = x := lastS_uni (lastS_congr c4 (eD _)) x2
  have ey : y' = y := firstS_uni (firstS_congr c6 (eD _)) y2
  rw [ex, hl] at c3
  rw [ey, hf] at c5
  refine ⟨⟨fun _ => trivial, fun _ => ⟨fun _ => trivial, fun _ => ⟨kp, fun _ => trivial, fun _ => ⟨vp, fun _ => trivial, fun _ => ⟨f1, a1, GC, GQ⟩⟩⟩⟩⟩, c3, c5, ?_, e42, e32⟩
  generalize zfor (fX9_age_63 (nI p)) (cnt (fl P A σ r t L) (aN A L)) β = γ at c1 c2 c3 c5
  have oG : off fO ζ γ := off_tr (off_tr (off_tr f3 (off_sub a4 (by decide))) (off_sub oβ (by decide))) (off_sub c1 (by decide))
  have g3 : γ 3 = ζ 3 := oG 3 (by decide)
  refine Inv_age hV (off_tr (off_sub oζ (by decide)) (off_sub oG (by decide))) (fun m q1 q2 q3 => ?_) (fun m hm => ?_) (by rw [g3]; exact z11) (by rw [g3, z9, c3]) (by rw [g3, z10, c5])
  · rw [g3]; exact z3 m q1 q2 q3
  · have g : ∀ m, m ∈ [11, 12, 30] → m ≠ 36 ∧ m ≠ 37 ∧ m ∉ mF ∧ m ≠ 33 ∧ m ≠ 34 := by decide
    obtain ⟨q1, q2, q3, q4, q5⟩ := g m hm
    rw [c2 m q1 q2, hβ m q1 q2, a5 m q3, f4 m q4 q5 q3, oζ 32 (by decide)]
