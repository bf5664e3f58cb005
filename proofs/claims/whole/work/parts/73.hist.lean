/-! ===== the history of a tool, by the class ===== -/
/-- point i of L has a pair in k; lies in k's part without one -/
noncomputable def hs (A : gA) (r L k i : Nat) : Bool := decide (Bk A r L k < 3844) && decide (chH (mayB A r L k (bQ A r L k) (bX A r L k) (bY A r L k)) (aN A L) i < 12)
noncomputable def lks (A : gA) (r L k i : Nat) : Bool := decide (Bk A r L k < 3844) && ((decide (i < aN A L) && inA A L k (bQ A r L k) (bX A r L k) (bY A r L k) i) && !decide (chH (mayB A r L k (bQ A r L k) (bX A r L k) (bY A r L k)) (aN A L) i < 12))
theorem xm_msk (f g : Nat → Bool) : nI (msk f) &&& (nI (msk g) ^^^ (-1 : Int32)) = nI (msk (fun i => f i && !g i)) := by
  rw [xm_n]
  congr 1
  refine msk_of (fun j => ?_)
  rw [Nat.testBit_and, Nat.testBit_xor, msk_bit, msk_bit, tb_full]
  by_cases h : j < 12
  · simp [h, show j < 32 by omega]
  · simp [h]
theorem lres_hs {A : gA} {r L k : Nat} {τ : zc_N} (h : lres_t A r L k τ) : τ 25 7 = nI (msk (hs A r L k)) ∧ rX3_lacking_t τ = nI (msk (lks A r L k)) := by
  unfold rX3_lacking_t
  rcases h with ⟨b, x0, x1, x2, x3, xf⟩ | ⟨b, x0, x1⟩
  · have e1 : τ 25 7 = nI (msk (hs A r L k)) := by
      rw [xf.2.2.2.1]
      congr 1
      refine msk_congr (fun i hi => ?_)
      unfold hs
      rw [decide_eq_true b, Bool.true_and]
    refine ⟨e1, ?_⟩
    rw [xf.2.2.2.2.1, xf.2.2.2.1, xm_msk]
    congr 1
    refine msk_congr (fun i hi => ?_)
    unfold lks
    rw [decide_eq_true b, Bool.true_and]
  · have nb : ¬ Bk A r L k < 3844 := by omega
    refine ⟨?_, ?_⟩
    · rw [x0 7 (by decide)]
      exact msk_f (fun i hi => by unfold hs; rw [decide_eq_false nb]; rfl)
    · rw [x0 8 (by decide), x0 7 (by decide)]
      have : (0 : Int32) &&& ((0 : Int32) ^^^ (-1)) = 0 := by decide
      rw [this]
      exact msk_f (fun i hi => by unfold lks; rw [decide_eq_false nb]; rfl)
/-- the greatest of V, or -1; the least of V -/
def mxS (V : Int → Prop) (x : Int) : Prop := (x = -1 ∧ ∀ y, ¬ V y) ∨ (V x ∧ ∀ y, V y → y ≤ x)
def mnS (V : Int → Prop) (x : Int) : Prop := V x ∧ ∀ y, V y → x ≤ y
theorem mxS_congr {V W : Int → Prop} {x : Int} (h : mxS V x) (e : ∀ y, V y ↔ W y) : mxS W x := by
  rcases h with ⟨h1, h2⟩ | ⟨h1, h2⟩
  · exact Or.inl ⟨h1, fun y z => h2 y ((e y).mpr z)⟩
  · exact Or.inr ⟨(e x).mp h1, fun y z => h2 y ((e y).mpr z)⟩
theorem mxS_uni {V : Int → Prop} {x y : Int} (hx : mxS V x) (hy : mxS V y) : x = y := by
  rcases hx with ⟨a1, a2⟩ | ⟨a1, a2⟩ <;> rcases hy with ⟨b1, b2⟩ | ⟨b1, b2⟩
  · omega
  · exact absurd b1 (a2 y)
  · exact absurd a1 (b2 x)
  · have := a2 y b1; have := b2 x a1; omega
theorem mnS_uni {V : Int → Prop} {x y : Int} (hx : mnS V x) (hy : mnS V y) : x = y := by
  have := hx.2 y hy.1; have := hy.2 x hx.1; omega
theorem mxS_add {V : Int → Prop} {x z : Int} (h : mxS V x) (hz : 0 ≤ z) : mxS (fun y => V y ∨ y = z) (if x < z then z else x) := by
  rcases h with ⟨h1, h2⟩ | ⟨h1, h2⟩
  · rw [if_pos (by omega)]
    refine Or.inr ⟨Or.inr rfl, fun y hy => ?_⟩
    rcases hy with hy | hy
    · exact absurd hy (h2 y)
    · omega
  · by_cases c : x < z
    · rw [if_pos c]
      refine Or.inr ⟨Or.inr rfl, fun y hy => ?_⟩
      rcases hy with hy | hy
      · have := h2 y hy; omega
      · omega
    · rw [if_neg c]
      refine Or.inr ⟨Or.inl h1, fun y hy => ?_⟩
      rcases hy with hy | hy
      · exact h2 y hy
      · omega
/-- the years of tool t's prints, L apart, in which i is lacking -/
def Vl (A : gA) (σ : zc_N) (r t L n i : Nat) (y : Int) : Prop := ∃ k, k < n ∧ σ 42 k = nI t ∧ k ≠ L ∧ lks A r L k i = true ∧ σ 43 k = zI y ∧ 0 ≤ y ∧ y ≤ 9999
/-- how many of them have been heard -/
noncomputable def hN (σ : zc_N) (t L k : Nat) : Nat := cnt (fun p => cdec (σ 42 p = nI t ∧ p ≠ L)) k
def hO : List Nat := [25, 26, 27, 28, 29, 30, 31, 10, 11, 13, 14, 15, 16, 17, 18, 19, 20, 21, 22]
theorem hear_c {σ : zc_N} {p s : Nat} {H K : Nat → Bool} {y : Int} {l : Nat → Int} (hs' : σ 27 2 = nI s) (hsl : s < 24) (hy : σ (pO p) 4 = zI y) (hyb : 0 ≤ y ∧ y ≤ 9999) (hl : ∀ i, i < 12 → σ 31 i = zI (l i) ∧ -1 ≤ l i ∧ l i ≤ 9999) :
    pX2_hear σ ∧ (∀ m, sX2_hear σ p (nI (msk H)) (nI (msk K)) 29 m = if m = s then zI y else σ 29 m) ∧ (∀ m, sX2_hear σ p (nI (msk H)) (nI (msk K)) 30 m = if m = s then nI (msk H) else σ 30 m) ∧ sX2_hear σ p (nI (msk H)) (nI (msk K)) 27 2 = nI (s + 1) ∧ sX2_hear σ p (nI (msk H)) (nI (msk K)) 27 0 = σ 27 0 ||| nI (msk K) ∧ (∀ i, i < 12 → sX2_hear σ p (nI (msk H)) (nI (msk K)) 31 i = zI (if K i = true then (if l i < y then y else l i) else l i)) ∧ off [27, 29, 30, 31] σ (sX2_hear σ p (nI (msk H)) (nI (msk K))) := by
  have n24 : nI s < (24 : Int32) := by rw [show (24 : Int32) = nI 24 from rfl]; exact nI_lt hsl (by decide)
  have v24 : vp_in (nI s) 24 := vp_in_nI hsl (by decide)
  unfold pX2_hear sX2_hear vX2_hear_1
  rw [hs', if_pos n24, cl_n (a := s) (by omega), nI_1, hy]
  refine ⟨⟨fun _ => ⟨v24, v24⟩, fun z => absurd n24 z⟩, ?_⟩
  generalize hT : zu (zu (zu σ 29 (zu (σ 29) s (zI y))) 30 (zu (σ 30) s (nI (msk H)))) 27 (zu (zu (σ 27) 2 (nI (s + 1))) 0 ((zu (σ 27) 2 (nI (s + 1))) 0 ||| nI (msk K))) = T
  have t29 : T 29 = zu (σ 29) s (zI y) := by rw [← hT, zu_ne _ _ (by decide), zu_ne _ _ (by decide), zu_self]
  have t30 : T 30 = zu (σ 30) s (nI (msk H)) := by rw [← hT, zu_ne _ _ (by decide), zu_self]
  have t272 : T 27 2 = nI (s + 1) := by rw [← hT, zu_self, zu_ne _ _ (by decide), zu_self]
  have t270 : T 27 0 = σ 27 0 ||| nI (msk K) := by rw [← hT, zu_self, zu_self, zu_ne _ _ (by decide)]
  have tO : off [27, 29, 30, 31] σ T := by rw [← hT]; exact off_zu (off_zu (off_zu (off_rf _ _) (by simp) _) (by simp) _) (by simp) _
  have t31 : T 31 = σ 31 := by rw [← hT, zu_ne _ _ (by decide), zu_ne _ _ (by decide), zu_ne _ _ (by decide)]
  have ty : T (pO p) 4 = zI y := by
    rw [tO (pO p) (fun z => by
      have := pO_ge p
      simp only [List.mem_cons, List.not_mem_nil, or_false] at z
      omega)]
    exact hy
  have key := zfor_inv (fun k (τ : zc_N) => (∀ i, i < 12 → τ 31 i = if i < k then zI (if K i = true then (if l i < y then y else l i) else l i) else zI (l i)) ∧ off [31] T τ) (fX2_hear_56 p (nI (msk K))) 12 T ⟨fun i hi => by rw [if_neg (by omega), t31]; exact (hl i hi).1, off_rf _ _⟩ (fun k hk τ h => by
    obtain ⟨h1, h2⟩ := h
    have e4 : τ (pO p) 4 = zI y := by
      rw [h2 (pO p) (fun z => by
        have := pO_ge p
        simp only [List.mem_cons, List.not_mem_nil, or_false] at z
        omega)]
      exact ty
    have ek : τ 31 k = zI (l k) := by rw [h1 k hk, if_neg (by omega)]
    have hlk := hl k hk
    unfold fX2_hear_56
    rw [bit_n (Nat.lt_of_lt_of_le (msk_lt K) (by decide)) (by omega), msk_bit, decide_eq_true hk, Bool.true_and, cl_n (by omega)]
    cases hK : K k with
    | false =>
      rw [if_pos (show b2 false = 0 from rfl)]
      refine ⟨fun i hi => ?_, h2⟩
      rw [h1 i hi]
      by_cases e : i = k
      · rw [e, if_neg (Nat.lt_irrefl k), if_pos (show k < k + 1 by omega), hK]; rfl
      · by_cases c : i < k
        · rw [if_pos c, if_pos (show i < k + 1 by omega)]
        · rw [if_neg c, if_neg (show ¬ i < k + 1 by omega)]
    | true =>
      rw [if_neg (show ¬ b2 true = 0 by decide)]
      refine ⟨fun i hi => ?_, off_zu h2 (by simp) _⟩
      rw [zu_self]
      by_cases e : i = k
      · rw [e, zu_self, if_pos (show k < k + 1 by omega), hK, if_pos (show true = true from rfl), ek, e4]
        have lt := zlt (a := l k) (b := y) (by omega) (by omega)
        by_cases c : l k < y
        · rw [if_pos (lt.mpr c), if_pos c]
        · rw [if_neg (fun z => c (lt.mp z)), if_neg c]
      · rw [zu_ne _ _ e, h1 i hi]
        by_cases c : i < k
        · rw [if_pos c, if_pos (show i < k + 1 by omega)]
        · rw [if_neg c, if_neg (show ¬ i < k + 1 by omega)])
  obtain ⟨k1, k2⟩ := key 12 (Nat.le_refl _)
  generalize zfor (fX2_hear_56 p (nI (msk K))) 12 T = ω at k1 k2
  refine ⟨fun m => ?_, fun m => ?_, ?_, ?_, fun i hi => ?_, off_tr tO (off_sub k2 (by simp))⟩
  · rw [k2 29 (by decide), t29]; rfl
  · rw [k2 30 (by decide), t30]; rfl
  · rw [k2 27 (by decide)]; exact t272
  · rw [k2 27 (by decide)]; exact t270
  · rw [k1 i hi, if_pos hi]
/-- what has been heard when the prints below k are through -/
def HR (P : zp) (A : gA) (σ : zc_N) (r t L : Nat) (k : Nat) (τ : zc_N) : Prop := off hO σ τ ∧ (∀ m, m ≠ 8 → m ≠ 9 → τ 10 m = σ 10 m) ∧ iK A P.2.1 τ ∧ τ 27 2 = nI (hN σ t L k) ∧ τ 27 0 = nI (msk (fun i => cdec (∃ y, Vl A σ r t L k i y))) ∧ (∀ i, i < 12 → ∃ x, τ 31 i = zI x ∧ mxS (Vl A σ r t L k i) x) ∧ ∀ p, p < k → σ 42 p = nI t → p ≠ L → τ 29 (hN σ t L p) = σ 43 p ∧ τ 30 (hN σ t L p) = nI (msk (hs A r L p))
theorem Inv_HR {P : zp} {A : gA} {σ τ : zc_N} {r t L k : Nat} (h : Inv P A σ) (hr : HR P A σ r t L k τ) : Inv P A τ := Inv_sub h hr.1 (by decide) (hr.2.1 0 (by decide) (by decide)) (fun k _ => by rw [hr.1 32 (by decide)]) hr.2.2.1
theorem iPp {P : zp} {A : gA} {σ : zc_N} (h : iP P A σ) : P.2.1 ≤ 24 ∧ σ 3 3 = nI P.2.1 ∧ σ 32 11 = nI P.2.1 ∧ (∀ p, p < P.2.1 → pC P A σ p ∧ pM A σ p ∧ pV A p) ∧ (∀ p, p < P.2.1 → σ (pO p) 3 = σ 42 p ∧ σ (pO p) 4 = σ 43 p ∧ tlr (σ 42 p) (σ 43 p)) := ⟨h.1.1, h.1.2.1, h.1.2.2, h.2.1, h.2.2⟩
theorem yrP {P : zp} {A : gA} {σ : zc_N} (h : iP P A σ) {p t : Nat} (hp : p < P.2.1) (ht : σ 42 p = nI t) (h10 : t < 10) : ∃ y : Nat, y ≤ 9999 ∧ σ 43 p = nI y ∧ σ 43 p = zI y := by
  obtain ⟨hn, h3, h11, p2, p3⟩ := iPp h
  rcases (p3 p hp).2.2 with ⟨z1, -⟩ | ⟨t', y, -, z2, -, z4⟩
  · rw [z1] at ht
    exact absurd ((hI_m1 t).mp (by rw [hI_lt (by omega)]; exact ht.symm)) (by omega)
  · exact ⟨y, z2, z4, by rw [z4]; exact nz (by omega)⟩
theorem yr {P : zp} {A : gA} {σ : zc_N} (h : Inv P A σ) {p t : Nat} (hp : p < P.2.1) (ht : σ 42 p = nI t) (h10 : t < 10) : ∃ y : Nat, y ≤ 9999 ∧ σ 43 p = nI y ∧ σ 43 p = zI y := yrP h.2.1 hp ht h10
theorem hN_lt {σ : zc_N} {t L p k : Nat} (h : p < k) (h1 : σ 42 p = nI t) (h2 : p ≠ L) : hN σ t L p < hN σ t L k := cnt_lt_isp h (cdec_t ⟨h1, h2⟩)
theorem Vl_b {A : gA} {σ : zc_N} {r t L n i : Nat} {x : Int} (h : mxS (Vl A σ r t L n i) x) : -1 ≤ x ∧ x ≤ 9999 := by
  rcases h with ⟨h1, -⟩ | ⟨⟨k, -, -, -, -, -, h1, h2⟩, -⟩ <;> omega
theorem h30 {P : zp} {A : gA} {σ : zc_N} {r t L k : Nat} (h : Inv P A σ) (hr : r < 4) (h10 : σ 10 0 = nI r) (ht : t < 10) (hL : L < P.2.1) (hk : k < P.2.1) (τ : zc_N) (hh : HR P A σ r t L k τ) : HR P A σ r t L (k + 1) (fX8_readHistory_30 P L (nI t) k τ) ∧ qX8_readHistory_30 P L (nI t) k τ := by
  obtain ⟨hn, h3, h11, p2, p3⟩ := iP_parts h
  have hI := Inv_HR h hh
  obtain ⟨o1, o2, o3, o4, o5, o6, o7⟩ := hh
  have tk : τ (pO k) 3 = σ 42 k := by
    have := (iP_parts hI).2.2.2.2 k hk
    rw [this.1, o1 42 (by decide)]
  have v : vp_in (nI k) 24 ∧ k < P.2.1 := ⟨vp_in_nI (by omega) (by decide), hk⟩
  have hs1 : hN σ t L (k + 1) = hN σ t L k + (cdec (σ 42 k = nI t ∧ k ≠ L)).toNat := rfl
  obtain ⟨l1, l2, l3, l4, l5⟩ := layBest_t (P := P) (A := A) (σ := τ) (r := r) (n := P.2.1) hn hL hk (pC_off (p2 L hL).1 o1 (by decide)) (pC_off (p2 k hk).1 o1 (by decide)) (p2 L hL).2.2 (p2 k hk).2.2 hr (by rw [o2 0 (by decide) (by decide)]; exact h10) o3
  have hNle := cnt_le (fun p => cdec (σ 42 p = nI t ∧ p ≠ L)) k
  have hNle : hN σ t L k ≤ k := hNle
  have s27 : sX4_layBest_t P τ L k 27 = τ 27 := l4 27 (by decide)
  have s31 : sX4_layBest_t P τ L k 31 = τ 31 := l4 31 (by decide)
  unfold fX8_readHistory_30 qX8_readHistory_30 vX8_readHistory_1
  rw [cl_n (a := k) (by omega)]
  have keep : ¬ (σ 42 k = nI t ∧ k ≠ L) → HR P A σ r t L (k + 1) τ := fun hno => by
    have e : ∀ i y, Vl A σ r t L k i y ↔ Vl A σ r t L (k + 1) i y := fun i y => by
      constructor
      · rintro ⟨q, q1, q2⟩; exact ⟨q, by omega, q2⟩
      · rintro ⟨q, q1, q2, q3, q4⟩
        refine ⟨q, ?_, q2, q3, q4⟩
        by_cases eq : q = k
        · rw [eq] at q2 q3; exact absurd ⟨q2, q3⟩ hno
        · omega
    refine ⟨o1, o2, o3, ?_, ?_, fun i hi => ?_, fun p hp q1 q2 => ?_⟩
    · rw [hs1, cdec_f hno]; exact o4
    · rw [o5]
      congr 1
      exact msk_congr (fun i hi => cdec_eq ⟨fun ⟨y, z⟩ => ⟨y, (e i y).mp z⟩, fun ⟨y, z⟩ => ⟨y, (e i y).mpr z⟩⟩)
    · obtain ⟨x, x1, x2⟩ := o6 i hi
      exact ⟨x, x1, mxS_congr x2 (e i)⟩
    · by_cases ep : p = k
      · rw [ep] at q1 q2; exact absurd ⟨q1, q2⟩ hno
      · exact o7 p (by omega) q1 q2
  refine ⟨?_, v, fun _ => ⟨v, fun _ => trivial, fun z => ⟨v, l1, v, ?_⟩⟩, fun _ => trivial⟩
  · by_cases c1 : σ 42 k = nI t
    · rw [if_pos (tk.trans c1)]
      by_cases c2 : k = L
      · rw [if_pos (show (some (pO k)) = (some (pO L)) by rw [c2])]
        exact keep (fun z => z.2 c2)
      · rw [if_neg (fun z => c2 (pO_inj (Option.some.inj z)))]
        obtain ⟨e7, e8⟩ := lres_hs l2
        obtain ⟨y, y1, y2, y3⟩ := yr h hk c1 ht
        rw [e7, e8]
        have hx : ∀ i, ∃ x, i < 12 → τ 31 i = zI x ∧ mxS (Vl A σ r t L k i) x := fun i => by
          by_cases hi : i < 12
          · obtain ⟨x, z⟩ := o6 i hi; exact ⟨x, fun _ => z⟩
          · exact ⟨0, fun z => absurd z hi⟩
        have hl : ∃ l : Nat → Int, ∀ i, i < 12 → τ 31 i = zI (l i) ∧ mxS (Vl A σ r t L k i) (l i) := ⟨fun i => Classical.choose (hx i), fun i hi => Classical.choose_spec (hx i) hi⟩
        obtain ⟨l, hl⟩ := hl
        have py : sX4_layBest_t P τ L k (pO k) 4 = zI y := by
          rw [l4 (pO k) (fun z => by
            have g1 : ∀ m, m ∈ (25 :: 26 :: sK) → m < 57 := by decide
            have := g1 _ z
            have := pO_ge k
            omega)]
          have := (iP_parts hI).2.2.2.2 k hk
          rw [this.2.1, o1 43 (by decide)]
          exact y3
        obtain ⟨a1, a2, a3, a4, a5, a6, a7⟩ := hear_c (σ := sX4_layBest_t P τ L k) (p := k) (s := hN σ t L k) (H := hs A r L k) (K := lks A r L k) (y := y) (l := l) (by rw [s27]; exact o4) (by omega) py (by omega) (fun i hi => by
          rw [s31]
          have := Vl_b (hl i hi).2
          exact ⟨(hl i hi).1, this⟩)
        generalize sX2_hear (sX4_layBest_t P τ L k) k (nI (msk (hs A r L k))) (nI (msk (lks A r L k))) = ω at a2 a3 a4 a5 a6 a7
        have eV : ∀ i z, Vl A σ r t L (k + 1) i z ↔ (Vl A σ r t L k i z ∨ (lks A r L k i = true ∧ z = y)) := fun i z => by
          constructor
          · rintro ⟨q, q1, q2, q3, q4, q5, q6⟩
            by_cases eq : q = k
            · right
              rw [eq] at q4 q5
              refine ⟨q4, ?_⟩
              rw [y3] at q5
              exact ((zeq (by omega) (by omega)).mp q5).symm
            · exact Or.inl ⟨q, by omega, q2, q3, q4, q5, q6⟩
          · rintro (⟨q, q1, q2⟩ | ⟨z1, z2⟩)
            · exact ⟨q, by omega, q2⟩
            · exact ⟨k, by omega, c1, c2, z1, by rw [z2]; exact y3, by omega, by omega⟩
        refine ⟨off_tr o1 (off_tr (off_sub l4 (by decide)) (off_sub a7 (by decide))), fun m h8 h9 => ?_, iK_11 l3 (a7 11 (by decide)), ?_, ?_, fun i hi => ?_, fun p hp q1 q2 => ?_⟩
        · rw [a7 10 (by decide), l5 m h8 h9]; exact o2 m h8 h9
        · rw [a4, hs1, cdec_t ⟨c1, c2⟩]; rfl
        · rw [a5, s27, o5, or_n, msk_or]
          congr 1
          refine msk_congr (fun i hi => ?_)
          by_cases c3 : ∃ z, Vl A σ r t L k i z
          · obtain ⟨z, hz⟩ := c3
            rw [cdec_t ⟨z, hz⟩, cdec_t ⟨z, (eV i z).mpr (Or.inl hz)⟩]; rfl
          · rw [cdec_f c3, Bool.false_or]
            cases c4 : lks A r L k i
            · exact (cdec_f (fun ⟨z, hz⟩ => by
                rcases (eV i z).mp hz with g | g
                · exact c3 ⟨z, g⟩
                · rw [c4] at g; cases g.1)).symm
            · exact (cdec_t ⟨(y : Int), (eV i y).mpr (Or.inr ⟨c4, rfl⟩)⟩).symm
        · refine ⟨_, a6 i hi, ?_⟩
          cases c4 : lks A r L k i
          · rw [if_neg (by simp)]
            exact mxS_congr (hl i hi).2 (fun z => ⟨fun g => (eV i z).mpr (Or.inl g), fun g => by
              rcases (eV i z).mp g with g | g
              · exact g
              · rw [c4] at g; cases g.1⟩)
          · rw [if_pos rfl]
            exact mxS_congr (mxS_add (hl i hi).2 (z := y) (by omega)) (fun z => ⟨fun g => (eV i z).mpr (g.imp id (fun w => ⟨c4, w⟩)), fun g => ((eV i z).mp g).imp id (fun w => w.2)⟩)
        · rw [a2, a3]
          by_cases ep : p = k
          · rw [ep, if_pos rfl, if_pos rfl]
            exact ⟨y3.symm, rfl⟩
          · have := hN_lt (σ := σ) (t := t) (L := L) (show p < k by omega) q1 q2
            rw [if_neg (by omega), if_neg (by omega), l4 29 (by decide), l4 30 (by decide)]
            exact o7 p (by omega) q1 q2
    · rw [if_neg (fun z => c1 (tk.symm.trans z))]
      exact keep (fun z => c1 z.1)
  · unfold pX2_hear
    rw [s27, o4]
    have v24 : vp_in (nI (hN σ t L k)) 24 := vp_in_nI (by omega) (by decide)
    exact ⟨fun _ => ⟨v24, v24⟩, fun _ => trivial⟩
