/-! ===== the last and the first coming ===== -/
def lastS (D : Nat → Prop) (Z : Nat → Int) (x : Int) : Prop := (x = 0 ∨ ∃ i, D i ∧ x = Z i) ∧ 0 ≤ x ∧ ∀ i, D i → Z i ≤ x
def firstS (D : Nat → Prop) (Z : Nat → Int) (x : Int) : Prop := (x = 10000 ∨ ∃ i, D i ∧ x = Z i) ∧ x ≤ 10000 ∧ ∀ i, D i → x ≤ Z i
theorem lastS_uni {D : Nat → Prop} {Z : Nat → Int} {x y : Int} (hx : lastS D Z x) (hy : lastS D Z y) : x = y := by
  have a : x ≤ y := by
    rcases hx.1 with e | ⟨i, d, e⟩
    · have := hy.2.1; omega
    · have := hy.2.2 i d; omega
  have b : y ≤ x := by
    rcases hy.1 with e | ⟨i, d, e⟩
    · have := hx.2.1; omega
    · have := hx.2.2 i d; omega
  omega
theorem firstS_uni {D : Nat → Prop} {Z : Nat → Int} {x y : Int} (hx : firstS D Z x) (hy : firstS D Z y) : x = y := by
  have a : y ≤ x := by
    rcases hx.1 with e | ⟨i, d, e⟩
    · have := hy.2.1; omega
    · have := hy.2.2 i d; omega
  have b : x ≤ y := by
    rcases hy.1 with e | ⟨i, d, e⟩
    · have := hx.2.1; omega
    · have := hx.2.2 i d; omega
  omega
theorem lastS_congr {D E : Nat → Prop} {Z : Nat → Int} {x : Int} (h : lastS D Z x) (e : ∀ i, D i ↔ E i) : lastS E Z x := ⟨h.1.imp id (fun ⟨i, a, b⟩ => ⟨i, (e i).mp a, b⟩), h.2.1, fun i d => h.2.2 i ((e i).mpr d)⟩
theorem firstS_congr {D E : Nat → Prop} {Z : Nat → Int} {x : Int} (h : firstS D Z x) (e : ∀ i, D i ↔ E i) : firstS E Z x := ⟨h.1.imp id (fun ⟨i, a, b⟩ => ⟨i, (e i).mp a, b⟩), h.2.1, fun i d => h.2.2 i ((e i).mpr d)⟩
theorem lastS_add {D E : Nat → Prop} {Z : Nat → Int} {x : Int} {j : Nat} (h : lastS D Z x) (e : ∀ i, E i ↔ (D i ∨ i = j)) : lastS E Z (if x < Z j then Z j else x) := by
  have h0 := h.2.1
  by_cases c : x < Z j
  · rw [if_pos c]
    refine ⟨Or.inr ⟨j, (e j).mpr (Or.inr rfl), rfl⟩, by omega, fun i d => ?_⟩
    rcases (e i).mp d with q | q
    · have := h.2.2 i q; omega
    · rw [q]; exact Int.le_refl _
  · rw [if_neg c]
    refine ⟨h.1.imp id (fun ⟨i, a, b⟩ => ⟨i, (e i).mpr (Or.inl a), b⟩), h0, fun i d => ?_⟩
    rcases (e i).mp d with q | q
    · exact h.2.2 i q
    · rw [q]; omega
theorem firstS_add {D E : Nat → Prop} {Z : Nat → Int} {x : Int} {j : Nat} (h : firstS D Z x) (e : ∀ i, E i ↔ (D i ∨ i = j)) : firstS E Z (if Z j < x then Z j else x) := by
  have h0 := h.2.1
  by_cases c : Z j < x
  · rw [if_pos c]
    refine ⟨Or.inr ⟨j, (e j).mpr (Or.inr rfl), rfl⟩, by omega, fun i d => ?_⟩
    rcases (e i).mp d with q | q
    · have := h.2.2 i q; omega
    · rw [q]; exact Int.le_refl _
  · rw [if_neg c]
    refine ⟨h.1.imp id (fun ⟨i, a, b⟩ => ⟨i, (e i).mpr (Or.inl a), b⟩), h0, fun i d => ?_⟩
    rcases (e i).mp d with q | q
    · exact h.2.2 i q
    · rw [q]; omega
theorem lastS_b {D : Nat → Prop} {Z : Nat → Int} {x : Int} (h : lastS D Z x) (hZ : ∀ i, D i → 0 ≤ Z i ∧ Z i ≤ 10000) : 0 ≤ x ∧ x ≤ 10000 := by
  rcases h.1 with e | ⟨i, d, e⟩
  · omega
  · have := hZ i d; omega
theorem firstS_b {D : Nat → Prop} {Z : Nat → Int} {x : Int} (h : firstS D Z x) (hZ : ∀ i, D i → 0 ≤ Z i ∧ Z i ≤ 10000) : 0 ≤ x ∧ x ≤ 10000 := by
  rcases h.1 with e | ⟨i, d, e⟩
  · omega
  · have := hZ i d; omega
def Dn (H f : Nat → Bool) (n : Nat) (i : Nat) : Prop := i < n ∧ H i = true ∧ f i = true
theorem Dn_no {H f : Nat → Bool} {n : Nat} (h : ¬ (H n = true ∧ f n = true)) (i : Nat) : Dn H f n i ↔ Dn H f (n + 1) i := by
  constructor
  · rintro ⟨a, b⟩; exact ⟨by omega, b⟩
  · rintro ⟨a, b⟩
    refine ⟨?_, b⟩
    by_cases e : i = n
    · rw [e] at b; exact absurd b h
    · omega
theorem Dn_yes {H f : Nat → Bool} {n : Nat} (h : H n = true ∧ f n = true) (i : Nat) : Dn H f (n + 1) i ↔ (Dn H f n i ∨ i = n) := by
  constructor
  · rintro ⟨a, b⟩
    by_cases e : i = n
    · exact Or.inr e
    · exact Or.inl ⟨by omega, b⟩
  · rintro (⟨a, b⟩ | e)
    · exact ⟨by omega, b⟩
    · rw [e]; exact ⟨by omega, h⟩
theorem come_c {τ : zc_N} {f H : Nat → Bool} {Z : Nat → Int} (h27 : τ 27 0 = nI (msk f)) (hZ : ∀ i, i < 12 → τ 28 i = zI (Z i) ∧ 0 ≤ Z i ∧ Z i ≤ 10000) : (∃ x, rX2_lastComing τ (nI (msk H)) 0 = zI x ∧ lastS (Dn H f 12) Z x) ∧ ∃ x, rX2_firstComing τ (nI (msk H)) 10000 = zI x ∧ firstS (Dn H f 12) Z x := by
  have bt : ∀ i, i < 12 → (zshr (nI (msk H) &&& τ 27 0) (nI i)) &&& (1 : Int32) = b2 (H i && f i) := fun i hi => by
    rw [h27, and_n, msk_and, bit_n (Nat.lt_of_lt_of_le (msk_lt _) (by decide)) (by omega), msk_bit, decide_eq_true hi, Bool.true_and]
  have bD : ∀ n, n ≤ 12 → ∀ i, Dn H f n i → 0 ≤ Z i ∧ Z i ≤ 10000 := fun n hn i d => (hZ i (by have := d.1; omega)).2
  refine ⟨?_, ?_⟩
  · unfold rX2_lastComing
    refine zfor_inv (fun n v => ∃ x, v = zI x ∧ lastS (Dn H f n) Z x) (fX2_lastComing_5 τ (nI (msk H))) 12 0 ⟨0, rfl, Or.inl rfl, by omega, fun i d => absurd d.1 (by omega)⟩ (fun n hn v hv => ?_) 12 (Nat.le_refl _)
    obtain ⟨x, rfl, hx⟩ := hv
    have xb := lastS_b hx (bD n (by omega))
    have zb' := (hZ n hn).2
    have lt := zlt (a := x) (b := Z n) (by omega) (by omega)
    unfold fX2_lastComing_5
    rw [bt n hn, cl_n (a := n) (by omega), (hZ n hn).1]
    by_cases c : H n = true ∧ f n = true
    · rw [c.1, c.2, if_neg (show ¬ b2 (true && true) = 0 by decide)]
      refine ⟨_, ?_, lastS_add hx (Dn_yes c)⟩
      by_cases d : x < Z n
      · rw [if_pos (lt.mpr d), if_pos d]
      · rw [if_neg (fun z => d (lt.mp z)), if_neg d]
    · have e : (H n && f n) = false := by
        cases h1 : H n
        · rfl
        · cases h2 : f n
          · rfl
          · exact absurd ⟨h1, h2⟩ c
      rw [e, if_pos (show b2 false = 0 from rfl)]
      exact ⟨x, rfl, lastS_congr hx (Dn_no c)⟩
  · unfold rX2_firstComing
    refine zfor_inv (fun n v => ∃ x, v = zI x ∧ firstS (Dn H f n) Z x) (fX2_firstComing_5 τ (nI (msk H))) 12 10000 ⟨10000, rfl, Or.inl rfl, by omega, fun i d => absurd d.1 (by omega)⟩ (fun n hn v hv => ?_) 12 (Nat.le_refl _)
    obtain ⟨x, rfl, hx⟩ := hv
    have xb := firstS_b hx (bD n (by omega))
    have zb' := (hZ n hn).2
    have lt := zlt (a := Z n) (b := x) (by omega) (by omega)
    unfold fX2_firstComing_5
    rw [bt n hn, cl_n (a := n) (by omega), (hZ n hn).1]
    by_cases c : H n = true ∧ f n = true
    · rw [c.1, c.2, if_neg (show ¬ b2 (true && true) = 0 by decide)]
      refine ⟨_, ?_, firstS_add hx (Dn_yes c)⟩
      by_cases d : Z n < x
      · rw [if_pos (lt.mpr d), if_pos d]
      · rw [if_neg (fun z => d (lt.mp z)), if_neg d]
    · have e : (H n && f n) = false := by
        cases h1 : H n
        · rfl
        · cases h2 : f n
          · rfl
          · exact absurd ⟨h1, h2⟩ c
      rw [e, if_pos (show b2 false = 0 from rfl)]
      exact ⟨x, rfl, firstS_congr hx (Dn_no c)⟩
/-- of the flaws, those below the s-th -/
def Dc (H f : Nat → Bool) (N s : Nat) (i : Nat) : Prop := i < N ∧ cnt f i < s ∧ H i = true ∧ f i = true
theorem Dc_j {f : Nat → Bool} {i j : Nat} (hi : f i = true) (hj : f j = true) (e : cnt f i = cnt f j) : i = j := by
  rcases Nat.lt_trichotomy i j with c | c | c
  · have := cnt_lt_isp (f := f) c hi; omega
  · exact c
  · have := cnt_lt_isp (f := f) c hj; omega
theorem Dc_no {H f : Nat → Bool} {N s j : Nat} (hj : f j = true) (e : cnt f j = s) (h : ¬ H j = true) (i : Nat) : Dc H f N s i ↔ Dc H f N (s + 1) i := by
  constructor
  · rintro ⟨a, b, c⟩; exact ⟨a, by omega, c⟩
  · rintro ⟨a, b, c⟩
    refine ⟨a, ?_, c⟩
    by_cases q : cnt f i = s
    · have := Dc_j c.2 hj (by omega)
      rw [this] at c; exact absurd c.1 h
    · omega
theorem Dc_yes {H f : Nat → Bool} {N s j : Nat} (hN : j < N) (hj : f j = true) (e : cnt f j = s) (h : H j = true) (i : Nat) : Dc H f N (s + 1) i ↔ (Dc H f N s i ∨ i = j) := by
  constructor
  · rintro ⟨a, b, c⟩
    by_cases q : cnt f i = s
    · exact Or.inr (Dc_j c.2 hj (by omega))
    · exact Or.inl ⟨a, by omega, c⟩
  · rintro (⟨a, b, c⟩ | q)
    · exact ⟨a, by omega, c⟩
    · rw [q]; exact ⟨hN, by omega, h, hj⟩
def AG (A : gA) (r L p N : Nat) (f : Nat → Bool) (Z : Nat → Int) (β : zc_N) (s : Nat) (τ : zc_N) : Prop := off [32] β τ ∧ (∀ m, m ≠ 36 → m ≠ 37 → τ 32 m = β 32 m) ∧ ∃ x y, τ 32 36 = zI x ∧ lastS (Dc (hs A r L p) f N s) Z x ∧ τ 32 37 = zI y ∧ firstS (Dc (lks A r L p) f N s) Z y
theorem f63_m {A : gA} {r L p N s : Nat} {f : Nat → Bool} {Z : Nat → Int} {β τ : zc_N} (hp : p < 24) (hN : N ≤ 12) (hZ : ∀ i, i < 12 → 0 ≤ Z i ∧ Z i ≤ 10000) (h5 : ∀ j, j < N → f j = true → β 54 (cnt f j) = nI j ∧ β 55 (cnt f j) = zI (Z j)) (h6 : ∀ i, i < N → β 56 (12 * p + i) = vd A r L p i) (hs' : s < cnt f N) (h : AG A r L p N f Z β s τ) : AG A r L p N f Z β (s + 1) (fX9_age_63 (nI p) s τ) ∧ qX9_age_63 (nI p) s τ := by
  obtain ⟨o1, o2, x, y, x1, x2, y1, y2⟩ := h
  obtain ⟨j, j1, j2, j3⟩ := cnt_ex N s hs'
  have cl := cnt_le f N
  obtain ⟨g4, g5⟩ := h5 j j1 j2
  rw [j3] at g4 g5
  have e54 : τ 54 s = nI j := by rw [o1 54 (by decide)]; exact g4
  have e55 : τ 55 s = zI (Z j) := by rw [o1 55 (by decide)]; exact g5
  have e56 : τ 56 (12 * p + j) = vd A r L p j := by rw [o1 56 (by decide)]; exact h6 j j1
  have bH : ∀ H i, Dc H f N s i → 0 ≤ Z i ∧ Z i ≤ 10000 := fun H i d => hZ i (by have := d.1; omega)
  have xb := lastS_b x2 (bH _)
  have yb := firstS_b y2 (bH _)
  have zb' := hZ j (by omega)
  have le := zle (a := Z j) (b := x) (by omega) (by omega)
  have le2 := zle (a := y) (b := Z j) (by omega) (by omega)
  have z37 : ∀ V, zu (τ 32) 36 V 37 = zI y := fun V => by rw [zu_ne _ _ (by decide)]; exact y1
  have vs : vp_in (nI s) 12 := vp_in_nI (by omega) (by decide)
  have v288 := (a12 hp (show j < 12 by omega)).2
  unfold fX9_age_63 vX9_age_1 qX9_age_63
  rw [cl_n (a := s) (by omega), e54, (a12 hp (show j < 12 by omega)).1, e55, e56, z37, x1]
  refine ⟨⟨off_zu o1 (by simp) _, fun m m1 m2 => ?_, ?_⟩, vs, v288, ⟨fun _ => ⟨vs, fun _ => trivial, fun _ => vs⟩, fun _ => trivial⟩, fun _ => ⟨vs, fun _ => trivial, fun _ => vs⟩, fun _ => trivial⟩
  · rw [zu_self, zu_ne _ _ m2, zu_ne _ _ m1]; exact o2 m m1 m2
  · rw [zu_self, zu_self, zu_ne _ _ (show 36 ≠ 37 by decide), zu_self]
    have X : ∃ x', (if vd A r L p j = 1 then (if zI (Z j) ≤ zI x then zI x else zI (Z j)) else zI x) = zI x' ∧ lastS (Dc (hs A r L p) f N (s + 1)) Z x' := by
      by_cases c : hs A r L p j = true
      · rw [if_pos ((vd_1 A r L p j).mpr c)]
        refine ⟨_, ?_, lastS_add x2 (Dc_yes j1 j2 j3 c)⟩
        by_cases d : Z j ≤ x
        · rw [if_pos (le.mpr d), if_neg (show ¬ x < Z j by omega)]
        · rw [if_neg (fun z => d (le.mp z)), if_pos (show x < Z j by omega)]
      · rw [if_neg (fun z => c ((vd_1 A r L p j).mp z))]
        exact ⟨x, rfl, lastS_congr x2 (Dc_no j2 j3 c)⟩
    have Y : ∃ y', (if vd A r L p j = 0 then (if zI y ≤ zI (Z j) then zI y else zI (Z j)) else zI y) = zI y' ∧ firstS (Dc (lks A r L p) f N (s + 1)) Z y' := by
      by_cases c : lks A r L p j = true
      · rw [if_pos ((vd_0 A r L p j).mpr c)]
        refine ⟨_, ?_, firstS_add y2 (Dc_yes j1 j2 j3 c)⟩
        by_cases d : y ≤ Z j
        · rw [if_pos (le2.mpr d), if_neg (show ¬ Z j < y by omega)]
        · rw [if_neg (fun z => d (le2.mp z)), if_pos (show Z j < y by omega)]
      · rw [if_neg (fun z => c ((vd_0 A r L p j).mp z))]
        exact ⟨y, rfl, firstS_congr y2 (Dc_no j2 j3 c)⟩
    obtain ⟨x', X1, X2⟩ := X
    obtain ⟨y', Y1, Y2⟩ := Y
    exact ⟨x', y', X1, X2, Y1, Y2⟩
