/-! ===== pure rows: the score, by the reference ===== -/
theorem lies_s {A : gA} {σ : zc_N} {p : Nat} {x y : Int} (hp : p < 24) (hm : ∀ t, t < 4 → σ 41 (4 * p + t) = nI (aR A p t)) (hv : ∀ t, t < 4 → aR A p t < 16) (hx : -1000 ≤ x ∧ x ≤ 1000) (hy : -1000 ≤ y ∧ y ≤ 1000) : rX9_liesIn_s σ (zI x) (zI y) ((4 : Int32) * nI p) = b2 (decide ((aR A p 0 : Int) ≤ x ∧ x ≤ aR A p 2 ∧ (aR A p 1 : Int) ≤ y ∧ y ≤ aR A p 3)) ∧ pX9_liesIn_s σ (zI x) (zI y) ((4 : Int32) * nI p) := by
  have q4 := a4 hp
  have v4 := a4v hp
  have r0 := hv 0 (by decide)
  have r1 := hv 1 (by decide)
  have r2 := hv 2 (by decide)
  have r3 := hv 3 (by decide)
  unfold rX9_liesIn_s pX9_liesIn_s
  refine ⟨?_, v4.1, fun _ => trivial, fun _ => ⟨v4.2.2.1, fun _ => trivial, fun _ => ⟨v4.2.1, fun _ => trivial, fun _ => v4.2.2.2⟩⟩⟩
  rw [q4.1, q4.2.1, q4.2.2.1, q4.2.2.2, hm 0 (by decide), hm 1 (by decide), hm 2 (by decide), hm 3 (by decide), nz (n := aR A p 0) (by omega), nz (n := aR A p 1) (by omega), nz (n := aR A p 2) (by omega), nz (n := aR A p 3) (by omega)]
  exact if4 (by omega) (by omega) (by omega) (by omega) (by omega) (by omega) (by omega) (by omega)
theorem lies_l {σ : zc_N} {x y c0 c1 c2 c3 : Int} (h0 : σ 46 0 = zI c0) (h1 : σ 46 1 = zI c1) (h2 : σ 46 2 = zI c2) (h3 : σ 46 3 = zI c3) (b0 : -1000 ≤ c0 ∧ c0 ≤ 1000) (b1 : -1000 ≤ c1 ∧ c1 ≤ 1000) (b2' : -1000 ≤ c2 ∧ c2 ≤ 1000) (b3 : -1000 ≤ c3 ∧ c3 ≤ 1000) (hx : -1000 ≤ x ∧ x ≤ 1000) (hy : -1000 ≤ y ∧ y ≤ 1000) : rX9_liesIn_l σ (zI x) (zI y) 0 = b2 (decide (c0 ≤ x ∧ x ≤ c2 ∧ c1 ≤ y ∧ y ≤ c3)) ∧ pX9_liesIn_l σ (zI x) (zI y) 0 := by
  have w : ∀ k, k < 4 → vp_in (nI k) 4 := fun k hk => vp_in_nI hk (by decide)
  unfold rX9_liesIn_l pX9_liesIn_l
  refine ⟨?_, w 0 (by decide), fun _ => trivial, fun _ => ⟨w 2 (by decide), fun _ => trivial, fun _ => ⟨w 1 (by decide), fun _ => trivial, fun _ => w 3 (by decide)⟩⟩⟩
  rw [show (0 : Int32).toNatClampNeg = 0 from rfl, show ((0 : Int32) + 1).toNatClampNeg = 1 from rfl, show ((0 : Int32) + 2).toNatClampNeg = 2 from rfl, show ((0 : Int32) + 3).toNatClampNeg = 3 from rfl, h0, h1, h2, h3]
  exact if4 (by omega) (by omega) (by omega) (by omega) (by omega) (by omega) (by omega) (by omega)
theorem bare_z {s p : Nat} (hs : s ≤ 1000) (hp : p ≤ 1000) : (if nI s - (2 : Int32) * nI p ≤ 0 then (0 : Int32) else nI s - (2 : Int32) * nI p) = nI (bw s p) := by
  rw [i2, pk_mul, nz (n := s) (by omega), nz (n := 2 * p) (by omega), zI_sub, show (0 : Int32) = zI 0 from rfl]
  simp only [zle (a := (s : Int) - (2 * p : Nat)) (b := 0) (by omega) (by omega)]
  unfold bw
  by_cases h : (s : Int) - (2 * p : Nat) ≤ 0
  · rw [if_pos h, show s - 2 * p = 0 by omega]; rfl
  · rw [if_neg h, nz (by omega)]
    congr 1
    omega
theorem sw_z {s p : Nat} (hs : s ≤ 1000) (hp : p ≤ 1000) : (10 : Int32) * nI p - (3 : Int32) * nI (bw s p) = zI (sw s p) := by
  have hb : bw s p ≤ 1000 := by unfold bw; omega
  rw [show (10 : Int32) = nI 10 from rfl, show (3 : Int32) = nI 3 from rfl, pk_mul, pk_mul, nz (by omega), nz (by omega), zI_sub]
  congr 1
theorem SB_le {A : gA} {a b q : Nat} {dx dy : Int} (hva : pV A a) (hvb : pV A b) : SB A a b q dx dy ≤ 24 := by
  have h1 := cnt_le (inA A a b q dx dy) (aN A a)
  have h2 := cnt_le (inB A a b q dx dy) (aN A b)
  have h3 := hva.1
  have h4 := hvb.1
  unfold SB
  omega
theorem PR_le {A : gA} {r a b q : Nat} {dx dy : Int} (hva : pV A a) : PR A r a b q dx dy ≤ 12 := by
  have h1 := mst_le (mayB A r a b q dx dy) 0 (aN A a) (fun _ => true)
  have h3 := hva.1
  unfold PR
  omega
theorem cnt_zfor {f : Nat → Bool} {g : Nat → Int32 → Int32} {n s : Nat} (h : ∀ i, i < n → ∀ x, g i x = x + b2 (f i)) : ∀ k, k ≤ n → zfor g k (nI s) = nI (s + cnt f k)
  | 0, _ => rfl
  | k + 1, hk => by
    show g k (zfor g k (nI s)) = nI (s + (cnt f k + (f k).toNat))
    rw [cnt_zfor h k (by omega), h k hk, b2_n, nI_add, Nat.add_assoc]
theorem scoreOf_m {A : gA} {σ : zc_N} {r a b q : Nat} {dx dy : Int} (ha : a < 24) (hb : b < 24) (hr : r ≤ 3) (hq : q < 4) (hva : pV A a) (hvb : pV A b) (hma : pM A σ a) (hmb : pM A σ b) (hre : σ 32 12 = nI r) (hdx : -30 ≤ dx ∧ dx ≤ 30) (hdy : -30 ≤ dy ∧ dy ≤ 30) :
    pX9_scoreOf σ (nI a) (nI b) (nI q) (zI dx) (zI dy) ∧ rX9_scoreOf σ (nI a) (nI b) (nI q) (zI dx) (zI dy) = zI (SC A r a b q dx dy) ∧ laidM A r a b q dx dy (sX9_scoreOf σ (nI a) (nI b) (nI q) (zI dx) (zI dy)) ∧ sX9_scoreOf σ (nI a) (nI b) (nI q) (zI dx) (zI dy) 32 20 = nI (PR A r a b q dx dy) ∧ sX9_scoreOf σ (nI a) (nI b) (nI q) (zI dx) (zI dy) 32 21 = nI (bw (SB A a b q dx dy) (PR A r a b q dx dy)) ∧ (∀ k, k ≠ 20 → k ≠ 21 → sX9_scoreOf σ (nI a) (nI b) (nI q) (zI dx) (zI dy) 32 k = σ 32 k) ∧ off [32, 44, 45, 46, 47, 48, 49] σ (sX9_scoreOf σ (nI a) (nI b) (nI q) (zI dx) (zI dy)) := by
  have hac : (nI a).toNatClampNeg = a := nI_clamp (by omega)
  have hbc : (nI b).toNatClampNeg = b := nI_clamp (by omega)
  have va24 : vp_in (nI a) 24 := vp_in_nI ha (by decide)
  have vb24 : vp_in (nI b) 24 := vp_in_nI hb (by decide)
  obtain ⟨o1, o2, o3, o4⟩ := layOut_m ha hb hr hq hva hvb hma hmb hre hdx hdy
  unfold pX9_scoreOf rX9_scoreOf sX9_scoreOf vX9_scoreOf_6 vX9_scoreOf_5 vX9_scoreOf_4 vX9_scoreOf_3
  generalize sX9_layOut σ (nI a) (nI b) (nI q) (zI dx) (zI dy) = τ at o2 o3 o4
  have mA := pM_off hma o4 (by decide)
  have mB := pM_off hmb o4 (by decide)
  have hNa : aN A a ≤ 12 := hva.1
  have hNb : aN A b ≤ 12 := hvb.1
  obtain ⟨m1, m2, m3⟩ := most_m (M := mayB A r a b q dx dy) (n := aN A a) (nb := aN A b) (first := 0) (F := fun _ => true) (σ := τ) hNa hNb (Nat.zero_le _) (fun i j h => may0 A r a b q dx dy i j h) o2.1 (fun j hj => ⟨fun h => absurd (show true = false from h) (by decide), fun ⟨k, hk, _⟩ => absurd hk (by omega)⟩)
  rw [nI_0] at m1 m2 m3
  have eP : PR A r a b q dx dy = mst (mayB A r a b q dx dy) 0 (aN A a) (fun _ => true) := rfl
  rw [← eP] at m2
  rw [hac, hbc, mA.1, mB.1, m2]
  generalize sX9_mostPairs τ 0 (nI (aN A a)) (nI (aN A b)) = υ at m3
  -- the state that both counts read
  have oZ : off [32, 44, 45, 46, 47, 48, 49] σ (zu υ 32 (zu (υ 32) 20 (nI (PR A r a b q dx dy)))) := off_zu (off_tr (off_sub o4 (by simp)) (off_sub m3 (by simp))) (by simp) _
  have z44 : (zu υ 32 (zu (υ 32) 20 (nI (PR A r a b q dx dy)))) 44 = τ 44 := by rw [zu_ne _ _ (by decide), m3 44 (by decide)]
  have z45 : (zu υ 32 (zu (υ 32) 20 (nI (PR A r a b q dx dy)))) 45 = τ 45 := by rw [zu_ne _ _ (by decide), m3 45 (by decide)]
  have z46 : (zu υ 32 (zu (υ 32) 20 (nI (PR A r a b q dx dy)))) 46 = τ 46 := by rw [zu_ne _ _ (by decide), m3 46 (by decide)]
  have z20 : zu (υ 32) 20 (nI (PR A r a b q dx dy)) 20 = nI (PR A r a b q dx dy) := zu_self _ _ _
  rw [z20]
  have u32 : υ 32 = σ 32 := by rw [m3 32 (by decide), o4 32 (by decide)]
  have u47 : υ 47 = τ 47 := m3 47 (by decide)
  have u44 : υ 44 = τ 44 := m3 44 (by decide)
  have u45 : υ 45 = τ 45 := m3 45 (by decide)
  have oU : off [44, 45, 46, 47, 48, 49] σ υ := off_tr (off_sub o4 (by simp)) (off_sub m3 (by simp))
  generalize hZ : zu υ 32 (zu (υ 32) 20 (nI (PR A r a b q dx dy))) = Z at oZ z44 z45 z46
  have zA := pM_off hma oZ (by decide)
  have zB := pM_off hmb oZ (by decide)
  have lA : ∀ i, i < aN A a → rX9_liesIn_s Z (Z 44 i) (Z 45 i) ((4 : Int32) * nI b) = b2 (inA A a b q dx dy i) ∧ pX9_liesIn_s Z (Z 44 i) (Z 45 i) ((4 : Int32) * nI b) := by
    intro i hi
    rw [z44, z45, (o2.2 i hi).1, (o2.2 i hi).2]
    have := lxb (q := q) hva hi hdx
    have := lyb (q := q) hva hi hdy
    exact lies_s hb zB.2.2 hvb.2.2 (by omega) (by omega)
  have lB : ∀ j, j < aN A b → rX9_liesIn_l Z (Z 38 (12 * b + j)) (Z 39 (12 * b + j)) 0 = b2 (inB A a b q dx dy j) ∧ pX9_liesIn_l Z (Z 38 (12 * b + j)) (Z 39 (12 * b + j)) 0 := by
    intro j hj
    have v := hvb.2.1 j hj
    have l0 := t_lt (q := q) (hva.2.2 0 (by decide)) (hva.2.2 1 (by decide))
    have l2 := t_lt (q := q) (hva.2.2 2 (by decide)) (hva.2.2 3 (by decide))
    rw [(zB.2.1 j hj).1, (zB.2.1 j hj).2.1, nz (n := aX A b j) (by omega), nz (n := aY A b j) (by omega)]
    have x1 : xlo A a q < 16 := by unfold xlo; omega
    have x2 : xhi A a q < 16 := by unfold xhi; omega
    have y1 : ylo A a q < 16 := by unfold ylo; omega
    have y2 : yhi A a q < 16 := by unfold yhi; omega
    exact lies_l (by rw [z46]; exact o3.1) (by rw [z46]; exact o3.2.1) (by rw [z46]; exact o3.2.2.1) (by rw [z46]; exact o3.2.2.2) (by omega) (by omega) (by omega) (by omega) (by omega) (by omega)
  have c1 : zfor (fX9_scoreOf_38 Z (nI b)) (aN A a) (0 : Int32) = nI (cnt (inA A a b q dx dy) (aN A a)) := by
    have := cnt_zfor (f := inA A a b q dx dy) (g := fX9_scoreOf_38 Z (nI b)) (n := aN A a) (s := 0) (fun i hi x => by
      unfold fX9_scoreOf_38 vX9_scoreOf_2
      rw [cl_n (by omega), (lA i hi).1, b2_if]) (aN A a) (Nat.le_refl _)
    rw [Nat.zero_add] at this
    exact this
  rw [zA.1, zB.1, cl_n (a := aN A a) (by omega), cl_n (a := aN A b) (by omega), c1]
  have c2 : zfor (fX9_scoreOf_95 Z (nI b)) (aN A b) (nI (cnt (inA A a b q dx dy) (aN A a))) = nI (SB A a b q dx dy) := cnt_zfor (f := inB A a b q dx dy) (g := fX9_scoreOf_95 Z (nI b)) (n := aN A b) (fun j hj x => by
      unfold fX9_scoreOf_95 vX9_scoreOf_1
      rw [(a12 hb (show j < 12 by omega)).1, (lB j hj).1, b2_if]) (aN A b) (Nat.le_refl _)
  have hSB := SB_le (q := q) (dx := dx) (dy := dy) hva hvb
  have hPR := PR_le (r := r) (b := b) (q := q) (dx := dx) (dy := dy) hva
  rw [c2, bare_z (by omega) (by omega)]
  refine ⟨⟨o1, va24, vb24, m1, ⟨lc_n (by omega), fun _ _ => va24, fun i hi => ?_⟩, lc_n (by omega), fun _ _ => vb24, fun j hj => ?_⟩, ?_, ⟨?_, ?_⟩, ?_, ?_, ?_, off_zu (off_sub oU (by simp)) (by simp) _⟩
  · have v12 : vp_in (nI i) 12 := vp_in_nI (by omega) (by decide)
    refine ⟨v12, v12, ?_⟩
    rw [cl_n (by omega)]
    exact (lA i hi).2
  · have w := a12 hb (show j < 12 by omega)
    refine ⟨w.2, w.2, ?_⟩
    rw [w.1]
    exact (lB j hj).2
  · rw [zu_self, zu_ne _ _ (show 20 ≠ 21 by decide), zu_self, zu_self]
    exact sw_z (by omega) (by omega)
  · intro i j hi hj
    rw [zu_ne _ _ (by decide), u47]
    exact o2.1 i j hi hj
  · intro i hi
    rw [zu_ne _ _ (by decide), zu_ne _ _ (by decide), u44, u45]
    exact o2.2 i hi
  · rw [zu_self, zu_ne _ _ (show 20 ≠ 21 by decide), zu_self]
  · rw [zu_self, zu_self]
  · intro k h20 h21
    rw [zu_self, zu_ne _ _ h21, zu_ne _ _ h20, u32]
