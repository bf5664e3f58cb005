/-! ===== pure rows: points ===== -/
/-- a fork above or to the left -/
def ahd (G : Nat → Bool) (k : Nat) : Bool := pd G (k % 16) (k / 16) || (pd G (k % 16 + 1) (k / 16) || (pd G (k % 16 + 2) (k / 16) || (pd G (k % 16) (k / 16 + 1) || (pd G (k % 16 + 1) (k / 16 + 1) || pd G (k % 16 + 2) (k / 16 + 1)))))
def FK (D : Nat → Bool) (k : Nat) : Bool := D k && (decide (3 ≤ at8 D (k % 16) (k / 16) n8) && !ahd (fun j => if h : j < k then FK D j else false) k)
termination_by k
def mk (F : Nat → Bool) (k : Nat) : Nat → Bool := fun j => F j && decide (j < k)
theorem FK_eq (D : Nat → Bool) (k : Nat) : FK D k = (D k && (decide (3 ≤ at8 D (k % 16) (k / 16) n8) && !ahd (mk (FK D) k) k)) := by
  rw [FK]
  congr 4
  funext j
  unfold mk
  by_cases h : j < k
  · simp [h]
  · simp [h]
/-- the kind; 3 for no point -/
def kdn (D : Nat → Bool) (k : Nat) : Nat := if D k = false then 3 else if at8 D (k % 16) (k / 16) n8 = 0 then 0 else if at8 D (k % 16) (k / 16) n8 = 1 then 1 else if FK D k then 2 else 3
def isp (D : Nat → Bool) (k : Nat) : Bool := decide (kdn D k < 3)
def kI (n : Nat) : Int32 := if n = 3 then -1 else nI n
theorem kdn_le (D : Nat → Bool) (k : Nat) : kdn D k ≤ 3 := by
  unfold kdn
  repeat' split
  all_goals omega
theorem n8_bc : ∀ e se s sw w nw n ne : Bool, rJ6_bitCount_0f7a4 (nI (r8 e se s sw w nw n ne)) = nI (n8 e se s sw w nw n ne) := by decide +kernel
theorem n8_le (e se s sw w nw n ne : Bool) : n8 e se s sw w nw n ne ≤ 8 := by revert e se s sw w nw n ne; decide
theorem thr6 : ∀ a b c d e f : Bool, (if (nI (4 * a.toNat + 2 * b.toNat + c.toNat) ||| nI (4 * d.toNat + 2 * e.toNat + f.toNat)) = (0 : Int32) then (0 : Int32) else 1) = b2 (a || (b || (c || (d || (e || f))))) := by decide +kernel
theorem kof : ∀ n, n ≤ 8 → ∀ a : Bool, rX1_kindOf (nI n) (b2 a) = kI (if n = 0 then 0 else if n = 1 then 1 else if (decide (3 ≤ n) && !a) then 2 else 3) := by decide +kernel
theorem mk_pd {F : Nat → Bool} {k x y : Nat} (h : y ≤ k / 16) : pd (mk F k) x y = pd F x y := by
  unfold pd mk
  by_cases c : (1 ≤ x ∧ x ≤ 16 ∧ 1 ≤ y ∧ y ≤ 16)
  · have : 16 * (y - 1) + (x - 1) < k := by omega
    simp [c, this]
  · simp [c]
theorem kd_c {D : Nat → Bool} {σ : zc_N} (h : gC D σ) {c r : Nat} (hc : c < 16) (hr : r < 16) : vX1_readPoints_2 (nI (RW (mk (FK D) (16 * r)) r)) (nI r) (nI (RW (mk (FK D) (16 * r + c)) (r + 1))) (nI c) σ = kI (kdn D (16 * r + c)) := by
  unfold vX1_readPoints_2
  have e1 : (16 * r + c) % 16 = c := by omega
  have e2 : (16 * r + c) / 16 = r := by omega
  have e3 : RW (mk (FK D) (16 * r)) r = RW (mk (FK D) (16 * r + c)) r := RW_congr (fun x => by rw [mk_pd (by omega), mk_pd (by omega)])
  have e4 : rJ6_bitCount_0f7a4 (nI (at8 D c r r8)) = nI (at8 D c r n8) := n8_bc _ _ _ _ _ _ _ _
  have e5 := thr6 (pd (mk (FK D) (16 * r + c)) c r) (pd (mk (FK D) (16 * r + c)) (c + 1) r) (pd (mk (FK D) (16 * r + c)) (c + 2) r) (pd (mk (FK D) (16 * r + c)) c (r + 1)) (pd (mk (FK D) (16 * r + c)) (c + 1) (r + 1)) (pd (mk (FK D) (16 * r + c)) (c + 2) (r + 1))
  have e7 : at8 D c r n8 ≤ 8 := n8_le _ _ _ _ _ _ _ _
  rw [dark_c h hc hr, ring_c h hc hr, e4, e3, three_r hc, three_r hc, e5, kof _ e7, pd_in hc hr]
  have e6 := FK_eq D (16 * r + c)
  unfold kdn
  unfold ahd at e6
  rw [e1, e2] at e6 ⊢
  rw [e6]
  cases D (16 * r + c)
  · rfl
  · rfl
theorem RW_mk {F : Nat → Bool} {r c : Nat} (hc : c < 16) (hr : r < 16) : RW (mk F (16 * r + (c + 1))) (r + 1) = if F (16 * r + c) then RW (mk F (16 * r + c)) (r + 1) ||| 2 ^ (16 - c) else RW (mk F (16 * r + c)) (r + 1) := by
  apply Nat.eq_of_testBit_eq
  intro i
  by_cases hi : i ≤ 17
  · obtain ⟨x, rfl, hx⟩ : ∃ x, i = 17 - x ∧ x ≤ 17 := ⟨17 - i, by omega, by omega⟩
    rw [RW_bit _ _ hx]
    have e1 : pd (mk F (16 * r + (c + 1))) x (r + 1) = (pd (mk F (16 * r + c)) x (r + 1) || (decide (x = c + 1) && F (16 * r + c))) := by
      unfold pd mk
      by_cases g : (1 ≤ x ∧ x ≤ 16 ∧ 1 ≤ r + 1 ∧ r + 1 ≤ 16)
      · by_cases g2 : x = c + 1
        · subst g2
          have : 16 * (r + 1 - 1) + (c + 1 - 1) = 16 * r + c := by omega
          rw [this]
          simp [g]
        · have g3 : (16 * (r + 1 - 1) + (x - 1) < 16 * r + (c + 1)) ↔ (16 * (r + 1 - 1) + (x - 1) < 16 * r + c) := by omega
          simp only [g3]
          simp [g2]
      · have g2 : ¬ x = c + 1 := by omega
        rw [decide_eq_false g]
        simp [g2]
    rw [e1]
    by_cases f : F (16 * r + c) = true
    · rw [if_pos f, Nat.testBit_or, RW_bit _ _ hx, tb_pow, f]
      congr 1
      by_cases g2 : x = c + 1
      · have : 16 - c = 17 - x := by omega
        simp [g2]
      · have : ¬ (16 - c = 17 - x) := by omega
        simp [g2, this]
    · rw [if_neg f, RW_bit _ _ hx]
      simp [f]
  · have z : ∀ E : Nat → Bool, (RW E (r + 1)).testBit i = false := fun E => Nat.testBit_lt_two_pow (Nat.lt_of_lt_of_le (RW_lt E _) (Nat.pow_le_pow_right (by decide) (by omega)))
    have z2 : ((2 : Nat) ^ (16 - c)).testBit i = false := by rw [tb_pow]; simp; omega
    split
    · rw [Nat.testBit_or, z, z, z2]; rfl
    · rw [z, z]
theorem RW_mk0 {F : Nat → Bool} {r : Nat} : RW (mk F (16 * r)) (r + 1) = 0 := by
  apply Nat.eq_of_testBit_eq
  intro i
  rw [Nat.zero_testBit]
  by_cases hi : i ≤ 17
  · obtain ⟨x, rfl, hx⟩ : ∃ x, i = 17 - x ∧ x ≤ 17 := ⟨17 - i, by omega, by omega⟩
    rw [RW_bit _ _ hx]
    unfold pd mk
    by_cases g : (1 ≤ x ∧ x ≤ 16 ∧ 1 ≤ r + 1 ∧ r + 1 ≤ 16)
    · have : ¬ (16 * (r + 1 - 1) + (x - 1) < 16 * r) := by omega
      rw [decide_eq_false this]
      simp
    · simp [g]
  · exact Nat.testBit_lt_two_pow (Nat.lt_of_lt_of_le (RW_lt _ _) (Nat.pow_le_pow_right (by decide) (by omega)))
theorem kI_m1 {n : Nat} (h : n ≤ 3) : (kI n = -1) ↔ n = 3 := by
  have : ∀ n, n ≤ 3 → ((kI n = -1) ↔ n = 3) := by decide +kernel
  exact this n h
theorem kI_2 {n : Nat} (h : n ≤ 3) : (kI n = 2) ↔ n = 2 := by
  have : ∀ n, n ≤ 3 → ((kI n = 2) ↔ n = 2) := by decide +kernel
  exact this n h
theorem kI_lt {n : Nat} (h : n ≤ 3) : (kI n < 0) ↔ n = 3 := by
  have : ∀ n, n ≤ 3 → ((kI n < 0) ↔ n = 3) := by decide +kernel
  exact this n h
theorem kI_n {n : Nat} (h : n < 3) : kI n = nI n := by unfold kI; rw [if_neg (by omega)]
theorem kdn_2 (D : Nat → Bool) (k : Nat) : kdn D k = 2 ↔ FK D k = true := by
  have e := FK_eq D k
  unfold kdn
  cases hD : D k
  · rw [hD] at e
    rw [e]
    simp
  · rw [if_neg (by simp)]
    by_cases h0 : at8 D (k % 16) (k / 16) n8 = 0
    · rw [h0] at e; rw [if_pos h0, e]; simp
    · rw [if_neg h0]
      by_cases h1 : at8 D (k % 16) (k / 16) n8 = 1
      · rw [h1] at e; rw [if_pos h1, e]; simp
      · rw [if_neg h1]
        cases FK D k <;> simp
/-- what is written of the points so far -/
def wr (D : Nat → Bool) (k : Nat) (f : Nat → Int32) : Prop := ∀ j, j < k → isp D j = true → cnt (isp D) j < 12 → f (cnt (isp D) j) = nI (256 * kdn D j + j)
theorem cnt_lt_isp {f : Nat → Bool} {j k : Nat} (h : j < k) (hj : f j = true) : cnt f j < cnt f k := by
  have h1 := cnt_mono f (show j + 1 ≤ k by omega)
  have h2 : cnt f (j + 1) = cnt f j + 1 := by show cnt f j + (f j).toNat = _; rw [hj]; rfl
  omega
theorem rp_step {D : Nat → Bool} {σ τ : zc_N} {c r : Nat} {a : Int32} (h : gC D τ) (hc : c < 16) (hr : r < 16) (ha : a = nI (cnt (isp D) (16 * r + c))) (hw : wr D (16 * r + c) (τ 8)) (ho : off [8] σ τ) :
    (fX1_readPoints_20 (nI (RW (mk (FK D) (16 * r)) r)) (nI r) c (a, nI (RW (mk (FK D) (16 * r + c)) (r + 1)), τ)).1 = nI (cnt (isp D) (16 * r + c + 1)) ∧
    (fX1_readPoints_20 (nI (RW (mk (FK D) (16 * r)) r)) (nI r) c (a, nI (RW (mk (FK D) (16 * r + c)) (r + 1)), τ)).2.1 = nI (RW (mk (FK D) (16 * r + (c + 1))) (r + 1)) ∧
    (gC D (fX1_readPoints_20 (nI (RW (mk (FK D) (16 * r)) r)) (nI r) c (a, nI (RW (mk (FK D) (16 * r + c)) (r + 1)), τ)).2.2 ∧ wr D (16 * r + c + 1) ((fX1_readPoints_20 (nI (RW (mk (FK D) (16 * r)) r)) (nI r) c (a, nI (RW (mk (FK D) (16 * r + c)) (r + 1)), τ)).2.2 8) ∧ off [8] σ (fX1_readPoints_20 (nI (RW (mk (FK D) (16 * r)) r)) (nI r) c (a, nI (RW (mk (FK D) (16 * r + c)) (r + 1)), τ)).2.2) := by
  have hk : 16 * r + c < 256 := by omega
  have hk3 := kdn_le D (16 * r + c)
  have hcn := cnt_le (isp D) (16 * r + c)
  unfold fX1_readPoints_20
  dsimp only
  rw [kd_c h hc hr]
  refine ⟨?_, ?_, ?_⟩
  · show _ = nI (cnt (isp D) (16 * r + c) + (isp D (16 * r + c)).toNat)
    by_cases e : kdn D (16 * r + c) = 3
    · have e2 : isp D (16 * r + c) = false := by unfold isp; simp [e]
      rw [if_pos ((kI_m1 hk3).mpr e), e2, ha]
      rfl
    · have e2 : isp D (16 * r + c) = true := by unfold isp; simp; omega
      rw [if_neg (fun g => e ((kI_m1 hk3).mp g)), e2, ha, nI_1]
      rfl
  · rw [RW_mk hc hr]
    by_cases e : kdn D (16 * r + c) = 2
    · rw [if_pos ((kI_2 hk3).mpr e), if_pos ((kdn_2 D _).mp e), i16, sub_n (by omega), bitn_n (by omega), or_n]
    · rw [if_neg (fun g => e ((kI_2 hk3).mp g)), if_neg (fun g => e ((kdn_2 D _).mpr g))]
  · by_cases e : kdn D (16 * r + c) = 3
    · have e2 : isp D (16 * r + c) = false := by unfold isp; simp [e]
      rw [if_pos ((kI_m1 hk3).mpr e)]
      refine ⟨h, fun j hj hi hl => ?_, ho⟩
      by_cases hjk : j = 16 * r + c
      · rw [hjk, e2] at hi; cases hi
      · exact hw j (by omega) hi hl
    · have e2 : isp D (16 * r + c) = true := by unfold isp; simp; omega
      rw [if_neg (fun g => e ((kI_m1 hk3).mp g)), ha, show (12 : Int32) = nI 12 from rfl]
      by_cases e3 : 12 ≤ cnt (isp D) (16 * r + c)
      · rw [if_pos (nI_le e3 (by omega))]
        refine ⟨h, fun j hj hi hl => ?_, ho⟩
        by_cases hjk : j = 16 * r + c
        · rw [hjk] at hl; omega
        · exact hw j (by omega) hi hl
      · rw [if_neg (nI_ge (by omega) (by decide)), nI_clamp (by omega), kI_n (by omega), i16, pk_mul, pk_mul, pk_mul, nI_add, nI_add]
        refine ⟨fun y hy => by rw [zu_ne _ _ (by decide)]; exact h y hy, fun j hj hi hl => ?_, off_zu ho (by simp) _⟩
        rw [zu_self]
        by_cases hjk : j = 16 * r + c
        · subst hjk
          rw [zu_self]
          congr 1
          omega
        · have := cnt_lt_isp (f := isp D) (show j < 16 * r + c by omega) hi
          rw [zu_ne _ _ (by omega)]
          exact hw j (by omega) hi hl
theorem f7_eq (i : Nat) (x : Int32 × Int32 × zc_N) : fX1_readPoints_7 i x = zfor (fX1_readPoints_20 x.2.1 (nI i)) 16 (x.1, (0 : Int32), x.2.2) := by
  unfold fX1_readPoints_7
  generalize zfor (fX1_readPoints_20 x.2.1 (nI i)) 16 (x.1, (0 : Int32), x.2.2) = p
  rfl
theorem readPoints_c {D : Nat → Bool} {σ : zc_N} (h : gC D σ) : pX1_readPoints σ ∧ rX1_readPoints σ = nI (cnt (isp D) 256) ∧ gC D (sX1_readPoints σ) ∧ wr D 256 (sX1_readPoints σ 8) ∧ off [8] σ (sX1_readPoints σ) := by
  have inner : ∀ r, r < 16 → ∀ (a : Int32) (τ : zc_N), gC D τ → a = nI (cnt (isp D) (16 * r)) → wr D (16 * r) (τ 8) → off [8] σ τ → ∀ c, c ≤ 16 →
      ((zfor (fX1_readPoints_20 (nI (RW (mk (FK D) (16 * r)) r)) (nI r)) c (a, (0 : Int32), τ)).1 = nI (cnt (isp D) (16 * r + c)) ∧ (zfor (fX1_readPoints_20 (nI (RW (mk (FK D) (16 * r)) r)) (nI r)) c (a, (0 : Int32), τ)).2.1 = nI (RW (mk (FK D) (16 * r + c)) (r + 1)) ∧ (gC D (zfor (fX1_readPoints_20 (nI (RW (mk (FK D) (16 * r)) r)) (nI r)) c (a, (0 : Int32), τ)).2.2 ∧ wr D (16 * r + c) ((zfor (fX1_readPoints_20 (nI (RW (mk (FK D) (16 * r)) r)) (nI r)) c (a, (0 : Int32), τ)).2.2 8) ∧ off [8] σ (zfor (fX1_readPoints_20 (nI (RW (mk (FK D) (16 * r)) r)) (nI r)) c (a, (0 : Int32), τ)).2.2)) := by
    intro r hr a τ h1 h2 h3 h4
    refine zfor_inv (fun c (x : Int32 × Int32 × zc_N) => x.1 = nI (cnt (isp D) (16 * r + c)) ∧ x.2.1 = nI (RW (mk (FK D) (16 * r + c)) (r + 1)) ∧ (gC D x.2.2 ∧ wr D (16 * r + c) (x.2.2 8) ∧ off [8] σ x.2.2)) _ 16 (a, 0, τ) ⟨h2, by rw [Nat.add_zero, RW_mk0]; rfl, h1, h3, h4⟩ (fun c hc x hx => ?_)
    obtain ⟨x1, x2, x3⟩ := x
    obtain ⟨g1, g2, g3, g4, g5⟩ := hx
    dsimp only at g1 g2 g3 g4 g5
    subst g2
    exact rp_step g3 hc hr g1 g4 g5
  have outer : ∀ r, r ≤ 16 → ((zfor fX1_readPoints_7 r (0, 0, σ)).1 = nI (cnt (isp D) (16 * r)) ∧ (zfor fX1_readPoints_7 r (0, 0, σ)).2.1 = nI (RW (mk (FK D) (16 * r)) r) ∧ (gC D (zfor fX1_readPoints_7 r (0, 0, σ)).2.2 ∧ wr D (16 * r) ((zfor fX1_readPoints_7 r (0, 0, σ)).2.2 8) ∧ off [8] σ (zfor fX1_readPoints_7 r (0, 0, σ)).2.2)) := by
    refine zfor_inv (fun r (x : Int32 × Int32 × zc_N) => x.1 = nI (cnt (isp D) (16 * r)) ∧ x.2.1 = nI (RW (mk (FK D) (16 * r)) r) ∧ (gC D x.2.2 ∧ wr D (16 * r) (x.2.2 8) ∧ off [8] σ x.2.2)) fX1_readPoints_7 16 (0, 0, σ) ⟨rfl, ?_, h, fun j hj => absurd hj (by omega), off_rf _ _⟩ (fun r hr x hx => ?_)
    · show (0 : Int32) = nI (RW (mk (FK D) 0) 0)
      have : RW (mk (FK D) 0) 0 = RW (fun _ => false) 0 := RW_congr (fun x => by rw [pd_y0, pd_y0])
      rw [this]
      rfl
    · obtain ⟨x1, x2, x3⟩ := x
      obtain ⟨g1, g2, g3, g4, g5⟩ := hx
      dsimp only at g1 g2 g3 g4 g5
      subst g2
      have := inner r hr x1 x3 g3 g1 g4 g5 16 (Nat.le_refl _)
      rw [f7_eq]
      dsimp only
      rw [Nat.mul_succ]
      exact this
  have o16 := outer 16 (Nat.le_refl _)
  rw [show 16 * 16 = 256 from rfl] at o16
  unfold pX1_readPoints rX1_readPoints sX1_readPoints
  generalize hz : zfor fX1_readPoints_7 16 (0, 0, σ) = z at o16
  refine ⟨fun r hr c hc => ?_, o16.1, o16.2.2⟩
  have o := outer r (by omega)
  show qX1_readPoints_20 (zfor fX1_readPoints_7 r (0, 0, σ)).2.1 (nI r) c (zfor (fX1_readPoints_20 (zfor fX1_readPoints_7 r (0, 0, σ)).2.1 (nI r)) c ((zfor fX1_readPoints_7 r (0, 0, σ)).1, (0 : Int32), (zfor fX1_readPoints_7 r (0, 0, σ)).2.2))
  generalize zfor fX1_readPoints_7 r (0, 0, σ) = x at o ⊢
  obtain ⟨x1, x2, x3⟩ := x
  obtain ⟨g1, g2, g3, g4, g5⟩ := o
  dsimp only at g1 g2 g3 g4 g5 ⊢
  subst g2
  have i := inner r hr x1 x3 g3 g1 g4 g5 c (by omega)
  generalize zfor (fX1_readPoints_20 (nI (RW (mk (FK D) (16 * r)) r)) (nI r)) c (x1, (0 : Int32), x3) = y at i ⊢
  obtain ⟨y1, y2, y3⟩ := y
  obtain ⟨i1, i2, i3, i4, i5⟩ := i
  dsimp only at i1
  have hcn := cnt_le (isp D) (16 * r + c)
  have hp := pz_ring hr
  refine ⟨hp.2, ⟨fun _ => trivial, fun _ => hp.1⟩, fun _ => trivial, fun _ => ⟨fun _ => trivial, fun g => ?_⟩⟩
  dsimp only at g ⊢
  rw [i1, show (12 : Int32) = nI 12 from rfl] at g
  rw [i1]
  refine vp_in_nI ?_ (by decide)
  exact Nat.lt_of_not_le (fun q => g (nI_le q (by omega)))
