/-! ===== pieces: the class's cells that are left ===== -/
def uX (w : Nat) : Int := [0, 1, 0, -1, 1, 1, -1, -1].getD w 0
def uY (w : Nat) : Int := [-1, 0, 1, 0, -1, 1, 1, -1].getD w 0
theorem uXY : ∀ w, w < 8 → -1 ≤ uX w ∧ uX w ≤ 1 ∧ -1 ≤ uY w ∧ uY w ≤ 1 ∧ (w < 4 → uX w = 0 ∨ uY w = 0) := by decide
theorem uX_z : ∀ w, w < 8 → ([0, 1, 0, -1, 1, 1, -1, -1] : List Int32).getD w 0 = zI (uX w) := by decide +kernel
theorem uY_z : ∀ w, w < 8 → ([-1, 0, 1, 0, -1, 1, 1, -1] : List Int32).getD w 0 = zI (uY w) := by decide +kernel
theorem uway {dx dy : Int} (h1 : -1 ≤ dx) (h2 : dx ≤ 1) (h3 : -1 ≤ dy) (h4 : dy ≤ 1) (h : ¬ (dx = 0 ∧ dy = 0)) : ∃ w, w < 8 ∧ uX w = dx ∧ uY w = dy ∧ ((dx = 0 ∨ dy = 0) → w < 4) := by
  have ex : dx = -1 ∨ dx = 0 ∨ dx = 1 := by omega
  have ey : dy = -1 ∨ dy = 0 ∨ dy = 1 := by omega
  rcases ex with rfl | rfl | rfl <;> rcases ey with rfl | rfl | rfl
  · exact ⟨7, by decide, rfl, rfl, by decide⟩
  · exact ⟨3, by decide, rfl, rfl, by decide⟩
  · exact ⟨6, by decide, rfl, rfl, by decide⟩
  · exact ⟨0, by decide, rfl, rfl, by decide⟩
  · exact absurd ⟨rfl, rfl⟩ h
  · exact ⟨2, by decide, rfl, rfl, by decide⟩
  · exact ⟨4, by decide, rfl, rfl, by decide⟩
  · exact ⟨1, by decide, rfl, rfl, by decide⟩
  · exact ⟨5, by decide, rfl, rfl, by decide⟩
/-- the cells that are left, 18 in a row -/
def gL (F : Nat → Bool) (σ : zc_N) : Prop := ∀ y, y < 18 → σ 6 y = nI (rowN (fun x => F (18 * y + x)) 18)
theorem rL_lt (F : Nat → Bool) (y : Nat) : rowN (fun x => F (18 * y + x)) 18 < 2 ^ 18 := rowN_lt _ 18
theorem rL_bit (F : Nat → Bool) (y : Nat) {x : Nat} (hx : x ≤ 17) : (rowN (fun x => F (18 * y + x)) 18).testBit (17 - x) = F (18 * y + x) := by
  rw [rowN_bit, show 18 - 1 - (17 - x) = x by omega]
  have : 17 - x < 18 := by omega
  simp [this]
theorem gL_congr {F G : Nat → Bool} {σ : zc_N} (h : gL F σ) (e : ∀ j, j < 324 → F j = G j) : gL G σ := fun y hy => by
  rw [h y hy]
  congr 1
  exact rowN_congr 18 (fun x hx => e _ (by omega))
theorem gL_cut {F : Nat → Bool} {σ : zc_N} (h : gL F σ) {x y : Nat} (hx : x < 18) (hy : y < 18) : gL (cut F (18 * y + x)) (zu σ 6 (zu (σ 6) y ((σ 6 y) &&& ((zshl (1 : Int32) (nI (17 - x))) ^^^ (-1 : Int32))))) := by
  intro z hz
  rw [zu_self]
  by_cases e : z = y
  · subst e
    rw [zu_self, h z hz, clr_n (by omega)]
    congr 1
    apply Nat.eq_of_testBit_eq
    intro i
    rw [clr_bit (Nat.lt_of_lt_of_le (rL_lt F z) (by decide)), rowN_bit, rowN_bit]
    unfold cut
    by_cases hi : i < 18
    · have e1 : decide (18 * z + (18 - 1 - i) = 18 * z + x) = decide (i = 17 - x) := by
        by_cases q : i = 17 - x
        · rw [decide_eq_true q, decide_eq_true (by omega)]
        · rw [decide_eq_false q, decide_eq_false (by omega)]
      rw [e1, decide_eq_true hi]
      simp
    · rw [decide_eq_false hi]
      simp
  · rw [zu_ne _ _ e, h z hz]
    congr 1
    refine rowN_congr 18 (fun i hi => ?_)
    unfold cut
    rw [decide_eq_false (show ¬ 18 * z + i = 18 * y + x by omega)]
    simp
theorem cut_no {F : Nat → Bool} {k : Nat} (h : F k = false) : ∀ j, cut F k j = F j := fun j => by
  unfold cut
  by_cases e : j = k
  · rw [e, h]; rfl
  · simp [e]
theorem is8 {z : Int} (h : -100 ≤ z ∧ z ≤ 100) : rX8_isWithin (zI z) (0 : Int32) (17 : Int32) = if (0 ≤ z ∧ z ≤ 17) then 1 else 0 := by
  unfold rX8_isWithin
  have l1 : zI z < (0 : Int32) ↔ z < 0 := zlt (a := z) (b := 0) (by omega) (by omega)
  have l2 : (17 : Int32) < zI z ↔ 17 < z := zlt (a := 17) (by omega) (by omega)
  simp only [l1, l2]
  repeat' split
  all_goals first | rfl | (exfalso; omega)
theorem is8_no {z : Int} (h : -100 ≤ z ∧ z ≤ 100) (hz : ¬ (0 ≤ z ∧ z ≤ 17)) : rX8_isWithin (zI z) (0 : Int32) (17 : Int32) = 0 := (is8 h).trans (if_neg hz)
theorem is8_yes {z : Int} (h : -100 ≤ z ∧ z ≤ 100) (hz : 0 ≤ z ∧ z ≤ 17) : ¬ rX8_isWithin (zI z) (0 : Int32) (17 : Int32) = 0 := by rw [is8 h, if_pos hz]; decide
theorem takes_c {F : Nat → Bool} {σ : zc_N} (h : gL F σ) {X Y : Int} (hX : -100 ≤ X ∧ X ≤ 100) (hY : -100 ≤ Y ∧ Y ≤ 100) : pX1_takes (zI X) (zI Y) ∧ off [6] σ (sX1_takes σ (zI X) (zI Y)) ∧
    ((¬ ((0 ≤ X ∧ X ≤ 17) ∧ (0 ≤ Y ∧ Y ≤ 17) ∧ F (18 * Y + X).toNat = true) ∧ rX1_takes σ (zI X) (zI Y) = 0 ∧ gL F (sX1_takes σ (zI X) (zI Y))) ∨ (((0 ≤ X ∧ X ≤ 17) ∧ (0 ≤ Y ∧ Y ≤ 17) ∧ F (18 * Y + X).toNat = true) ∧ rX1_takes σ (zI X) (zI Y) = 1 ∧ gL (cut F (18 * Y + X).toNat) (sX1_takes σ (zI X) (zI Y)))) := by
  have hv : 0 ≤ Y ∧ Y ≤ 17 → vp_in (zI Y) 18 := fun q => (zI_in (by omega) (by omega)).mpr ⟨q.1, by omega⟩
  have hp : pX1_takes (zI X) (zI Y) := ⟨fun _ => trivial, fun _ => ⟨fun _ => trivial, fun z => by
    by_cases q : 0 ≤ Y ∧ Y ≤ 17
    · exact ⟨hv q, hv q, hv q⟩
    · exact absurd (is8_no hY q) z⟩⟩
  refine ⟨hp, ?_⟩
  unfold sX1_takes rX1_takes
  by_cases hx : 0 ≤ X ∧ X ≤ 17
  · by_cases hy : 0 ≤ Y ∧ Y ≤ 17
    · simp only [if_neg (is8_yes hX hx), if_neg (is8_yes hY hy)]
      obtain ⟨x, rfl⟩ : ∃ x : Nat, X = (x : Int) := ⟨X.toNat, by omega⟩
      obtain ⟨y, rfl⟩ : ∃ y : Nat, Y = (y : Int) := ⟨Y.toNat, by omega⟩
      have hx2 : x < 18 := by omega
      have hy2 : y < 18 := by omega
      have ec : (18 * (y : Int) + (x : Int)).toNat = 18 * y + x := by omega
      rw [← nz (n := x) (by omega), ← nz (n := y) (by omega), i17, sub_n (by omega), nI_clamp (n := y) (by omega), ec]
      have hg := gL_cut h hx2 hy2
      have hm := mask_n (n := rowN (fun x => F (18 * y + x)) 18) (k := 17 - x) (Nat.lt_of_lt_of_le (rL_lt F y) (by decide)) (by omega)
      rw [rL_bit F y (by omega), ← h y hy2] at hm
      refine ⟨off_zu (off_rf _ _) (by simp) _, ?_⟩
      by_cases hf : F (18 * y + x) = true
      · refine Or.inr ⟨⟨hx, hy, hf⟩, if_neg (fun z => by rw [hm.mp z] at hf; cases hf), hg⟩
      · have hf2 : F (18 * y + x) = false := by cases q : F (18 * y + x); rfl; exact absurd q hf
        exact Or.inl ⟨fun z => hf z.2.2, if_pos (hm.mpr hf2), gL_congr hg (fun j _ => cut_no hf2 j)⟩
    · simp only [if_neg (is8_yes hX hx), if_pos (is8_no hY hy)]
      exact ⟨off_rf _ _, Or.inl ⟨fun z => hy z.2.1, trivial, h⟩⟩
  · simp only [if_pos (is8_no hX hx)]
    exact ⟨off_rf _ _, Or.inl ⟨fun z => hx z.1, trivial, h⟩⟩
