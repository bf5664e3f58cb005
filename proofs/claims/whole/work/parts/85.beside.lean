/-! ===== pieces: what lies beside (the reference) ===== -/
/-- beside: all eight, or the four at the sides alone; a cell is beside itself -/
def nbr (W : Nat) (l : Bool) (a b : Nat) : Prop := a % W ≤ b % W + 1 ∧ b % W ≤ a % W + 1 ∧ a / W ≤ b / W + 1 ∧ b / W ≤ a / W + 1 ∧ (l = true ∨ a % W = b % W ∨ a / W = b / W)
theorem nbr_sy {W : Nat} {l : Bool} (a b : Nat) (h : nbr W l a b) : nbr W l b a := by
  obtain ⟨h1, h2, h3, h4, h5⟩ := h
  exact ⟨h2, h1, h4, h3, h5.imp id (Or.imp Eq.symm Eq.symm)⟩
def wX (w : Nat) : Int := [1, 1, 0, -1, -1, -1, 0, 1].getD w 0
def wY (w : Nat) : Int := [0, 1, 1, 1, 0, -1, -1, -1].getD w 0
theorem sXz : ∀ k, k < 8 → rX9_stepX (nI k) = zI (wX k) := by decide +kernel
theorem sYz : ∀ k, k < 8 → rX9_stepY (nI k) = zI (wY k) := by decide +kernel
theorem wXY : ∀ w, w < 8 → -1 ≤ wX w ∧ wX w ≤ 1 ∧ -1 ≤ wY w ∧ wY w ≤ 1 ∧ (w % 2 = 0 → wX w = 0 ∨ wY w = 0) := by decide
theorem w_even : ∀ w, w < 8 → ((nI w - nI w / (2 : Int32) * (2 : Int32)) = 0 ↔ w % 2 = 0) := by decide +kernel
theorem way_ex {dx dy : Int} (h1 : -1 ≤ dx) (h2 : dx ≤ 1) (h3 : -1 ≤ dy) (h4 : dy ≤ 1) (h : ¬ (dx = 0 ∧ dy = 0)) : ∃ w, w < 8 ∧ wX w = dx ∧ wY w = dy ∧ ((dx = 0 ∨ dy = 0) → w % 2 = 0) := by
  have ex : dx = -1 ∨ dx = 0 ∨ dx = 1 := by omega
  have ey : dy = -1 ∨ dy = 0 ∨ dy = 1 := by omega
  rcases ex with rfl | rfl | rfl <;> rcases ey with rfl | rfl | rfl
  · exact ⟨5, by decide, rfl, rfl, by decide⟩
  · exact ⟨4, by decide, rfl, rfl, by decide⟩
  · exact ⟨3, by decide, rfl, rfl, by decide⟩
  · exact ⟨6, by decide, rfl, rfl, by decide⟩
  · exact absurd ⟨rfl, rfl⟩ h
  · exact ⟨2, by decide, rfl, rfl, by decide⟩
  · exact ⟨7, by decide, rfl, rfl, by decide⟩
  · exact ⟨0, by decide, rfl, rfl, by decide⟩
  · exact ⟨1, by decide, rfl, rfl, by decide⟩
theorem ite01 {p : Prop} {dp : Decidable p} {a b : Int32} (ha : a = 0 ∨ a = 1) (hb : b = 0 ∨ b = 1) : (@ite _ p dp a b) = 0 ∨ (@ite _ p dp a b) = 1 := by
  by_cases h : p
  · rw [if_pos h]; exact ha
  · rw [if_neg h]; exact hb
theorem zfor_any (g : Nat → Int32) : ∀ n, zfor (fun i (a : Int32) => if a = 0 then g i else 1) n 0 = 0 ↔ ∀ i, i < n → g i = 0
  | 0 => ⟨fun _ i hi => absurd hi (Nat.not_lt_zero i), fun _ => rfl⟩
  | n + 1 => by
    have ih := zfor_any g n
    show (if zfor (fun i (a : Int32) => if a = 0 then g i else 1) n 0 = 0 then g n else 1) = 0 ↔ _
    by_cases h : zfor (fun i (a : Int32) => if a = 0 then g i else 1) n 0 = 0
    · rw [if_pos h]
      refine ⟨fun e i hi => ?_, fun e => e n (Nat.lt_succ_self n)⟩
      by_cases e2 : i = n
      · rw [e2]; exact e
      · exact ih.mp h i (by omega)
    · rw [if_neg h]
      refine ⟨fun e => absurd e (by decide), fun e => absurd (ih.mpr (fun i hi => e i (Nat.lt_succ_of_lt hi))) h⟩
theorem rng4 {X Y : Int} (hX : -2 ≤ X ∧ X ≤ 20) (hY : -2 ≤ Y ∧ Y ≤ 20) : (if zI X < (0 : Int32) then (0 : Int32) else (if (16 : Int32) ≤ zI X then (0 : Int32) else (if zI Y < (0 : Int32) then (0 : Int32) else (if (16 : Int32) ≤ zI Y then (0 : Int32) else (1 : Int32))))) = if (0 ≤ X ∧ X < 16 ∧ 0 ≤ Y ∧ Y < 16) then 1 else 0 := by
  have l1 : zI X < (0 : Int32) ↔ X < 0 := zlt (a := X) (b := 0) (by omega) (by omega)
  have l2 : zI Y < (0 : Int32) ↔ Y < 0 := zlt (a := Y) (b := 0) (by omega) (by omega)
  have g1 : (16 : Int32) ≤ zI X ↔ 16 ≤ X := zle (a := 16) (by omega) (by omega)
  have g2 : (16 : Int32) ≤ zI Y ↔ 16 ≤ Y := zle (a := 16) (by omega) (by omega)
  simp only [l1, l2, g1, g2]
  repeat' split
  all_goals first | rfl | (exfalso; omega)
theorem idx16 {X Y : Int} (h : 0 ≤ X ∧ X < 16 ∧ 0 ≤ Y ∧ Y < 16) : ((16 : Int32) * zI Y) + zI X = nI (16 * Y + X).toNat ∧ (16 * Y + X).toNat < 256 := by
  refine ⟨?_, by omega⟩
  rw [show (16 : Int32) = zI 16 from rfl, zI_mul, zI_add, nz (by omega)]
  congr 1
  omega
theorem bs_way {σ : zc_N} {D S : Nat → Bool} (hD : gM D σ) (hS : ∀ k, k < 256 → σ 34 k = b2 (S k)) (l : Bool) {X Y : Int} (hX : -2 ≤ X ∧ X ≤ 20) (hY : -2 ≤ Y ∧ Y ≤ 20) (q : Int32) :
    ((if (if zI X < (0 : Int32) then (0 : Int32) else (if (16 : Int32) ≤ zI X then (0 : Int32) else (if zI Y < (0 : Int32) then (0 : Int32) else (if (16 : Int32) ≤ zI Y then (0 : Int32) else (1 : Int32))))) = (0 : Int32) then (0 : Int32) else (if b2 l = (0 : Int32) then (if q = (0 : Int32) then (if ((σ 33) (((16 : Int32) * zI Y) + zI X).toNatClampNeg) = b2 l then (if ((σ 34) (((16 : Int32) * zI Y) + zI X).toNatClampNeg) = (0 : Int32) then (0 : Int32) else (1 : Int32)) else (0 : Int32)) else (0 : Int32)) else (if ((σ 33) (((16 : Int32) * zI Y) + zI X).toNatClampNeg) = b2 l then (if ((σ 34) (((16 : Int32) * zI Y) + zI X).toNatClampNeg) = (0 : Int32) then (0 : Int32) else (1 : Int32)) else (0 : Int32)))) = 0) ↔ ¬ ((0 ≤ X ∧ X < 16 ∧ 0 ≤ Y ∧ Y < 16) ∧ (l = true ∨ q = 0) ∧ D (16 * Y + X).toNat = l ∧ S (16 * Y + X).toNat = true) := by
  rw [rng4 hX hY]
  by_cases h : (0 ≤ X ∧ X < 16 ∧ 0 ≤ Y ∧ Y < 16)
  · obtain ⟨e, hl⟩ := idx16 h
    rw [if_pos h, e, nI_clamp (by omega), hD _ hl, hS _ hl, if_neg (by decide)]
    generalize D (16 * Y + X).toNat = d
    generalize S (16 * Y + X).toNat = s
    by_cases hq : q = 0
    · cases l <;> cases d <;> cases s <;> simp [hq, h, b2]
    · cases l <;> cases d <;> cases s <;> simp [hq, h, b2]
  · rw [if_neg h, if_pos rfl]
    exact ⟨fun _ g => h g.1, fun _ => rfl⟩
theorem beside_m {σ : zc_N} {D S : Nat → Bool} (hD : gM D σ) (hS : ∀ k, k < 256 → σ 34 k = b2 (S k)) (l : Bool) {k : Nat} (hk : k < 256) (hs : S k = false) : pX9_besideSeen σ (nI k) (b2 l) ∧ (rX9_besideSeen σ (nI k) (b2 l) = 0 ↔ ¬ ∃ j, j < 256 ∧ nbr 16 l k j ∧ D j = l ∧ S j = true) := by
  have hx : k % 16 < 16 := Nat.mod_lt _ (by decide)
  have hy : k / 16 < 16 := by omega
  have hX : ∀ w, w < 8 → -2 ≤ ((k % 16 : Nat) : Int) + wX w ∧ ((k % 16 : Nat) : Int) + wX w ≤ 20 := fun w hw => by
    have := wXY w hw
    omega
  have hY : ∀ w, w < 8 → -2 ≤ ((k / 16 : Nat) : Int) + wY w ∧ ((k / 16 : Nat) : Int) + wY w ≤ 20 := fun w hw => by
    have := wXY w hw
    omega
  have eX : ∀ w, w < 8 → (nI k - nI k / (16 : Int32) * (16 : Int32)) + rX9_stepX (nI w) = zI (((k % 16 : Nat) : Int) + wX w) := fun w hw => by
    rw [rem16 hk, sXz w hw, nz (by omega), zI_add]
  have eY : ∀ w, w < 8 → (nI k / (16 : Int32)) + rX9_stepY (nI w) = zI (((k / 16 : Nat) : Int) + wY w) := fun w hw => by
    rw [div16 hk, sYz w hw, nz (by omega), zI_add]
  constructor
  · refine ⟨fun w hw => ?_, ?_⟩
    · unfold qX9_besideSeen_5
      rw [eX w hw, eY w hw]
      have V : ¬ (if zI (((k % 16 : Nat) : Int) + wX w) < (0 : Int32) then (0 : Int32) else (if (16 : Int32) ≤ zI (((k % 16 : Nat) : Int) + wX w) then (0 : Int32) else (if zI (((k / 16 : Nat) : Int) + wY w) < (0 : Int32) then (0 : Int32) else (if (16 : Int32) ≤ zI (((k / 16 : Nat) : Int) + wY w) then (0 : Int32) else (1 : Int32))))) = (0 : Int32) → vp_in (((16 : Int32) * zI (((k / 16 : Nat) : Int) + wY w)) + zI (((k % 16 : Nat) : Int) + wX w)) 256 := by
        rw [rng4 (hX w hw) (hY w hw)]
        intro c
        by_cases h : (0 ≤ ((k % 16 : Nat) : Int) + wX w ∧ ((k % 16 : Nat) : Int) + wX w < 16 ∧ 0 ≤ ((k / 16 : Nat) : Int) + wY w ∧ ((k / 16 : Nat) : Int) + wY w < 16)
        · obtain ⟨e, hl⟩ := idx16 h
          rw [e]
          exact vp_in_nI hl (by decide)
        · rw [if_neg h] at c
          exact absurd rfl c
      exact ⟨fun _ => ⟨fun _ => trivial, fun c => ⟨fun _ => ⟨fun _ => ⟨V c, fun _ => V c, fun _ => trivial⟩, fun _ => trivial⟩, fun _ => ⟨V c, fun _ => V c, fun _ => trivial⟩⟩⟩, fun _ => trivial⟩
    · have h01 := zfor_inv (fun _ (a : Int32) => a = 0 ∨ a = 1) (fX9_besideSeen_5 σ (nI k) (b2 l)) 8 0 (Or.inl rfl) (fun w hw a ha => by
        unfold fX9_besideSeen_5
        repeat' apply ite01
        all_goals first | exact Or.inl rfl | exact Or.inr rfl) 8 (Nat.le_refl 8)
      rcases h01 with e | e <;> rw [e] <;> rfl
  · unfold rX9_besideSeen
    rw [zfor_congr (fX9_besideSeen_5 σ (nI k) (b2 l)) (fun i (a : Int32) => if a = 0 then (fX9_besideSeen_5 σ (nI k) (b2 l) i 0) else 1) 0 8 (fun w hw a => by
      unfold fX9_besideSeen_5
      by_cases ha : a = 0
      · rw [if_pos ha, if_pos ha, if_pos rfl]
      · rw [if_neg ha, if_neg ha]), zfor_any (fun i => fX9_besideSeen_5 σ (nI k) (b2 l) i 0) 8]
    have W : ∀ w, w < 8 → (fX9_besideSeen_5 σ (nI k) (b2 l) w 0 = 0 ↔ ¬ ((0 ≤ ((k % 16 : Nat) : Int) + wX w ∧ ((k % 16 : Nat) : Int) + wX w < 16 ∧ 0 ≤ ((k / 16 : Nat) : Int) + wY w ∧ ((k / 16 : Nat) : Int) + wY w < 16) ∧ (l = true ∨ (nI w - nI w / (2 : Int32) * (2 : Int32)) = 0) ∧ D (16 * (((k / 16 : Nat) : Int) + wY w) + (((k % 16 : Nat) : Int) + wX w)).toNat = l ∧ S (16 * (((k / 16 : Nat) : Int) + wY w) + (((k % 16 : Nat) : Int) + wX w)).toNat = true)) := fun w hw => by
      unfold fX9_besideSeen_5
      rw [eX w hw, eY w hw, if_pos rfl]
      exact bs_way hD hS l (hX w hw) (hY w hw) _
    constructor
    · rintro h ⟨j, hj, ⟨n1, n2, n3, n4, n5⟩, hd, hsj⟩
      have hne : ¬ (((j % 16 : Nat) : Int) - ((k % 16 : Nat) : Int) = 0 ∧ ((j / 16 : Nat) : Int) - ((k / 16 : Nat) : Int) = 0) := fun z => by
        have : j = k := by omega
        rw [this, hs] at hsj
        cases hsj
      obtain ⟨w, hw, e1, e2, e3⟩ := way_ex (dx := ((j % 16 : Nat) : Int) - ((k % 16 : Nat) : Int)) (dy := ((j / 16 : Nat) : Int) - ((k / 16 : Nat) : Int)) (by omega) (by omega) (by omega) (by omega) hne
      refine (W w hw).mp (h w hw) ?_
      have ej : (16 * (((k / 16 : Nat) : Int) + wY w) + (((k % 16 : Nat) : Int) + wX w)).toNat = j := by
        rw [e1, e2]; omega
      rw [ej]
      refine ⟨by rw [e1, e2]; omega, ?_, hd, hsj⟩
      rcases n5 with n5 | n5 | n5
      · exact Or.inl n5
      · exact Or.inr ((w_even w hw).mpr (e3 (Or.inl (by omega))))
      · exact Or.inr ((w_even w hw).mpr (e3 (Or.inr (by omega))))
    · intro h w hw
      refine (W w hw).mpr (fun g => h ?_)
      obtain ⟨g1, g2, g3, g4⟩ := g
      have hb := wXY w hw
      refine ⟨_, (idx16 g1).2, ?_, g3, g4⟩
      have hr : l = true ∨ (wX w = 0 ∨ wY w = 0) := g2.imp id (fun z => hb.2.2.2.2 ((w_even w hw).mp z))
      generalize wX w = dx at *
      generalize wY w = dy at *
      have em : (16 * (((k / 16 : Nat) : Int) + dy) + (((k % 16 : Nat) : Int) + dx)).toNat % 16 = (((k % 16 : Nat) : Int) + dx).toNat := by omega
      have ed : (16 * (((k / 16 : Nat) : Int) + dy) + (((k % 16 : Nat) : Int) + dx)).toNat / 16 = (((k / 16 : Nat) : Int) + dy).toNat := by omega
      unfold nbr
      rw [em, ed]
      refine ⟨by omega, by omega, by omega, by omega, hr.imp id (fun z => z.imp (fun z => by omega) (fun z => by omega))⟩
