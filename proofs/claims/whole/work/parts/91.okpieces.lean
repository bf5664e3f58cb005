/-! ===== pieces: 16 in a row carried into 18 in a row ===== -/
def ph (k : Nat) : Nat := 18 * (k / 16 + 1) + (k % 16 + 1)
def fz (D : Nat → Bool) (l : Bool) (c : Nat) : Bool := pd D (c % 18) (c / 18) == l
def rim (c : Nat) : Prop := c < 324 ∧ (c % 18 = 0 ∨ c % 18 = 17 ∨ c / 18 = 0 ∨ c / 18 = 17)
theorem ph_m (k : Nat) : ph k % 18 = k % 16 + 1 := by unfold ph; omega
theorem ph_d (k : Nat) : ph k / 18 = k / 16 + 1 := by unfold ph; omega
theorem ph_lt {k : Nat} (h : k < 256) : ph k < 324 := by unfold ph; omega
theorem ph_mono {j k : Nat} : ph j < ph k ↔ j < k := by unfold ph; omega
theorem ph_in {c : Nat} (h : c < 324) (hr : ¬ rim c) : ∃ k, k < 256 ∧ ph k = c := by
  have h2 : ¬ (c % 18 = 0 ∨ c % 18 = 17 ∨ c / 18 = 0 ∨ c / 18 = 17) := fun z => hr ⟨h, z⟩
  refine ⟨16 * (c / 18 - 1) + (c % 18 - 1), by omega, ?_⟩
  unfold ph
  omega
theorem ph_nrim {k : Nat} (h : k < 256) : ¬ rim (ph k) := by
  rintro ⟨-, z⟩
  rw [ph_m, ph_d] at z
  omega
theorem ph_C {D : Nat → Bool} {l : Bool} {k : Nat} (h : k < 256) : kC (fz D l) (ph k) ↔ cC D l k := by
  unfold kC cC fz
  rw [ph_m, ph_d, pd_in (by omega) (by omega), Nat.div_add_mod k 16]
  have := ph_lt h
  generalize D k = d
  constructor
  · rintro ⟨-, z⟩
    exact ⟨h, by cases d <;> cases l <;> simp_all⟩
  · rintro ⟨-, z⟩
    exact ⟨this, by rw [z]; cases l <;> rfl⟩
theorem rim_C {D : Nat → Bool} {l : Bool} {c : Nat} (h : rim c) : kC (fz D l) c ↔ l = false := by
  have hp : pd D (c % 18) (c / 18) = false := by
    unfold pd
    rw [decide_eq_false (by have := h.2; omega)]
    rfl
  unfold kC fz
  rw [hp]
  constructor
  · rintro ⟨-, z⟩
    cases l
    · rfl
    · cases z
  · intro z
    rw [z]
    exact ⟨h.1, rfl⟩
theorem ph_nbr {l : Bool} {a b : Nat} : nbr 18 l (ph a) (ph b) ↔ nbr 16 l a b := by
  unfold nbr
  rw [ph_m, ph_m, ph_d, ph_d]
  constructor
  · rintro ⟨h1, h2, h3, h4, h5⟩
    exact ⟨by omega, by omega, by omega, by omega, h5.imp id (fun z => z.imp (fun z => by omega) (fun z => by omega))⟩
  · rintro ⟨h1, h2, h3, h4, h5⟩
    exact ⟨by omega, by omega, by omega, by omega, h5.imp id (fun z => z.imp (fun z => by omega) (fun z => by omega))⟩
theorem edg_rim {l : Bool} {j z : Nat} (hj : j < 256) (hz : rim z) (h : nbr 18 l (ph j) z) : edg j = true := by
  obtain ⟨h1, h2, h3, h4, -⟩ := h
  rw [ph_m] at h1 h2
  rw [ph_d] at h3 h4
  have := hz.2
  have := hz.1
  exact decide_eq_true (by omega)
theorem edg_ex {e : Nat} (he : e < 256) (h : edg e = true) : ∃ z, rim z ∧ nbr 18 false z (ph e) := by
  have h2 := of_decide_eq_true h
  unfold rim nbr
  rw [ph_m, ph_d]
  rcases h2 with q | q | q | q
  · refine ⟨18 * (e / 16 + 1), ⟨by omega, by omega⟩, by omega, by omega, by omega, by omega, Or.inr (Or.inr (by omega))⟩
  · refine ⟨18 * (e / 16 + 1) + 17, ⟨by omega, by omega⟩, by omega, by omega, by omega, by omega, Or.inr (Or.inr (by omega))⟩
  · refine ⟨e % 16 + 1, ⟨by omega, by omega⟩, by omega, by omega, by omega, by omega, Or.inr (Or.inl (by omega))⟩
  · refine ⟨306 + (e % 16 + 1), ⟨by omega, by omega⟩, by omega, by omega, by omega, by omega, Or.inr (Or.inl (by omega))⟩
theorem rim_conn {D : Nat → Bool} {c : Nat} (h : rim c) : conn (kC (fz D false)) (nbr 18 false) 0 c := by
  have st : ∀ a b, conn (kC (fz D false)) (nbr 18 false) 0 a → rim b → nbr 18 false a b → conn (kC (fz D false)) (nbr 18 false) 0 b := fun a b ha hb hr => conn_st ha ((rim_C hb).mpr rfl) hr
  have top : ∀ x, x ≤ 17 → conn (kC (fz D false)) (nbr 18 false) 0 x := by
    intro x
    induction x with
    | zero => intro _; exact conn_rf 0
    | succ x ih => intro hx; exact st x _ (ih (by omega)) ⟨by omega, by omega⟩ ⟨by omega, by omega, by omega, by omega, Or.inr (Or.inr (by omega))⟩
  have left : ∀ y, y ≤ 17 → conn (kC (fz D false)) (nbr 18 false) 0 (18 * y) := by
    intro y
    induction y with
    | zero => intro _; exact conn_rf 0
    | succ y ih => intro hy; exact st (18 * y) _ (ih (by omega)) ⟨by omega, by omega⟩ ⟨by omega, by omega, by omega, by omega, Or.inr (Or.inl (by omega))⟩
  have right : ∀ y, y ≤ 17 → conn (kC (fz D false)) (nbr 18 false) 0 (18 * y + 17) := by
    intro y
    induction y with
    | zero => intro _; exact top 17 (by omega)
    | succ y ih => intro hy; exact st (18 * y + 17) _ (ih (by omega)) ⟨by omega, by omega⟩ ⟨by omega, by omega, by omega, by omega, Or.inr (Or.inl (by omega))⟩
  have bot : ∀ x, x ≤ 17 → conn (kC (fz D false)) (nbr 18 false) 0 (306 + x) := by
    intro x
    induction x with
    | zero => intro _; exact left 17 (by omega)
    | succ x ih => intro hx; exact st (306 + x) _ (ih (by omega)) ⟨by omega, by omega⟩ ⟨by omega, by omega, by omega, by omega, Or.inr (Or.inr (by omega))⟩
  obtain ⟨h1, h2⟩ := h
  rcases h2 with q | q | q | q
  · rw [show c = 18 * (c / 18) by omega]; exact left _ (by omega)
  · rw [show c = 18 * (c / 18) + 17 by omega]; exact right _ (by omega)
  · exact top c (by omega)
  · rw [show c = 306 + c % 18 by omega]; exact bot _ (by omega)
theorem ld_iff {D : Nat → Bool} {l : Bool} {k : Nat} (hk : k < 256) : lead (kC (fz D l)) (nbr 18 l) (fun _ => False) (ph k) ↔ lead (cC D l) (nbr 16 l) (Bm D l) k := by
  have up : ∀ a b, cC D l a → conn (cC D l) (nbr 16 l) a b → conn (kC (fz D l)) (nbr 18 l) (ph a) (ph b) := fun a b ha h => conn_map (φ := ph) (fun x hx => (ph_C hx.1).mpr hx) (fun x y _ _ hr => ph_nbr.mpr hr) ha h
  by_cases hC : cC D l k
  · have hC' := (ph_C (D := D) (l := l) hk).mpr hC
    by_cases hB : Bm D l k
    · constructor
      · rintro ⟨-, -, h3⟩
        exfalso
        obtain ⟨hl, e, e1, e2, e3, e4⟩ := hB
        subst hl
        obtain ⟨z, z1, z2⟩ := edg_ex e1 e2
        have c1 : conn (kC (fz D false)) (nbr 18 false) 0 (ph k) := conn_tr (conn_st (rim_conn z1) ((ph_C e1).mpr e3) z2) (up e k e3 e4)
        exact h3 0 (by unfold ph; omega) ((rim_C ⟨by decide, by decide⟩).mpr rfl) c1
      · rintro ⟨-, h2, -⟩
        exact absurd hB h2
    · have down : ∀ x, kC (fz D l) x → conn (kC (fz D l)) (nbr 18 l) x (ph k) → ∃ j, cC D l j ∧ ph j = x ∧ conn (cC D l) (nbr 16 l) j k := fun x hx h => by
        have h' := conn_sy nbr_sy hx h
        have key := h' (fun y => ∃ j, cC D l j ∧ ph j = y ∧ conn (cC D l) (nbr 16 l) k j) ⟨k, hC, rfl, conn_rf k⟩ (fun x y hx hy hr => by
          obtain ⟨j, j1, j2, j3⟩ := hx
          rw [← j2] at hr
          by_cases hrm : rim y
          · exfalso
            have hl := (rim_C hrm).mp hy
            exact hB ⟨hl, j, j1.1, edg_rim j1.1 hrm hr, j1, conn_sy nbr_sy hC j3⟩
          · obtain ⟨i, i1, i2⟩ := ph_in hy.1 hrm
            rw [← i2] at hy hr
            have hi := (ph_C i1).mp hy
            exact ⟨i, hi, i2, conn_st j3 hi (ph_nbr.mp hr)⟩)
        obtain ⟨j, j1, j2, j3⟩ := key
        exact ⟨j, j1, j2, conn_sy nbr_sy hC j3⟩
      constructor
      · rintro ⟨-, -, h3⟩
        refine ⟨hC, hB, fun j hj hcj hn => h3 (ph j) (ph_mono.mpr hj) ((ph_C hcj.1).mpr hcj) (up j k hcj hn)⟩
      · rintro ⟨-, -, h3⟩
        refine ⟨hC', id, fun x hx hcx hn => ?_⟩
        obtain ⟨j, j1, j2, j3⟩ := down x hcx hn
        rw [← j2] at hx
        exact h3 j (ph_mono.mp hx) j1 j3
  · exact ⟨fun z => absurd ((ph_C hk).mp z.1) hC, fun z => absurd z.1 hC⟩
theorem ld_eq {D : Nat → Bool} {l : Bool} {k : Nat} (hk : k < 256) : ldc (fz D l) l (ph k) = ldm D l k := by
  unfold ldc ldm
  rw [propext (ld_iff hk)]
theorem cnt18 {f g : Nat → Bool} (h0 : ∀ c, rim c → f c = false) (hg : ∀ k, k < 256 → f (ph k) = g k) : cnt f 324 = cnt g 256 := by
  have row0 : cnt f 18 = 0 := cnt_false 18 (fun i hi => h0 i ⟨by omega, by omega⟩)
  have key : ∀ y, y ≤ 16 → cnt f (18 + 18 * y) = cnt g (16 * y) := by
    intro y
    induction y with
    | zero => intro _; exact row0
    | succ y ih =>
      intro hy
      rw [show 18 + 18 * (y + 1) = (18 + 18 * y) + (1 + (16 + 1)) by omega, cnt_add, ih (by omega), cnt_add, cnt_add, show 16 * (y + 1) = 16 * y + 16 by omega, cnt_add g]
      have a1 : cnt (fun i => f (18 + 18 * y + i)) 1 = 0 := cnt_false 1 (fun i hi => h0 _ ⟨by omega, by omega⟩)
      have a2 : cnt (fun i => (fun i => (fun i => f (18 + 18 * y + i)) (1 + i)) (16 + i)) 1 = 0 := cnt_false 1 (fun i hi => h0 _ ⟨by omega, by omega⟩)
      have a3 : cnt (fun i => (fun i => f (18 + 18 * y + i)) (1 + i)) 16 = cnt (fun i => g (16 * y + i)) 16 := cnt_congr 16 (fun i hi => by
        dsimp only
        rw [← hg (16 * y + i) (by omega)]
        congr 1
        unfold ph
        omega)
      rw [a1, a3, a2]
      omega
  have h16 := key 16 (Nat.le_refl _)
  have last : cnt (fun i => f (18 + 18 * 16 + i)) 18 = 0 := cnt_false 18 (fun i hi => h0 _ ⟨by omega, by omega⟩)
  rw [show (324 : Nat) = (18 + 18 * 16) + 18 from rfl, cnt_add, h16, last, Nat.add_zero, show (16 * 16 : Nat) = 256 from rfl]
theorem cnt_dark (D : Nat → Bool) : cnt (ldc (fz D true) true) 324 = cnt (ldm D true) 256 := by
  refine cnt18 (fun c hc => cdec_f (fun z => ?_)) (fun k hk => ld_eq hk)
  have := (rim_C hc).mp z.1
  cases this
theorem cnt_light (D : Nat → Bool) : cnt (ldc (fz D false) false) 324 = cnt (ldm D false) 256 + 1 := by
  have r0 : rim 0 := ⟨by decide, by decide⟩
  have h0 : ldc (fz D false) false 0 = true := cdec_t ⟨(rim_C r0).mpr rfl, id, fun j hj => absurd hj (Nat.not_lt_zero j)⟩
  have h1 := cnt_clear (ldc (fz D false) false) 0 324 (by decide) h0
  have h2 : cnt (fun j => ldc (fz D false) false j && !(decide (j = 0))) 324 = cnt (ldm D false) 256 := by
    refine cnt18 (fun c hc => ?_) (fun k hk => ?_)
    · by_cases e : c = 0
      · rw [decide_eq_true e]; simp
      · have : ldc (fz D false) false c = false := cdec_f (fun z => z.2.2 0 (by omega) ((rim_C r0).mpr rfl) (rim_conn hc))
        rw [this]; rfl
    · rw [decide_eq_false (show ¬ ph k = 0 by unfold ph; omega), ld_eq hk]
      simp
  omega
/-! the class's two ways in -/
theorem dark_pc {D : Nat → Bool} {σ : zc_N} (hW : iW σ) (h : gC D σ) : pX1_darkPieces σ ∧ rX1_darkPieces σ = nI (cnt (ldm D true) 256) ∧ off [6, 7] σ (sX1_darkPieces σ) := by
  unfold pX1_darkPieces rX1_darkPieces sX1_darkPieces vX1_darkPieces_1
  have hg : gL (fz D true) (zu σ 6 (va_cpy (σ 5) (σ 6) (0 : Int32).toNatClampNeg (0 : Int32).toNatClampNeg (18 : Int32).toNatClampNeg)) := fun y hy => by
    rw [zu_self]
    unfold va_cpy
    rw [show (0 : Int32).toNatClampNeg = 0 by decide, show (18 : Int32).toNatClampNeg = 18 by decide, if_pos (by omega), show 0 + (y - 0) = y by omega, h y hy]
    unfold RW
    refine congrArg nI (rowN_congr 18 (fun x hx => ?_))
    unfold fz
    rw [show (18 * y + x) % 18 = x by omega, show (18 * y + x) / 18 = y by omega]
    cases pd D x y <;> rfl
  have ho : off [6, 7] σ (zu σ 6 (va_cpy (σ 5) (σ 6) (0 : Int32).toNatClampNeg (0 : Int32).toNatClampNeg (18 : Int32).toNatClampNeg)) := off_zu (off_rf _ _) (by simp) _
  generalize zu σ 6 (va_cpy (σ 5) (σ 6) (0 : Int32).toNatClampNeg (0 : Int32).toNatClampNeg (18 : Int32).toNatClampNeg) = τ at hg ho ⊢
  have hW2 : iW τ := by
    unfold iW
    rw [ho 1 (by decide), ho 2 (by decide)]
    exact hW
  obtain ⟨t1, t2, t3⟩ := takePieces_c (l := true) hW2 hg
  rw [cnt_dark] at t2
  exact ⟨t1, t2, off_tr ho t3⟩
theorem holes_pc {D : Nat → Bool} {σ : zc_N} (hW : iW σ) (h : gC D σ) : pX1_holes σ ∧ rX1_holes σ = nI (cnt (ldm D false) 256) ∧ off [6, 7] σ (sX1_holes σ) := by
  unfold pX1_holes rX1_holes sX1_holes
  obtain ⟨k1, k2⟩ := zfor_inv (fun i (τ : zc_N) => (∀ y, y < i → τ 6 y = nI (rowN (fun x => fz D false (18 * y + x)) 18)) ∧ off [6, 7] σ τ) fX1_holes_2 18 σ ⟨fun y hy => absurd hy (Nat.not_lt_zero y), off_rf _ _⟩ (fun i hi τ hτ => by
    obtain ⟨t1, t2⟩ := hτ
    unfold fX1_holes_2
    rw [nI_clamp (n := i) (by omega), t2 5 (by decide), h i hi]
    refine ⟨fun y hy => ?_, off_zu t2 (by simp) _⟩
    rw [zu_self]
    by_cases e : y = i
    · subst e
      rw [zu_self, m1_n, xor_n, show (262143 : Int32) = nI 262143 from rfl, and_n]
      congr 1
      apply Nat.eq_of_testBit_eq
      intro j
      have hz : (262143 : Nat).testBit j = decide (j < 18) := Nat.testBit_two_pow_sub_one 18 j
      rw [Nat.testBit_and, Nat.testBit_xor, tb_full, hz, rowN_bit]
      unfold RW
      rw [rowN_bit]
      by_cases hj : j < 18
      · unfold fz
        rw [decide_eq_true hj, decide_eq_true (show j < 32 by omega), show (18 * y + (18 - 1 - j)) % 18 = 18 - 1 - j by omega, show (18 * y + (18 - 1 - j)) / 18 = y by omega]
        cases pd D (18 - 1 - j) y <;> rfl
      · rw [decide_eq_false hj]
        simp
    · rw [zu_ne _ _ e]; exact t1 y (by omega)) 18 (Nat.le_refl _)
  generalize zfor fX1_holes_2 18 σ = τ at k1 k2 ⊢
  have hW2 : iW τ := by
    unfold iW
    rw [k2 1 (by decide), k2 2 (by decide)]
    exact hW
  obtain ⟨t1, t2, t3⟩ := takePieces_c (l := false) (F0 := fz D false) hW2 k1
  rw [cnt_light] at t2
  refine ⟨t1, ?_, off_tr k2 t3⟩
  have t2' : rX1_takePieces τ (4 : Int32) = nI (cnt (ldm D false) 256 + 1) := t2
  rw [t2', nI_pred]
theorem ok_pieces {P : zp} {A : gA} {σ : zc_N} (h : Inv P A σ) (a1 : Int32) : pX8_pieces σ a1 ∧ pX9_pieces (sX8_pieces σ a1) a1 ∧ rX8_pieces σ a1 = rX9_pieces (sX8_pieces σ a1) a1 ∧ Inv P A (sX9_pieces (sX8_pieces σ a1) a1) := by
  have h' := h
  obtain ⟨⟨D, g1, g2⟩, -, -, -, -, hK, hW, -⟩ := h'
  have fin : ∀ τ υ : zc_N, off [6, 7] σ τ → off [34] τ υ → Inv P A υ := fun τ υ o1 o2 => by
    have o : off [6, 7, 34] σ υ := off_tr (off_sub o1 (by simp)) (off_sub o2 (by simp))
    exact Inv_sub h o (by decide) (by rw [o 10 (by decide)]) (fun k _ => by rw [o 32 (by decide)]) (iK_11 hK (o 11 (by decide)))
  by_cases c0 : a1 = 0
  · subst c0
    obtain ⟨d1, d2, d3⟩ := dark_pc hW g1
    have s8 : sX8_pieces σ 0 = sX1_darkPieces σ := if_pos rfl
    have r8' : rX8_pieces σ 0 = rX1_darkPieces σ := if_pos rfl
    have gm : gM D (sX1_darkPieces σ) := fun k hk => by rw [d3 33 (by decide)]; exact g2 k hk
    obtain ⟨m1, m2, m3, m4⟩ := pieces_m gm true
    rw [s8, r8']
    refine ⟨⟨fun _ => d1, fun z => absurd z (by decide), fun z => absurd rfl z⟩, m1, d2.trans m2.symm, fin _ _ d3 m4⟩
  · by_cases c1 : a1 = 1
    · subst c1
      obtain ⟨d1, d2, d3⟩ := holes_pc hW g1
      have s8 : sX8_pieces σ 1 = sX1_holes σ := (if_neg c0).trans (if_pos rfl)
      have r8' : rX8_pieces σ 1 = rX1_holes σ := (if_neg c0).trans (if_pos rfl)
      have gm : gM D (sX1_holes σ) := fun k hk => by rw [d3 33 (by decide)]; exact g2 k hk
      obtain ⟨m1, m2, m3, m4⟩ := pieces_m gm false
      rw [s8, r8']
      refine ⟨⟨fun z => absurd z c0, fun _ => d1, fun _ z => absurd rfl z⟩, m1, d2.trans m2.symm, fin _ _ d3 m4⟩
    · have s8 : sX8_pieces σ a1 = σ := (if_neg c0).trans (if_neg c1)
      have r8' : rX8_pieces σ a1 = -1 := (if_neg c0).trans (if_neg c1)
      have hw : rX9_within a1 (0 : Int32) (1 : Int32) = 0 := by
        rcases win a1 1 (by decide) with ⟨e1, e2⟩ | ⟨j, hj, e, -, -⟩
        · exact e2
        · have : j = 0 ∨ j = 1 := by omega
          rcases this with q | q
          · rw [q] at e; exact absurd e c0
          · rw [q] at e; exact absurd e c1
      have s9 : sX9_pieces σ a1 = σ := if_pos hw
      have r9 : rX9_pieces σ a1 = -1 := if_pos hw
      rw [s8, r8', s9, r9]
      exact ⟨⟨fun z => absurd z c0, fun z => absurd z c1, fun _ _ => trivial⟩, ⟨fun _ => trivial, fun z => absurd hw z⟩, rfl, h⟩
