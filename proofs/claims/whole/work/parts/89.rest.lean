/-! ===== pieces: the class takes the rest of a piece ===== -/
def tQ (C : Nat → Prop) (l : Bool) (k : Nat) (Fs : Nat → Bool) (e : Nat) (F : Nat → Bool) (σ τ : zc_N) : Prop := gL F τ ∧ (∀ i, i < e → ∃ c, c < 324 ∧ τ 7 i = nI c ∧ conn C (nbr 18 l) k c ∧ F c = false) ∧ (∀ c, c < 324 → Fs c = true → F c = false → ∃ i, i < e ∧ τ 7 i = nI c) ∧ (∀ c, F c = true → Fs c = true ∧ c ≠ k) ∧ e + cnt F 324 ≤ 324 ∧ off [6, 7] σ τ
theorem rem18 {k : Nat} (h : k < 324) : nI k - nI k / (18 : Int32) * (18 : Int32) = nI (k % 18) := by rw [show (18 : Int32) = nI 18 from rfl]; exact pk_rem (by omega) (by decide) (by decide)
theorem div18 {k : Nat} (h : k < 324) : nI k / (18 : Int32) = nI (k / 18) := by rw [show (18 : Int32) = nI 18 from rfl]; exact pk_div (by omega) (by decide) (by decide)
theorem cnt_all0 {F : Nat → Bool} {n : Nat} (h : cnt F n = 0) : ∀ c, c < n → F c = false := fun c hc => by
  cases q : F c
  · rfl
  · have := cnt_clear F c n hc q
    omega
theorem tr_step {C : Nat → Prop} {l : Bool} {k e h c w : Nat} {Fs F : Nat → Bool} {σ τ : zc_N} (hW : iW σ) (hFs : ∀ c, c < 324 → Fs c = true → C c) (hq : tQ C l k Fs e F σ τ) (hh : h < e) (hc : c < 324) (eh : τ 7 h = nI c) (hcn : conn C (nbr 18 l) k c) (hw : w < 8) (hl : l = true ∨ w < 4) :
    qX1_takeRest_38 (nI h) w (nI e, τ) ∧ ∃ e' F' τ', fX1_takeRest_38 (nI h) w (nI e, τ) = (nI e', τ') ∧ tQ C l k Fs e' F' σ τ' ∧ e ≤ e' ∧ (∀ i, i < e → τ' 7 i = τ 7 i) ∧ (∀ y, F' y = true → F y = true) ∧ (∀ y, y < 324 → ((y % 18 : Nat) : Int) = ((c % 18 : Nat) : Int) + uX w → ((y / 18 : Nat) : Int) = ((c / 18 : Nat) : Int) + uY w → F' y = false) := by
  obtain ⟨q1, q2, q3, q4, q5, q6⟩ := hq
  have hb := uXY w hw
  have eX : vX1_takeRest_1 (nI h) (nI w) τ = zI (((c % 18 : Nat) : Int) + uX w) := by
    unfold vX1_takeRest_1
    rw [nI_clamp (n := h) (by omega), nI_clamp (n := w) (by omega), eh, rem18 hc, q6 1 (by decide), hW.1 w hw, uX_z w hw, nz (by omega), zI_add]
  have eY : ((τ 7 (nI h).toNatClampNeg) / (18 : Int32)) + (τ 2 (nI w).toNatClampNeg) = zI (((c / 18 : Nat) : Int) + uY w) := by
    rw [nI_clamp (n := h) (by omega), nI_clamp (n := w) (by omega), eh, div18 hc, q6 2 (by decide), hW.2 w hw, uY_z w hw, nz (by omega), zI_add]
  have e2 : vX1_takeRest_2 (nI h) (nI w) τ = sX1_takes τ (zI (((c % 18 : Nat) : Int) + uX w)) (zI (((c / 18 : Nat) : Int) + uY w)) := by
    unfold vX1_takeRest_2
    rw [eX, eY]
  obtain ⟨-, t2, t3⟩ := takes_c q1 (X := ((c % 18 : Nat) : Int) + uX w) (Y := ((c / 18 : Nat) : Int) + uY w) (by omega) (by omega)
  unfold qX1_takeRest_38 fX1_takeRest_38
  dsimp only
  rw [eX, eY, e2]
  have v1 : vp_in (nI h) 324 := vp_in_nI (by omega) (by decide)
  have v2 : vp_in (nI w) 8 := vp_in_nI hw (by decide)
  by_cases g : e = 324
  · have g2 : (324 : Int32) ≤ nI e := by rw [g]; decide
    simp only [if_pos g2]
    have hF : ∀ c, c < 324 → F c = false := cnt_all0 (by omega)
    exact ⟨⟨v1, v2, v1, v2, fun _ => trivial, fun z => absurd g2 z⟩, e, F, τ, rfl, ⟨q1, q2, q3, q4, q5, q6⟩, Nat.le_refl _, fun _ _ => rfl, fun _ z => z, fun y hy _ _ => hF y hy⟩
  · have g2 : ¬ (324 : Int32) ≤ nI e := nI_ge (show e < 324 by omega) (by decide)
    simp only [if_neg g2]
    refine ⟨⟨v1, v2, v1, v2, fun _ => trivial, fun _ => ⟨fun _ => trivial, fun _ => vp_in_nI (by omega) (by decide)⟩⟩, ?_⟩
    generalize sX1_takes τ (zI (((c % 18 : Nat) : Int) + uX w)) (zI (((c / 18 : Nat) : Int) + uY w)) = υ at t2 t3 ⊢
    have e7 : υ 7 = τ 7 := t2 7 (by decide)
    rcases t3 with ⟨t3, t4, t5⟩ | ⟨⟨tx, ty, tf⟩, t4, t5⟩
    · simp only [if_pos t4]
      refine ⟨e, F, υ, rfl, ⟨t5, by rw [e7]; exact q2, by rw [e7]; exact q3, q4, q5, off_tr q6 (off_sub t2 (by simp))⟩, Nat.le_refl _, fun i _ => by rw [e7], fun _ z => z, fun y hy y1 y2 => ?_⟩
      cases qf : F y
      · rfl
      · refine absurd ⟨by omega, by omega, ?_⟩ t3
        have : (18 * (((c / 18 : Nat) : Int) + uY w) + (((c % 18 : Nat) : Int) + uX w)).toNat = y := by omega
        rw [this]; exact qf
    · have n4 : ¬ rX1_takes τ (zI (((c % 18 : Nat) : Int) + uX w)) (zI (((c / 18 : Nat) : Int) + uY w)) = 0 := by rw [t4]; decide
      simp only [if_neg n4]
      have en : (zI (((c / 18 : Nat) : Int) + uY w) * (18 : Int32)) + zI (((c % 18 : Nat) : Int) + uX w) = nI (18 * (((c / 18 : Nat) : Int) + uY w) + (((c % 18 : Nat) : Int) + uX w)).toNat := by
        rw [show (18 : Int32) = zI 18 from rfl, zI_mul, zI_add, nz (by omega)]
        congr 1
        omega
      have hr : nbr 18 l c (18 * (((c / 18 : Nat) : Int) + uY w) + (((c % 18 : Nat) : Int) + uX w)).toNat := by
        have hr : l = true ∨ (uX w = 0 ∨ uY w = 0) := hl.imp id (fun z => hb.2.2.2.2 z)
        generalize uX w = dx at *
        generalize uY w = dy at *
        have em : (18 * (((c / 18 : Nat) : Int) + dy) + (((c % 18 : Nat) : Int) + dx)).toNat % 18 = (((c % 18 : Nat) : Int) + dx).toNat := by omega
        have ed : (18 * (((c / 18 : Nat) : Int) + dy) + (((c % 18 : Nat) : Int) + dx)).toNat / 18 = (((c / 18 : Nat) : Int) + dy).toNat := by omega
        unfold nbr
        rw [em, ed]
        refine ⟨by omega, by omega, by omega, by omega, hr.imp id (fun z => z.imp (fun z => by omega) (fun z => by omega))⟩
      have hlt : (18 * (((c / 18 : Nat) : Int) + uY w) + (((c % 18 : Nat) : Int) + uX w)).toNat < 324 := by omega
      have huq : ∀ y, y < 324 → ((y % 18 : Nat) : Int) = ((c % 18 : Nat) : Int) + uX w → ((y / 18 : Nat) : Int) = ((c / 18 : Nat) : Int) + uY w → y = (18 * (((c / 18 : Nat) : Int) + uY w) + (((c % 18 : Nat) : Int) + uX w)).toNat := fun y _ y1 y2 => by omega
      rw [en, e7, nI_clamp (n := e) (by omega), nI_1]
      generalize (18 * (((c / 18 : Nat) : Int) + uY w) + (((c % 18 : Nat) : Int) + uX w)).toNat = c' at *
      have hcc := cnt_clear F c' 324 hlt tf
      have hcut : ∀ y, cut F c' y = true → F y = true := fun y z => by
        unfold cut at z
        exact (Bool.and_eq_true _ _ ▸ z).1
      have hcs : cut F c' c' = false := by unfold cut; simp
      refine ⟨e + 1, cut F c', _, rfl, ⟨fun y hy => ?_, fun i hi => ?_, fun d hd d1 d2 => ?_, fun y z => q4 y (hcut y z), ?_, off_zu (off_tr q6 (off_sub t2 (by simp))) (by simp) _⟩, Nat.le_succ _, fun i hi => ?_, hcut, fun y hy y1 y2 => ?_⟩
      · rw [zu_ne _ _ (show (6 : Nat) ≠ 7 by decide)]
        exact t5 y hy
      · rw [zu_self]
        by_cases ei : i = e
        · rw [ei, zu_self]
          exact ⟨c', hlt, rfl, conn_st hcn (hFs c' hlt (q4 c' tf).1) hr, hcs⟩
        · rw [zu_ne _ _ ei]
          obtain ⟨d, d1, d2, d3, d4⟩ := q2 i (by omega)
          refine ⟨d, d1, d2, d3, ?_⟩
          unfold cut
          rw [d4]; rfl
      · rw [zu_self]
        by_cases ed : d = c'
        · exact ⟨e, Nat.lt_succ_self e, by rw [zu_self, ed]⟩
        · have : F d = false := by
            unfold cut at d2
            rw [decide_eq_false ed] at d2
            simpa using d2
          obtain ⟨i, i1, i2⟩ := q3 d hd d1 this
          exact ⟨i, by omega, by rw [zu_ne _ _ (Nat.ne_of_lt i1)]; exact i2⟩
      · unfold cut
        omega
      · rw [zu_self, zu_ne _ _ (Nat.ne_of_lt hi)]
      · rw [huq y hy y1 y2]; exact hcs
theorem tr_ways {C : Nat → Prop} {l : Bool} {k e h c W : Nat} {Fs F : Nat → Bool} {σ τ : zc_N} (hW : iW σ) (hFs : ∀ c, c < 324 → Fs c = true → C c) (hq : tQ C l k Fs e F σ τ) (hh : h < e) (hc : c < 324) (eh : τ 7 h = nI c) (hcn : conn C (nbr 18 l) k c) (hw : W ≤ 8) (hl : l = true ∨ W ≤ 4) : ∀ w, w ≤ W →
    ∃ e' F' τ', zfor (fX1_takeRest_38 (nI h)) w (nI e, τ) = (nI e', τ') ∧ tQ C l k Fs e' F' σ τ' ∧ e ≤ e' ∧ (∀ i, i < e → τ' 7 i = τ 7 i) ∧ (∀ y, F' y = true → F y = true) ∧ (∀ v, v < w → ∀ y, y < 324 → ((y % 18 : Nat) : Int) = ((c % 18 : Nat) : Int) + uX v → ((y / 18 : Nat) : Int) = ((c / 18 : Nat) : Int) + uY v → F' y = false)
  | 0, _ => ⟨e, F, τ, rfl, hq, Nat.le_refl _, fun _ _ => rfl, fun _ z => z, fun v hv => absurd hv (Nat.not_lt_zero v)⟩
  | w + 1, hw2 => by
    obtain ⟨e1, F1, τ1, a1, a2, a3, a4, a5, a6⟩ := tr_ways hW hFs hq hh hc eh hcn hw hl w (by omega)
    obtain ⟨e2, F2, τ2, b1, b2', b3, b4, b5, b6⟩ := (tr_step (w := w) hW hFs a2 (Nat.lt_of_lt_of_le hh a3) hc ((a4 h hh).trans eh) hcn (by omega) (hl.imp id (fun z => by omega))).2
    refine ⟨e2, F2, τ2, ?_, b2', Nat.le_trans a3 b3, fun i hi => (b4 i (by omega)).trans (a4 i hi), fun y z => a5 y (b5 y z), fun v hv y hy y1 y2 => ?_⟩
    · show fX1_takeRest_38 (nI h) w (zfor (fX1_takeRest_38 (nI h)) w (nI e, τ)) = _
      rw [a1, b1]
    · by_cases ev : v = w
      · rw [ev] at y1 y2
        exact b6 y hy y1 y2
      · have := a6 v (by omega) y hy y1 y2
        cases q : F2 y
        · rfl
        · rw [b5 y q] at this
          cases this
def Wn (l : Bool) : Nat := if l then 8 else 4
/-- after n heads -/
def oQ (C : Nat → Prop) (l : Bool) (k : Nat) (Fs : Nat → Bool) (n e : Nat) (F : Nat → Bool) (σ τ : zc_N) : Prop := tQ C l k Fs e F σ τ ∧ n ≤ e ∧ ∀ i, i < n → ∀ c, c < 324 → τ 7 i = nI c → ∀ y, C y → nbr 18 l c y → F y = false
theorem tr_head {C : Nat → Prop} {l : Bool} {k e n : Nat} {Fs F : Nat → Bool} {σ τ : zc_N} (hW : iW σ) (hC : ∀ c, C c → c < 324) (hFs : ∀ c, c < 324 → Fs c = true → C c) (hq : oQ C l k Fs n e F σ τ) (hn : n < e) :
    qX1_takeRest_18 (nI (Wn l)) (nI e, nI n, τ) ∧ ∃ e' F' τ', fX1_takeRest_18 (nI (Wn l)) (nI e, nI n, τ) = (nI e', nI (n + 1), τ') ∧ oQ C l k Fs (n + 1) e' F' σ τ' := by
  obtain ⟨q0, q1, q2⟩ := hq
  obtain ⟨c, hc, eh, hcn, hcf⟩ := q0.2.1 n hn
  have hw : Wn l ≤ 8 := by cases l <;> decide
  have hl : l = true ∨ Wn l ≤ 4 := by cases l <;> decide
  have ecl : (nI (Wn l)).toNatClampNeg = Wn l := nI_clamp (by omega)
  have key := tr_ways (W := Wn l) hW hFs q0 hn hc eh hcn hw hl
  unfold qX1_takeRest_18 fX1_takeRest_18
  dsimp only
  rw [ecl]
  constructor
  · refine ⟨fun _ => trivial, fun _ => ⟨fun _ => trivial, fun _ => ⟨fun i hi => ⟨fun z => ?_, fun z => nI_le z (by omega)⟩, fun i hi => ?_⟩⟩⟩
    · apply Classical.byContradiction
      intro hz
      exact nI_ge (show i < Wn l by omega) (by omega) z
    · obtain ⟨e1, F1, τ1, a1, a2, a3, a4, a5, a6⟩ := key i (by omega)
      rw [a1]
      exact (tr_step (w := i) hW hFs a2 (Nat.lt_of_lt_of_le hn a3) hc ((a4 n hn).trans eh) hcn (by omega) (hl.imp id (fun z => by omega))).1
  · obtain ⟨e1, F1, τ1, a1, a2, a3, a4, a5, a6⟩ := key (Wn l) (Nat.le_refl _)
    rw [a1, nI_1]
    refine ⟨e1, F1, τ1, rfl, a2, by omega, fun i hi d hd ed y hy hr => ?_⟩
    have mono : F y = false → F1 y = false := fun z => by
      cases q : F1 y
      · rfl
      · rw [a5 y q] at z; cases z
    by_cases ei : i = n
    · rw [ei, a4 n hn, eh] at ed
      have edc : c = d := (nI_eq (by omega) (by omega)).mp ed
      rw [← edc] at hr
      have hy2 := hC y hy
      by_cases eyc : y = c
      · rw [eyc]; rw [eyc] at mono; exact mono hcf
      · obtain ⟨n1, n2, n3, n4, n5⟩ := hr
        obtain ⟨w, w1, w2, w3, w4⟩ := uway (dx := ((y % 18 : Nat) : Int) - ((c % 18 : Nat) : Int)) (dy := ((y / 18 : Nat) : Int) - ((c / 18 : Nat) : Int)) (by omega) (by omega) (by omega) (by omega) (by omega)
        refine a6 w ?_ y hy2 (by omega) (by omega)
        rcases n5 with n5 | n5 | n5
        · rw [n5]; exact w1
        · have := w4 (Or.inl (by omega))
          have : 4 ≤ Wn l := by cases l <;> decide
          omega
        · have := w4 (Or.inr (by omega))
          have : 4 ≤ Wn l := by cases l <;> decide
          omega
    · have hin : i < n := by omega
      rw [a4 i (by omega)] at ed
      exact mono (q2 i hin d hd ed y hy hr)
theorem eTR (a : Int32 × Int32 × zc_N) : eX1_takeRest_18 a ↔ (a.1 ≤ a.2.1 ∨ (324 : Int32) ≤ a.2.1) := by
  unfold eX1_takeRest_18
  constructor
  · rintro (h | ⟨_, (h | h)⟩)
    · exact Or.inl h.1
    · exact Or.inr h.1
    · exact h.2.elim
  · intro h
    by_cases c : a.1 ≤ a.2.1
    · exact Or.inl ⟨c, trivial⟩
    · rcases h with h | h
      · exact absurd h c
      · exact Or.inr ⟨c, Or.inl ⟨h, trivial⟩⟩
theorem takeRest_c {C : Nat → Prop} {l : Bool} {k : Nat} {Fs : Nat → Bool} {σ : zc_N} (hW : iW σ) (hC : ∀ c, C c → c < 324) (hFs : ∀ c, c < 324 → Fs c = true → C c) (hk : k < 324) (hFk : Fs k = true) (hg : gL (cut Fs k) σ) (hcl : ∀ x y, C x → Fs x = false → C y → nbr 18 l x y → Fs y = false) :
    pX1_takeRest σ (nI (k % 18)) (nI (k / 18)) (nI (Wn l)) ∧ ∃ F, gL F (sX1_takeRest σ (nI (k % 18)) (nI (k / 18)) (nI (Wn l))) ∧ off [6, 7] σ (sX1_takeRest σ (nI (k % 18)) (nI (k / 18)) (nI (Wn l))) ∧ (∀ c, F c = true → Fs c = true) ∧ ∀ c, C c → (F c = false ↔ (Fs c = false ∨ conn C (nbr 18 l) k c)) := by
  have ek : (nI (k / 18) * (18 : Int32)) + nI (k % 18) = nI k := by
    rw [show (18 : Int32) = nI 18 from rfl, pk_mul, nI_add]
    congr 1
    omega
  have hcut : ∀ y, cut Fs k y = true → Fs y = true ∧ y ≠ k := fun y z => by
    unfold cut at z
    refine ⟨(Bool.and_eq_true _ _ ▸ z).1, fun ey => ?_⟩
    rw [decide_eq_true ey] at z
    simp at z
  have hcs : cut Fs k k = false := by unfold cut; simp
  have Q0 : oQ C l k Fs 0 1 (cut Fs k) σ (zu σ 7 (zu (σ 7) 0 (nI k))) := by
    refine ⟨⟨fun y hy => ?_, fun i hi => ?_, fun c hc c1 c2 => ?_, hcut, ?_, off_zu (off_rf _ _) (by simp) _⟩, by omega, fun i hi => absurd hi (Nat.not_lt_zero i)⟩
    · rw [zu_ne _ _ (show (6 : Nat) ≠ 7 by decide)]
      exact hg y hy
    · have : i = 0 := by omega
      rw [this, zu_self, zu_self]
      exact ⟨k, hk, rfl, conn_rf k, hcs⟩
    · by_cases ec : c = k
      · exact ⟨0, by decide, by rw [zu_self, zu_self, ec]⟩
      · unfold cut at c2
        rw [c1, decide_eq_false ec] at c2
        cases c2
    · have h1 := cnt_clear Fs k 324 hk hFk
      have h2 := cnt_le Fs 324
      unfold cut
      omega
  have z0 : (0 : Int32).toNatClampNeg = 0 := by decide
  unfold pX1_takeRest sX1_takeRest vX1_takeRest_3 vX1_takeRest_4 vX1_takeRest_5 wX1_takeRest_18
  rw [ek, z0]
  generalize zu σ 7 (zu (σ 7) 0 (nI k)) = σ1 at Q0 ⊢
  have run : ∀ n, (∀ j, j < n → ¬ eX1_takeRest_18 (zit (fX1_takeRest_18 (nI (Wn l))) j ((1 : Int32), (0 : Int32), σ1))) → ∃ e F τ, zit (fX1_takeRest_18 (nI (Wn l))) n ((1 : Int32), (0 : Int32), σ1) = (nI e, nI n, τ) ∧ oQ C l k Fs n e F σ τ := by
    intro n
    induction n with
    | zero => intro _; exact ⟨1, _, σ1, rfl, Q0⟩
    | succ n ih =>
      intro hno
      obtain ⟨e, F, τ, e1, e2⟩ := ih (fun j hj => hno j (by omega))
      have hn := hno n (Nat.lt_succ_self n)
      rw [e1, eTR] at hn
      have hle : n < e := by
        apply Classical.byContradiction
        intro z
        have := e2.1.2.2.2.2.1
        exact hn (Or.inl (nI_le (by omega) (by have := e2.2.1; omega)))
      obtain ⟨e', F', τ', f1, f2⟩ := (tr_head hW hC hFs e2 hle).2
      refine ⟨e', F', τ', ?_, f2⟩
      show fX1_takeRest_18 (nI (Wn l)) (zit (fX1_takeRest_18 (nI (Wn l))) n ((1 : Int32), (0 : Int32), σ1)) = _
      rw [e1, f1]
  have hE : ∃ n, eX1_takeRest_18 (zit (fX1_takeRest_18 (nI (Wn l))) n ((1 : Int32), (0 : Int32), σ1)) := by
    apply Classical.byContradiction
    intro hno
    obtain ⟨e, F, τ, e1, e2⟩ := run 324 (fun j _ z => hno ⟨j, z⟩)
    exact hno ⟨324, by rw [e1]; exact (eTR _).mpr (Or.inr (by show (324 : Int32) ≤ nI 324; decide))⟩
  obtain ⟨w1, w2⟩ := zwn_spec hE
  generalize zwn (fun n_ => eX1_takeRest_18 (zit (fX1_takeRest_18 (nI (Wn l))) n_ ((1 : Int32), (0 : Int32), σ1))) = N at w1 w2 ⊢
  obtain ⟨e, F, τ, e1, e2⟩ := run N w2
  have b1 := e2.1.2.2.2.2.1
  have b2' := e2.2.1
  have hNe : N = e := by
    rw [e1] at w1
    rcases (eTR _).mp w1 with z | z
    · have z2 : nI e ≤ nI N := z
      apply Classical.byContradiction
      intro q
      exact nI_ge (show N < e by omega) (by omega) z2
    · have z2 : nI 324 ≤ nI N := z
      apply Classical.byContradiction
      intro q
      exact nI_ge (show N < 324 by omega) (by omega) z2
  have hfin : nI e ≤ nI N := nI_le (by omega) (by omega)
  refine ⟨⟨⟨hE, fun i hi => ?_⟩, fun _ => trivial, fun z => ?_⟩, F, ?_⟩
  · obtain ⟨e', F', τ', f1, f2⟩ := run i (fun j hj => w2 j (by omega))
    have hn := w2 i hi
    rw [f1, eTR] at hn
    rw [f1]
    have hle : i < e' := by
      apply Classical.byContradiction
      intro z
      have := f2.1.2.2.2.2.1
      exact hn (Or.inl (nI_le (by omega) (by have := f2.2.1; omega)))
    exact (tr_head hW hC hFs f2 hle).1
  · rw [e1] at z
    exact absurd hfin z
  · rw [e1]
    refine ⟨e2.1.1, e2.1.2.2.2.2.2, fun c z => (e2.1.2.2.2.1 c z).1, fun c hc => ?_⟩
    have hf := fills (C := C) (R := nbr 18 l) (S := fun c => C c ∧ Fs c = false) (S' := fun c => C c ∧ F c = false) (k := k) (fun c q => ⟨q.1, by
      cases qf : F c
      · rfl
      · have := (e2.1.2.2.2.1 c qf).1
        rw [q.2] at this
        cases this⟩) ⟨hFs k hk hFk, by
      cases qf : F k
      · rfl
      · exact absurd rfl (e2.1.2.2.2.1 k qf).2⟩ (fun c q => by
      by_cases z : Fs c = false
      · exact Or.inl ⟨q.1, z⟩
      · have z2 : Fs c = true := by cases qz : Fs c; exact absurd qz z; rfl
        obtain ⟨i, i1, i2⟩ := e2.1.2.2.1 c (hC c q.1) z2 q.2
        obtain ⟨d, d1, d2, d3, d4⟩ := e2.1.2.1 i i1
        have : c = d := (nI_eq (by have := hC c q.1; omega) (by omega)).mp (i2.symm.trans d2)
        rw [this]; exact Or.inr d3) (fun x y hx hy hr => ⟨hy, by
      by_cases z : Fs x = false
      · have z3 := hcl x y hx.1 z hy hr
        cases qf : F y
        · rfl
        · rw [(e2.1.2.2.2.1 y qf).1] at z3; cases z3
      · have z2 : Fs x = true := by cases qz : Fs x; exact absurd qz z; rfl
        obtain ⟨i, i1, i2⟩ := e2.1.2.2.1 x (hC x hx.1) z2 hx.2
        exact e2.2.2 i (by omega) x (hC x hx.1) i2 y hy hr⟩) c
    constructor
    · intro z
      exact (hf.mp ⟨hc, z⟩).imp (fun q => q.2) id
    · intro z
      exact (hf.mpr (z.imp (fun q => ⟨hc, q⟩) id)).2
