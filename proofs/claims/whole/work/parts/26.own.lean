/-! ===== printed by wip/whole/p26.py: the class's own methods ===== -/
section ZNULL
variable {G : zc_G} {mi : zc_M} {d mc ms : Nat} {Q : Option Value → zc_H → Prop} {pc : Nat} {lv : List (Option Value)} {st : List Value} {h : zc_H} {ka na : Nat}
theorem z_ifnullc {c : Prop} (dc : Decidable c) {x : Nat} {off : Int} {tgt : Nat} (hd : decode mi.2.1 pc = .ok (.ifnull off, 3)) (ht : (pc : Int) + off = (tgt : Int)) (kt : c → zz G mi d mc ms Q tgt lv st h ka na) (kf : ¬ c → zz G mi d mc ms Q (pc + 3) lv st h ka na) : zz G mi d mc ms Q pc lv (va_rf (if c then none else some x) :: st) h ka na :=
  z_ifnull hd ht (fun e => kt (by by_cases hc : c; exact hc; rw [if_neg hc] at e; cases e)) (fun e => kf (fun hc => e (if_pos hc)))
theorem z_ifnonnullc {c : Prop} (dc : Decidable c) {x : Nat} {off : Int} {tgt : Nat} (hd : decode mi.2.1 pc = .ok (.ifnonnull off, 3)) (ht : (pc : Int) + off = (tgt : Int)) (kt : ¬ c → zz G mi d mc ms Q tgt lv st h ka na) (kf : c → zz G mi d mc ms Q (pc + 3) lv st h ka na) : zz G mi d mc ms Q pc lv (va_rf (if c then none else some x) :: st) h ka na :=
  z_ifnonnull hd ht (fun e => kt (fun hc => e (if_pos hc))) (fun e => kf (by by_cases hc : c; exact hc; rw [if_neg hc] at e; cases e))
end ZNULL

theorem dX8_printAt_0 : decode cX8_printAt 0 = .ok (.iload_n 1, 1) := by decide +kernel
theorem dX8_printAt_1 : decode cX8_printAt 1 = .ok (.iconst 0, 1) := by decide +kernel
theorem dX8_printAt_2 : decode cX8_printAt 2 = .ok (.aload_n 0, 1) := by decide +kernel
theorem dX8_printAt_3 : decode cX8_printAt 3 = .ok (.getfield 26, 3) := by decide +kernel
theorem dX8_printAt_6 : decode cX8_printAt 6 = .ok (.iconst 1, 1) := by decide +kernel
theorem dX8_printAt_7 : decode cX8_printAt 7 = .ok (.isub, 1) := by decide +kernel
theorem dX8_printAt_8 : decode cX8_printAt 8 = .ok (.invokestatic 67, 3) := by decide +kernel
theorem dX8_printAt_11 : decode cX8_printAt 11 = .ok (.ifCond .eq 12, 3) := by decide +kernel
theorem dX8_printAt_14 : decode cX8_printAt 14 = .ok (.aload_n 0, 1) := by decide +kernel
theorem dX8_printAt_15 : decode cX8_printAt 15 = .ok (.getfield 22, 3) := by decide +kernel
theorem dX8_printAt_18 : decode cX8_printAt 18 = .ok (.iload_n 1, 1) := by decide +kernel
theorem dX8_printAt_19 : decode cX8_printAt 19 = .ok (.aaload, 1) := by decide +kernel
theorem dX8_printAt_20 : decode cX8_printAt 20 = .ok (.goto 4, 3) := by decide +kernel
theorem dX8_printAt_23 : decode cX8_printAt 23 = .ok (.aconst_null, 1) := by decide +kernel
theorem dX8_printAt_24 : decode cX8_printAt 24 = .ok (.areturn, 1) := by decide +kernel
def pX8_printAt (P : zp) (σ : zc_N) (a1 : Int32) : Prop := (((rX8_isWithin a1 (0 : Int32) (((σ 3) 3) - (1 : Int32))) = (0 : Int32) → True) ∧ (¬ (rX8_isWithin a1 (0 : Int32) (((σ 3) 3) - (1 : Int32))) = (0 : Int32) → (vp_in a1 24 ∧ a1.toNatClampNeg < P.2.1)))
set_option maxHeartbeats 1000000 in
theorem ctX8_printAt (P : zp) (σ : zc_N) (a1 : Int32) (W_ : (pX8_printAt P σ a1)) : sp mX8_printAt 1 0 0 [.ref 3, .int a1] (hh P σ) (fun r_ h_ => r_ = some (va_rf (if (rX8_isWithin a1 (0 : Int32) (((σ 3) 3) - (1 : Int32))) = (0 : Int32) then none else some (pO a1.toNatClampNeg))) ∧ h_ = hh P σ) := by
  refine sp_of (lv := [some (.ref 3), some (.int a1)]) (by decide) (zcats_ok _ rfl) (Nat.le_of_ble_eq_true rfl) (zlv_ok _ 0 rfl) (fun G => ?_)
  generalize hQ_ : (fun (r_ : Option Value) (h_ : zc_H) => r_ = some (va_rf (if (rX8_isWithin a1 (0 : Int32) (((σ 3) 3) - (1 : Int32))) = (0 : Int32) then none else some (pO a1.toNatClampNeg))) ∧ h_ = hh P σ) = Q_
  unfold pX8_printAt at W_
  refine z_iload_n dX8_printAt_0 rfl ?_
  refine z_iconst dX8_printAt_1 k_iconst_0 ?_
  refine z_aloadr_n dX8_printAt_2 rfl ?_
  refine z_get (ci := 8) (r := (RX8, TX8, 12)) (j := 3) (v := .int ((σ 3) 3)) dX8_printAt_3 (Nat.le_of_ble_eq_true rfl) (zN rfl) rfl rfl (Nat.le_of_ble_eq_true rfl) fl_X8_26 rfl ?_
  refine z_iconst dX8_printAt_6 k_iconst_1 ?_
  refine z_isub (v := (((σ 3) 3) - (1 : Int32))) dX8_printAt_7 rfl ?_
  refine z_callS (As := [.int a1, .int (0 : Int32), .int (((σ 3) 3) - (1 : Int32))]) (rest := []) (ctX8_isWithin P σ a1 (0 : Int32) (((σ 3) 3) - (1 : Int32))) dX8_printAt_8 lk_X8_67 ls_X8_isWithin rfl (Nat.le_of_ble_eq_true rfl) (Nat.le_of_ble_eq_true rfl) (Nat.le_of_ble_eq_true rfl) (Nat.le_of_ble_eq_true rfl) (fun r_ h_ e_ => ?_)
  obtain ⟨e1_, e2_⟩ := e_
  subst e1_
  subst e2_
  show zz G mX8_printAt 1 0 0 Q_ 11 [some (.ref 3), some (.int a1)] [.int (rX8_isWithin a1 (0 : Int32) (((σ 3) 3) - (1 : Int32)))] (hh P σ) 0 0
  have K_1 : zz G mX8_printAt 1 0 0 Q_ 24 [none, none] [va_rf (if (rX8_isWithin a1 (0 : Int32) (((σ 3) 3) - (1 : Int32))) = (0 : Int32) then none else some (pO a1.toNatClampNeg))] (hh P σ) 0 0 := by
    exact z_areturn (q := (if (rX8_isWithin a1 (0 : Int32) (((σ 3) 3) - (1 : Int32))) = (0 : Int32) then none else some (pO a1.toNatClampNeg))) dX8_printAt_24 rfl (Or.inl ⟨_, rfl⟩) (Nat.le_of_ble_eq_true rfl) (Nat.le_of_ble_eq_true rfl) (by rw [← hQ_]; exact ⟨rfl, rfl⟩)
  refine z_if_eq (tgt := 23) dX8_printAt_11 (by decide) (fun c_1 => ?_) (fun c_1 => ?_)
  · refine z_null dX8_printAt_23 ?_
    refine zz_sub (lv' := [none, none]) trivial ?_
    rw [show (if (rX8_isWithin a1 (0 : Int32) (((σ 3) 3) - (1 : Int32))) = (0 : Int32) then none else some (pO a1.toNatClampNeg)) = (none : Option Nat) from (if_pos c_1)] at K_1
    exact K_1
  · refine z_aloadr_n dX8_printAt_14 rfl ?_
    refine z_get (ci := 8) (r := (RX8, TX8, 12)) (j := 2) (v := .ref 9) dX8_printAt_15 (Nat.le_of_ble_eq_true rfl) (zN rfl) rfl rfl (Nat.le_of_ble_eq_true rfl) fl_X8_22 rfl ?_
    refine z_iload_n dX8_printAt_18 rfl ?_
    have hp_2 := (W_.2 c_1).2
    refine z_aald (r := some (pO a1.toNatClampNeg)) dX8_printAt_19 (Nat.le_of_ble_eq_true rfl) (zN rfl) rfl (W_.2 c_1).1 (if_pos (W_.2 c_1).2) ?_
    refine z_goto (tgt := 24) dX8_printAt_20 (by decide) ?_
    refine zz_sub (lv' := [none, none]) trivial ?_
    rw [show (if (rX8_isWithin a1 (0 : Int32) (((σ 3) 3) - (1 : Int32))) = (0 : Int32) then none else some (pO a1.toNatClampNeg)) = some (pO a1.toNatClampNeg) from (if_neg c_1)] at K_1
    exact K_1

theorem dX8_keptBy_4 : decode cX8_keptBy 4 = .ok (.iload_n 3, 1) := by decide +kernel
theorem dX8_keptBy_5 : decode cX8_keptBy 5 = .ok (.aload_n 0, 1) := by decide +kernel
theorem dX8_keptBy_6 : decode cX8_keptBy 6 = .ok (.getfield 26, 3) := by decide +kernel
theorem dX8_keptBy_9 : decode cX8_keptBy 9 = .ok (.if_icmp .ge 25, 3) := by decide +kernel
theorem dX8_keptBy_12 : decode cX8_keptBy 12 = .ok (.aload_n 0, 1) := by decide +kernel
theorem dX8_keptBy_13 : decode cX8_keptBy 13 = .ok (.getfield 22, 3) := by decide +kernel
theorem dX8_keptBy_16 : decode cX8_keptBy 16 = .ok (.iload_n 3, 1) := by decide +kernel
theorem dX8_keptBy_17 : decode cX8_keptBy 17 = .ok (.aaload, 1) := by decide +kernel
theorem dX8_keptBy_18 : decode cX8_keptBy 18 = .ok (.getfield 175, 3) := by decide +kernel
theorem dX8_keptBy_21 : decode cX8_keptBy 21 = .ok (.iload_n 1, 1) := by decide +kernel
theorem dX8_keptBy_22 : decode cX8_keptBy 22 = .ok (.if_icmp .ne 6, 3) := by decide +kernel
theorem dX8_keptBy_25 : decode cX8_keptBy 25 = .ok (.iinc 2 1, 3) := by decide +kernel
theorem dX8_keptBy_28 : decode cX8_keptBy 28 = .ok (.iinc 3 1, 3) := by decide +kernel
theorem dX8_keptBy_31 : decode cX8_keptBy 31 = .ok (.goto (-27), 3) := by decide +kernel
theorem dX8_keptBy_34 : decode cX8_keptBy 34 = .ok (.iload_n 2, 1) := by decide +kernel
noncomputable def fX8_keptBy_4 (σ : zc_N) (l1 : Int32) (i_ : Nat) (a_ : Int32) : Int32 := (if ((σ (pO (nI i_).toNatClampNeg)) 3) = l1 then (a_ + (1 : Int32)) else a_)
def qX8_keptBy_4 (P : zp) (i_ : Nat) (a_ : Int32) : Prop := (vp_in (nI i_) 24 ∧ (nI i_).toNatClampNeg < P.2.1)
set_option maxHeartbeats 2000000 in
theorem lpX8_keptBy_4 {G : zc_G} {Q : Option Value → zc_H → Prop} (P : zp) (σ : zc_N) (l1 : Int32) (l2 : Int32) (n_ : Nat) (hC_ : ∀ i4_ : Nat, i4_ ≤ n_ → (((σ 3) 3) ≤ (nI i4_) ↔ n_ ≤ i4_)) (W1_ : ∀ i4_ : Nat, i4_ < n_ → qX8_keptBy_4 P i4_ (zfor (fX8_keptBy_4 σ l1) i4_ l2))
    (W2_ : zz G mX8_keptBy 0 0 0 Q 34 [none, none, some (.int (zfor (fX8_keptBy_4 σ l1) n_ l2)), none] [] (hh P σ) 0 0) :
    zz G mX8_keptBy 0 0 0 Q 4 [some (.ref 3), some (.int l1), some (.int l2), some (.int (nI 0))] [] (hh P σ) 0 0 := by
  refine zfor_nI (fun i_ a_ => zz G mX8_keptBy 0 0 0 Q 4 [some (.ref 3), some (.int l1), some (.int a_), some (.int i_)] [] (hh P σ) 0 0) (fX8_keptBy_4 σ l1) n_ l2 (fun i_ hi_ k_ => ?_) ?_
  · have W3_ := W1_ i_ hi_
    have hD_ := hC_ i_ (Nat.le_of_lt hi_)
    generalize zfor (fX8_keptBy_4 σ l1) i_ l2 = g_ at k_ W3_ hD_ ⊢
    rw [fX8_keptBy_4] at k_
    rw [qX8_keptBy_4] at W3_
    try dsimp only at W3_
    refine z_iload_n dX8_keptBy_4 rfl ?_
    refine z_aloadr_n dX8_keptBy_5 rfl ?_
    refine z_get (ci := 8) (r := (RX8, TX8, 12)) (j := 3) (v := .int ((σ 3) 3)) dX8_keptBy_6 (Nat.le_of_ble_eq_true rfl) (zN rfl) rfl rfl (Nat.le_of_ble_eq_true rfl) fl_X8_26 rfl ?_
    refine z_icmp_ge (tgt := 34) dX8_keptBy_9 (by decide) (fun c_ => absurd c_ (fun q_ => Nat.not_le_of_lt hi_ (hD_.mp q_))) (fun c_ => ?_)
    refine z_aloadr_n dX8_keptBy_12 rfl ?_
    refine z_get (ci := 8) (r := (RX8, TX8, 12)) (j := 2) (v := .ref 9) dX8_keptBy_13 (Nat.le_of_ble_eq_true rfl) (zN rfl) rfl rfl (Nat.le_of_ble_eq_true rfl) fl_X8_22 rfl ?_
    refine z_iload_n dX8_keptBy_16 rfl ?_
    have hp_2 := W3_.2
    refine z_aald (r := some (pO ((nI i_).toNatClampNeg))) dX8_keptBy_17 (Nat.le_of_ble_eq_true rfl) (zN rfl) rfl W3_.1 (if_pos W3_.2) ?_
    refine z_get (ci := 7) (r := (RX7, TX7, 5)) (j := 3) (v := .int ((σ (pO ((nI i_).toNatClampNeg))) 3)) dX8_keptBy_18 (z3O ((nI i_).toNatClampNeg)) (zNO hp_2) (SH_pO P ((nI i_).toNatClampNeg)) rfl (Nat.le_of_ble_eq_true rfl) fl_X8_175 rfl ?_
    refine z_iload_n dX8_keptBy_21 rfl ?_
    have K_1 : zz G mX8_keptBy 0 0 0 Q 28 [some (.ref 3), some (.int l1), some (.int (if ((σ (pO ((nI i_).toNatClampNeg))) 3) = l1 then (g_ + (1 : Int32)) else g_)), some (.int (nI i_))] [] (hh P σ) 0 0 := by
      refine z_iinc (v := ((nI i_) + (1 : Int32))) (lv' := [some (.ref 3), some (.int l1), some (.int (if ((σ (pO ((nI i_).toNatClampNeg))) 3) = l1 then (g_ + (1 : Int32)) else g_)), some (.int ((nI i_) + (1 : Int32)))]) dX8_keptBy_28 (Nat.le_of_ble_eq_true rfl) rfl (by rw [k_iconst_1]) rfl ?_
      refine z_goto (tgt := 4) dX8_keptBy_31 (by decide) ?_
      rw [nI_1]
      exact k_
    refine z_icmp_ne (tgt := 28) dX8_keptBy_22 (by decide) (fun c_3 => ?_) (fun c_3 => ?_)
    · rw [show (if ((σ (pO ((nI i_).toNatClampNeg))) 3) = l1 then (g_ + (1 : Int32)) else g_) = g_ from (if_neg c_3)] at K_1
      exact K_1
    · refine z_iinc (v := (g_ + (1 : Int32))) (lv' := [some (.ref 3), some (.int l1), some (.int (g_ + (1 : Int32))), some (.int (nI i_))]) dX8_keptBy_25 (Nat.le_of_ble_eq_true rfl) rfl (by rw [k_iconst_1]) rfl ?_
      rw [show (if ((σ (pO ((nI i_).toNatClampNeg))) 3) = l1 then (g_ + (1 : Int32)) else g_) = (g_ + (1 : Int32)) from (if_pos c_3)] at K_1
      exact K_1
  · have hD_ := hC_ n_ (Nat.le_refl _)
    generalize zfor (fX8_keptBy_4 σ l1) n_ l2 = g_ at W2_ hD_ ⊢
    refine z_iload_n dX8_keptBy_4 rfl ?_
    refine z_aloadr_n dX8_keptBy_5 rfl ?_
    refine z_get (ci := 8) (r := (RX8, TX8, 12)) (j := 3) (v := .int ((σ 3) 3)) dX8_keptBy_6 (Nat.le_of_ble_eq_true rfl) (zN rfl) rfl rfl (Nat.le_of_ble_eq_true rfl) fl_X8_26 rfl ?_
    refine z_icmp_ge (tgt := 34) dX8_keptBy_9 (by decide) (fun c_ => ?_) (fun c_ => absurd (hD_.mpr (Nat.le_refl _)) c_)
    exact zz_sub (lv' := [none, none, some (.int g_), none]) ⟨rfl, trivial⟩ W2_

theorem dX8_keptBy_0 : decode cX8_keptBy 0 = .ok (.iconst 0, 1) := by decide +kernel
theorem dX8_keptBy_1 : decode cX8_keptBy 1 = .ok (.istore_n 2, 1) := by decide +kernel
theorem dX8_keptBy_2 : decode cX8_keptBy 2 = .ok (.iconst 0, 1) := by decide +kernel
theorem dX8_keptBy_3 : decode cX8_keptBy 3 = .ok (.istore_n 3, 1) := by decide +kernel
theorem dX8_keptBy_35 : decode cX8_keptBy 35 = .ok (.ireturn, 1) := by decide +kernel
def pX8_keptBy (P : zp) (σ : zc_N) (a1 : Int32) : Prop := ((∀ i4_ : Nat, i4_ ≤ ((((σ 3) 3)).toNatClampNeg) → (((σ 3) 3) ≤ (nI i4_) ↔ ((((σ 3) 3)).toNatClampNeg) ≤ i4_)) ∧ (∀ i4_ : Nat, i4_ < ((((σ 3) 3)).toNatClampNeg) → qX8_keptBy_4 P i4_ (zfor (fX8_keptBy_4 σ a1) i4_ (0 : Int32))))
noncomputable def rX8_keptBy (σ : zc_N) (a1 : Int32) : Int32 := (zfor (fX8_keptBy_4 σ a1) ((((σ 3) 3)).toNatClampNeg) (0 : Int32))
set_option maxHeartbeats 1000000 in
theorem ctX8_keptBy (P : zp) (σ : zc_N) (a1 : Int32) (W_ : (pX8_keptBy P σ a1)) : sp mX8_keptBy 0 0 0 [.ref 3, .int a1] (hh P σ) (fun r_ h_ => r_ = some (.int (rX8_keptBy σ a1)) ∧ h_ = hh P σ) := by
  refine sp_of (lv := [some (.ref 3), some (.int a1), none, none]) (by decide) (zcats_ok _ rfl) (Nat.le_of_ble_eq_true rfl) (zlv_ok _ 2 rfl) (fun G => ?_)
  generalize hQ_ : (fun (r_ : Option Value) (h_ : zc_H) => r_ = some (.int (rX8_keptBy σ a1)) ∧ h_ = hh P σ) = Q_
  unfold pX8_keptBy at W_
  refine z_iconst dX8_keptBy_0 k_iconst_0 ?_
  refine z_istore_n (lv' := [some (.ref 3), some (.int a1), some (.int (0 : Int32)), none]) dX8_keptBy_1 (Nat.le_of_ble_eq_true rfl) rfl ?_
  refine z_iconst dX8_keptBy_2 k_iconst_0 ?_
  refine z_istore_n (lv' := [some (.ref 3), some (.int a1), some (.int (0 : Int32)), some (.int (0 : Int32))]) dX8_keptBy_3 (Nat.le_of_ble_eq_true rfl) rfl ?_
  refine lpX8_keptBy_4 P σ a1 (0 : Int32) ((((σ 3) 3)).toNatClampNeg) W_.1 W_.2 ?_
  show zz G mX8_keptBy 0 0 0 Q_ 34 [none, none, some (.int (zfor (fX8_keptBy_4 σ a1) ((((σ 3) 3)).toNatClampNeg) (0 : Int32))), none] [] (hh P σ) 0 0
  refine z_iload_n dX8_keptBy_34 rfl ?_
  exact z_ireturn dX8_keptBy_35 rfl rfl (Nat.le_of_ble_eq_true rfl) (Nat.le_of_ble_eq_true rfl) (by rw [← hQ_]; exact ⟨(by rw [rX8_keptBy]), rfl⟩)

theorem dX8_hasYear_2 : decode cX8_hasYear 2 = .ok (.iload_n 3, 1) := by decide +kernel
theorem dX8_hasYear_3 : decode cX8_hasYear 3 = .ok (.aload_n 0, 1) := by decide +kernel
theorem dX8_hasYear_4 : decode cX8_hasYear 4 = .ok (.getfield 26, 3) := by decide +kernel
theorem dX8_hasYear_7 : decode cX8_hasYear 7 = .ok (.if_icmp .ge 37, 3) := by decide +kernel
theorem dX8_hasYear_10 : decode cX8_hasYear 10 = .ok (.aload_n 0, 1) := by decide +kernel
theorem dX8_hasYear_11 : decode cX8_hasYear 11 = .ok (.getfield 22, 3) := by decide +kernel
theorem dX8_hasYear_14 : decode cX8_hasYear 14 = .ok (.iload_n 3, 1) := by decide +kernel
theorem dX8_hasYear_15 : decode cX8_hasYear 15 = .ok (.aaload, 1) := by decide +kernel
theorem dX8_hasYear_16 : decode cX8_hasYear 16 = .ok (.getfield 175, 3) := by decide +kernel
theorem dX8_hasYear_19 : decode cX8_hasYear 19 = .ok (.iload_n 1, 1) := by decide +kernel
theorem dX8_hasYear_20 : decode cX8_hasYear 20 = .ok (.if_icmp .ne 18, 3) := by decide +kernel
theorem dX8_hasYear_23 : decode cX8_hasYear 23 = .ok (.aload_n 0, 1) := by decide +kernel
theorem dX8_hasYear_24 : decode cX8_hasYear 24 = .ok (.getfield 22, 3) := by decide +kernel
theorem dX8_hasYear_27 : decode cX8_hasYear 27 = .ok (.iload_n 3, 1) := by decide +kernel
theorem dX8_hasYear_28 : decode cX8_hasYear 28 = .ok (.aaload, 1) := by decide +kernel
theorem dX8_hasYear_29 : decode cX8_hasYear 29 = .ok (.getfield 182, 3) := by decide +kernel
theorem dX8_hasYear_32 : decode cX8_hasYear 32 = .ok (.iload_n 2, 1) := by decide +kernel
theorem dX8_hasYear_33 : decode cX8_hasYear 33 = .ok (.if_icmp .ne 5, 3) := by decide +kernel
theorem dX8_hasYear_36 : decode cX8_hasYear 36 = .ok (.iconst 1, 1) := by decide +kernel
theorem dX8_hasYear_38 : decode cX8_hasYear 38 = .ok (.iinc 3 1, 3) := by decide +kernel
theorem dX8_hasYear_41 : decode cX8_hasYear 41 = .ok (.goto (-39), 3) := by decide +kernel
theorem dX8_hasYear_44 : decode cX8_hasYear 44 = .ok (.iconst 0, 1) := by decide +kernel
noncomputable def fX8_hasYear_2 (a_ : Int32) : Int32 := (a_ + (1 : Int32))
def eX8_hasYear_2 (σ : zc_N) (l1 : Int32) (l2 : Int32) (a_ : Int32) : Prop := ((((σ 3) 3) ≤ a_ ∧ True) ∨ (¬ ((σ 3) 3) ≤ a_ ∧ ((((σ (pO a_.toNatClampNeg)) 3) = l1 ∧ ((((σ (pO a_.toNatClampNeg)) 4) = l2 ∧ True) ∨ (¬ ((σ (pO a_.toNatClampNeg)) 4) = l2 ∧ False))) ∨ (¬ ((σ (pO a_.toNatClampNeg)) 3) = l1 ∧ False))))
def qX8_hasYear_2 (P : zp) (σ : zc_N) (l1 : Int32) (a_ : Int32) : Prop := ((((σ 3) 3) ≤ a_ → True) ∧ (¬ ((σ 3) 3) ≤ a_ → ((vp_in a_ 24 ∧ a_.toNatClampNeg < P.2.1) ∧ ((((σ (pO a_.toNatClampNeg)) 3) = l1 → (vp_in a_ 24 ∧ a_.toNatClampNeg < P.2.1)) ∧ (¬ ((σ (pO a_.toNatClampNeg)) 3) = l1 → True)))))
noncomputable def wX8_hasYear_2 (σ : zc_N) (l1 : Int32) (l2 : Int32) (a_ : Int32) : Int32 := zit fX8_hasYear_2 (zwn (fun n_ => (eX8_hasYear_2 σ l1 l2) (zit fX8_hasYear_2 n_ a_))) a_
set_option maxHeartbeats 2000000 in
theorem whX8_hasYear_2 {G : zc_G} {Q : Option Value → zc_H → Prop} (P : zp) (σ : zc_N) (l1 : Int32) (l2 : Int32) (l3 : Int32)
    (hT_ : ∃ n_ : Nat, (eX8_hasYear_2 σ l1 l2) (zit fX8_hasYear_2 n_ l3)) (W1_ : ∀ i2_ : Nat, i2_ < (zwn (fun n_ => (eX8_hasYear_2 σ l1 l2) (zit fX8_hasYear_2 n_ l3))) → qX8_hasYear_2 P σ l1 (zit fX8_hasYear_2 i2_ l3))
    (W2_ : (eX8_hasYear_2 σ l1 l2) (wX8_hasYear_2 σ l1 l2 l3) → zz G mX8_hasYear 0 0 0 Q 2 [some (.ref 3), some (.int l1), some (.int l2), some (.int (wX8_hasYear_2 σ l1 l2 l3))] [] (hh P σ) 0 0) :
    zz G mX8_hasYear 0 0 0 Q 2 [some (.ref 3), some (.int l1), some (.int l2), some (.int l3)] [] (hh P σ) 0 0 := by
  unfold wX8_hasYear_2 at W2_
  have hs_ := zwn_spec hT_
  refine zit_Z (fun a_ => zz G mX8_hasYear 0 0 0 Q 2 [some (.ref 3), some (.int l1), some (.int l2), some (.int a_)] [] (hh P σ) 0 0) fX8_hasYear_2 (zwn (fun n_ => (eX8_hasYear_2 σ l1 l2) (zit fX8_hasYear_2 n_ l3))) l3 (fun i_ hi_ k_ => ?_) (W2_ hs_.1)
  have hn_ := hs_.2 i_ hi_
  have W3_ := W1_ i_ hi_
  generalize zit fX8_hasYear_2 i_ l3 = g_ at k_ hn_ W3_ ⊢
  rw [fX8_hasYear_2] at k_
  rw [eX8_hasYear_2] at hn_
  try dsimp only at k_ hn_
  rw [qX8_hasYear_2] at W3_
  try dsimp only at W3_
  refine z_iload_n dX8_hasYear_2 rfl ?_
  refine z_aloadr_n dX8_hasYear_3 rfl ?_
  refine z_get (ci := 8) (r := (RX8, TX8, 12)) (j := 3) (v := .int ((σ 3) 3)) dX8_hasYear_4 (Nat.le_of_ble_eq_true rfl) (zN rfl) rfl rfl (Nat.le_of_ble_eq_true rfl) fl_X8_26 rfl ?_
  refine z_icmp_ge (tgt := 44) dX8_hasYear_7 (by decide) (fun c_1 => ?_) (fun c_1 => ?_)
  · exact absurd (Or.inl ⟨c_1, trivial⟩) hn_
  · refine z_aloadr_n dX8_hasYear_10 rfl ?_
    refine z_get (ci := 8) (r := (RX8, TX8, 12)) (j := 2) (v := .ref 9) dX8_hasYear_11 (Nat.le_of_ble_eq_true rfl) (zN rfl) rfl rfl (Nat.le_of_ble_eq_true rfl) fl_X8_22 rfl ?_
    refine z_iload_n dX8_hasYear_14 rfl ?_
    have hp_2 := ((W3_.2 c_1).1).2
    refine z_aald (r := some (pO g_.toNatClampNeg)) dX8_hasYear_15 (Nat.le_of_ble_eq_true rfl) (zN rfl) rfl ((W3_.2 c_1).1).1 (if_pos ((W3_.2 c_1).1).2) ?_
    refine z_get (ci := 7) (r := (RX7, TX7, 5)) (j := 3) (v := .int ((σ (pO g_.toNatClampNeg)) 3)) dX8_hasYear_16 (z3O g_.toNatClampNeg) (zNO hp_2) (SH_pO P g_.toNatClampNeg) rfl (Nat.le_of_ble_eq_true rfl) fl_X8_175 rfl ?_
    refine z_iload_n dX8_hasYear_19 rfl ?_
    refine z_icmp_ne (tgt := 38) dX8_hasYear_20 (by decide) (fun c_3 => ?_) (fun c_3 => ?_)
    · refine z_iinc (v := (g_ + (1 : Int32))) (lv' := [some (.ref 3), some (.int l1), some (.int l2), some (.int (g_ + (1 : Int32)))]) dX8_hasYear_38 (Nat.le_of_ble_eq_true rfl) rfl (by rw [k_iconst_1]) rfl ?_
      refine z_goto (tgt := 2) dX8_hasYear_41 (by decide) ?_
      simpa only [if_neg c_1, if_neg c_3] using k_
    · refine z_aloadr_n dX8_hasYear_23 rfl ?_
      refine z_get (ci := 8) (r := (RX8, TX8, 12)) (j := 2) (v := .ref 9) dX8_hasYear_24 (Nat.le_of_ble_eq_true rfl) (zN rfl) rfl rfl (Nat.le_of_ble_eq_true rfl) fl_X8_22 rfl ?_
      refine z_iload_n dX8_hasYear_27 rfl ?_
      have hp_4 := ((W3_.2 c_1).2.1 c_3).2
      refine z_aald (r := some (pO g_.toNatClampNeg)) dX8_hasYear_28 (Nat.le_of_ble_eq_true rfl) (zN rfl) rfl ((W3_.2 c_1).2.1 c_3).1 (if_pos ((W3_.2 c_1).2.1 c_3).2) ?_
      refine z_get (ci := 7) (r := (RX7, TX7, 5)) (j := 4) (v := .int ((σ (pO g_.toNatClampNeg)) 4)) dX8_hasYear_29 (z3O g_.toNatClampNeg) (zNO hp_4) (SH_pO P g_.toNatClampNeg) rfl (Nat.le_of_ble_eq_true rfl) fl_X8_182 rfl ?_
      refine z_iload_n dX8_hasYear_32 rfl ?_
      refine z_icmp_ne (tgt := 38) dX8_hasYear_33 (by decide) (fun c_5 => ?_) (fun c_5 => ?_)
      · refine z_iinc (v := (g_ + (1 : Int32))) (lv' := [some (.ref 3), some (.int l1), some (.int l2), some (.int (g_ + (1 : Int32)))]) dX8_hasYear_38 (Nat.le_of_ble_eq_true rfl) rfl (by rw [k_iconst_1]) rfl ?_
        refine z_goto (tgt := 2) dX8_hasYear_41 (by decide) ?_
        simpa only [if_neg c_1, if_pos c_3, if_neg c_5] using k_
      · exact absurd (Or.inr ⟨c_1, (Or.inl ⟨c_3, (Or.inl ⟨c_5, trivial⟩)⟩)⟩) hn_

theorem dX8_hasYear_0 : decode cX8_hasYear 0 = .ok (.iconst 0, 1) := by decide +kernel
theorem dX8_hasYear_1 : decode cX8_hasYear 1 = .ok (.istore_n 3, 1) := by decide +kernel
theorem dX8_hasYear_37 : decode cX8_hasYear 37 = .ok (.ireturn, 1) := by decide +kernel
theorem dX8_hasYear_45 : decode cX8_hasYear 45 = .ok (.ireturn, 1) := by decide +kernel
def pX8_hasYear (P : zp) (σ : zc_N) (a1 : Int32) (a2 : Int32) : Prop := (((∃ n_ : Nat, (eX8_hasYear_2 σ a1 a2) (zit fX8_hasYear_2 n_ (0 : Int32))) ∧ (∀ i2_ : Nat, i2_ < (zwn (fun n_ => (eX8_hasYear_2 σ a1 a2) (zit fX8_hasYear_2 n_ (0 : Int32)))) → qX8_hasYear_2 P σ a1 (zit fX8_hasYear_2 i2_ (0 : Int32)))) ∧ ((((σ 3) 3) ≤ (wX8_hasYear_2 σ a1 a2 (0 : Int32)) → True) ∧ (¬ ((σ 3) 3) ≤ (wX8_hasYear_2 σ a1 a2 (0 : Int32)) → ((vp_in (wX8_hasYear_2 σ a1 a2 (0 : Int32)) 24 ∧ (wX8_hasYear_2 σ a1 a2 (0 : Int32)).toNatClampNeg < P.2.1) ∧ ((((σ (pO ((wX8_hasYear_2 σ a1 a2 (0 : Int32)).toNatClampNeg))) 3) = a1 → (vp_in (wX8_hasYear_2 σ a1 a2 (0 : Int32)) 24 ∧ (wX8_hasYear_2 σ a1 a2 (0 : Int32)).toNatClampNeg < P.2.1)) ∧ (¬ ((σ (pO ((wX8_hasYear_2 σ a1 a2 (0 : Int32)).toNatClampNeg))) 3) = a1 → True))))))
noncomputable def rX8_hasYear (σ : zc_N) (a1 : Int32) (a2 : Int32) : Int32 := (if ((σ 3) 3) ≤ (wX8_hasYear_2 σ a1 a2 (0 : Int32)) then (0 : Int32) else (1 : Int32))
set_option maxHeartbeats 1000000 in
theorem ctX8_hasYear (P : zp) (σ : zc_N) (a1 : Int32) (a2 : Int32) (W_ : (pX8_hasYear P σ a1 a2)) : sp mX8_hasYear 0 0 0 [.ref 3, .int a1, .int a2] (hh P σ) (fun r_ h_ => r_ = some (.int (rX8_hasYear σ a1 a2)) ∧ h_ = hh P σ) := by
  refine sp_of (lv := [some (.ref 3), some (.int a1), some (.int a2), none]) (by decide) (zcats_ok _ rfl) (Nat.le_of_ble_eq_true rfl) (zlv_ok _ 1 rfl) (fun G => ?_)
  generalize hQ_ : (fun (r_ : Option Value) (h_ : zc_H) => r_ = some (.int (rX8_hasYear σ a1 a2)) ∧ h_ = hh P σ) = Q_
  unfold pX8_hasYear at W_
  refine z_iconst dX8_hasYear_0 k_iconst_0 ?_
  refine z_istore_n (lv' := [some (.ref 3), some (.int a1), some (.int a2), some (.int (0 : Int32))]) dX8_hasYear_1 (Nat.le_of_ble_eq_true rfl) rfl ?_
  refine whX8_hasYear_2 P σ a1 a2 (0 : Int32) W_.1.1 W_.1.2 (fun hX2_ => ?_)
  rw [eX8_hasYear_2] at hX2_
  try dsimp only at hX2_
  show zz G mX8_hasYear 0 0 0 Q_ 2 [some (.ref 3), some (.int a1), some (.int a2), some (.int (wX8_hasYear_2 σ a1 a2 (0 : Int32)))] [] (hh P σ) 0 0
  refine z_iload_n dX8_hasYear_2 rfl ?_
  refine z_aloadr_n dX8_hasYear_3 rfl ?_
  refine z_get (ci := 8) (r := (RX8, TX8, 12)) (j := 3) (v := .int ((σ 3) 3)) dX8_hasYear_4 (Nat.le_of_ble_eq_true rfl) (zN rfl) rfl rfl (Nat.le_of_ble_eq_true rfl) fl_X8_26 rfl ?_
  refine z_icmp_ge (tgt := 44) dX8_hasYear_7 (by decide) (fun c_1 => ?_) (fun c_1 => ?_)
  · refine z_iconst dX8_hasYear_44 k_iconst_0 ?_
    exact z_ireturn dX8_hasYear_45 rfl rfl (Nat.le_of_ble_eq_true rfl) (Nat.le_of_ble_eq_true rfl) (by rw [← hQ_]; exact ⟨(by rw [rX8_hasYear]; try simp only [if_pos c_1]), rfl⟩)
  · refine z_aloadr_n dX8_hasYear_10 rfl ?_
    refine z_get (ci := 8) (r := (RX8, TX8, 12)) (j := 2) (v := .ref 9) dX8_hasYear_11 (Nat.le_of_ble_eq_true rfl) (zN rfl) rfl rfl (Nat.le_of_ble_eq_true rfl) fl_X8_22 rfl ?_
    refine z_iload_n dX8_hasYear_14 rfl ?_
    have hp_2 := ((W_.2.2 c_1).1).2
    refine z_aald (r := some (pO ((wX8_hasYear_2 σ a1 a2 (0 : Int32)).toNatClampNeg))) dX8_hasYear_15 (Nat.le_of_ble_eq_true rfl) (zN rfl) rfl ((W_.2.2 c_1).1).1 (if_pos ((W_.2.2 c_1).1).2) ?_
    refine z_get (ci := 7) (r := (RX7, TX7, 5)) (j := 3) (v := .int ((σ (pO ((wX8_hasYear_2 σ a1 a2 (0 : Int32)).toNatClampNeg))) 3)) dX8_hasYear_16 (z3O ((wX8_hasYear_2 σ a1 a2 (0 : Int32)).toNatClampNeg)) (zNO hp_2) (SH_pO P ((wX8_hasYear_2 σ a1 a2 (0 : Int32)).toNatClampNeg)) rfl (Nat.le_of_ble_eq_true rfl) fl_X8_175 rfl ?_
    refine z_iload_n dX8_hasYear_19 rfl ?_
    refine z_icmp_ne (tgt := 38) dX8_hasYear_20 (by decide) (fun c_3 => ?_) (fun c_3 => ?_)
    · refine z_iinc (v := ((wX8_hasYear_2 σ a1 a2 (0 : Int32)) + (1 : Int32))) (lv' := [some (.ref 3), some (.int a1), some (.int a2), some (.int ((wX8_hasYear_2 σ a1 a2 (0 : Int32)) + (1 : Int32)))]) dX8_hasYear_38 (Nat.le_of_ble_eq_true rfl) rfl (by rw [k_iconst_1]) rfl ?_
      refine z_goto (tgt := 2) dX8_hasYear_41 (by decide) ?_
      exact (ex_r (ex_r hX2_ c_1) c_3).elim
    · refine z_aloadr_n dX8_hasYear_23 rfl ?_
      refine z_get (ci := 8) (r := (RX8, TX8, 12)) (j := 2) (v := .ref 9) dX8_hasYear_24 (Nat.le_of_ble_eq_true rfl) (zN rfl) rfl rfl (Nat.le_of_ble_eq_true rfl) fl_X8_22 rfl ?_
      refine z_iload_n dX8_hasYear_27 rfl ?_
      have hp_4 := ((W_.2.2 c_1).2.1 c_3).2
      refine z_aald (r := some (pO ((wX8_hasYear_2 σ a1 a2 (0 : Int32)).toNatClampNeg))) dX8_hasYear_28 (Nat.le_of_ble_eq_true rfl) (zN rfl) rfl ((W_.2.2 c_1).2.1 c_3).1 (if_pos ((W_.2.2 c_1).2.1 c_3).2) ?_
      refine z_get (ci := 7) (r := (RX7, TX7, 5)) (j := 4) (v := .int ((σ (pO ((wX8_hasYear_2 σ a1 a2 (0 : Int32)).toNatClampNeg))) 4)) dX8_hasYear_29 (z3O ((wX8_hasYear_2 σ a1 a2 (0 : Int32)).toNatClampNeg)) (zNO hp_4) (SH_pO P ((wX8_hasYear_2 σ a1 a2 (0 : Int32)).toNatClampNeg)) rfl (Nat.le_of_ble_eq_true rfl) fl_X8_182 rfl ?_
      refine z_iload_n dX8_hasYear_32 rfl ?_
      refine z_icmp_ne (tgt := 38) dX8_hasYear_33 (by decide) (fun c_5 => ?_) (fun c_5 => ?_)
      · refine z_iinc (v := ((wX8_hasYear_2 σ a1 a2 (0 : Int32)) + (1 : Int32))) (lv' := [some (.ref 3), some (.int a1), some (.int a2), some (.int ((wX8_hasYear_2 σ a1 a2 (0 : Int32)) + (1 : Int32)))]) dX8_hasYear_38 (Nat.le_of_ble_eq_true rfl) rfl (by rw [k_iconst_1]) rfl ?_
        refine z_goto (tgt := 2) dX8_hasYear_41 (by decide) ?_
        exact (ex_r (ex_l (ex_r hX2_ c_1) c_3) c_5).elim
      · refine z_iconst dX8_hasYear_36 k_iconst_1 ?_
        exact z_ireturn dX8_hasYear_37 rfl rfl (Nat.le_of_ble_eq_true rfl) (Nat.le_of_ble_eq_true rfl) (by rw [← hQ_]; exact ⟨(by rw [rX8_hasYear]; try simp only [if_neg c_1, if_pos c_3, if_pos c_5]), rfl⟩)

theorem dX8_toolsWithPrints_4 : decode cX8_toolsWithPrints 4 = .ok (.iload_n 2, 1) := by decide +kernel
theorem dX8_toolsWithPrints_5 : decode cX8_toolsWithPrints 5 = .ok (.bipush 10, 2) := by decide +kernel
theorem dX8_toolsWithPrints_7 : decode cX8_toolsWithPrints 7 = .ok (.if_icmp .ge 20, 3) := by decide +kernel
theorem dX8_toolsWithPrints_10 : decode cX8_toolsWithPrints 10 = .ok (.aload_n 0, 1) := by decide +kernel
theorem dX8_toolsWithPrints_11 : decode cX8_toolsWithPrints 11 = .ok (.iload_n 2, 1) := by decide +kernel
theorem dX8_toolsWithPrints_12 : decode cX8_toolsWithPrints 12 = .ok (.invokevirtual 185, 3) := by decide +kernel
theorem dX8_toolsWithPrints_15 : decode cX8_toolsWithPrints 15 = .ok (.ifCond .le 6, 3) := by decide +kernel
theorem dX8_toolsWithPrints_18 : decode cX8_toolsWithPrints 18 = .ok (.iinc 1 1, 3) := by decide +kernel
theorem dX8_toolsWithPrints_21 : decode cX8_toolsWithPrints 21 = .ok (.iinc 2 1, 3) := by decide +kernel
theorem dX8_toolsWithPrints_24 : decode cX8_toolsWithPrints 24 = .ok (.goto (-20), 3) := by decide +kernel
theorem dX8_toolsWithPrints_27 : decode cX8_toolsWithPrints 27 = .ok (.iload_n 1, 1) := by decide +kernel
noncomputable def fX8_toolsWithPrints_4 (σ : zc_N) (i_ : Nat) (a_ : Int32) : Int32 := (if (rX8_keptBy σ (nI i_)) ≤ (0 : Int32) then a_ else (a_ + (1 : Int32)))
def qX8_toolsWithPrints_4 (P : zp) (σ : zc_N) (i_ : Nat) (a_ : Int32) : Prop := (pX8_keptBy P σ (nI i_))
set_option maxHeartbeats 2000000 in
theorem lpX8_toolsWithPrints_4 {G : zc_G} {Q : Option Value → zc_H → Prop} (P : zp) (σ : zc_N) (l1 : Int32) (W1_ : ∀ i4_ : Nat, i4_ < 10 → qX8_toolsWithPrints_4 P σ i4_ (zfor (fX8_toolsWithPrints_4 σ) i4_ l1))
    (W2_ : zz G mX8_toolsWithPrints 1 0 0 Q 27 [none, some (.int (zfor (fX8_toolsWithPrints_4 σ) 10 l1)), none] [] (hh P σ) 0 0) :
    zz G mX8_toolsWithPrints 1 0 0 Q 4 [some (.ref 3), some (.int l1), some (.int (nI 0))] [] (hh P σ) 0 0 := by
  refine zfor_nI (fun i_ a_ => zz G mX8_toolsWithPrints 1 0 0 Q 4 [some (.ref 3), some (.int a_), some (.int i_)] [] (hh P σ) 0 0) (fX8_toolsWithPrints_4 σ) 10 l1 (fun i_ hi_ k_ => ?_) ?_
  · have W3_ := W1_ i_ hi_
    generalize zfor (fX8_toolsWithPrints_4 σ) i_ l1 = g_ at k_ W3_ ⊢
    rw [fX8_toolsWithPrints_4] at k_
    rw [qX8_toolsWithPrints_4] at W3_
    try dsimp only at W3_
    refine z_iload_n dX8_toolsWithPrints_4 rfl ?_
    refine z_bipush dX8_toolsWithPrints_5 k_bipush_10 ?_
    refine z_icmp_ge (tgt := 27) dX8_toolsWithPrints_7 (by decide) (fun c_ => absurd c_ (nI_ge hi_ (by decide))) (fun c_ => ?_)
    refine z_aloadr_n dX8_toolsWithPrints_10 rfl ?_
    refine z_iload_n dX8_toolsWithPrints_11 rfl ?_
    refine z_callV (ci := 8) (r := (RX8, TX8, 12)) (b := 3) (As := [.int (nI i_)]) (rest := []) (ctX8_keptBy P σ (nI i_) W3_) dX8_toolsWithPrints_12 lk_X8_185 lv_X8_keptBy (Nat.le_of_ble_eq_true rfl) (zN rfl) rfl rfl rfl rfl (Nat.le_of_ble_eq_true rfl) (Nat.le_of_ble_eq_true rfl) (Nat.le_of_ble_eq_true rfl) (Nat.le_of_ble_eq_true rfl) (fun r_ h_ e_ => ?_)
    obtain ⟨e1_, e2_⟩ := e_
    subst e1_
    subst e2_
    show zz G mX8_toolsWithPrints 1 0 0 Q 15 [some (.ref 3), some (.int g_), some (.int (nI i_))] [.int (rX8_keptBy σ (nI i_))] (hh P σ) 0 0
    have K_1 : zz G mX8_toolsWithPrints 1 0 0 Q 21 [some (.ref 3), some (.int (if (rX8_keptBy σ (nI i_)) ≤ (0 : Int32) then g_ else (g_ + (1 : Int32)))), some (.int (nI i_))] [] (hh P σ) 0 0 := by
      refine z_iinc (v := ((nI i_) + (1 : Int32))) (lv' := [some (.ref 3), some (.int (if (rX8_keptBy σ (nI i_)) ≤ (0 : Int32) then g_ else (g_ + (1 : Int32)))), some (.int ((nI i_) + (1 : Int32)))]) dX8_toolsWithPrints_21 (Nat.le_of_ble_eq_true rfl) rfl (by rw [k_iconst_1]) rfl ?_
      refine z_goto (tgt := 4) dX8_toolsWithPrints_24 (by decide) ?_
      rw [nI_1]
      exact k_
    refine z_if_le (tgt := 21) dX8_toolsWithPrints_15 (by decide) (fun c_2 => ?_) (fun c_2 => ?_)
    · rw [show (if (rX8_keptBy σ (nI i_)) ≤ (0 : Int32) then g_ else (g_ + (1 : Int32))) = g_ from (if_pos c_2)] at K_1
      exact K_1
    · refine z_iinc (v := (g_ + (1 : Int32))) (lv' := [some (.ref 3), some (.int (g_ + (1 : Int32))), some (.int (nI i_))]) dX8_toolsWithPrints_18 (Nat.le_of_ble_eq_true rfl) rfl (by rw [k_iconst_1]) rfl ?_
      rw [show (if (rX8_keptBy σ (nI i_)) ≤ (0 : Int32) then g_ else (g_ + (1 : Int32))) = (g_ + (1 : Int32)) from (if_neg c_2)] at K_1
      exact K_1
  · generalize zfor (fX8_toolsWithPrints_4 σ) 10 l1 = g_ at W2_ ⊢
    refine z_iload_n dX8_toolsWithPrints_4 rfl ?_
    refine z_bipush dX8_toolsWithPrints_5 k_bipush_10 ?_
    refine z_icmp_ge (tgt := 27) dX8_toolsWithPrints_7 (by decide) (fun c_ => ?_) (fun c_ => absurd (by decide) c_)
    exact zz_sub (lv' := [none, some (.int g_), none]) ⟨rfl, trivial⟩ W2_

theorem dX8_toolsWithPrints_0 : decode cX8_toolsWithPrints 0 = .ok (.iconst 0, 1) := by decide +kernel
theorem dX8_toolsWithPrints_1 : decode cX8_toolsWithPrints 1 = .ok (.istore_n 1, 1) := by decide +kernel
theorem dX8_toolsWithPrints_2 : decode cX8_toolsWithPrints 2 = .ok (.iconst 0, 1) := by decide +kernel
theorem dX8_toolsWithPrints_3 : decode cX8_toolsWithPrints 3 = .ok (.istore_n 2, 1) := by decide +kernel
theorem dX8_toolsWithPrints_28 : decode cX8_toolsWithPrints 28 = .ok (.ireturn, 1) := by decide +kernel
def pX8_toolsWithPrints (P : zp) (σ : zc_N) : Prop := (∀ i4_ : Nat, i4_ < 10 → qX8_toolsWithPrints_4 P σ i4_ (zfor (fX8_toolsWithPrints_4 σ) i4_ (0 : Int32)))
noncomputable def rX8_toolsWithPrints (σ : zc_N) : Int32 := (zfor (fX8_toolsWithPrints_4 σ) 10 (0 : Int32))
set_option maxHeartbeats 1000000 in
theorem ctX8_toolsWithPrints (P : zp) (σ : zc_N) (W_ : (pX8_toolsWithPrints P σ)) : sp mX8_toolsWithPrints 1 0 0 [.ref 3] (hh P σ) (fun r_ h_ => r_ = some (.int (rX8_toolsWithPrints σ)) ∧ h_ = hh P σ) := by
  refine sp_of (lv := [some (.ref 3), none, none]) (by decide) (zcats_ok _ rfl) (Nat.le_of_ble_eq_true rfl) (zlv_ok _ 2 rfl) (fun G => ?_)
  generalize hQ_ : (fun (r_ : Option Value) (h_ : zc_H) => r_ = some (.int (rX8_toolsWithPrints σ)) ∧ h_ = hh P σ) = Q_
  unfold pX8_toolsWithPrints at W_
  refine z_iconst dX8_toolsWithPrints_0 k_iconst_0 ?_
  refine z_istore_n (lv' := [some (.ref 3), some (.int (0 : Int32)), none]) dX8_toolsWithPrints_1 (Nat.le_of_ble_eq_true rfl) rfl ?_
  refine z_iconst dX8_toolsWithPrints_2 k_iconst_0 ?_
  refine z_istore_n (lv' := [some (.ref 3), some (.int (0 : Int32)), some (.int (0 : Int32))]) dX8_toolsWithPrints_3 (Nat.le_of_ble_eq_true rfl) rfl ?_
  refine lpX8_toolsWithPrints_4 P σ (0 : Int32) W_ ?_
  show zz G mX8_toolsWithPrints 1 0 0 Q_ 27 [none, some (.int (zfor (fX8_toolsWithPrints_4 σ) 10 (0 : Int32))), none] [] (hh P σ) 0 0
  refine z_iload_n dX8_toolsWithPrints_27 rfl ?_
  exact z_ireturn dX8_toolsWithPrints_28 rfl rfl (Nat.le_of_ble_eq_true rfl) (Nat.le_of_ble_eq_true rfl) (by rw [← hQ_]; exact ⟨(by rw [rX8_toolsWithPrints]), rfl⟩)

theorem dX8_point_0 : decode cX8_point 0 = .ok (.aload_n 0, 1) := by decide +kernel
theorem dX8_point_1 : decode cX8_point 1 = .ok (.iload_n 1, 1) := by decide +kernel
theorem dX8_point_2 : decode cX8_point 2 = .ok (.invokevirtual 117, 3) := by decide +kernel
theorem dX8_point_5 : decode cX8_point 5 = .ok (.astore_n 3, 1) := by decide +kernel
theorem dX8_point_6 : decode cX8_point 6 = .ok (.aload_n 3, 1) := by decide +kernel
theorem dX8_point_7 : decode cX8_point 7 = .ok (.ifnonnull 5, 3) := by decide +kernel
theorem dX8_point_10 : decode cX8_point 10 = .ok (.iconst (-1), 1) := by decide +kernel
theorem dX8_point_11 : decode cX8_point 11 = .ok (.ireturn, 1) := by decide +kernel
theorem dX8_point_12 : decode cX8_point 12 = .ok (.iload_n 2, 1) := by decide +kernel
theorem dX8_point_13 : decode cX8_point 13 = .ok (.iconst (-1), 1) := by decide +kernel
theorem dX8_point_14 : decode cX8_point 14 = .ok (.if_icmp .ne 8, 3) := by decide +kernel
theorem dX8_point_17 : decode cX8_point 17 = .ok (.aload_n 3, 1) := by decide +kernel
theorem dX8_point_18 : decode cX8_point 18 = .ok (.invokevirtual 121, 3) := by decide +kernel
theorem dX8_point_21 : decode cX8_point 21 = .ok (.ireturn, 1) := by decide +kernel
theorem dX8_point_22 : decode cX8_point 22 = .ok (.iload_n 2, 1) := by decide +kernel
theorem dX8_point_23 : decode cX8_point 23 = .ok (.ifCond .lt 13, 3) := by decide +kernel
theorem dX8_point_26 : decode cX8_point 26 = .ok (.iload_n 2, 1) := by decide +kernel
theorem dX8_point_27 : decode cX8_point 27 = .ok (.iconst 3, 1) := by decide +kernel
theorem dX8_point_28 : decode cX8_point 28 = .ok (.idiv, 1) := by decide +kernel
theorem dX8_point_29 : decode cX8_point 29 = .ok (.aload_n 3, 1) := by decide +kernel
theorem dX8_point_30 : decode cX8_point 30 = .ok (.invokevirtual 121, 3) := by decide +kernel
theorem dX8_point_33 : decode cX8_point 33 = .ok (.if_icmp .lt 5, 3) := by decide +kernel
theorem dX8_point_36 : decode cX8_point 36 = .ok (.iconst (-1), 1) := by decide +kernel
theorem dX8_point_37 : decode cX8_point 37 = .ok (.ireturn, 1) := by decide +kernel
theorem dX8_point_38 : decode cX8_point 38 = .ok (.iload_n 2, 1) := by decide +kernel
theorem dX8_point_39 : decode cX8_point 39 = .ok (.iconst 3, 1) := by decide +kernel
theorem dX8_point_40 : decode cX8_point 40 = .ok (.irem, 1) := by decide +kernel
theorem dX8_point_41 : decode cX8_point 41 = .ok (.lookupswitch 43 #[(0, 27), (1, 35)], 27) := by decide +kernel
theorem dX8_point_68 : decode cX8_point 68 = .ok (.aload_n 3, 1) := by decide +kernel
theorem dX8_point_69 : decode cX8_point 69 = .ok (.iload_n 2, 1) := by decide +kernel
theorem dX8_point_70 : decode cX8_point 70 = .ok (.iconst 3, 1) := by decide +kernel
theorem dX8_point_71 : decode cX8_point 71 = .ok (.idiv, 1) := by decide +kernel
theorem dX8_point_72 : decode cX8_point 72 = .ok (.invokevirtual 124, 3) := by decide +kernel
theorem dX8_point_75 : decode cX8_point 75 = .ok (.ireturn, 1) := by decide +kernel
theorem dX8_point_76 : decode cX8_point 76 = .ok (.aload_n 3, 1) := by decide +kernel
theorem dX8_point_77 : decode cX8_point 77 = .ok (.iload_n 2, 1) := by decide +kernel
theorem dX8_point_78 : decode cX8_point 78 = .ok (.iconst 3, 1) := by decide +kernel
theorem dX8_point_79 : decode cX8_point 79 = .ok (.idiv, 1) := by decide +kernel
theorem dX8_point_80 : decode cX8_point 80 = .ok (.invokevirtual 127, 3) := by decide +kernel
theorem dX8_point_83 : decode cX8_point 83 = .ok (.ireturn, 1) := by decide +kernel
theorem dX8_point_84 : decode cX8_point 84 = .ok (.aload_n 3, 1) := by decide +kernel
theorem dX8_point_85 : decode cX8_point 85 = .ok (.iload_n 2, 1) := by decide +kernel
theorem dX8_point_86 : decode cX8_point 86 = .ok (.iconst 3, 1) := by decide +kernel
theorem dX8_point_87 : decode cX8_point 87 = .ok (.idiv, 1) := by decide +kernel
theorem dX8_point_88 : decode cX8_point 88 = .ok (.invokevirtual 130, 3) := by decide +kernel
theorem dX8_point_91 : decode cX8_point 91 = .ok (.ireturn, 1) := by decide +kernel
def pX8_point (P : zp) (σ : zc_N) (a1 : Int32) (a2 : Int32) : Prop := ((pX8_printAt P σ a1) ∧ (((rX8_isWithin a1 (0 : Int32) (((σ 3) 3) - (1 : Int32))) = (0 : Int32) → True) ∧ (¬ (rX8_isWithin a1 (0 : Int32) (((σ 3) 3) - (1 : Int32))) = (0 : Int32) → (a1.toNatClampNeg < P.2.1 ∧ ((a2 = (-1 : Int32) → True) ∧ (¬ a2 = (-1 : Int32) → ((a2 < (0 : Int32) → True) ∧ (¬ a2 < (0 : Int32) → (((a2 / (3 : Int32)) < (rX7_size P a1.toNatClampNeg) → (((a2 - a2 / (3 : Int32) * (3 : Int32)) = (0 : Int32) → (pX7_columnOf P a1.toNatClampNeg (a2 / (3 : Int32)))) ∧ (((a2 - a2 / (3 : Int32) * (3 : Int32)) = (1 : Int32) → (pX7_rowOf P a1.toNatClampNeg (a2 / (3 : Int32)))) ∧ (¬ (a2 - a2 / (3 : Int32) * (3 : Int32)) = (0 : Int32) → ¬ (a2 - a2 / (3 : Int32) * (3 : Int32)) = (1 : Int32) → (pX7_kindOf P a1.toNatClampNeg (a2 / (3 : Int32))))))) ∧ (¬ (a2 / (3 : Int32)) < (rX7_size P a1.toNatClampNeg) → True))))))))))
noncomputable def rX8_point (P : zp) (σ : zc_N) (a1 : Int32) (a2 : Int32) : Int32 := (if (rX8_isWithin a1 (0 : Int32) (((σ 3) 3) - (1 : Int32))) = (0 : Int32) then (-1 : Int32) else (if a2 = (-1 : Int32) then (rX7_size P a1.toNatClampNeg) else (if a2 < (0 : Int32) then (-1 : Int32) else (if (a2 / (3 : Int32)) < (rX7_size P a1.toNatClampNeg) then (if (a2 - a2 / (3 : Int32) * (3 : Int32)) = (0 : Int32) then (rX7_columnOf σ a1.toNatClampNeg (a2 / (3 : Int32))) else (if (a2 - a2 / (3 : Int32) * (3 : Int32)) = (1 : Int32) then (rX7_rowOf σ a1.toNatClampNeg (a2 / (3 : Int32))) else (rX7_kindOf σ a1.toNatClampNeg (a2 / (3 : Int32))))) else (-1 : Int32)))))
set_option maxHeartbeats 1000000 in
theorem ctX8_point (P : zp) (σ : zc_N) (a1 : Int32) (a2 : Int32) (W_ : (pX8_point P σ a1 a2)) : sp mX8_point 2 0 0 [.ref 3, .int a1, .int a2] (hh P σ) (fun r_ h_ => r_ = some (.int (rX8_point P σ a1 a2)) ∧ h_ = hh P σ) := by
  refine sp_of (lv := [some (.ref 3), some (.int a1), some (.int a2), none]) (by decide) (zcats_ok _ rfl) (Nat.le_of_ble_eq_true rfl) (zlv_ok _ 1 rfl) (fun G => ?_)
  generalize hQ_ : (fun (r_ : Option Value) (h_ : zc_H) => r_ = some (.int (rX8_point P σ a1 a2)) ∧ h_ = hh P σ) = Q_
  unfold pX8_point at W_
  refine z_aloadr_n dX8_point_0 rfl ?_
  refine z_iload_n dX8_point_1 rfl ?_
  refine z_callV (ci := 8) (r := (RX8, TX8, 12)) (b := 3) (As := [.int a1]) (rest := []) (ctX8_printAt P σ a1 W_.1) dX8_point_2 lk_X8_117 lv_X8_printAt (Nat.le_of_ble_eq_true rfl) (zN rfl) rfl rfl rfl rfl (Nat.le_of_ble_eq_true rfl) (Nat.le_of_ble_eq_true rfl) (Nat.le_of_ble_eq_true rfl) (Nat.le_of_ble_eq_true rfl) (fun r_ h_ e_ => ?_)
  obtain ⟨e1_, e2_⟩ := e_
  subst e1_
  subst e2_
  show zz G mX8_point 2 0 0 Q_ 5 [some (.ref 3), some (.int a1), some (.int a2), none] [va_rf (if (rX8_isWithin a1 (0 : Int32) (((σ 3) 3) - (1 : Int32))) = (0 : Int32) then none else some (pO a1.toNatClampNeg))] (hh P σ) 0 0
  refine z_astore_n (r := (if (rX8_isWithin a1 (0 : Int32) (((σ 3) 3) - (1 : Int32))) = (0 : Int32) then none else some (pO a1.toNatClampNeg))) (lv' := [some (.ref 3), some (.int a1), some (.int a2), some (va_rf (if (rX8_isWithin a1 (0 : Int32) (((σ 3) 3) - (1 : Int32))) = (0 : Int32) then none else some (pO a1.toNatClampNeg)))]) dX8_point_5 (Nat.le_of_ble_eq_true rfl) rfl ?_
  refine z_aload_n (r := (if (rX8_isWithin a1 (0 : Int32) (((σ 3) 3) - (1 : Int32))) = (0 : Int32) then none else some (pO a1.toNatClampNeg))) dX8_point_6 rfl ?_
  refine z_ifnonnullc (c := (rX8_isWithin a1 (0 : Int32) (((σ 3) 3) - (1 : Int32))) = (0 : Int32)) inferInstance (tgt := 12) dX8_point_7 (by decide) (fun c_1 => ?_) (fun c_1 => ?_)
  · have hp_2 := ((W_.2.2 c_1).1)
    try rw [if_neg c_1]
    show zz G mX8_point 2 0 0 Q_ 12 [some (.ref 3), some (.int a1), some (.int a2), some (.ref (pO a1.toNatClampNeg))] [] (hh P σ) 0 0
    refine z_iload_n dX8_point_12 rfl ?_
    refine z_iconst dX8_point_13 k_iconst_m1 ?_
    refine z_icmp_ne (tgt := 22) dX8_point_14 (by decide) (fun c_3 => ?_) (fun c_3 => ?_)
    · refine z_iload_n dX8_point_22 rfl ?_
      refine z_if_lt (tgt := 36) dX8_point_23 (by decide) (fun c_4 => ?_) (fun c_4 => ?_)
      · refine z_iconst dX8_point_36 k_iconst_m1 ?_
        exact z_ireturn dX8_point_37 rfl rfl (Nat.le_of_ble_eq_true rfl) (Nat.le_of_ble_eq_true rfl) (by rw [← hQ_]; exact ⟨(by rw [rX8_point]; try simp only [if_neg c_1, if_neg c_3, if_pos c_4]), rfl⟩)
      · refine z_iload_n dX8_point_26 rfl ?_
        refine z_iconst dX8_point_27 k_iconst_3 ?_
        refine z_idiv (v := (a2 / (3 : Int32))) dX8_point_28 (by decide) rfl ?_
        refine z_aloadr_n dX8_point_29 rfl ?_
        refine z_callV (ci := 7) (r := (RX7, TX7, 5)) (b := (pO a1.toNatClampNeg)) (As := []) (rest := [.int (a2 / (3 : Int32))]) (ctX7_size P σ a1.toNatClampNeg hp_2) dX8_point_30 lk_X8_121 lv_X7_size (z3O a1.toNatClampNeg) (zNO hp_2) (SH_pO P a1.toNatClampNeg) rfl rfl rfl (Nat.le_of_ble_eq_true rfl) (Nat.le_of_ble_eq_true rfl) (Nat.le_of_ble_eq_true rfl) (Nat.le_of_ble_eq_true rfl) (fun r_ h_ e_ => ?_)
        obtain ⟨e1_, e2_⟩ := e_
        subst e1_
        subst e2_
        show zz G mX8_point 2 0 0 Q_ 33 [some (.ref 3), some (.int a1), some (.int a2), some (.ref (pO a1.toNatClampNeg))] [.int (rX7_size P a1.toNatClampNeg), .int (a2 / (3 : Int32))] (hh P σ) 0 0
        refine z_icmp_lt (tgt := 38) dX8_point_33 (by decide) (fun c_5 => ?_) (fun c_5 => ?_)
        · refine z_iload_n dX8_point_38 rfl ?_
          refine z_iconst dX8_point_39 k_iconst_3 ?_
          refine z_irem (v := (a2 - a2 / (3 : Int32) * (3 : Int32))) dX8_point_40 (by decide) rfl ?_
          by_cases c_6 : (a2 - a2 / (3 : Int32) * (3 : Int32)) = (0 : Int32)
          · refine z_lookup (off := 27) (tgt := 68) dX8_point_41 (by decide) (by rw [c_6]; decide) (by decide) ?_
            refine z_aloadr_n dX8_point_68 rfl ?_
            refine z_iload_n dX8_point_69 rfl ?_
            refine z_iconst dX8_point_70 k_iconst_3 ?_
            refine z_idiv (v := (a2 / (3 : Int32))) dX8_point_71 (by decide) rfl ?_
            refine z_callV (ci := 7) (r := (RX7, TX7, 5)) (b := (pO a1.toNatClampNeg)) (As := [.int (a2 / (3 : Int32))]) (rest := []) (ctX7_columnOf P σ a1.toNatClampNeg hp_2 (a2 / (3 : Int32)) (((((W_.2.2 c_1).2.2 c_3).2 c_4).1 c_5).1 c_6)) dX8_point_72 lk_X8_124 lv_X7_columnOf (z3O a1.toNatClampNeg) (zNO hp_2) (SH_pO P a1.toNatClampNeg) rfl rfl rfl (Nat.le_of_ble_eq_true rfl) (Nat.le_of_ble_eq_true rfl) (Nat.le_of_ble_eq_true rfl) (Nat.le_of_ble_eq_true rfl) (fun r_ h_ e_ => ?_)
            obtain ⟨e1_, e2_⟩ := e_
            subst e1_
            subst e2_
            show zz G mX8_point 2 0 0 Q_ 75 [some (.ref 3), some (.int a1), some (.int a2), some (.ref (pO a1.toNatClampNeg))] [.int (rX7_columnOf σ a1.toNatClampNeg (a2 / (3 : Int32)))] (hh P σ) 0 0
            exact z_ireturn dX8_point_75 rfl rfl (Nat.le_of_ble_eq_true rfl) (Nat.le_of_ble_eq_true rfl) (by rw [← hQ_]; exact ⟨(by rw [rX8_point]; try simp only [if_neg c_1, if_neg c_3, if_neg c_4, if_pos c_5, if_pos c_6]), rfl⟩)
          ·
            by_cases c_7 : (a2 - a2 / (3 : Int32) * (3 : Int32)) = (1 : Int32)
            · refine z_lookup (off := 35) (tgt := 76) dX8_point_41 (by decide) (by rw [c_7]; decide) (by decide) ?_
              refine z_aloadr_n dX8_point_76 rfl ?_
              refine z_iload_n dX8_point_77 rfl ?_
              refine z_iconst dX8_point_78 k_iconst_3 ?_
              refine z_idiv (v := (a2 / (3 : Int32))) dX8_point_79 (by decide) rfl ?_
              refine z_callV (ci := 7) (r := (RX7, TX7, 5)) (b := (pO a1.toNatClampNeg)) (As := [.int (a2 / (3 : Int32))]) (rest := []) (ctX7_rowOf P σ a1.toNatClampNeg hp_2 (a2 / (3 : Int32)) (((((W_.2.2 c_1).2.2 c_3).2 c_4).1 c_5).2.1 c_7)) dX8_point_80 lk_X8_127 lv_X7_rowOf (z3O a1.toNatClampNeg) (zNO hp_2) (SH_pO P a1.toNatClampNeg) rfl rfl rfl (Nat.le_of_ble_eq_true rfl) (Nat.le_of_ble_eq_true rfl) (Nat.le_of_ble_eq_true rfl) (Nat.le_of_ble_eq_true rfl) (fun r_ h_ e_ => ?_)
              obtain ⟨e1_, e2_⟩ := e_
              subst e1_
              subst e2_
              show zz G mX8_point 2 0 0 Q_ 83 [some (.ref 3), some (.int a1), some (.int a2), some (.ref (pO a1.toNatClampNeg))] [.int (rX7_rowOf σ a1.toNatClampNeg (a2 / (3 : Int32)))] (hh P σ) 0 0
              exact z_ireturn dX8_point_83 rfl rfl (Nat.le_of_ble_eq_true rfl) (Nat.le_of_ble_eq_true rfl) (by rw [← hQ_]; exact ⟨(by rw [rX8_point]; try simp only [if_neg c_1, if_neg c_3, if_neg c_4, if_pos c_5, if_neg c_6, if_pos c_7]), rfl⟩)
            ·
              refine z_lookup (off := 43) (tgt := 84) dX8_point_41 (by decide) (z_look2 c_6 c_7) (by decide) ?_
              refine z_aloadr_n dX8_point_84 rfl ?_
              refine z_iload_n dX8_point_85 rfl ?_
              refine z_iconst dX8_point_86 k_iconst_3 ?_
              refine z_idiv (v := (a2 / (3 : Int32))) dX8_point_87 (by decide) rfl ?_
              refine z_callV (ci := 7) (r := (RX7, TX7, 5)) (b := (pO a1.toNatClampNeg)) (As := [.int (a2 / (3 : Int32))]) (rest := []) (ctX7_kindOf P σ a1.toNatClampNeg hp_2 (a2 / (3 : Int32)) (((((W_.2.2 c_1).2.2 c_3).2 c_4).1 c_5).2.2 c_6 c_7)) dX8_point_88 lk_X8_130 lv_X7_kindOf (z3O a1.toNatClampNeg) (zNO hp_2) (SH_pO P a1.toNatClampNeg) rfl rfl rfl (Nat.le_of_ble_eq_true rfl) (Nat.le_of_ble_eq_true rfl) (Nat.le_of_ble_eq_true rfl) (Nat.le_of_ble_eq_true rfl) (fun r_ h_ e_ => ?_)
              obtain ⟨e1_, e2_⟩ := e_
              subst e1_
              subst e2_
              show zz G mX8_point 2 0 0 Q_ 91 [some (.ref 3), some (.int a1), some (.int a2), some (.ref (pO a1.toNatClampNeg))] [.int (rX7_kindOf σ a1.toNatClampNeg (a2 / (3 : Int32)))] (hh P σ) 0 0
              exact z_ireturn dX8_point_91 rfl rfl (Nat.le_of_ble_eq_true rfl) (Nat.le_of_ble_eq_true rfl) (by rw [← hQ_]; exact ⟨(by rw [rX8_point]; try simp only [if_neg c_1, if_neg c_3, if_neg c_4, if_pos c_5, if_neg c_6, if_neg c_7]), rfl⟩)
        · refine z_iconst dX8_point_36 k_iconst_m1 ?_
          exact z_ireturn dX8_point_37 rfl rfl (Nat.le_of_ble_eq_true rfl) (Nat.le_of_ble_eq_true rfl) (by rw [← hQ_]; exact ⟨(by rw [rX8_point]; try simp only [if_neg c_1, if_neg c_3, if_neg c_4, if_neg c_5]), rfl⟩)
    · refine z_aloadr_n dX8_point_17 rfl ?_
      refine z_callV (ci := 7) (r := (RX7, TX7, 5)) (b := (pO a1.toNatClampNeg)) (As := []) (rest := []) (ctX7_size P σ a1.toNatClampNeg hp_2) dX8_point_18 lk_X8_121 lv_X7_size (z3O a1.toNatClampNeg) (zNO hp_2) (SH_pO P a1.toNatClampNeg) rfl rfl rfl (Nat.le_of_ble_eq_true rfl) (Nat.le_of_ble_eq_true rfl) (Nat.le_of_ble_eq_true rfl) (Nat.le_of_ble_eq_true rfl) (fun r_ h_ e_ => ?_)
      obtain ⟨e1_, e2_⟩ := e_
      subst e1_
      subst e2_
      show zz G mX8_point 2 0 0 Q_ 21 [some (.ref 3), some (.int a1), some (.int a2), some (.ref (pO a1.toNatClampNeg))] [.int (rX7_size P a1.toNatClampNeg)] (hh P σ) 0 0
      exact z_ireturn dX8_point_21 rfl rfl (Nat.le_of_ble_eq_true rfl) (Nat.le_of_ble_eq_true rfl) (by rw [← hQ_]; exact ⟨(by rw [rX8_point]; try simp only [if_neg c_1, if_pos c_3]), rfl⟩)
  · refine z_iconst dX8_point_10 k_iconst_m1 ?_
    exact z_ireturn dX8_point_11 rfl rfl (Nat.le_of_ble_eq_true rfl) (Nat.le_of_ble_eq_true rfl) (by rw [← hQ_]; exact ⟨(by rw [rX8_point]; try simp only [if_pos c_1]), rfl⟩)

theorem dX8_keep_0 : decode cX8_keep 0 = .ok (.aload_n 0, 1) := by decide +kernel
theorem dX8_keep_1 : decode cX8_keep 1 = .ok (.iload_n 2, 1) := by decide +kernel
theorem dX8_keep_2 : decode cX8_keep 2 = .ok (.invokevirtual 117, 3) := by decide +kernel
theorem dX8_keep_5 : decode cX8_keep 5 = .ok (.astore 4, 2) := by decide +kernel
theorem dX8_keep_7 : decode cX8_keep 7 = .ok (.aload 4, 2) := by decide +kernel
theorem dX8_keep_9 : decode cX8_keep 9 = .ok (.ifnull 21, 3) := by decide +kernel
theorem dX8_keep_12 : decode cX8_keep 12 = .ok (.iload_n 1, 1) := by decide +kernel
theorem dX8_keep_13 : decode cX8_keep 13 = .ok (.invokestatic 171, 3) := by decide +kernel
theorem dX8_keep_16 : decode cX8_keep 16 = .ok (.ifCond .eq 14, 3) := by decide +kernel
theorem dX8_keep_19 : decode cX8_keep 19 = .ok (.iload_n 3, 1) := by decide +kernel
theorem dX8_keep_20 : decode cX8_keep 20 = .ok (.iconst 0, 1) := by decide +kernel
theorem dX8_keep_21 : decode cX8_keep 21 = .ok (.sipush 9999, 3) := by decide +kernel
theorem dX8_keep_24 : decode cX8_keep 24 = .ok (.invokestatic 67, 3) := by decide +kernel
theorem dX8_keep_27 : decode cX8_keep 27 = .ok (.ifCond .ne 5, 3) := by decide +kernel
theorem dX8_keep_30 : decode cX8_keep 30 = .ok (.iconst (-1), 1) := by decide +kernel
theorem dX8_keep_31 : decode cX8_keep 31 = .ok (.ireturn, 1) := by decide +kernel
theorem dX8_keep_32 : decode cX8_keep 32 = .ok (.aload 4, 2) := by decide +kernel
theorem dX8_keep_34 : decode cX8_keep 34 = .ok (.getfield 175, 3) := by decide +kernel
theorem dX8_keep_37 : decode cX8_keep 37 = .ok (.iconst (-1), 1) := by decide +kernel
theorem dX8_keep_38 : decode cX8_keep 38 = .ok (.if_icmp .ne 12, 3) := by decide +kernel
theorem dX8_keep_41 : decode cX8_keep 41 = .ok (.aload_n 0, 1) := by decide +kernel
theorem dX8_keep_42 : decode cX8_keep 42 = .ok (.iload_n 1, 1) := by decide +kernel
theorem dX8_keep_43 : decode cX8_keep 43 = .ok (.iload_n 3, 1) := by decide +kernel
theorem dX8_keep_44 : decode cX8_keep 44 = .ok (.invokevirtual 178, 3) := by decide +kernel
theorem dX8_keep_47 : decode cX8_keep 47 = .ok (.ifCond .eq 6, 3) := by decide +kernel
theorem dX8_keep_50 : decode cX8_keep 50 = .ok (.bipush (-3), 2) := by decide +kernel
theorem dX8_keep_52 : decode cX8_keep 52 = .ok (.ireturn, 1) := by decide +kernel
theorem dX8_keep_53 : decode cX8_keep 53 = .ok (.aload 4, 2) := by decide +kernel
theorem dX8_keep_55 : decode cX8_keep 55 = .ok (.iload_n 1, 1) := by decide +kernel
theorem dX8_keep_56 : decode cX8_keep 56 = .ok (.putfield 175, 3) := by decide +kernel
theorem dX8_keep_59 : decode cX8_keep 59 = .ok (.aload 4, 2) := by decide +kernel
theorem dX8_keep_61 : decode cX8_keep 61 = .ok (.iload_n 3, 1) := by decide +kernel
theorem dX8_keep_62 : decode cX8_keep 62 = .ok (.putfield 182, 3) := by decide +kernel
theorem dX8_keep_65 : decode cX8_keep 65 = .ok (.aload_n 0, 1) := by decide +kernel
theorem dX8_keep_66 : decode cX8_keep 66 = .ok (.iload_n 1, 1) := by decide +kernel
theorem dX8_keep_67 : decode cX8_keep 67 = .ok (.invokevirtual 185, 3) := by decide +kernel
theorem dX8_keep_70 : decode cX8_keep 70 = .ok (.ireturn, 1) := by decide +kernel
def pX8_keep (P : zp) (σ : zc_N) (a1 : Int32) (a2 : Int32) (a3 : Int32) : Prop := ((pX8_printAt P σ a2) ∧ (((rX8_isWithin a2 (0 : Int32) (((σ 3) 3) - (1 : Int32))) = (0 : Int32) → True) ∧ (¬ (rX8_isWithin a2 (0 : Int32) (((σ 3) 3) - (1 : Int32))) = (0 : Int32) → (a2.toNatClampNeg < P.2.1 ∧ (((rX8_isTool a1) = (0 : Int32) → True) ∧ (¬ (rX8_isTool a1) = (0 : Int32) → (((rX8_isWithin a3 (0 : Int32) (9999 : Int32)) = (0 : Int32) → True) ∧ (¬ (rX8_isWithin a3 (0 : Int32) (9999 : Int32)) = (0 : Int32) → ((((σ (pO a2.toNatClampNeg)) 3) = (-1 : Int32) → ((pX8_hasYear P σ a1 a3) ∧ (((rX8_hasYear σ a1 a3) = (0 : Int32) → (pX8_keptBy P (zu σ (pO a2.toNatClampNeg) (zu (zu (σ (pO a2.toNatClampNeg)) 3 a1) 4 a3)) a1)) ∧ (¬ (rX8_hasYear σ a1 a3) = (0 : Int32) → True)))) ∧ (¬ ((σ (pO a2.toNatClampNeg)) 3) = (-1 : Int32) → True))))))))))
noncomputable def rX8_keep (σ : zc_N) (a1 : Int32) (a2 : Int32) (a3 : Int32) : Int32 := (if (rX8_isWithin a2 (0 : Int32) (((σ 3) 3) - (1 : Int32))) = (0 : Int32) then (-1 : Int32) else (if (rX8_isTool a1) = (0 : Int32) then (-1 : Int32) else (if (rX8_isWithin a3 (0 : Int32) (9999 : Int32)) = (0 : Int32) then (-1 : Int32) else (if ((σ (pO a2.toNatClampNeg)) 3) = (-1 : Int32) then (if (rX8_hasYear σ a1 a3) = (0 : Int32) then (rX8_keptBy (zu σ (pO a2.toNatClampNeg) (zu (zu (σ (pO a2.toNatClampNeg)) 3 a1) 4 a3)) a1) else (-3 : Int32)) else (-3 : Int32)))))
noncomputable def sX8_keep (σ : zc_N) (a1 : Int32) (a2 : Int32) (a3 : Int32) : zc_N := (if (rX8_isWithin a2 (0 : Int32) (((σ 3) 3) - (1 : Int32))) = (0 : Int32) then σ else (if (rX8_isTool a1) = (0 : Int32) then σ else (if (rX8_isWithin a3 (0 : Int32) (9999 : Int32)) = (0 : Int32) then σ else (if ((σ (pO a2.toNatClampNeg)) 3) = (-1 : Int32) then (if (rX8_hasYear σ a1 a3) = (0 : Int32) then (zu σ (pO a2.toNatClampNeg) (zu (zu (σ (pO a2.toNatClampNeg)) 3 a1) 4 a3)) else σ) else σ))))
set_option maxHeartbeats 1000000 in
theorem ctX8_keep (P : zp) (σ : zc_N) (a1 : Int32) (a2 : Int32) (a3 : Int32) (W_ : (pX8_keep P σ a1 a2 a3)) : sp mX8_keep 2 0 0 [.ref 3, .int a1, .int a2, .int a3] (hh P σ) (fun r_ h_ => r_ = some (.int (rX8_keep σ a1 a2 a3)) ∧ h_ = hh P (sX8_keep σ a1 a2 a3)) := by
  refine sp_of (lv := [some (.ref 3), some (.int a1), some (.int a2), some (.int a3), none]) (by decide) (zcats_ok _ rfl) (Nat.le_of_ble_eq_true rfl) (zlv_ok _ 1 rfl) (fun G => ?_)
  generalize hQ_ : (fun (r_ : Option Value) (h_ : zc_H) => r_ = some (.int (rX8_keep σ a1 a2 a3)) ∧ h_ = hh P (sX8_keep σ a1 a2 a3)) = Q_
  unfold pX8_keep at W_
  refine z_aloadr_n dX8_keep_0 rfl ?_
  refine z_iload_n dX8_keep_1 rfl ?_
  refine z_callV (ci := 8) (r := (RX8, TX8, 12)) (b := 3) (As := [.int a2]) (rest := []) (ctX8_printAt P σ a2 W_.1) dX8_keep_2 lk_X8_117 lv_X8_printAt (Nat.le_of_ble_eq_true rfl) (zN rfl) rfl rfl rfl rfl (Nat.le_of_ble_eq_true rfl) (Nat.le_of_ble_eq_true rfl) (Nat.le_of_ble_eq_true rfl) (Nat.le_of_ble_eq_true rfl) (fun r_ h_ e_ => ?_)
  obtain ⟨e1_, e2_⟩ := e_
  subst e1_
  subst e2_
  show zz G mX8_keep 2 0 0 Q_ 5 [some (.ref 3), some (.int a1), some (.int a2), some (.int a3), none] [va_rf (if (rX8_isWithin a2 (0 : Int32) (((σ 3) 3) - (1 : Int32))) = (0 : Int32) then none else some (pO a2.toNatClampNeg))] (hh P σ) 0 0
  refine z_astore (r := (if (rX8_isWithin a2 (0 : Int32) (((σ 3) 3) - (1 : Int32))) = (0 : Int32) then none else some (pO a2.toNatClampNeg))) (lv' := [some (.ref 3), some (.int a1), some (.int a2), some (.int a3), some (va_rf (if (rX8_isWithin a2 (0 : Int32) (((σ 3) 3) - (1 : Int32))) = (0 : Int32) then none else some (pO a2.toNatClampNeg)))]) dX8_keep_5 (Nat.le_of_ble_eq_true rfl) rfl ?_
  refine z_aload (r := (if (rX8_isWithin a2 (0 : Int32) (((σ 3) 3) - (1 : Int32))) = (0 : Int32) then none else some (pO a2.toNatClampNeg))) dX8_keep_7 rfl ?_
  refine z_ifnullc (c := (rX8_isWithin a2 (0 : Int32) (((σ 3) 3) - (1 : Int32))) = (0 : Int32)) inferInstance (tgt := 30) dX8_keep_9 (by decide) (fun c_1 => ?_) (fun c_1 => ?_)
  · refine z_iconst dX8_keep_30 k_iconst_m1 ?_
    exact z_ireturn dX8_keep_31 rfl rfl (Nat.le_of_ble_eq_true rfl) (Nat.le_of_ble_eq_true rfl) (by rw [← hQ_]; exact ⟨(by rw [rX8_keep]; try simp only [if_pos c_1]), (by rw [sX8_keep]; try simp only [if_pos c_1])⟩)
  · have hp_2 := ((W_.2.2 c_1).1)
    try rw [if_neg c_1]
    show zz G mX8_keep 2 0 0 Q_ 12 [some (.ref 3), some (.int a1), some (.int a2), some (.int a3), some (.ref (pO a2.toNatClampNeg))] [] (hh P σ) 0 0
    refine z_iload_n dX8_keep_12 rfl ?_
    refine z_callS (As := [.int a1]) (rest := []) (ctX8_isTool P σ a1 (pzX8_isTool P σ a1)) dX8_keep_13 lk_X8_171 ls_X8_isTool rfl (Nat.le_of_ble_eq_true rfl) (Nat.le_of_ble_eq_true rfl) (Nat.le_of_ble_eq_true rfl) (Nat.le_of_ble_eq_true rfl) (fun r_ h_ e_ => ?_)
    obtain ⟨e1_, e2_⟩ := e_
    subst e1_
    subst e2_
    show zz G mX8_keep 2 0 0 Q_ 16 [some (.ref 3), some (.int a1), some (.int a2), some (.int a3), some (.ref (pO a2.toNatClampNeg))] [.int (rX8_isTool a1)] (hh P σ) 0 0
    refine z_if_eq (tgt := 30) dX8_keep_16 (by decide) (fun c_3 => ?_) (fun c_3 => ?_)
    · refine z_iconst dX8_keep_30 k_iconst_m1 ?_
      exact z_ireturn dX8_keep_31 rfl rfl (Nat.le_of_ble_eq_true rfl) (Nat.le_of_ble_eq_true rfl) (by rw [← hQ_]; exact ⟨(by rw [rX8_keep]; try simp only [if_neg c_1, if_pos c_3]), (by rw [sX8_keep]; try simp only [if_neg c_1, if_pos c_3])⟩)
    · refine z_iload_n dX8_keep_19 rfl ?_
      refine z_iconst dX8_keep_20 k_iconst_0 ?_
      refine z_sipush dX8_keep_21 k_sipush_9999 ?_
      refine z_callS (As := [.int a3, .int (0 : Int32), .int (9999 : Int32)]) (rest := []) (ctX8_isWithin P σ a3 (0 : Int32) (9999 : Int32)) dX8_keep_24 lk_X8_67 ls_X8_isWithin rfl (Nat.le_of_ble_eq_true rfl) (Nat.le_of_ble_eq_true rfl) (Nat.le_of_ble_eq_true rfl) (Nat.le_of_ble_eq_true rfl) (fun r_ h_ e_ => ?_)
      obtain ⟨e1_, e2_⟩ := e_
      subst e1_
      subst e2_
      show zz G mX8_keep 2 0 0 Q_ 27 [some (.ref 3), some (.int a1), some (.int a2), some (.int a3), some (.ref (pO a2.toNatClampNeg))] [.int (rX8_isWithin a3 (0 : Int32) (9999 : Int32))] (hh P σ) 0 0
      refine z_if_ne (tgt := 32) dX8_keep_27 (by decide) (fun c_4 => ?_) (fun c_4 => ?_)
      · refine z_aloadr dX8_keep_32 rfl ?_
        refine z_get (ci := 7) (r := (RX7, TX7, 5)) (j := 3) (v := .int ((σ (pO a2.toNatClampNeg)) 3)) dX8_keep_34 (z3O a2.toNatClampNeg) (zNO hp_2) (SH_pO P a2.toNatClampNeg) rfl (Nat.le_of_ble_eq_true rfl) fl_X8_175 rfl ?_
        refine z_iconst dX8_keep_37 k_iconst_m1 ?_
        refine z_icmp_ne (tgt := 50) dX8_keep_38 (by decide) (fun c_5 => ?_) (fun c_5 => ?_)
        · refine z_bipush dX8_keep_50 k_bipush_m3 ?_
          exact z_ireturn dX8_keep_52 rfl rfl (Nat.le_of_ble_eq_true rfl) (Nat.le_of_ble_eq_true rfl) (by rw [← hQ_]; exact ⟨(by rw [rX8_keep]; try simp only [if_neg c_1, if_neg c_3, if_neg c_4, if_neg c_5]), (by rw [sX8_keep]; try simp only [if_neg c_1, if_neg c_3, if_neg c_4, if_neg c_5])⟩)
        · refine z_aloadr_n dX8_keep_41 rfl ?_
          refine z_iload_n dX8_keep_42 rfl ?_
          refine z_iload_n dX8_keep_43 rfl ?_
          refine z_callV (ci := 8) (r := (RX8, TX8, 12)) (b := 3) (As := [.int a1, .int a3]) (rest := []) (ctX8_hasYear P σ a1 a3 (((((W_.2.2 c_1).2.2 c_3).2 c_4).1 c_5).1)) dX8_keep_44 lk_X8_178 lv_X8_hasYear (Nat.le_of_ble_eq_true rfl) (zN rfl) rfl rfl rfl rfl (Nat.le_of_ble_eq_true rfl) (Nat.le_of_ble_eq_true rfl) (Nat.le_of_ble_eq_true rfl) (Nat.le_of_ble_eq_true rfl) (fun r_ h_ e_ => ?_)
          obtain ⟨e1_, e2_⟩ := e_
          subst e1_
          subst e2_
          show zz G mX8_keep 2 0 0 Q_ 47 [some (.ref 3), some (.int a1), some (.int a2), some (.int a3), some (.ref (pO a2.toNatClampNeg))] [.int (rX8_hasYear σ a1 a3)] (hh P σ) 0 0
          refine z_if_eq (tgt := 53) dX8_keep_47 (by decide) (fun c_6 => ?_) (fun c_6 => ?_)
          · refine z_aloadr dX8_keep_53 rfl ?_
            refine z_iload_n dX8_keep_55 rfl ?_
            refine z_put (ci := 7) (r := (RX7, TX7, 5)) (j := 3) (σ' := (zu σ (pO a2.toNatClampNeg) (zu (σ (pO a2.toNatClampNeg)) 3 a1))) dX8_keep_56 (z3O a2.toNatClampNeg) (zNO hp_2) (SH_pO P a2.toNatClampNeg) rfl (Nat.le_of_ble_eq_true rfl) fl_X8_175 rfl rfl rfl rfl rfl ?_
            refine z_aloadr dX8_keep_59 rfl ?_
            refine z_iload_n dX8_keep_61 rfl ?_
            refine z_put (ci := 7) (r := (RX7, TX7, 5)) (j := 4) (σ' := (zu σ (pO a2.toNatClampNeg) (zu (zu (σ (pO a2.toNatClampNeg)) 3 a1) 4 a3))) dX8_keep_62 (z3O a2.toNatClampNeg) (zNO hp_2) (SH_pO P a2.toNatClampNeg) rfl (Nat.le_of_ble_eq_true rfl) fl_X8_182 rfl rfl rfl rfl ((congrArg (fun g_ => zu _ _ (zu g_ _ _)) (zu_self _ _ _)).trans (zu_zu _ _ _ _)) ?_
            refine z_aloadr_n dX8_keep_65 rfl ?_
            refine z_iload_n dX8_keep_66 rfl ?_
            refine z_callV (ci := 8) (r := (RX8, TX8, 12)) (b := 3) (As := [.int a1]) (rest := []) (ctX8_keptBy P (zu σ (pO a2.toNatClampNeg) (zu (zu (σ (pO a2.toNatClampNeg)) 3 a1) 4 a3)) a1 (((((W_.2.2 c_1).2.2 c_3).2 c_4).1 c_5).2.1 c_6)) dX8_keep_67 lk_X8_185 lv_X8_keptBy (Nat.le_of_ble_eq_true rfl) (zN rfl) rfl rfl rfl rfl (Nat.le_of_ble_eq_true rfl) (Nat.le_of_ble_eq_true rfl) (Nat.le_of_ble_eq_true rfl) (Nat.le_of_ble_eq_true rfl) (fun r_ h_ e_ => ?_)
            obtain ⟨e1_, e2_⟩ := e_
            subst e1_
            subst e2_
            show zz G mX8_keep 2 0 0 Q_ 70 [some (.ref 3), some (.int a1), some (.int a2), some (.int a3), some (.ref (pO a2.toNatClampNeg))] [.int (rX8_keptBy (zu σ (pO a2.toNatClampNeg) (zu (zu (σ (pO a2.toNatClampNeg)) 3 a1) 4 a3)) a1)] (hh P (zu σ (pO a2.toNatClampNeg) (zu (zu (σ (pO a2.toNatClampNeg)) 3 a1) 4 a3))) 0 0
            exact z_ireturn dX8_keep_70 rfl rfl (Nat.le_of_ble_eq_true rfl) (Nat.le_of_ble_eq_true rfl) (by rw [← hQ_]; exact ⟨(by rw [rX8_keep]; try simp only [if_neg c_1, if_neg c_3, if_neg c_4, if_pos c_5, if_pos c_6]), (by rw [sX8_keep]; try simp only [if_neg c_1, if_neg c_3, if_neg c_4, if_pos c_5, if_pos c_6])⟩)
          · refine z_bipush dX8_keep_50 k_bipush_m3 ?_
            exact z_ireturn dX8_keep_52 rfl rfl (Nat.le_of_ble_eq_true rfl) (Nat.le_of_ble_eq_true rfl) (by rw [← hQ_]; exact ⟨(by rw [rX8_keep]; try simp only [if_neg c_1, if_neg c_3, if_neg c_4, if_pos c_5, if_neg c_6]), (by rw [sX8_keep]; try simp only [if_neg c_1, if_neg c_3, if_neg c_4, if_pos c_5, if_neg c_6])⟩)
      · refine z_iconst dX8_keep_30 k_iconst_m1 ?_
        exact z_ireturn dX8_keep_31 rfl rfl (Nat.le_of_ble_eq_true rfl) (Nat.le_of_ble_eq_true rfl) (by rw [← hQ_]; exact ⟨(by rw [rX8_keep]; try simp only [if_neg c_1, if_neg c_3, if_pos c_4]), (by rw [sX8_keep]; try simp only [if_neg c_1, if_neg c_3, if_pos c_4])⟩)

theorem dX8_part_0 : decode cX8_part 0 = .ok (.aload_n 0, 1) := by decide +kernel
theorem dX8_part_1 : decode cX8_part 1 = .ok (.iload_n 1, 1) := by decide +kernel
theorem dX8_part_2 : decode cX8_part 2 = .ok (.invokevirtual 117, 3) := by decide +kernel
theorem dX8_part_5 : decode cX8_part 5 = .ok (.astore_n 2, 1) := by decide +kernel
theorem dX8_part_6 : decode cX8_part 6 = .ok (.aload_n 2, 1) := by decide +kernel
theorem dX8_part_7 : decode cX8_part 7 = .ok (.ifnonnull 5, 3) := by decide +kernel
theorem dX8_part_10 : decode cX8_part 10 = .ok (.iconst (-1), 1) := by decide +kernel
theorem dX8_part_11 : decode cX8_part 11 = .ok (.ireturn, 1) := by decide +kernel
theorem dX8_part_12 : decode cX8_part 12 = .ok (.aload_n 2, 1) := by decide +kernel
theorem dX8_part_13 : decode cX8_part 13 = .ok (.getfield 175, 3) := by decide +kernel
theorem dX8_part_16 : decode cX8_part 16 = .ok (.iconst (-1), 1) := by decide +kernel
theorem dX8_part_17 : decode cX8_part 17 = .ok (.if_icmp .ne 6, 3) := by decide +kernel
theorem dX8_part_20 : decode cX8_part 20 = .ok (.bipush (-4), 2) := by decide +kernel
theorem dX8_part_22 : decode cX8_part 22 = .ok (.ireturn, 1) := by decide +kernel
theorem dX8_part_23 : decode cX8_part 23 = .ok (.aload_n 2, 1) := by decide +kernel
theorem dX8_part_24 : decode cX8_part 24 = .ok (.iconst (-1), 1) := by decide +kernel
theorem dX8_part_25 : decode cX8_part 25 = .ok (.putfield 175, 3) := by decide +kernel
theorem dX8_part_28 : decode cX8_part 28 = .ok (.aload_n 2, 1) := by decide +kernel
theorem dX8_part_29 : decode cX8_part 29 = .ok (.iconst (-1), 1) := by decide +kernel
theorem dX8_part_30 : decode cX8_part 30 = .ok (.putfield 182, 3) := by decide +kernel
theorem dX8_part_33 : decode cX8_part 33 = .ok (.iconst 1, 1) := by decide +kernel
theorem dX8_part_34 : decode cX8_part 34 = .ok (.ireturn, 1) := by decide +kernel
def pX8_part (P : zp) (σ : zc_N) (a1 : Int32) : Prop := ((pX8_printAt P σ a1) ∧ (((rX8_isWithin a1 (0 : Int32) (((σ 3) 3) - (1 : Int32))) = (0 : Int32) → True) ∧ (¬ (rX8_isWithin a1 (0 : Int32) (((σ 3) 3) - (1 : Int32))) = (0 : Int32) → a1.toNatClampNeg < P.2.1)))
noncomputable def rX8_part (σ : zc_N) (a1 : Int32) : Int32 := (if (rX8_isWithin a1 (0 : Int32) (((σ 3) 3) - (1 : Int32))) = (0 : Int32) then (-1 : Int32) else (if ((σ (pO a1.toNatClampNeg)) 3) = (-1 : Int32) then (-4 : Int32) else (1 : Int32)))
noncomputable def sX8_part (σ : zc_N) (a1 : Int32) : zc_N := (if (rX8_isWithin a1 (0 : Int32) (((σ 3) 3) - (1 : Int32))) = (0 : Int32) then σ else (if ((σ (pO a1.toNatClampNeg)) 3) = (-1 : Int32) then σ else (zu σ (pO a1.toNatClampNeg) (zu (zu (σ (pO a1.toNatClampNeg)) 3 (-1 : Int32)) 4 (-1 : Int32)))))
set_option maxHeartbeats 1000000 in
theorem ctX8_part (P : zp) (σ : zc_N) (a1 : Int32) (W_ : (pX8_part P σ a1)) : sp mX8_part 2 0 0 [.ref 3, .int a1] (hh P σ) (fun r_ h_ => r_ = some (.int (rX8_part σ a1)) ∧ h_ = hh P (sX8_part σ a1)) := by
  refine sp_of (lv := [some (.ref 3), some (.int a1), none]) (by decide) (zcats_ok _ rfl) (Nat.le_of_ble_eq_true rfl) (zlv_ok _ 1 rfl) (fun G => ?_)
  generalize hQ_ : (fun (r_ : Option Value) (h_ : zc_H) => r_ = some (.int (rX8_part σ a1)) ∧ h_ = hh P (sX8_part σ a1)) = Q_
  unfold pX8_part at W_
  refine z_aloadr_n dX8_part_0 rfl ?_
  refine z_iload_n dX8_part_1 rfl ?_
  refine z_callV (ci := 8) (r := (RX8, TX8, 12)) (b := 3) (As := [.int a1]) (rest := []) (ctX8_printAt P σ a1 W_.1) dX8_part_2 lk_X8_117 lv_X8_printAt (Nat.le_of_ble_eq_true rfl) (zN rfl) rfl rfl rfl rfl (Nat.le_of_ble_eq_true rfl) (Nat.le_of_ble_eq_true rfl) (Nat.le_of_ble_eq_true rfl) (Nat.le_of_ble_eq_true rfl) (fun r_ h_ e_ => ?_)
  obtain ⟨e1_, e2_⟩ := e_
  subst e1_
  subst e2_
  show zz G mX8_part 2 0 0 Q_ 5 [some (.ref 3), some (.int a1), none] [va_rf (if (rX8_isWithin a1 (0 : Int32) (((σ 3) 3) - (1 : Int32))) = (0 : Int32) then none else some (pO a1.toNatClampNeg))] (hh P σ) 0 0
  refine z_astore_n (r := (if (rX8_isWithin a1 (0 : Int32) (((σ 3) 3) - (1 : Int32))) = (0 : Int32) then none else some (pO a1.toNatClampNeg))) (lv' := [some (.ref 3), some (.int a1), some (va_rf (if (rX8_isWithin a1 (0 : Int32) (((σ 3) 3) - (1 : Int32))) = (0 : Int32) then none else some (pO a1.toNatClampNeg)))]) dX8_part_5 (Nat.le_of_ble_eq_true rfl) rfl ?_
  refine z_aload_n (r := (if (rX8_isWithin a1 (0 : Int32) (((σ 3) 3) - (1 : Int32))) = (0 : Int32) then none else some (pO a1.toNatClampNeg))) dX8_part_6 rfl ?_
  refine z_ifnonnullc (c := (rX8_isWithin a1 (0 : Int32) (((σ 3) 3) - (1 : Int32))) = (0 : Int32)) inferInstance (tgt := 12) dX8_part_7 (by decide) (fun c_1 => ?_) (fun c_1 => ?_)
  · have hp_2 := (W_.2.2 c_1)
    try rw [if_neg c_1]
    show zz G mX8_part 2 0 0 Q_ 12 [some (.ref 3), some (.int a1), some (.ref (pO a1.toNatClampNeg))] [] (hh P σ) 0 0
    refine z_aloadr_n dX8_part_12 rfl ?_
    refine z_get (ci := 7) (r := (RX7, TX7, 5)) (j := 3) (v := .int ((σ (pO a1.toNatClampNeg)) 3)) dX8_part_13 (z3O a1.toNatClampNeg) (zNO hp_2) (SH_pO P a1.toNatClampNeg) rfl (Nat.le_of_ble_eq_true rfl) fl_X8_175 rfl ?_
    refine z_iconst dX8_part_16 k_iconst_m1 ?_
    refine z_icmp_ne (tgt := 23) dX8_part_17 (by decide) (fun c_3 => ?_) (fun c_3 => ?_)
    · refine z_aloadr_n dX8_part_23 rfl ?_
      refine z_iconst dX8_part_24 k_iconst_m1 ?_
      refine z_put (ci := 7) (r := (RX7, TX7, 5)) (j := 3) (σ' := (zu σ (pO a1.toNatClampNeg) (zu (σ (pO a1.toNatClampNeg)) 3 (-1 : Int32)))) dX8_part_25 (z3O a1.toNatClampNeg) (zNO hp_2) (SH_pO P a1.toNatClampNeg) rfl (Nat.le_of_ble_eq_true rfl) fl_X8_175 rfl rfl rfl rfl rfl ?_
      refine z_aloadr_n dX8_part_28 rfl ?_
      refine z_iconst dX8_part_29 k_iconst_m1 ?_
      refine z_put (ci := 7) (r := (RX7, TX7, 5)) (j := 4) (σ' := (zu σ (pO a1.toNatClampNeg) (zu (zu (σ (pO a1.toNatClampNeg)) 3 (-1 : Int32)) 4 (-1 : Int32)))) dX8_part_30 (z3O a1.toNatClampNeg) (zNO hp_2) (SH_pO P a1.toNatClampNeg) rfl (Nat.le_of_ble_eq_true rfl) fl_X8_182 rfl rfl rfl rfl ((congrArg (fun g_ => zu _ _ (zu g_ _ _)) (zu_self _ _ _)).trans (zu_zu _ _ _ _)) ?_
      refine z_iconst dX8_part_33 k_iconst_1 ?_
      exact z_ireturn dX8_part_34 rfl rfl (Nat.le_of_ble_eq_true rfl) (Nat.le_of_ble_eq_true rfl) (by rw [← hQ_]; exact ⟨(by rw [rX8_part]; try simp only [if_neg c_1, if_neg c_3]), (by rw [sX8_part]; try simp only [if_neg c_1, if_neg c_3])⟩)
    · refine z_bipush dX8_part_20 k_bipush_m4 ?_
      exact z_ireturn dX8_part_22 rfl rfl (Nat.le_of_ble_eq_true rfl) (Nat.le_of_ble_eq_true rfl) (by rw [← hQ_]; exact ⟨(by rw [rX8_part]; try simp only [if_neg c_1, if_pos c_3]), (by rw [sX8_part]; try simp only [if_neg c_1, if_pos c_3])⟩)
  · refine z_iconst dX8_part_10 k_iconst_m1 ?_
    exact z_ireturn dX8_part_11 rfl rfl (Nat.le_of_ble_eq_true rfl) (Nat.le_of_ble_eq_true rfl) (by rw [← hQ_]; exact ⟨(by rw [rX8_part]; try simp only [if_pos c_1]), (by rw [sX8_part]; try simp only [if_pos c_1])⟩)

theorem dX8_of_0 : decode cX8_of 0 = .ok (.aload_n 0, 1) := by decide +kernel
theorem dX8_of_1 : decode cX8_of 1 = .ok (.iload_n 1, 1) := by decide +kernel
theorem dX8_of_2 : decode cX8_of 2 = .ok (.invokevirtual 117, 3) := by decide +kernel
theorem dX8_of_5 : decode cX8_of 5 = .ok (.astore_n 3, 1) := by decide +kernel
theorem dX8_of_6 : decode cX8_of 6 = .ok (.aload_n 3, 1) := by decide +kernel
theorem dX8_of_7 : decode cX8_of 7 = .ok (.ifnull 12, 3) := by decide +kernel
theorem dX8_of_10 : decode cX8_of 10 = .ok (.iload_n 2, 1) := by decide +kernel
theorem dX8_of_11 : decode cX8_of 11 = .ok (.iconst 0, 1) := by decide +kernel
theorem dX8_of_12 : decode cX8_of 12 = .ok (.iconst 1, 1) := by decide +kernel
theorem dX8_of_13 : decode cX8_of 13 = .ok (.invokestatic 67, 3) := by decide +kernel
theorem dX8_of_16 : decode cX8_of 16 = .ok (.ifCond .ne 7, 3) := by decide +kernel
theorem dX8_of_19 : decode cX8_of 19 = .ok (.sipush (-1000), 3) := by decide +kernel
theorem dX8_of_22 : decode cX8_of 22 = .ok (.ireturn, 1) := by decide +kernel
theorem dX8_of_23 : decode cX8_of 23 = .ok (.iload_n 2, 1) := by decide +kernel
theorem dX8_of_24 : decode cX8_of 24 = .ok (.ifCond .ne 10, 3) := by decide +kernel
theorem dX8_of_27 : decode cX8_of 27 = .ok (.aload_n 3, 1) := by decide +kernel
theorem dX8_of_28 : decode cX8_of 28 = .ok (.getfield 175, 3) := by decide +kernel
theorem dX8_of_31 : decode cX8_of 31 = .ok (.goto 7, 3) := by decide +kernel
theorem dX8_of_34 : decode cX8_of 34 = .ok (.aload_n 3, 1) := by decide +kernel
theorem dX8_of_35 : decode cX8_of 35 = .ok (.getfield 182, 3) := by decide +kernel
theorem dX8_of_38 : decode cX8_of 38 = .ok (.ireturn, 1) := by decide +kernel
def pX8_of (P : zp) (σ : zc_N) (a1 : Int32) : Prop := ((pX8_printAt P σ a1) ∧ (((rX8_isWithin a1 (0 : Int32) (((σ 3) 3) - (1 : Int32))) = (0 : Int32) → True) ∧ (¬ (rX8_isWithin a1 (0 : Int32) (((σ 3) 3) - (1 : Int32))) = (0 : Int32) → a1.toNatClampNeg < P.2.1)))
noncomputable def rX8_of (σ : zc_N) (a1 : Int32) (a2 : Int32) : Int32 := (if (rX8_isWithin a1 (0 : Int32) (((σ 3) 3) - (1 : Int32))) = (0 : Int32) then (-1000 : Int32) else (if (rX8_isWithin a2 (0 : Int32) (1 : Int32)) = (0 : Int32) then (-1000 : Int32) else (if a2 = (0 : Int32) then ((σ (pO a1.toNatClampNeg)) 3) else ((σ (pO a1.toNatClampNeg)) 4))))
set_option maxHeartbeats 1000000 in
theorem ctX8_of (P : zp) (σ : zc_N) (a1 : Int32) (a2 : Int32) (W_ : (pX8_of P σ a1)) : sp mX8_of 2 0 0 [.ref 3, .int a1, .int a2] (hh P σ) (fun r_ h_ => r_ = some (.int (rX8_of σ a1 a2)) ∧ h_ = hh P σ) := by
  refine sp_of (lv := [some (.ref 3), some (.int a1), some (.int a2), none]) (by decide) (zcats_ok _ rfl) (Nat.le_of_ble_eq_true rfl) (zlv_ok _ 1 rfl) (fun G => ?_)
  generalize hQ_ : (fun (r_ : Option Value) (h_ : zc_H) => r_ = some (.int (rX8_of σ a1 a2)) ∧ h_ = hh P σ) = Q_
  unfold pX8_of at W_
  refine z_aloadr_n dX8_of_0 rfl ?_
  refine z_iload_n dX8_of_1 rfl ?_
  refine z_callV (ci := 8) (r := (RX8, TX8, 12)) (b := 3) (As := [.int a1]) (rest := []) (ctX8_printAt P σ a1 W_.1) dX8_of_2 lk_X8_117 lv_X8_printAt (Nat.le_of_ble_eq_true rfl) (zN rfl) rfl rfl rfl rfl (Nat.le_of_ble_eq_true rfl) (Nat.le_of_ble_eq_true rfl) (Nat.le_of_ble_eq_true rfl) (Nat.le_of_ble_eq_true rfl) (fun r_ h_ e_ => ?_)
  obtain ⟨e1_, e2_⟩ := e_
  subst e1_
  subst e2_
  show zz G mX8_of 2 0 0 Q_ 5 [some (.ref 3), some (.int a1), some (.int a2), none] [va_rf (if (rX8_isWithin a1 (0 : Int32) (((σ 3) 3) - (1 : Int32))) = (0 : Int32) then none else some (pO a1.toNatClampNeg))] (hh P σ) 0 0
  refine z_astore_n (r := (if (rX8_isWithin a1 (0 : Int32) (((σ 3) 3) - (1 : Int32))) = (0 : Int32) then none else some (pO a1.toNatClampNeg))) (lv' := [some (.ref 3), some (.int a1), some (.int a2), some (va_rf (if (rX8_isWithin a1 (0 : Int32) (((σ 3) 3) - (1 : Int32))) = (0 : Int32) then none else some (pO a1.toNatClampNeg)))]) dX8_of_5 (Nat.le_of_ble_eq_true rfl) rfl ?_
  refine z_aload_n (r := (if (rX8_isWithin a1 (0 : Int32) (((σ 3) 3) - (1 : Int32))) = (0 : Int32) then none else some (pO a1.toNatClampNeg))) dX8_of_6 rfl ?_
  refine z_ifnullc (c := (rX8_isWithin a1 (0 : Int32) (((σ 3) 3) - (1 : Int32))) = (0 : Int32)) inferInstance (tgt := 19) dX8_of_7 (by decide) (fun c_1 => ?_) (fun c_1 => ?_)
  · refine z_sipush dX8_of_19 k_sipush_m1000 ?_
    exact z_ireturn dX8_of_22 rfl rfl (Nat.le_of_ble_eq_true rfl) (Nat.le_of_ble_eq_true rfl) (by rw [← hQ_]; exact ⟨(by rw [rX8_of]; try simp only [if_pos c_1]), rfl⟩)
  · have hp_2 := (W_.2.2 c_1)
    try rw [if_neg c_1]
    show zz G mX8_of 2 0 0 Q_ 10 [some (.ref 3), some (.int a1), some (.int a2), some (.ref (pO a1.toNatClampNeg))] [] (hh P σ) 0 0
    refine z_iload_n dX8_of_10 rfl ?_
    refine z_iconst dX8_of_11 k_iconst_0 ?_
    refine z_iconst dX8_of_12 k_iconst_1 ?_
    refine z_callS (As := [.int a2, .int (0 : Int32), .int (1 : Int32)]) (rest := []) (ctX8_isWithin P σ a2 (0 : Int32) (1 : Int32)) dX8_of_13 lk_X8_67 ls_X8_isWithin rfl (Nat.le_of_ble_eq_true rfl) (Nat.le_of_ble_eq_true rfl) (Nat.le_of_ble_eq_true rfl) (Nat.le_of_ble_eq_true rfl) (fun r_ h_ e_ => ?_)
    obtain ⟨e1_, e2_⟩ := e_
    subst e1_
    subst e2_
    show zz G mX8_of 2 0 0 Q_ 16 [some (.ref 3), some (.int a1), some (.int a2), some (.ref (pO a1.toNatClampNeg))] [.int (rX8_isWithin a2 (0 : Int32) (1 : Int32))] (hh P σ) 0 0
    refine z_if_ne (tgt := 23) dX8_of_16 (by decide) (fun c_3 => ?_) (fun c_3 => ?_)
    · refine z_iload_n dX8_of_23 rfl ?_
      have K_1 : zz G mX8_of 2 0 0 Q_ 38 [none, none, none, none] [.int (if a2 = (0 : Int32) then ((σ (pO a1.toNatClampNeg)) 3) else ((σ (pO a1.toNatClampNeg)) 4))] (hh P σ) 0 0 := by
        exact z_ireturn dX8_of_38 rfl rfl (Nat.le_of_ble_eq_true rfl) (Nat.le_of_ble_eq_true rfl) (by rw [← hQ_]; exact ⟨(by rw [rX8_of]; try simp only [if_neg c_1, if_neg c_3]), rfl⟩)
      refine z_if_ne (tgt := 34) dX8_of_24 (by decide) (fun c_4 => ?_) (fun c_4 => ?_)
      · refine z_aloadr_n dX8_of_34 rfl ?_
        refine z_get (ci := 7) (r := (RX7, TX7, 5)) (j := 4) (v := .int ((σ (pO a1.toNatClampNeg)) 4)) dX8_of_35 (z3O a1.toNatClampNeg) (zNO hp_2) (SH_pO P a1.toNatClampNeg) rfl (Nat.le_of_ble_eq_true rfl) fl_X8_182 rfl ?_
        refine zz_sub (lv' := [none, none, none, none]) trivial ?_
        rw [show (if a2 = (0 : Int32) then ((σ (pO a1.toNatClampNeg)) 3) else ((σ (pO a1.toNatClampNeg)) 4)) = ((σ (pO a1.toNatClampNeg)) 4) from (if_neg c_4)] at K_1
        exact K_1
      · refine z_aloadr_n dX8_of_27 rfl ?_
        refine z_get (ci := 7) (r := (RX7, TX7, 5)) (j := 3) (v := .int ((σ (pO a1.toNatClampNeg)) 3)) dX8_of_28 (z3O a1.toNatClampNeg) (zNO hp_2) (SH_pO P a1.toNatClampNeg) rfl (Nat.le_of_ble_eq_true rfl) fl_X8_175 rfl ?_
        refine z_goto (tgt := 38) dX8_of_31 (by decide) ?_
        refine zz_sub (lv' := [none, none, none, none]) trivial ?_
        rw [show (if a2 = (0 : Int32) then ((σ (pO a1.toNatClampNeg)) 3) else ((σ (pO a1.toNatClampNeg)) 4)) = ((σ (pO a1.toNatClampNeg)) 3) from (if_pos c_4)] at K_1
        exact K_1
    · refine z_sipush dX8_of_19 k_sipush_m1000 ?_
      exact z_ireturn dX8_of_22 rfl rfl (Nat.le_of_ble_eq_true rfl) (Nat.le_of_ble_eq_true rfl) (by rw [← hQ_]; exact ⟨(by rw [rX8_of]; try simp only [if_neg c_1, if_pos c_3]), rfl⟩)

theorem dX8_lay_0 : decode cX8_lay 0 = .ok (.aload_n 0, 1) := by decide +kernel
theorem dX8_lay_1 : decode cX8_lay 1 = .ok (.iload_n 1, 1) := by decide +kernel
theorem dX8_lay_2 : decode cX8_lay 2 = .ok (.invokevirtual 117, 3) := by decide +kernel
theorem dX8_lay_5 : decode cX8_lay 5 = .ok (.astore 6, 2) := by decide +kernel
theorem dX8_lay_7 : decode cX8_lay 7 = .ok (.aload_n 0, 1) := by decide +kernel
theorem dX8_lay_8 : decode cX8_lay 8 = .ok (.iload_n 2, 1) := by decide +kernel
theorem dX8_lay_9 : decode cX8_lay 9 = .ok (.invokevirtual 117, 3) := by decide +kernel
theorem dX8_lay_12 : decode cX8_lay 12 = .ok (.astore 7, 2) := by decide +kernel
theorem dX8_lay_14 : decode cX8_lay 14 = .ok (.aload 6, 2) := by decide +kernel
theorem dX8_lay_16 : decode cX8_lay 16 = .ok (.ifnull 17, 3) := by decide +kernel
theorem dX8_lay_19 : decode cX8_lay 19 = .ok (.aload 7, 2) := by decide +kernel
theorem dX8_lay_21 : decode cX8_lay 21 = .ok (.ifnull 12, 3) := by decide +kernel
theorem dX8_lay_24 : decode cX8_lay 24 = .ok (.iload_n 3, 1) := by decide +kernel
theorem dX8_lay_25 : decode cX8_lay 25 = .ok (.iconst 0, 1) := by decide +kernel
theorem dX8_lay_26 : decode cX8_lay 26 = .ok (.iconst 3, 1) := by decide +kernel
theorem dX8_lay_27 : decode cX8_lay 27 = .ok (.invokestatic 67, 3) := by decide +kernel
theorem dX8_lay_30 : decode cX8_lay 30 = .ok (.ifCond .ne 7, 3) := by decide +kernel
theorem dX8_lay_33 : decode cX8_lay 33 = .ok (.sipush (-1000), 3) := by decide +kernel
theorem dX8_lay_36 : decode cX8_lay 36 = .ok (.ireturn, 1) := by decide +kernel
theorem dX8_lay_37 : decode cX8_lay 37 = .ok (.iload 4, 2) := by decide +kernel
theorem dX8_lay_39 : decode cX8_lay 39 = .ok (.bipush (-30), 2) := by decide +kernel
theorem dX8_lay_41 : decode cX8_lay 41 = .ok (.bipush 30, 2) := by decide +kernel
theorem dX8_lay_43 : decode cX8_lay 43 = .ok (.invokestatic 67, 3) := by decide +kernel
theorem dX8_lay_46 : decode cX8_lay 46 = .ok (.ifCond .eq 15, 3) := by decide +kernel
theorem dX8_lay_49 : decode cX8_lay 49 = .ok (.iload 5, 2) := by decide +kernel
theorem dX8_lay_51 : decode cX8_lay 51 = .ok (.bipush (-30), 2) := by decide +kernel
theorem dX8_lay_53 : decode cX8_lay 53 = .ok (.bipush 30, 2) := by decide +kernel
theorem dX8_lay_55 : decode cX8_lay 55 = .ok (.invokestatic 67, 3) := by decide +kernel
theorem dX8_lay_58 : decode cX8_lay 58 = .ok (.ifCond .ne 7, 3) := by decide +kernel
theorem dX8_lay_61 : decode cX8_lay 61 = .ok (.sipush (-1000), 3) := by decide +kernel
theorem dX8_lay_64 : decode cX8_lay 64 = .ok (.ireturn, 1) := by decide +kernel
theorem dX8_lay_65 : decode cX8_lay 65 = .ok (.aload_n 0, 1) := by decide +kernel
theorem dX8_lay_66 : decode cX8_lay 66 = .ok (.getfield 40, 3) := by decide +kernel
theorem dX8_lay_69 : decode cX8_lay 69 = .ok (.iload_n 3, 1) := by decide +kernel
theorem dX8_lay_70 : decode cX8_lay 70 = .ok (.iload 4, 2) := by decide +kernel
theorem dX8_lay_72 : decode cX8_lay 72 = .ok (.iload 5, 2) := by decide +kernel
theorem dX8_lay_74 : decode cX8_lay 74 = .ok (.invokevirtual 136, 3) := by decide +kernel
theorem dX8_lay_77 : decode cX8_lay 77 = .ok (.aload_n 0, 1) := by decide +kernel
theorem dX8_lay_78 : decode cX8_lay 78 = .ok (.getfield 33, 3) := by decide +kernel
theorem dX8_lay_81 : decode cX8_lay 81 = .ok (.aload 6, 2) := by decide +kernel
theorem dX8_lay_83 : decode cX8_lay 83 = .ok (.aload 7, 2) := by decide +kernel
theorem dX8_lay_85 : decode cX8_lay 85 = .ok (.aload_n 0, 1) := by decide +kernel
theorem dX8_lay_86 : decode cX8_lay 86 = .ok (.getfield 40, 3) := by decide +kernel
theorem dX8_lay_89 : decode cX8_lay 89 = .ok (.invokevirtual 140, 3) := by decide +kernel
theorem dX8_lay_92 : decode cX8_lay 92 = .ok (.aload_n 0, 1) := by decide +kernel
theorem dX8_lay_93 : decode cX8_lay 93 = .ok (.iconst 1, 1) := by decide +kernel
theorem dX8_lay_94 : decode cX8_lay 94 = .ok (.putfield 44, 3) := by decide +kernel
theorem dX8_lay_97 : decode cX8_lay 97 = .ok (.aload_n 0, 1) := by decide +kernel
theorem dX8_lay_98 : decode cX8_lay 98 = .ok (.getfield 40, 3) := by decide +kernel
theorem dX8_lay_101 : decode cX8_lay 101 = .ok (.getfield 144, 3) := by decide +kernel
theorem dX8_lay_104 : decode cX8_lay 104 = .ok (.ireturn, 1) := by decide +kernel
def pX8_lay (P : zp) (σ : zc_N) (a1 : Int32) (a2 : Int32) (a3 : Int32) (a4 : Int32) (a5 : Int32) : Prop := ((pX8_printAt P σ a1) ∧ ((pX8_printAt P σ a2) ∧ (((rX8_isWithin a1 (0 : Int32) (((σ 3) 3) - (1 : Int32))) = (0 : Int32) → True) ∧ (¬ (rX8_isWithin a1 (0 : Int32) (((σ 3) 3) - (1 : Int32))) = (0 : Int32) → (a1.toNatClampNeg < P.2.1 ∧ (((rX8_isWithin a2 (0 : Int32) (((σ 3) 3) - (1 : Int32))) = (0 : Int32) → True) ∧ (¬ (rX8_isWithin a2 (0 : Int32) (((σ 3) 3) - (1 : Int32))) = (0 : Int32) → (a2.toNatClampNeg < P.2.1 ∧ (((rX8_isWithin a3 (0 : Int32) (3 : Int32)) = (0 : Int32) → True) ∧ (¬ (rX8_isWithin a3 (0 : Int32) (3 : Int32)) = (0 : Int32) → (((rX8_isWithin a4 (-30 : Int32) (30 : Int32)) = (0 : Int32) → True) ∧ (¬ (rX8_isWithin a4 (-30 : Int32) (30 : Int32)) = (0 : Int32) → (((rX8_isWithin a5 (-30 : Int32) (30 : Int32)) = (0 : Int32) → True) ∧ (¬ (rX8_isWithin a5 (-30 : Int32) (30 : Int32)) = (0 : Int32) → (pX4_fillIn_l P (sX3_set_l σ a3 a4 a5) a1.toNatClampNeg a2.toNatClampNeg)))))))))))))))
noncomputable def rX8_lay (P : zp) (σ : zc_N) (a1 : Int32) (a2 : Int32) (a3 : Int32) (a4 : Int32) (a5 : Int32) : Int32 := (if (rX8_isWithin a1 (0 : Int32) (((σ 3) 3) - (1 : Int32))) = (0 : Int32) then (-1000 : Int32) else (if (rX8_isWithin a2 (0 : Int32) (((σ 3) 3) - (1 : Int32))) = (0 : Int32) then (-1000 : Int32) else (if (rX8_isWithin a3 (0 : Int32) (3 : Int32)) = (0 : Int32) then (-1000 : Int32) else (if (rX8_isWithin a4 (-30 : Int32) (30 : Int32)) = (0 : Int32) then (-1000 : Int32) else (if (rX8_isWithin a5 (-30 : Int32) (30 : Int32)) = (0 : Int32) then (-1000 : Int32) else (((sX4_fillIn_l P (sX3_set_l σ a3 a4 a5) a1.toNatClampNeg a2.toNatClampNeg) 23) 6))))))
noncomputable def sX8_lay (P : zp) (σ : zc_N) (a1 : Int32) (a2 : Int32) (a3 : Int32) (a4 : Int32) (a5 : Int32) : zc_N := (if (rX8_isWithin a1 (0 : Int32) (((σ 3) 3) - (1 : Int32))) = (0 : Int32) then σ else (if (rX8_isWithin a2 (0 : Int32) (((σ 3) 3) - (1 : Int32))) = (0 : Int32) then σ else (if (rX8_isWithin a3 (0 : Int32) (3 : Int32)) = (0 : Int32) then σ else (if (rX8_isWithin a4 (-30 : Int32) (30 : Int32)) = (0 : Int32) then σ else (if (rX8_isWithin a5 (-30 : Int32) (30 : Int32)) = (0 : Int32) then σ else (zu (sX4_fillIn_l P (sX3_set_l σ a3 a4 a5) a1.toNatClampNeg a2.toNatClampNeg) 3 (zu ((sX4_fillIn_l P (sX3_set_l σ a3 a4 a5) a1.toNatClampNeg a2.toNatClampNeg) 3) 6 (1 : Int32))))))))
set_option maxHeartbeats 1000000 in
theorem ctX8_lay (P : zp) (σ : zc_N) (a1 : Int32) (a2 : Int32) (a3 : Int32) (a4 : Int32) (a5 : Int32) (W_ : (pX8_lay P σ a1 a2 a3 a4 a5)) : sp mX8_lay 18 0 0 [.ref 3, .int a1, .int a2, .int a3, .int a4, .int a5] (hh P σ) (fun r_ h_ => r_ = some (.int (rX8_lay P σ a1 a2 a3 a4 a5)) ∧ h_ = hh P (sX8_lay P σ a1 a2 a3 a4 a5)) := by
  refine sp_of (lv := [some (.ref 3), some (.int a1), some (.int a2), some (.int a3), some (.int a4), some (.int a5), none, none]) (by decide) (zcats_ok _ rfl) (Nat.le_of_ble_eq_true rfl) (zlv_ok _ 2 rfl) (fun G => ?_)
  generalize hQ_ : (fun (r_ : Option Value) (h_ : zc_H) => r_ = some (.int (rX8_lay P σ a1 a2 a3 a4 a5)) ∧ h_ = hh P (sX8_lay P σ a1 a2 a3 a4 a5)) = Q_
  unfold pX8_lay at W_
  refine z_aloadr_n dX8_lay_0 rfl ?_
  refine z_iload_n dX8_lay_1 rfl ?_
  refine z_callV (ci := 8) (r := (RX8, TX8, 12)) (b := 3) (As := [.int a1]) (rest := []) (ctX8_printAt P σ a1 W_.1) dX8_lay_2 lk_X8_117 lv_X8_printAt (Nat.le_of_ble_eq_true rfl) (zN rfl) rfl rfl rfl rfl (Nat.le_of_ble_eq_true rfl) (Nat.le_of_ble_eq_true rfl) (Nat.le_of_ble_eq_true rfl) (Nat.le_of_ble_eq_true rfl) (fun r_ h_ e_ => ?_)
  obtain ⟨e1_, e2_⟩ := e_
  subst e1_
  subst e2_
  show zz G mX8_lay 18 0 0 Q_ 5 [some (.ref 3), some (.int a1), some (.int a2), some (.int a3), some (.int a4), some (.int a5), none, none] [va_rf (if (rX8_isWithin a1 (0 : Int32) (((σ 3) 3) - (1 : Int32))) = (0 : Int32) then none else some (pO a1.toNatClampNeg))] (hh P σ) 0 0
  refine z_astore (r := (if (rX8_isWithin a1 (0 : Int32) (((σ 3) 3) - (1 : Int32))) = (0 : Int32) then none else some (pO a1.toNatClampNeg))) (lv' := [some (.ref 3), some (.int a1), some (.int a2), some (.int a3), some (.int a4), some (.int a5), some (va_rf (if (rX8_isWithin a1 (0 : Int32) (((σ 3) 3) - (1 : Int32))) = (0 : Int32) then none else some (pO a1.toNatClampNeg))), none]) dX8_lay_5 (Nat.le_of_ble_eq_true rfl) rfl ?_
  refine z_aloadr_n dX8_lay_7 rfl ?_
  refine z_iload_n dX8_lay_8 rfl ?_
  refine z_callV (ci := 8) (r := (RX8, TX8, 12)) (b := 3) (As := [.int a2]) (rest := []) (ctX8_printAt P σ a2 W_.2.1) dX8_lay_9 lk_X8_117 lv_X8_printAt (Nat.le_of_ble_eq_true rfl) (zN rfl) rfl rfl rfl rfl (Nat.le_of_ble_eq_true rfl) (Nat.le_of_ble_eq_true rfl) (Nat.le_of_ble_eq_true rfl) (Nat.le_of_ble_eq_true rfl) (fun r_ h_ e_ => ?_)
  obtain ⟨e1_, e2_⟩ := e_
  subst e1_
  subst e2_
  show zz G mX8_lay 18 0 0 Q_ 12 [some (.ref 3), some (.int a1), some (.int a2), some (.int a3), some (.int a4), some (.int a5), some (va_rf (if (rX8_isWithin a1 (0 : Int32) (((σ 3) 3) - (1 : Int32))) = (0 : Int32) then none else some (pO a1.toNatClampNeg))), none] [va_rf (if (rX8_isWithin a2 (0 : Int32) (((σ 3) 3) - (1 : Int32))) = (0 : Int32) then none else some (pO a2.toNatClampNeg))] (hh P σ) 0 0
  refine z_astore (r := (if (rX8_isWithin a2 (0 : Int32) (((σ 3) 3) - (1 : Int32))) = (0 : Int32) then none else some (pO a2.toNatClampNeg))) (lv' := [some (.ref 3), some (.int a1), some (.int a2), some (.int a3), some (.int a4), some (.int a5), some (va_rf (if (rX8_isWithin a1 (0 : Int32) (((σ 3) 3) - (1 : Int32))) = (0 : Int32) then none else some (pO a1.toNatClampNeg))), some (va_rf (if (rX8_isWithin a2 (0 : Int32) (((σ 3) 3) - (1 : Int32))) = (0 : Int32) then none else some (pO a2.toNatClampNeg)))]) dX8_lay_12 (Nat.le_of_ble_eq_true rfl) rfl ?_
  refine z_aload (r := (if (rX8_isWithin a1 (0 : Int32) (((σ 3) 3) - (1 : Int32))) = (0 : Int32) then none else some (pO a1.toNatClampNeg))) dX8_lay_14 rfl ?_
  refine z_ifnullc (c := (rX8_isWithin a1 (0 : Int32) (((σ 3) 3) - (1 : Int32))) = (0 : Int32)) inferInstance (tgt := 33) dX8_lay_16 (by decide) (fun c_1 => ?_) (fun c_1 => ?_)
  · refine z_sipush dX8_lay_33 k_sipush_m1000 ?_
    exact z_ireturn dX8_lay_36 rfl rfl (Nat.le_of_ble_eq_true rfl) (Nat.le_of_ble_eq_true rfl) (by rw [← hQ_]; exact ⟨(by rw [rX8_lay]; try simp only [if_pos c_1]), (by rw [sX8_lay]; try simp only [if_pos c_1])⟩)
  · have hp_2 := ((W_.2.2.2 c_1).1)
    try rw [if_neg c_1]
    show zz G mX8_lay 18 0 0 Q_ 19 [some (.ref 3), some (.int a1), some (.int a2), some (.int a3), some (.int a4), some (.int a5), some (.ref (pO a1.toNatClampNeg)), some (va_rf (if (rX8_isWithin a2 (0 : Int32) (((σ 3) 3) - (1 : Int32))) = (0 : Int32) then none else some (pO a2.toNatClampNeg)))] [] (hh P σ) 0 0
    refine z_aload (r := (if (rX8_isWithin a2 (0 : Int32) (((σ 3) 3) - (1 : Int32))) = (0 : Int32) then none else some (pO a2.toNatClampNeg))) dX8_lay_19 rfl ?_
    refine z_ifnullc (c := (rX8_isWithin a2 (0 : Int32) (((σ 3) 3) - (1 : Int32))) = (0 : Int32)) inferInstance (tgt := 33) dX8_lay_21 (by decide) (fun c_3 => ?_) (fun c_3 => ?_)
    · refine z_sipush dX8_lay_33 k_sipush_m1000 ?_
      exact z_ireturn dX8_lay_36 rfl rfl (Nat.le_of_ble_eq_true rfl) (Nat.le_of_ble_eq_true rfl) (by rw [← hQ_]; exact ⟨(by rw [rX8_lay]; try simp only [if_neg c_1, if_pos c_3]), (by rw [sX8_lay]; try simp only [if_neg c_1, if_pos c_3])⟩)
    · have hp_4 := (((W_.2.2.2 c_1).2.2 c_3).1)
      try rw [if_neg c_3]
      show zz G mX8_lay 18 0 0 Q_ 24 [some (.ref 3), some (.int a1), some (.int a2), some (.int a3), some (.int a4), some (.int a5), some (.ref (pO a1.toNatClampNeg)), some (.ref (pO a2.toNatClampNeg))] [] (hh P σ) 0 0
      refine z_iload_n dX8_lay_24 rfl ?_
      refine z_iconst dX8_lay_25 k_iconst_0 ?_
      refine z_iconst dX8_lay_26 k_iconst_3 ?_
      refine z_callS (As := [.int a3, .int (0 : Int32), .int (3 : Int32)]) (rest := []) (ctX8_isWithin P σ a3 (0 : Int32) (3 : Int32)) dX8_lay_27 lk_X8_67 ls_X8_isWithin rfl (Nat.le_of_ble_eq_true rfl) (Nat.le_of_ble_eq_true rfl) (Nat.le_of_ble_eq_true rfl) (Nat.le_of_ble_eq_true rfl) (fun r_ h_ e_ => ?_)
      obtain ⟨e1_, e2_⟩ := e_
      subst e1_
      subst e2_
      show zz G mX8_lay 18 0 0 Q_ 30 [some (.ref 3), some (.int a1), some (.int a2), some (.int a3), some (.int a4), some (.int a5), some (.ref (pO a1.toNatClampNeg)), some (.ref (pO a2.toNatClampNeg))] [.int (rX8_isWithin a3 (0 : Int32) (3 : Int32))] (hh P σ) 0 0
      refine z_if_ne (tgt := 37) dX8_lay_30 (by decide) (fun c_5 => ?_) (fun c_5 => ?_)
      · refine z_iload dX8_lay_37 rfl ?_
        refine z_bipush dX8_lay_39 k_bipush_m30 ?_
        refine z_bipush dX8_lay_41 k_bipush_30 ?_
        refine z_callS (As := [.int a4, .int (-30 : Int32), .int (30 : Int32)]) (rest := []) (ctX8_isWithin P σ a4 (-30 : Int32) (30 : Int32)) dX8_lay_43 lk_X8_67 ls_X8_isWithin rfl (Nat.le_of_ble_eq_true rfl) (Nat.le_of_ble_eq_true rfl) (Nat.le_of_ble_eq_true rfl) (Nat.le_of_ble_eq_true rfl) (fun r_ h_ e_ => ?_)
        obtain ⟨e1_, e2_⟩ := e_
        subst e1_
        subst e2_
        show zz G mX8_lay 18 0 0 Q_ 46 [some (.ref 3), some (.int a1), some (.int a2), some (.int a3), some (.int a4), some (.int a5), some (.ref (pO a1.toNatClampNeg)), some (.ref (pO a2.toNatClampNeg))] [.int (rX8_isWithin a4 (-30 : Int32) (30 : Int32))] (hh P σ) 0 0
        refine z_if_eq (tgt := 61) dX8_lay_46 (by decide) (fun c_6 => ?_) (fun c_6 => ?_)
        · refine z_sipush dX8_lay_61 k_sipush_m1000 ?_
          exact z_ireturn dX8_lay_64 rfl rfl (Nat.le_of_ble_eq_true rfl) (Nat.le_of_ble_eq_true rfl) (by rw [← hQ_]; exact ⟨(by rw [rX8_lay]; try simp only [if_neg c_1, if_neg c_3, if_neg c_5, if_pos c_6]), (by rw [sX8_lay]; try simp only [if_neg c_1, if_neg c_3, if_neg c_5, if_pos c_6])⟩)
        · refine z_iload dX8_lay_49 rfl ?_
          refine z_bipush dX8_lay_51 k_bipush_m30 ?_
          refine z_bipush dX8_lay_53 k_bipush_30 ?_
          refine z_callS (As := [.int a5, .int (-30 : Int32), .int (30 : Int32)]) (rest := []) (ctX8_isWithin P σ a5 (-30 : Int32) (30 : Int32)) dX8_lay_55 lk_X8_67 ls_X8_isWithin rfl (Nat.le_of_ble_eq_true rfl) (Nat.le_of_ble_eq_true rfl) (Nat.le_of_ble_eq_true rfl) (Nat.le_of_ble_eq_true rfl) (fun r_ h_ e_ => ?_)
          obtain ⟨e1_, e2_⟩ := e_
          subst e1_
          subst e2_
          show zz G mX8_lay 18 0 0 Q_ 58 [some (.ref 3), some (.int a1), some (.int a2), some (.int a3), some (.int a4), some (.int a5), some (.ref (pO a1.toNatClampNeg)), some (.ref (pO a2.toNatClampNeg))] [.int (rX8_isWithin a5 (-30 : Int32) (30 : Int32))] (hh P σ) 0 0
          refine z_if_ne (tgt := 65) dX8_lay_58 (by decide) (fun c_7 => ?_) (fun c_7 => ?_)
          · refine z_aloadr_n dX8_lay_65 rfl ?_
            refine z_get (ci := 8) (r := (RX8, TX8, 12)) (j := 5) (v := .ref 23) dX8_lay_66 (Nat.le_of_ble_eq_true rfl) (zN rfl) rfl rfl (Nat.le_of_ble_eq_true rfl) fl_X8_40 rfl ?_
            refine z_iload_n dX8_lay_69 rfl ?_
            refine z_iload dX8_lay_70 rfl ?_
            refine z_iload dX8_lay_72 rfl ?_
            refine z_callV (ci := 3) (r := (RX3, TX3, 10)) (b := 23) (As := [.int a3, .int a4, .int a5]) (rest := []) (ctX3_set_l P σ a3 a4 a5) dX8_lay_74 lk_X8_136 lv_X3_set (Nat.le_of_ble_eq_true rfl) (zN rfl) rfl rfl rfl rfl (Nat.le_of_ble_eq_true rfl) (Nat.le_of_ble_eq_true rfl) (Nat.le_of_ble_eq_true rfl) (Nat.le_of_ble_eq_true rfl) (fun r_ h_ e_ => ?_)
            obtain ⟨e1_, e2_⟩ := e_
            subst e1_
            subst e2_
            show zz G mX8_lay 18 0 0 Q_ 77 [some (.ref 3), some (.int a1), some (.int a2), some (.int a3), some (.int a4), some (.int a5), some (.ref (pO a1.toNatClampNeg)), some (.ref (pO a2.toNatClampNeg))] [] (hh P (sX3_set_l σ a3 a4 a5)) 0 0
            refine z_aloadr_n dX8_lay_77 rfl ?_
            refine z_get (ci := 8) (r := (RX8, TX8, 12)) (j := 4) (v := .ref 10) dX8_lay_78 (Nat.le_of_ble_eq_true rfl) (zN rfl) rfl rfl (Nat.le_of_ble_eq_true rfl) fl_X8_33 rfl ?_
            refine z_aloadr dX8_lay_81 rfl ?_
            refine z_aloadr dX8_lay_83 rfl ?_
            refine z_aloadr_n dX8_lay_85 rfl ?_
            refine z_get (ci := 8) (r := (RX8, TX8, 12)) (j := 5) (v := .ref 23) dX8_lay_86 (Nat.le_of_ble_eq_true rfl) (zN rfl) rfl rfl (Nat.le_of_ble_eq_true rfl) fl_X8_40 rfl ?_
            refine z_callV (ci := 4) (r := (RX4, TX4, 10)) (b := 10) (As := [.ref (pO a1.toNatClampNeg), .ref (pO a2.toNatClampNeg), .ref 23]) (rest := []) (ctX4_fillIn_l P (sX3_set_l σ a3 a4 a5) a1.toNatClampNeg hp_2 a2.toNatClampNeg hp_4 (((((W_.2.2.2 c_1).2.2 c_3).2.2 c_5).2 c_6).2 c_7)) dX8_lay_89 lk_X8_140 lv_X4_fillIn (Nat.le_of_ble_eq_true rfl) (zN rfl) rfl rfl rfl rfl (Nat.le_of_ble_eq_true rfl) (Nat.le_of_ble_eq_true rfl) (Nat.le_of_ble_eq_true rfl) (Nat.le_of_ble_eq_true rfl) (fun r_ h_ e_ => ?_)
            obtain ⟨e1_, e2_⟩ := e_
            subst e1_
            subst e2_
            show zz G mX8_lay 18 0 0 Q_ 92 [some (.ref 3), some (.int a1), some (.int a2), some (.int a3), some (.int a4), some (.int a5), some (.ref (pO a1.toNatClampNeg)), some (.ref (pO a2.toNatClampNeg))] [] (hh P (sX4_fillIn_l P (sX3_set_l σ a3 a4 a5) a1.toNatClampNeg a2.toNatClampNeg)) 0 0
            refine z_aloadr_n dX8_lay_92 rfl ?_
            refine z_iconst dX8_lay_93 k_iconst_1 ?_
            refine z_put (ci := 8) (r := (RX8, TX8, 12)) (j := 6) (σ' := (zu (sX4_fillIn_l P (sX3_set_l σ a3 a4 a5) a1.toNatClampNeg a2.toNatClampNeg) 3 (zu ((sX4_fillIn_l P (sX3_set_l σ a3 a4 a5) a1.toNatClampNeg a2.toNatClampNeg) 3) 6 (1 : Int32)))) dX8_lay_94 (Nat.le_of_ble_eq_true rfl) (zN rfl) rfl rfl (Nat.le_of_ble_eq_true rfl) fl_X8_44 rfl rfl rfl rfl rfl ?_
            refine z_aloadr_n dX8_lay_97 rfl ?_
            refine z_get (ci := 8) (r := (RX8, TX8, 12)) (j := 5) (v := .ref 23) dX8_lay_98 (Nat.le_of_ble_eq_true rfl) (zN rfl) rfl rfl (Nat.le_of_ble_eq_true rfl) fl_X8_40 rfl ?_
            refine z_get (ci := 3) (r := (RX3, TX3, 10)) (j := 6) (v := .int (((sX4_fillIn_l P (sX3_set_l σ a3 a4 a5) a1.toNatClampNeg a2.toNatClampNeg) 23) 6)) dX8_lay_101 (Nat.le_of_ble_eq_true rfl) (zN rfl) rfl rfl (Nat.le_of_ble_eq_true rfl) fl_X8_144 (congrArg Value.int (congrFun (zu_ne _ _ (by decide)) _)) ?_
            exact z_ireturn dX8_lay_104 rfl rfl (Nat.le_of_ble_eq_true rfl) (Nat.le_of_ble_eq_true rfl) (by rw [← hQ_]; exact ⟨(by rw [rX8_lay]; try simp only [if_neg c_1, if_neg c_3, if_neg c_5, if_neg c_6, if_neg c_7]), (by rw [sX8_lay]; try simp only [if_neg c_1, if_neg c_3, if_neg c_5, if_neg c_6, if_neg c_7])⟩)
          · refine z_sipush dX8_lay_61 k_sipush_m1000 ?_
            exact z_ireturn dX8_lay_64 rfl rfl (Nat.le_of_ble_eq_true rfl) (Nat.le_of_ble_eq_true rfl) (by rw [← hQ_]; exact ⟨(by rw [rX8_lay]; try simp only [if_neg c_1, if_neg c_3, if_neg c_5, if_neg c_6, if_pos c_7]), (by rw [sX8_lay]; try simp only [if_neg c_1, if_neg c_3, if_neg c_5, if_neg c_6, if_pos c_7])⟩)
      · refine z_sipush dX8_lay_33 k_sipush_m1000 ?_
        exact z_ireturn dX8_lay_36 rfl rfl (Nat.le_of_ble_eq_true rfl) (Nat.le_of_ble_eq_true rfl) (by rw [← hQ_]; exact ⟨(by rw [rX8_lay]; try simp only [if_neg c_1, if_neg c_3, if_pos c_5]), (by rw [sX8_lay]; try simp only [if_neg c_1, if_neg c_3, if_pos c_5])⟩)

theorem dX8_match_0 : decode cX8_match 0 = .ok (.aload_n 0, 1) := by decide +kernel
theorem dX8_match_1 : decode cX8_match 1 = .ok (.iload_n 1, 1) := by decide +kernel
theorem dX8_match_2 : decode cX8_match 2 = .ok (.invokevirtual 117, 3) := by decide +kernel
theorem dX8_match_5 : decode cX8_match 5 = .ok (.astore_n 3, 1) := by decide +kernel
theorem dX8_match_6 : decode cX8_match 6 = .ok (.aload_n 0, 1) := by decide +kernel
theorem dX8_match_7 : decode cX8_match 7 = .ok (.iload_n 2, 1) := by decide +kernel
theorem dX8_match_8 : decode cX8_match 8 = .ok (.invokevirtual 117, 3) := by decide +kernel
theorem dX8_match_11 : decode cX8_match 11 = .ok (.astore 4, 2) := by decide +kernel
theorem dX8_match_13 : decode cX8_match 13 = .ok (.aload_n 3, 1) := by decide +kernel
theorem dX8_match_14 : decode cX8_match 14 = .ok (.ifnull 8, 3) := by decide +kernel
theorem dX8_match_17 : decode cX8_match 17 = .ok (.aload 4, 2) := by decide +kernel
theorem dX8_match_19 : decode cX8_match 19 = .ok (.ifnonnull 7, 3) := by decide +kernel
theorem dX8_match_22 : decode cX8_match 22 = .ok (.sipush (-1000), 3) := by decide +kernel
theorem dX8_match_25 : decode cX8_match 25 = .ok (.ireturn, 1) := by decide +kernel
theorem dX8_match_26 : decode cX8_match 26 = .ok (.aload_n 0, 1) := by decide +kernel
theorem dX8_match_27 : decode cX8_match 27 = .ok (.getfield 33, 3) := by decide +kernel
theorem dX8_match_30 : decode cX8_match 30 = .ok (.aload_n 3, 1) := by decide +kernel
theorem dX8_match_31 : decode cX8_match 31 = .ok (.aload 4, 2) := by decide +kernel
theorem dX8_match_33 : decode cX8_match 33 = .ok (.aload_n 0, 1) := by decide +kernel
theorem dX8_match_34 : decode cX8_match 34 = .ok (.getfield 40, 3) := by decide +kernel
theorem dX8_match_37 : decode cX8_match 37 = .ok (.invokevirtual 147, 3) := by decide +kernel
theorem dX8_match_40 : decode cX8_match 40 = .ok (.aload_n 0, 1) := by decide +kernel
theorem dX8_match_41 : decode cX8_match 41 = .ok (.iconst 1, 1) := by decide +kernel
theorem dX8_match_42 : decode cX8_match 42 = .ok (.putfield 44, 3) := by decide +kernel
theorem dX8_match_45 : decode cX8_match 45 = .ok (.aload_n 0, 1) := by decide +kernel
theorem dX8_match_46 : decode cX8_match 46 = .ok (.getfield 40, 3) := by decide +kernel
theorem dX8_match_49 : decode cX8_match 49 = .ok (.getfield 144, 3) := by decide +kernel
theorem dX8_match_52 : decode cX8_match 52 = .ok (.ireturn, 1) := by decide +kernel
def pX8_match (P : zp) (σ : zc_N) (a1 : Int32) (a2 : Int32) : Prop := ((pX8_printAt P σ a1) ∧ ((pX8_printAt P σ a2) ∧ (((rX8_isWithin a1 (0 : Int32) (((σ 3) 3) - (1 : Int32))) = (0 : Int32) → True) ∧ (¬ (rX8_isWithin a1 (0 : Int32) (((σ 3) 3) - (1 : Int32))) = (0 : Int32) → (a1.toNatClampNeg < P.2.1 ∧ (((rX8_isWithin a2 (0 : Int32) (((σ 3) 3) - (1 : Int32))) = (0 : Int32) → True) ∧ (¬ (rX8_isWithin a2 (0 : Int32) (((σ 3) 3) - (1 : Int32))) = (0 : Int32) → (a2.toNatClampNeg < P.2.1 ∧ (pX4_layBest_l P σ a1.toNatClampNeg a2.toNatClampNeg)))))))))
noncomputable def rX8_match (P : zp) (σ : zc_N) (a1 : Int32) (a2 : Int32) : Int32 := (if (rX8_isWithin a1 (0 : Int32) (((σ 3) 3) - (1 : Int32))) = (0 : Int32) then (-1000 : Int32) else (if (rX8_isWithin a2 (0 : Int32) (((σ 3) 3) - (1 : Int32))) = (0 : Int32) then (-1000 : Int32) else (((sX4_layBest_l P σ a1.toNatClampNeg a2.toNatClampNeg) 23) 6)))
noncomputable def sX8_match (P : zp) (σ : zc_N) (a1 : Int32) (a2 : Int32) : zc_N := (if (rX8_isWithin a1 (0 : Int32) (((σ 3) 3) - (1 : Int32))) = (0 : Int32) then σ else (if (rX8_isWithin a2 (0 : Int32) (((σ 3) 3) - (1 : Int32))) = (0 : Int32) then σ else (zu (sX4_layBest_l P σ a1.toNatClampNeg a2.toNatClampNeg) 3 (zu ((sX4_layBest_l P σ a1.toNatClampNeg a2.toNatClampNeg) 3) 6 (1 : Int32)))))
set_option maxHeartbeats 1000000 in
theorem ctX8_match (P : zp) (σ : zc_N) (a1 : Int32) (a2 : Int32) (W_ : (pX8_match P σ a1 a2)) : sp mX8_match 19 0 0 [.ref 3, .int a1, .int a2] (hh P σ) (fun r_ h_ => r_ = some (.int (rX8_match P σ a1 a2)) ∧ h_ = hh P (sX8_match P σ a1 a2)) := by
  refine sp_of (lv := [some (.ref 3), some (.int a1), some (.int a2), none, none]) (by decide) (zcats_ok _ rfl) (Nat.le_of_ble_eq_true rfl) (zlv_ok _ 2 rfl) (fun G => ?_)
  generalize hQ_ : (fun (r_ : Option Value) (h_ : zc_H) => r_ = some (.int (rX8_match P σ a1 a2)) ∧ h_ = hh P (sX8_match P σ a1 a2)) = Q_
  unfold pX8_match at W_
  refine z_aloadr_n dX8_match_0 rfl ?_
  refine z_iload_n dX8_match_1 rfl ?_
  refine z_callV (ci := 8) (r := (RX8, TX8, 12)) (b := 3) (As := [.int a1]) (rest := []) (ctX8_printAt P σ a1 W_.1) dX8_match_2 lk_X8_117 lv_X8_printAt (Nat.le_of_ble_eq_true rfl) (zN rfl) rfl rfl rfl rfl (Nat.le_of_ble_eq_true rfl) (Nat.le_of_ble_eq_true rfl) (Nat.le_of_ble_eq_true rfl) (Nat.le_of_ble_eq_true rfl) (fun r_ h_ e_ => ?_)
  obtain ⟨e1_, e2_⟩ := e_
  subst e1_
  subst e2_
  show zz G mX8_match 19 0 0 Q_ 5 [some (.ref 3), some (.int a1), some (.int a2), none, none] [va_rf (if (rX8_isWithin a1 (0 : Int32) (((σ 3) 3) - (1 : Int32))) = (0 : Int32) then none else some (pO a1.toNatClampNeg))] (hh P σ) 0 0
  refine z_astore_n (r := (if (rX8_isWithin a1 (0 : Int32) (((σ 3) 3) - (1 : Int32))) = (0 : Int32) then none else some (pO a1.toNatClampNeg))) (lv' := [some (.ref 3), some (.int a1), some (.int a2), some (va_rf (if (rX8_isWithin a1 (0 : Int32) (((σ 3) 3) - (1 : Int32))) = (0 : Int32) then none else some (pO a1.toNatClampNeg))), none]) dX8_match_5 (Nat.le_of_ble_eq_true rfl) rfl ?_
  refine z_aloadr_n dX8_match_6 rfl ?_
  refine z_iload_n dX8_match_7 rfl ?_
  refine z_callV (ci := 8) (r := (RX8, TX8, 12)) (b := 3) (As := [.int a2]) (rest := []) (ctX8_printAt P σ a2 W_.2.1) dX8_match_8 lk_X8_117 lv_X8_printAt (Nat.le_of_ble_eq_true rfl) (zN rfl) rfl rfl rfl rfl (Nat.le_of_ble_eq_true rfl) (Nat.le_of_ble_eq_true rfl) (Nat.le_of_ble_eq_true rfl) (Nat.le_of_ble_eq_true rfl) (fun r_ h_ e_ => ?_)
  obtain ⟨e1_, e2_⟩ := e_
  subst e1_
  subst e2_
  show zz G mX8_match 19 0 0 Q_ 11 [some (.ref 3), some (.int a1), some (.int a2), some (va_rf (if (rX8_isWithin a1 (0 : Int32) (((σ 3) 3) - (1 : Int32))) = (0 : Int32) then none else some (pO a1.toNatClampNeg))), none] [va_rf (if (rX8_isWithin a2 (0 : Int32) (((σ 3) 3) - (1 : Int32))) = (0 : Int32) then none else some (pO a2.toNatClampNeg))] (hh P σ) 0 0
  refine z_astore (r := (if (rX8_isWithin a2 (0 : Int32) (((σ 3) 3) - (1 : Int32))) = (0 : Int32) then none else some (pO a2.toNatClampNeg))) (lv' := [some (.ref 3), some (.int a1), some (.int a2), some (va_rf (if (rX8_isWithin a1 (0 : Int32) (((σ 3) 3) - (1 : Int32))) = (0 : Int32) then none else some (pO a1.toNatClampNeg))), some (va_rf (if (rX8_isWithin a2 (0 : Int32) (((σ 3) 3) - (1 : Int32))) = (0 : Int32) then none else some (pO a2.toNatClampNeg)))]) dX8_match_11 (Nat.le_of_ble_eq_true rfl) rfl ?_
  refine z_aload_n (r := (if (rX8_isWithin a1 (0 : Int32) (((σ 3) 3) - (1 : Int32))) = (0 : Int32) then none else some (pO a1.toNatClampNeg))) dX8_match_13 rfl ?_
  refine z_ifnullc (c := (rX8_isWithin a1 (0 : Int32) (((σ 3) 3) - (1 : Int32))) = (0 : Int32)) inferInstance (tgt := 22) dX8_match_14 (by decide) (fun c_1 => ?_) (fun c_1 => ?_)
  · refine z_sipush dX8_match_22 k_sipush_m1000 ?_
    exact z_ireturn dX8_match_25 rfl rfl (Nat.le_of_ble_eq_true rfl) (Nat.le_of_ble_eq_true rfl) (by rw [← hQ_]; exact ⟨(by rw [rX8_match]; try simp only [if_pos c_1]), (by rw [sX8_match]; try simp only [if_pos c_1])⟩)
  · have hp_2 := ((W_.2.2.2 c_1).1)
    try rw [if_neg c_1]
    show zz G mX8_match 19 0 0 Q_ 17 [some (.ref 3), some (.int a1), some (.int a2), some (.ref (pO a1.toNatClampNeg)), some (va_rf (if (rX8_isWithin a2 (0 : Int32) (((σ 3) 3) - (1 : Int32))) = (0 : Int32) then none else some (pO a2.toNatClampNeg)))] [] (hh P σ) 0 0
    refine z_aload (r := (if (rX8_isWithin a2 (0 : Int32) (((σ 3) 3) - (1 : Int32))) = (0 : Int32) then none else some (pO a2.toNatClampNeg))) dX8_match_17 rfl ?_
    refine z_ifnonnullc (c := (rX8_isWithin a2 (0 : Int32) (((σ 3) 3) - (1 : Int32))) = (0 : Int32)) inferInstance (tgt := 26) dX8_match_19 (by decide) (fun c_3 => ?_) (fun c_3 => ?_)
    · have hp_4 := (((W_.2.2.2 c_1).2.2 c_3).1)
      try rw [if_neg c_3]
      show zz G mX8_match 19 0 0 Q_ 26 [some (.ref 3), some (.int a1), some (.int a2), some (.ref (pO a1.toNatClampNeg)), some (.ref (pO a2.toNatClampNeg))] [] (hh P σ) 0 0
      refine z_aloadr_n dX8_match_26 rfl ?_
      refine z_get (ci := 8) (r := (RX8, TX8, 12)) (j := 4) (v := .ref 10) dX8_match_27 (Nat.le_of_ble_eq_true rfl) (zN rfl) rfl rfl (Nat.le_of_ble_eq_true rfl) fl_X8_33 rfl ?_
      refine z_aloadr_n dX8_match_30 rfl ?_
      refine z_aloadr dX8_match_31 rfl ?_
      refine z_aloadr_n dX8_match_33 rfl ?_
      refine z_get (ci := 8) (r := (RX8, TX8, 12)) (j := 5) (v := .ref 23) dX8_match_34 (Nat.le_of_ble_eq_true rfl) (zN rfl) rfl rfl (Nat.le_of_ble_eq_true rfl) fl_X8_40 rfl ?_
      refine z_callV (ci := 4) (r := (RX4, TX4, 10)) (b := 10) (As := [.ref (pO a1.toNatClampNeg), .ref (pO a2.toNatClampNeg), .ref 23]) (rest := []) (ctX4_layBest_l P σ a1.toNatClampNeg hp_2 a2.toNatClampNeg hp_4 (((W_.2.2.2 c_1).2.2 c_3).2)) dX8_match_37 lk_X8_147 lv_X4_layBest (Nat.le_of_ble_eq_true rfl) (zN rfl) rfl rfl rfl rfl (Nat.le_of_ble_eq_true rfl) (Nat.le_of_ble_eq_true rfl) (Nat.le_of_ble_eq_true rfl) (Nat.le_of_ble_eq_true rfl) (fun r_ h_ e_ => ?_)
      obtain ⟨e1_, e2_⟩ := e_
      subst e1_
      subst e2_
      show zz G mX8_match 19 0 0 Q_ 40 [some (.ref 3), some (.int a1), some (.int a2), some (.ref (pO a1.toNatClampNeg)), some (.ref (pO a2.toNatClampNeg))] [] (hh P (sX4_layBest_l P σ a1.toNatClampNeg a2.toNatClampNeg)) 0 0
      refine z_aloadr_n dX8_match_40 rfl ?_
      refine z_iconst dX8_match_41 k_iconst_1 ?_
      refine z_put (ci := 8) (r := (RX8, TX8, 12)) (j := 6) (σ' := (zu (sX4_layBest_l P σ a1.toNatClampNeg a2.toNatClampNeg) 3 (zu ((sX4_layBest_l P σ a1.toNatClampNeg a2.toNatClampNeg) 3) 6 (1 : Int32)))) dX8_match_42 (Nat.le_of_ble_eq_true rfl) (zN rfl) rfl rfl (Nat.le_of_ble_eq_true rfl) fl_X8_44 rfl rfl rfl rfl rfl ?_
      refine z_aloadr_n dX8_match_45 rfl ?_
      refine z_get (ci := 8) (r := (RX8, TX8, 12)) (j := 5) (v := .ref 23) dX8_match_46 (Nat.le_of_ble_eq_true rfl) (zN rfl) rfl rfl (Nat.le_of_ble_eq_true rfl) fl_X8_40 rfl ?_
      refine z_get (ci := 3) (r := (RX3, TX3, 10)) (j := 6) (v := .int (((sX4_layBest_l P σ a1.toNatClampNeg a2.toNatClampNeg) 23) 6)) dX8_match_49 (Nat.le_of_ble_eq_true rfl) (zN rfl) rfl rfl (Nat.le_of_ble_eq_true rfl) fl_X8_144 (congrArg Value.int (congrFun (zu_ne _ _ (by decide)) _)) ?_
      exact z_ireturn dX8_match_52 rfl rfl (Nat.le_of_ble_eq_true rfl) (Nat.le_of_ble_eq_true rfl) (by rw [← hQ_]; exact ⟨(by rw [rX8_match]; try simp only [if_neg c_1, if_neg c_3]), (by rw [sX8_match]; try simp only [if_neg c_1, if_neg c_3])⟩)
    · refine z_sipush dX8_match_22 k_sipush_m1000 ?_
      exact z_ireturn dX8_match_25 rfl rfl (Nat.le_of_ble_eq_true rfl) (Nat.le_of_ble_eq_true rfl) (by rw [← hQ_]; exact ⟨(by rw [rX8_match]; try simp only [if_neg c_1, if_pos c_3]), (by rw [sX8_match]; try simp only [if_neg c_1, if_pos c_3])⟩)

theorem dX8_count_0 : decode cX8_count 0 = .ok (.iload_n 1, 1) := by decide +kernel
theorem dX8_count_1 : decode cX8_count 1 = .ok (.tableswitch 61 0 3 #[31, 36, 41, 49], 31) := by decide +kernel
theorem dX8_count_32 : decode cX8_count 32 = .ok (.aload_n 0, 1) := by decide +kernel
theorem dX8_count_33 : decode cX8_count 33 = .ok (.getfield 26, 3) := by decide +kernel
theorem dX8_count_36 : decode cX8_count 36 = .ok (.ireturn, 1) := by decide +kernel
theorem dX8_count_37 : decode cX8_count 37 = .ok (.aload_n 0, 1) := by decide +kernel
theorem dX8_count_38 : decode cX8_count 38 = .ok (.invokevirtual 228, 3) := by decide +kernel
theorem dX8_count_41 : decode cX8_count 41 = .ok (.ireturn, 1) := by decide +kernel
theorem dX8_count_42 : decode cX8_count 42 = .ok (.aload_n 0, 1) := by decide +kernel
theorem dX8_count_43 : decode cX8_count 43 = .ok (.getfield 12, 3) := by decide +kernel
theorem dX8_count_46 : decode cX8_count 46 = .ok (.invokevirtual 76, 3) := by decide +kernel
theorem dX8_count_49 : decode cX8_count 49 = .ok (.ireturn, 1) := by decide +kernel
theorem dX8_count_50 : decode cX8_count 50 = .ok (.aload_n 0, 1) := by decide +kernel
theorem dX8_count_51 : decode cX8_count 51 = .ok (.getfield 12, 3) := by decide +kernel
theorem dX8_count_54 : decode cX8_count 54 = .ok (.aload_n 0, 1) := by decide +kernel
theorem dX8_count_55 : decode cX8_count 55 = .ok (.getfield 16, 3) := by decide +kernel
theorem dX8_count_58 : decode cX8_count 58 = .ok (.invokevirtual 93, 3) := by decide +kernel
theorem dX8_count_61 : decode cX8_count 61 = .ok (.ireturn, 1) := by decide +kernel
theorem dX8_count_62 : decode cX8_count 62 = .ok (.iconst (-1), 1) := by decide +kernel
theorem dX8_count_63 : decode cX8_count 63 = .ok (.ireturn, 1) := by decide +kernel
def pX8_count (P : zp) (σ : zc_N) (a1 : Int32) : Prop := ((a1 = (0 : Int32) → True) ∧ ((a1 = (1 : Int32) → (pX8_toolsWithPrints P σ)) ∧ ((a1 = (2 : Int32) → True) ∧ ((a1 = (3 : Int32) → (pX1_readPoints σ)) ∧ (¬ a1 = (0 : Int32) → ¬ a1 = (1 : Int32) → ¬ a1 = (2 : Int32) → ¬ a1 = (3 : Int32) → True)))))
noncomputable def rX8_count (σ : zc_N) (a1 : Int32) : Int32 := (if a1 = (0 : Int32) then ((σ 3) 3) else (if a1 = (1 : Int32) then (rX8_toolsWithPrints σ) else (if a1 = (2 : Int32) then (rX1_darkCells σ) else (if a1 = (3 : Int32) then (rX1_readPoints σ) else (-1 : Int32)))))
noncomputable def sX8_count (σ : zc_N) (a1 : Int32) : zc_N := (if a1 = (0 : Int32) then σ else (if a1 = (1 : Int32) then σ else (if a1 = (2 : Int32) then σ else (if a1 = (3 : Int32) then (sX1_readPoints σ) else σ))))
set_option maxHeartbeats 1000000 in
theorem ctX8_count (P : zp) (σ : zc_N) (a1 : Int32) (W_ : (pX8_count P σ a1)) : sp mX8_count 3 0 0 [.ref 3, .int a1] (hh P σ) (fun r_ h_ => r_ = some (.int (rX8_count σ a1)) ∧ h_ = hh P (sX8_count σ a1)) := by
  refine sp_of (lv := [some (.ref 3), some (.int a1)]) (by decide) (zcats_ok _ rfl) (Nat.le_of_ble_eq_true rfl) (zlv_ok _ 0 rfl) (fun G => ?_)
  generalize hQ_ : (fun (r_ : Option Value) (h_ : zc_H) => r_ = some (.int (rX8_count σ a1)) ∧ h_ = hh P (sX8_count σ a1)) = Q_
  unfold pX8_count at W_
  refine z_iload_n dX8_count_0 rfl ?_
  by_cases c_1 : a1 = (0 : Int32)
  · refine z_tin (off := 31) (tgt := 32) dX8_count_1 (by rw [c_1]; decide) (by rw [c_1]; decide) (by rw [c_1]; decide) (by decide) ?_
    refine z_aloadr_n dX8_count_32 rfl ?_
    refine z_get (ci := 8) (r := (RX8, TX8, 12)) (j := 3) (v := .int ((σ 3) 3)) dX8_count_33 (Nat.le_of_ble_eq_true rfl) (zN rfl) rfl rfl (Nat.le_of_ble_eq_true rfl) fl_X8_26 rfl ?_
    exact z_ireturn dX8_count_36 rfl rfl (Nat.le_of_ble_eq_true rfl) (Nat.le_of_ble_eq_true rfl) (by rw [← hQ_]; exact ⟨(by rw [rX8_count]; try simp only [if_pos c_1]), (by rw [sX8_count]; try simp only [if_pos c_1])⟩)
  ·
    by_cases c_2 : a1 = (1 : Int32)
    · refine z_tin (off := 36) (tgt := 37) dX8_count_1 (by rw [c_2]; decide) (by rw [c_2]; decide) (by rw [c_2]; decide) (by decide) ?_
      refine z_aloadr_n dX8_count_37 rfl ?_
      refine z_callV (ci := 8) (r := (RX8, TX8, 12)) (b := 3) (As := []) (rest := []) (ctX8_toolsWithPrints P σ (W_.2.1 c_2)) dX8_count_38 lk_X8_228 lv_X8_toolsWithPrints (Nat.le_of_ble_eq_true rfl) (zN rfl) rfl rfl rfl rfl (Nat.le_of_ble_eq_true rfl) (Nat.le_of_ble_eq_true rfl) (Nat.le_of_ble_eq_true rfl) (Nat.le_of_ble_eq_true rfl) (fun r_ h_ e_ => ?_)
      obtain ⟨e1_, e2_⟩ := e_
      subst e1_
      subst e2_
      show zz G mX8_count 3 0 0 Q_ 41 [some (.ref 3), some (.int a1)] [.int (rX8_toolsWithPrints σ)] (hh P σ) 0 0
      exact z_ireturn dX8_count_41 rfl rfl (Nat.le_of_ble_eq_true rfl) (Nat.le_of_ble_eq_true rfl) (by rw [← hQ_]; exact ⟨(by rw [rX8_count]; try simp only [if_neg c_1, if_pos c_2]), (by rw [sX8_count]; try simp only [if_neg c_1, if_pos c_2])⟩)
    ·
      by_cases c_3 : a1 = (2 : Int32)
      · refine z_tin (off := 41) (tgt := 42) dX8_count_1 (by rw [c_3]; decide) (by rw [c_3]; decide) (by rw [c_3]; decide) (by decide) ?_
        refine z_aloadr_n dX8_count_42 rfl ?_
        refine z_get (ci := 8) (r := (RX8, TX8, 12)) (j := 0) (v := .ref 4) dX8_count_43 (Nat.le_of_ble_eq_true rfl) (zN rfl) rfl rfl (Nat.le_of_ble_eq_true rfl) fl_X8_12 rfl ?_
        refine z_callV (ci := 1) (r := (RX1, TX1, 3)) (b := 4) (As := []) (rest := []) (ctX1_darkCells P σ) dX8_count_46 lk_X8_76 lv_X1_darkCells (Nat.le_of_ble_eq_true rfl) (zN rfl) rfl rfl rfl rfl (Nat.le_of_ble_eq_true rfl) (Nat.le_of_ble_eq_true rfl) (Nat.le_of_ble_eq_true rfl) (Nat.le_of_ble_eq_true rfl) (fun r_ h_ e_ => ?_)
        obtain ⟨e1_, e2_⟩ := e_
        subst e1_
        subst e2_
        show zz G mX8_count 3 0 0 Q_ 49 [some (.ref 3), some (.int a1)] [.int (rX1_darkCells σ)] (hh P σ) 0 0
        exact z_ireturn dX8_count_49 rfl rfl (Nat.le_of_ble_eq_true rfl) (Nat.le_of_ble_eq_true rfl) (by rw [← hQ_]; exact ⟨(by rw [rX8_count]; try simp only [if_neg c_1, if_neg c_2, if_pos c_3]), (by rw [sX8_count]; try simp only [if_neg c_1, if_neg c_2, if_pos c_3])⟩)
      ·
        by_cases c_4 : a1 = (3 : Int32)
        · refine z_tin (off := 49) (tgt := 50) dX8_count_1 (by rw [c_4]; decide) (by rw [c_4]; decide) (by rw [c_4]; decide) (by decide) ?_
          refine z_aloadr_n dX8_count_50 rfl ?_
          refine z_get (ci := 8) (r := (RX8, TX8, 12)) (j := 0) (v := .ref 4) dX8_count_51 (Nat.le_of_ble_eq_true rfl) (zN rfl) rfl rfl (Nat.le_of_ble_eq_true rfl) fl_X8_12 rfl ?_
          refine z_aloadr_n dX8_count_54 rfl ?_
          refine z_get (ci := 8) (r := (RX8, TX8, 12)) (j := 1) (v := .ref 8) dX8_count_55 (Nat.le_of_ble_eq_true rfl) (zN rfl) rfl rfl (Nat.le_of_ble_eq_true rfl) fl_X8_16 rfl ?_
          refine z_callV (ci := 1) (r := (RX1, TX1, 3)) (b := 4) (As := [.ref 8]) (rest := []) (ctX1_readPoints P σ (W_.2.2.2.1 c_4)) dX8_count_58 lk_X8_93 lv_X1_readPoints (Nat.le_of_ble_eq_true rfl) (zN rfl) rfl rfl rfl rfl (Nat.le_of_ble_eq_true rfl) (Nat.le_of_ble_eq_true rfl) (Nat.le_of_ble_eq_true rfl) (Nat.le_of_ble_eq_true rfl) (fun r_ h_ e_ => ?_)
          obtain ⟨e1_, e2_⟩ := e_
          subst e1_
          subst e2_
          show zz G mX8_count 3 0 0 Q_ 61 [some (.ref 3), some (.int a1)] [.int (rX1_readPoints σ)] (hh P (sX1_readPoints σ)) 0 0
          exact z_ireturn dX8_count_61 rfl rfl (Nat.le_of_ble_eq_true rfl) (Nat.le_of_ble_eq_true rfl) (by rw [← hQ_]; exact ⟨(by rw [rX8_count]; try simp only [if_neg c_1, if_neg c_2, if_neg c_3, if_pos c_4]), (by rw [sX8_count]; try simp only [if_neg c_1, if_neg c_2, if_neg c_3, if_pos c_4])⟩)
        ·
          refine z_tout (tgt := 62) dX8_count_1 (z_tab4 c_1 c_2 c_3 c_4) (by decide) ?_
          refine z_iconst dX8_count_62 k_iconst_m1 ?_
          exact z_ireturn dX8_count_63 rfl rfl (Nat.le_of_ble_eq_true rfl) (Nat.le_of_ble_eq_true rfl) (by rw [← hQ_]; exact ⟨(by rw [rX8_count]; try simp only [if_neg c_1, if_neg c_2, if_neg c_3, if_neg c_4]), (by rw [sX8_count]; try simp only [if_neg c_1, if_neg c_2, if_neg c_3, if_neg c_4])⟩)

theorem dX8_melt_23 : decode cX8_melt 23 = .ok (.iload_n 3, 1) := by decide +kernel
theorem dX8_melt_24 : decode cX8_melt 24 = .ok (.aload_n 0, 1) := by decide +kernel
theorem dX8_melt_25 : decode cX8_melt 25 = .ok (.getfield 26, 3) := by decide +kernel
theorem dX8_melt_28 : decode cX8_melt 28 = .ok (.if_icmp .ge 42, 3) := by decide +kernel
theorem dX8_melt_31 : decode cX8_melt 31 = .ok (.aload_n 0, 1) := by decide +kernel
theorem dX8_melt_32 : decode cX8_melt 32 = .ok (.getfield 22, 3) := by decide +kernel
theorem dX8_melt_35 : decode cX8_melt 35 = .ok (.iload_n 3, 1) := by decide +kernel
theorem dX8_melt_36 : decode cX8_melt 36 = .ok (.aaload, 1) := by decide +kernel
theorem dX8_melt_37 : decode cX8_melt 37 = .ok (.getfield 175, 3) := by decide +kernel
theorem dX8_melt_40 : decode cX8_melt 40 = .ok (.iload_n 2, 1) := by decide +kernel
theorem dX8_melt_41 : decode cX8_melt 41 = .ok (.if_icmp .ne 23, 3) := by decide +kernel
theorem dX8_melt_44 : decode cX8_melt 44 = .ok (.aload_n 0, 1) := by decide +kernel
theorem dX8_melt_45 : decode cX8_melt 45 = .ok (.iload_n 1, 1) := by decide +kernel
theorem dX8_melt_46 : decode cX8_melt 46 = .ok (.aload_n 0, 1) := by decide +kernel
theorem dX8_melt_47 : decode cX8_melt 47 = .ok (.getfield 22, 3) := by decide +kernel
theorem dX8_melt_50 : decode cX8_melt 50 = .ok (.iload_n 3, 1) := by decide +kernel
theorem dX8_melt_51 : decode cX8_melt 51 = .ok (.aaload, 1) := by decide +kernel
theorem dX8_melt_52 : decode cX8_melt 52 = .ok (.getfield 182, 3) := by decide +kernel
theorem dX8_melt_55 : decode cX8_melt 55 = .ok (.invokevirtual 178, 3) := by decide +kernel
theorem dX8_melt_58 : decode cX8_melt 58 = .ok (.ifCond .eq 6, 3) := by decide +kernel
theorem dX8_melt_61 : decode cX8_melt 61 = .ok (.bipush (-3), 2) := by decide +kernel
theorem dX8_melt_64 : decode cX8_melt 64 = .ok (.iinc 3 1, 3) := by decide +kernel
theorem dX8_melt_67 : decode cX8_melt 67 = .ok (.goto (-44), 3) := by decide +kernel
theorem dX8_melt_70 : decode cX8_melt 70 = .ok (.iconst 0, 1) := by decide +kernel
theorem dX8_melt_71 : decode cX8_melt 71 = .ok (.istore_n 3, 1) := by decide +kernel
noncomputable def fX8_melt_23 (a_ : Int32) : Int32 := (a_ + (1 : Int32))
def eX8_melt_23 (σ : zc_N) (l1 : Int32) (l2 : Int32) (a_ : Int32) : Prop := ((((σ 3) 3) ≤ a_ ∧ True) ∨ (¬ ((σ 3) 3) ≤ a_ ∧ ((((σ (pO a_.toNatClampNeg)) 3) = l2 ∧ (((rX8_hasYear σ l1 ((σ (pO a_.toNatClampNeg)) 4)) = (0 : Int32) ∧ False) ∨ (¬ (rX8_hasYear σ l1 ((σ (pO a_.toNatClampNeg)) 4)) = (0 : Int32) ∧ True))) ∨ (¬ ((σ (pO a_.toNatClampNeg)) 3) = l2 ∧ False))))
def qX8_melt_23 (P : zp) (σ : zc_N) (l1 : Int32) (l2 : Int32) (a_ : Int32) : Prop := ((((σ 3) 3) ≤ a_ → True) ∧ (¬ ((σ 3) 3) ≤ a_ → ((vp_in a_ 24 ∧ a_.toNatClampNeg < P.2.1) ∧ ((((σ (pO a_.toNatClampNeg)) 3) = l2 → ((vp_in a_ 24 ∧ a_.toNatClampNeg < P.2.1) ∧ (pX8_hasYear P σ l1 ((σ (pO a_.toNatClampNeg)) 4)))) ∧ (¬ ((σ (pO a_.toNatClampNeg)) 3) = l2 → True)))))
noncomputable def wX8_melt_23 (σ : zc_N) (l1 : Int32) (l2 : Int32) (a_ : Int32) : Int32 := zit fX8_melt_23 (zwn (fun n_ => (eX8_melt_23 σ l1 l2) (zit fX8_melt_23 n_ a_))) a_
set_option maxHeartbeats 2000000 in
theorem whX8_melt_23 {G : zc_G} {Q : Option Value → zc_H → Prop} (P : zp) (σ : zc_N) (l1 : Int32) (l2 : Int32) (l3 : Int32)
    (hT_ : ∃ n_ : Nat, (eX8_melt_23 σ l1 l2) (zit fX8_melt_23 n_ l3)) (W1_ : ∀ i23_ : Nat, i23_ < (zwn (fun n_ => (eX8_melt_23 σ l1 l2) (zit fX8_melt_23 n_ l3))) → qX8_melt_23 P σ l1 l2 (zit fX8_melt_23 i23_ l3))
    (W2_ : (eX8_melt_23 σ l1 l2) (wX8_melt_23 σ l1 l2 l3) → zz G mX8_melt 2 0 0 Q 23 [some (.ref 3), some (.int l1), some (.int l2), some (.int (wX8_melt_23 σ l1 l2 l3))] [] (hh P σ) 0 0) :
    zz G mX8_melt 2 0 0 Q 23 [some (.ref 3), some (.int l1), some (.int l2), some (.int l3)] [] (hh P σ) 0 0 := by
  unfold wX8_melt_23 at W2_
  have hs_ := zwn_spec hT_
  refine zit_Z (fun a_ => zz G mX8_melt 2 0 0 Q 23 [some (.ref 3), some (.int l1), some (.int l2), some (.int a_)] [] (hh P σ) 0 0) fX8_melt_23 (zwn (fun n_ => (eX8_melt_23 σ l1 l2) (zit fX8_melt_23 n_ l3))) l3 (fun i_ hi_ k_ => ?_) (W2_ hs_.1)
  have hn_ := hs_.2 i_ hi_
  have W3_ := W1_ i_ hi_
  generalize zit fX8_melt_23 i_ l3 = g_ at k_ hn_ W3_ ⊢
  rw [fX8_melt_23] at k_
  rw [eX8_melt_23] at hn_
  try dsimp only at k_ hn_
  rw [qX8_melt_23] at W3_
  try dsimp only at W3_
  refine z_iload_n dX8_melt_23 rfl ?_
  refine z_aloadr_n dX8_melt_24 rfl ?_
  refine z_get (ci := 8) (r := (RX8, TX8, 12)) (j := 3) (v := .int ((σ 3) 3)) dX8_melt_25 (Nat.le_of_ble_eq_true rfl) (zN rfl) rfl rfl (Nat.le_of_ble_eq_true rfl) fl_X8_26 rfl ?_
  refine z_icmp_ge (tgt := 70) dX8_melt_28 (by decide) (fun c_1 => ?_) (fun c_1 => ?_)
  · exact absurd (Or.inl ⟨c_1, trivial⟩) hn_
  · refine z_aloadr_n dX8_melt_31 rfl ?_
    refine z_get (ci := 8) (r := (RX8, TX8, 12)) (j := 2) (v := .ref 9) dX8_melt_32 (Nat.le_of_ble_eq_true rfl) (zN rfl) rfl rfl (Nat.le_of_ble_eq_true rfl) fl_X8_22 rfl ?_
    refine z_iload_n dX8_melt_35 rfl ?_
    have hp_2 := ((W3_.2 c_1).1).2
    refine z_aald (r := some (pO g_.toNatClampNeg)) dX8_melt_36 (Nat.le_of_ble_eq_true rfl) (zN rfl) rfl ((W3_.2 c_1).1).1 (if_pos ((W3_.2 c_1).1).2) ?_
    refine z_get (ci := 7) (r := (RX7, TX7, 5)) (j := 3) (v := .int ((σ (pO g_.toNatClampNeg)) 3)) dX8_melt_37 (z3O g_.toNatClampNeg) (zNO hp_2) (SH_pO P g_.toNatClampNeg) rfl (Nat.le_of_ble_eq_true rfl) fl_X8_175 rfl ?_
    refine z_iload_n dX8_melt_40 rfl ?_
    refine z_icmp_ne (tgt := 64) dX8_melt_41 (by decide) (fun c_3 => ?_) (fun c_3 => ?_)
    · refine z_iinc (v := (g_ + (1 : Int32))) (lv' := [some (.ref 3), some (.int l1), some (.int l2), some (.int (g_ + (1 : Int32)))]) dX8_melt_64 (Nat.le_of_ble_eq_true rfl) rfl (by rw [k_iconst_1]) rfl ?_
      refine z_goto (tgt := 23) dX8_melt_67 (by decide) ?_
      simpa only [if_neg c_1, if_neg c_3] using k_
    · refine z_aloadr_n dX8_melt_44 rfl ?_
      refine z_iload_n dX8_melt_45 rfl ?_
      refine z_aloadr_n dX8_melt_46 rfl ?_
      refine z_get (ci := 8) (r := (RX8, TX8, 12)) (j := 2) (v := .ref 9) dX8_melt_47 (Nat.le_of_ble_eq_true rfl) (zN rfl) rfl rfl (Nat.le_of_ble_eq_true rfl) fl_X8_22 rfl ?_
      refine z_iload_n dX8_melt_50 rfl ?_
      have hp_4 := (((W3_.2 c_1).2.1 c_3).1).2
      refine z_aald (r := some (pO g_.toNatClampNeg)) dX8_melt_51 (Nat.le_of_ble_eq_true rfl) (zN rfl) rfl (((W3_.2 c_1).2.1 c_3).1).1 (if_pos (((W3_.2 c_1).2.1 c_3).1).2) ?_
      refine z_get (ci := 7) (r := (RX7, TX7, 5)) (j := 4) (v := .int ((σ (pO g_.toNatClampNeg)) 4)) dX8_melt_52 (z3O g_.toNatClampNeg) (zNO hp_4) (SH_pO P g_.toNatClampNeg) rfl (Nat.le_of_ble_eq_true rfl) fl_X8_182 rfl ?_
      refine z_callV (ci := 8) (r := (RX8, TX8, 12)) (b := 3) (As := [.int l1, .int ((σ (pO g_.toNatClampNeg)) 4)]) (rest := []) (ctX8_hasYear P σ l1 ((σ (pO g_.toNatClampNeg)) 4) (((W3_.2 c_1).2.1 c_3).2)) dX8_melt_55 lk_X8_178 lv_X8_hasYear (Nat.le_of_ble_eq_true rfl) (zN rfl) rfl rfl rfl rfl (Nat.le_of_ble_eq_true rfl) (Nat.le_of_ble_eq_true rfl) (Nat.le_of_ble_eq_true rfl) (Nat.le_of_ble_eq_true rfl) (fun r_ h_ e_ => ?_)
      obtain ⟨e1_, e2_⟩ := e_
      subst e1_
      subst e2_
      show zz G mX8_melt 2 0 0 Q 58 [some (.ref 3), some (.int l1), some (.int l2), some (.int g_)] [.int (rX8_hasYear σ l1 ((σ (pO g_.toNatClampNeg)) 4))] (hh P σ) 0 0
      refine z_if_eq (tgt := 64) dX8_melt_58 (by decide) (fun c_5 => ?_) (fun c_5 => ?_)
      · refine z_iinc (v := (g_ + (1 : Int32))) (lv' := [some (.ref 3), some (.int l1), some (.int l2), some (.int (g_ + (1 : Int32)))]) dX8_melt_64 (Nat.le_of_ble_eq_true rfl) rfl (by rw [k_iconst_1]) rfl ?_
        refine z_goto (tgt := 23) dX8_melt_67 (by decide) ?_
        simpa only [if_neg c_1, if_pos c_3, if_pos c_5] using k_
      · exact absurd (Or.inr ⟨c_1, (Or.inl ⟨c_3, (Or.inr ⟨c_5, trivial⟩)⟩)⟩) hn_

theorem dX8_melt_72 : decode cX8_melt 72 = .ok (.iload_n 3, 1) := by decide +kernel
theorem dX8_melt_73 : decode cX8_melt 73 = .ok (.aload_n 0, 1) := by decide +kernel
theorem dX8_melt_74 : decode cX8_melt 74 = .ok (.getfield 26, 3) := by decide +kernel
theorem dX8_melt_77 : decode cX8_melt 77 = .ok (.if_icmp .ge 32, 3) := by decide +kernel
theorem dX8_melt_80 : decode cX8_melt 80 = .ok (.aload_n 0, 1) := by decide +kernel
theorem dX8_melt_81 : decode cX8_melt 81 = .ok (.getfield 22, 3) := by decide +kernel
theorem dX8_melt_84 : decode cX8_melt 84 = .ok (.iload_n 3, 1) := by decide +kernel
theorem dX8_melt_85 : decode cX8_melt 85 = .ok (.aaload, 1) := by decide +kernel
theorem dX8_melt_86 : decode cX8_melt 86 = .ok (.getfield 175, 3) := by decide +kernel
theorem dX8_melt_89 : decode cX8_melt 89 = .ok (.iload_n 2, 1) := by decide +kernel
theorem dX8_melt_90 : decode cX8_melt 90 = .ok (.if_icmp .ne 13, 3) := by decide +kernel
theorem dX8_melt_93 : decode cX8_melt 93 = .ok (.aload_n 0, 1) := by decide +kernel
theorem dX8_melt_94 : decode cX8_melt 94 = .ok (.getfield 22, 3) := by decide +kernel
theorem dX8_melt_97 : decode cX8_melt 97 = .ok (.iload_n 3, 1) := by decide +kernel
theorem dX8_melt_98 : decode cX8_melt 98 = .ok (.aaload, 1) := by decide +kernel
theorem dX8_melt_99 : decode cX8_melt 99 = .ok (.iload_n 1, 1) := by decide +kernel
theorem dX8_melt_100 : decode cX8_melt 100 = .ok (.putfield 175, 3) := by decide +kernel
theorem dX8_melt_103 : decode cX8_melt 103 = .ok (.iinc 3 1, 3) := by decide +kernel
theorem dX8_melt_106 : decode cX8_melt 106 = .ok (.goto (-34), 3) := by decide +kernel
theorem dX8_melt_109 : decode cX8_melt 109 = .ok (.aload_n 0, 1) := by decide +kernel
theorem dX8_melt_110 : decode cX8_melt 110 = .ok (.iload_n 1, 1) := by decide +kernel
theorem dX8_melt_111 : decode cX8_melt 111 = .ok (.invokevirtual 185, 3) := by decide +kernel
noncomputable def fX8_melt_72 (l1 : Int32) (l2 : Int32) (i_ : Nat) (a_ : zc_N) : zc_N := (if ((a_ (pO (nI i_).toNatClampNeg)) 3) = l2 then (zu a_ (pO (nI i_).toNatClampNeg) (zu (a_ (pO (nI i_).toNatClampNeg)) 3 l1)) else a_)
def qX8_melt_72 (P : zp) (l2 : Int32) (i_ : Nat) (a_ : zc_N) : Prop := ((vp_in (nI i_) 24 ∧ (nI i_).toNatClampNeg < P.2.1) ∧ ((((a_ (pO (nI i_).toNatClampNeg)) 3) = l2 → (vp_in (nI i_) 24 ∧ (nI i_).toNatClampNeg < P.2.1)) ∧ (¬ ((a_ (pO (nI i_).toNatClampNeg)) 3) = l2 → True)))
set_option maxHeartbeats 2000000 in
theorem lpX8_melt_72 {G : zc_G} {Q : Option Value → zc_H → Prop} (P : zp) (σ : zc_N) (l1 : Int32) (l2 : Int32) (n_ : Nat) (hC_ : ∀ i72_ : Nat, i72_ ≤ n_ → ((((zfor (fX8_melt_72 l1 l2) i72_ σ) 3) 3) ≤ (nI i72_) ↔ n_ ≤ i72_)) (W1_ : ∀ i72_ : Nat, i72_ < n_ → qX8_melt_72 P l2 i72_ (zfor (fX8_melt_72 l1 l2) i72_ σ))
    (W2_ : zz G mX8_melt 2 0 0 Q 109 [some (.ref 3), some (.int l1), none, none] [] (hh P (zfor (fX8_melt_72 l1 l2) n_ σ)) 0 0) :
    zz G mX8_melt 2 0 0 Q 72 [some (.ref 3), some (.int l1), some (.int l2), some (.int (nI 0))] [] (hh P σ) 0 0 := by
  refine zfor_nI (fun i_ a_ => zz G mX8_melt 2 0 0 Q 72 [some (.ref 3), some (.int l1), some (.int l2), some (.int i_)] [] (hh P a_) 0 0) (fX8_melt_72 l1 l2) n_ σ (fun i_ hi_ k_ => ?_) ?_
  · have W3_ := W1_ i_ hi_
    have hD_ := hC_ i_ (Nat.le_of_lt hi_)
    generalize zfor (fX8_melt_72 l1 l2) i_ σ = g_ at k_ W3_ hD_ ⊢
    rw [fX8_melt_72] at k_
    rw [qX8_melt_72] at W3_
    try dsimp only at W3_
    refine z_iload_n dX8_melt_72 rfl ?_
    refine z_aloadr_n dX8_melt_73 rfl ?_
    refine z_get (ci := 8) (r := (RX8, TX8, 12)) (j := 3) (v := .int ((g_ 3) 3)) dX8_melt_74 (Nat.le_of_ble_eq_true rfl) (zN rfl) rfl rfl (Nat.le_of_ble_eq_true rfl) fl_X8_26 rfl ?_
    refine z_icmp_ge (tgt := 109) dX8_melt_77 (by decide) (fun c_ => absurd c_ (fun q_ => Nat.not_le_of_lt hi_ (hD_.mp q_))) (fun c_ => ?_)
    refine z_aloadr_n dX8_melt_80 rfl ?_
    refine z_get (ci := 8) (r := (RX8, TX8, 12)) (j := 2) (v := .ref 9) dX8_melt_81 (Nat.le_of_ble_eq_true rfl) (zN rfl) rfl rfl (Nat.le_of_ble_eq_true rfl) fl_X8_22 rfl ?_
    refine z_iload_n dX8_melt_84 rfl ?_
    have hp_2 := W3_.1.2
    refine z_aald (r := some (pO ((nI i_).toNatClampNeg))) dX8_melt_85 (Nat.le_of_ble_eq_true rfl) (zN rfl) rfl W3_.1.1 (if_pos W3_.1.2) ?_
    refine z_get (ci := 7) (r := (RX7, TX7, 5)) (j := 3) (v := .int ((g_ (pO ((nI i_).toNatClampNeg))) 3)) dX8_melt_86 (z3O ((nI i_).toNatClampNeg)) (zNO hp_2) (SH_pO P ((nI i_).toNatClampNeg)) rfl (Nat.le_of_ble_eq_true rfl) fl_X8_175 rfl ?_
    refine z_iload_n dX8_melt_89 rfl ?_
    refine z_icmp_ne (tgt := 103) dX8_melt_90 (by decide) (fun c_3 => ?_) (fun c_3 => ?_)
    · refine z_iinc (v := ((nI i_) + (1 : Int32))) (lv' := [some (.ref 3), some (.int l1), some (.int l2), some (.int ((nI i_) + (1 : Int32)))]) dX8_melt_103 (Nat.le_of_ble_eq_true rfl) rfl (by rw [k_iconst_1]) rfl ?_
      refine z_goto (tgt := 72) dX8_melt_106 (by decide) ?_
      rw [nI_1]
      simpa only [if_neg c_3] using k_
    · refine z_aloadr_n dX8_melt_93 rfl ?_
      refine z_get (ci := 8) (r := (RX8, TX8, 12)) (j := 2) (v := .ref 9) dX8_melt_94 (Nat.le_of_ble_eq_true rfl) (zN rfl) rfl rfl (Nat.le_of_ble_eq_true rfl) fl_X8_22 rfl ?_
      refine z_iload_n dX8_melt_97 rfl ?_
      have hp_4 := (W3_.2.1 c_3).2
      refine z_aald (r := some (pO ((nI i_).toNatClampNeg))) dX8_melt_98 (Nat.le_of_ble_eq_true rfl) (zN rfl) rfl (W3_.2.1 c_3).1 (if_pos (W3_.2.1 c_3).2) ?_
      refine z_iload_n dX8_melt_99 rfl ?_
      refine z_put (ci := 7) (r := (RX7, TX7, 5)) (j := 3) (σ' := (zu g_ (pO ((nI i_).toNatClampNeg)) (zu (g_ (pO ((nI i_).toNatClampNeg))) 3 l1))) dX8_melt_100 (z3O ((nI i_).toNatClampNeg)) (zNO hp_4) (SH_pO P ((nI i_).toNatClampNeg)) rfl (Nat.le_of_ble_eq_true rfl) fl_X8_175 rfl rfl rfl rfl rfl ?_
      refine z_iinc (v := ((nI i_) + (1 : Int32))) (lv' := [some (.ref 3), some (.int l1), some (.int l2), some (.int ((nI i_) + (1 : Int32)))]) dX8_melt_103 (Nat.le_of_ble_eq_true rfl) rfl (by rw [k_iconst_1]) rfl ?_
      refine z_goto (tgt := 72) dX8_melt_106 (by decide) ?_
      rw [nI_1]
      simpa only [if_pos c_3] using k_
  · have hD_ := hC_ n_ (Nat.le_refl _)
    generalize zfor (fX8_melt_72 l1 l2) n_ σ = g_ at W2_ hD_ ⊢
    refine z_iload_n dX8_melt_72 rfl ?_
    refine z_aloadr_n dX8_melt_73 rfl ?_
    refine z_get (ci := 8) (r := (RX8, TX8, 12)) (j := 3) (v := .int ((g_ 3) 3)) dX8_melt_74 (Nat.le_of_ble_eq_true rfl) (zN rfl) rfl rfl (Nat.le_of_ble_eq_true rfl) fl_X8_26 rfl ?_
    refine z_icmp_ge (tgt := 109) dX8_melt_77 (by decide) (fun c_ => ?_) (fun c_ => absurd (hD_.mpr (Nat.le_refl _)) c_)
    exact zz_sub (lv' := [some (.ref 3), some (.int l1), none, none]) ⟨rfl, ⟨rfl, trivial⟩⟩ W2_

theorem dX8_melt_0 : decode cX8_melt 0 = .ok (.iload_n 1, 1) := by decide +kernel
theorem dX8_melt_1 : decode cX8_melt 1 = .ok (.invokestatic 171, 3) := by decide +kernel
theorem dX8_melt_4 : decode cX8_melt 4 = .ok (.ifCond .eq 15, 3) := by decide +kernel
theorem dX8_melt_7 : decode cX8_melt 7 = .ok (.iload_n 2, 1) := by decide +kernel
theorem dX8_melt_8 : decode cX8_melt 8 = .ok (.invokestatic 171, 3) := by decide +kernel
theorem dX8_melt_11 : decode cX8_melt 11 = .ok (.ifCond .eq 8, 3) := by decide +kernel
theorem dX8_melt_14 : decode cX8_melt 14 = .ok (.iload_n 1, 1) := by decide +kernel
theorem dX8_melt_15 : decode cX8_melt 15 = .ok (.iload_n 2, 1) := by decide +kernel
theorem dX8_melt_16 : decode cX8_melt 16 = .ok (.if_icmp .ne 5, 3) := by decide +kernel
theorem dX8_melt_19 : decode cX8_melt 19 = .ok (.iconst (-1), 1) := by decide +kernel
theorem dX8_melt_20 : decode cX8_melt 20 = .ok (.ireturn, 1) := by decide +kernel
theorem dX8_melt_21 : decode cX8_melt 21 = .ok (.iconst 0, 1) := by decide +kernel
theorem dX8_melt_22 : decode cX8_melt 22 = .ok (.istore_n 3, 1) := by decide +kernel
theorem dX8_melt_63 : decode cX8_melt 63 = .ok (.ireturn, 1) := by decide +kernel
theorem dX8_melt_114 : decode cX8_melt 114 = .ok (.ireturn, 1) := by decide +kernel
def pX8_melt (P : zp) (σ : zc_N) (a1 : Int32) (a2 : Int32) : Prop := (((rX8_isTool a1) = (0 : Int32) → True) ∧ (¬ (rX8_isTool a1) = (0 : Int32) → (((rX8_isTool a2) = (0 : Int32) → True) ∧ (¬ (rX8_isTool a2) = (0 : Int32) → ((a1 = a2 → True) ∧ (¬ a1 = a2 → (((∃ n_ : Nat, (eX8_melt_23 σ a1 a2) (zit fX8_melt_23 n_ (0 : Int32))) ∧ (∀ i23_ : Nat, i23_ < (zwn (fun n_ => (eX8_melt_23 σ a1 a2) (zit fX8_melt_23 n_ (0 : Int32)))) → qX8_melt_23 P σ a1 a2 (zit fX8_melt_23 i23_ (0 : Int32)))) ∧ ((((σ 3) 3) ≤ (wX8_melt_23 σ a1 a2 (0 : Int32)) → (((∀ i72_ : Nat, i72_ ≤ ((((σ 3) 3)).toNatClampNeg) → ((((zfor (fX8_melt_72 a1 a2) i72_ σ) 3) 3) ≤ (nI i72_) ↔ ((((σ 3) 3)).toNatClampNeg) ≤ i72_)) ∧ (∀ i72_ : Nat, i72_ < ((((σ 3) 3)).toNatClampNeg) → qX8_melt_72 P a2 i72_ (zfor (fX8_melt_72 a1 a2) i72_ σ))) ∧ (pX8_keptBy P (zfor (fX8_melt_72 a1 a2) ((((σ 3) 3)).toNatClampNeg) σ) a1))) ∧ (¬ ((σ 3) 3) ≤ (wX8_melt_23 σ a1 a2 (0 : Int32)) → ((vp_in (wX8_melt_23 σ a1 a2 (0 : Int32)) 24 ∧ (wX8_melt_23 σ a1 a2 (0 : Int32)).toNatClampNeg < P.2.1) ∧ ((((σ (pO ((wX8_melt_23 σ a1 a2 (0 : Int32)).toNatClampNeg))) 3) = a2 → ((vp_in (wX8_melt_23 σ a1 a2 (0 : Int32)) 24 ∧ (wX8_melt_23 σ a1 a2 (0 : Int32)).toNatClampNeg < P.2.1) ∧ (pX8_hasYear P σ a1 ((σ (pO ((wX8_melt_23 σ a1 a2 (0 : Int32)).toNatClampNeg))) 4)))) ∧ (¬ ((σ (pO ((wX8_melt_23 σ a1 a2 (0 : Int32)).toNatClampNeg))) 3) = a2 → True))))))))))))
noncomputable def rX8_melt (σ : zc_N) (a1 : Int32) (a2 : Int32) : Int32 := (if (rX8_isTool a1) = (0 : Int32) then (-1 : Int32) else (if (rX8_isTool a2) = (0 : Int32) then (-1 : Int32) else (if a1 = a2 then (-1 : Int32) else (if ((σ 3) 3) ≤ (wX8_melt_23 σ a1 a2 (0 : Int32)) then (rX8_keptBy (zfor (fX8_melt_72 a1 a2) ((((σ 3) 3)).toNatClampNeg) σ) a1) else (-3 : Int32)))))
noncomputable def sX8_melt (σ : zc_N) (a1 : Int32) (a2 : Int32) : zc_N := (if (rX8_isTool a1) = (0 : Int32) then σ else (if (rX8_isTool a2) = (0 : Int32) then σ else (if a1 = a2 then σ else (if ((σ 3) 3) ≤ (wX8_melt_23 σ a1 a2 (0 : Int32)) then (zfor (fX8_melt_72 a1 a2) ((((σ 3) 3)).toNatClampNeg) σ) else σ))))
set_option maxHeartbeats 1000000 in
theorem ctX8_melt (P : zp) (σ : zc_N) (a1 : Int32) (a2 : Int32) (W_ : (pX8_melt P σ a1 a2)) : sp mX8_melt 2 0 0 [.ref 3, .int a1, .int a2] (hh P σ) (fun r_ h_ => r_ = some (.int (rX8_melt σ a1 a2)) ∧ h_ = hh P (sX8_melt σ a1 a2)) := by
  refine sp_of (lv := [some (.ref 3), some (.int a1), some (.int a2), none]) (by decide) (zcats_ok _ rfl) (Nat.le_of_ble_eq_true rfl) (zlv_ok _ 1 rfl) (fun G => ?_)
  generalize hQ_ : (fun (r_ : Option Value) (h_ : zc_H) => r_ = some (.int (rX8_melt σ a1 a2)) ∧ h_ = hh P (sX8_melt σ a1 a2)) = Q_
  unfold pX8_melt at W_
  refine z_iload_n dX8_melt_0 rfl ?_
  refine z_callS (As := [.int a1]) (rest := []) (ctX8_isTool P σ a1 (pzX8_isTool P σ a1)) dX8_melt_1 lk_X8_171 ls_X8_isTool rfl (Nat.le_of_ble_eq_true rfl) (Nat.le_of_ble_eq_true rfl) (Nat.le_of_ble_eq_true rfl) (Nat.le_of_ble_eq_true rfl) (fun r_ h_ e_ => ?_)
  obtain ⟨e1_, e2_⟩ := e_
  subst e1_
  subst e2_
  show zz G mX8_melt 2 0 0 Q_ 4 [some (.ref 3), some (.int a1), some (.int a2), none] [.int (rX8_isTool a1)] (hh P σ) 0 0
  refine z_if_eq (tgt := 19) dX8_melt_4 (by decide) (fun c_1 => ?_) (fun c_1 => ?_)
  · refine z_iconst dX8_melt_19 k_iconst_m1 ?_
    exact z_ireturn dX8_melt_20 rfl rfl (Nat.le_of_ble_eq_true rfl) (Nat.le_of_ble_eq_true rfl) (by rw [← hQ_]; exact ⟨(by rw [rX8_melt]; try simp only [if_pos c_1]), (by rw [sX8_melt]; try simp only [if_pos c_1])⟩)
  · refine z_iload_n dX8_melt_7 rfl ?_
    refine z_callS (As := [.int a2]) (rest := []) (ctX8_isTool P σ a2 (pzX8_isTool P σ a2)) dX8_melt_8 lk_X8_171 ls_X8_isTool rfl (Nat.le_of_ble_eq_true rfl) (Nat.le_of_ble_eq_true rfl) (Nat.le_of_ble_eq_true rfl) (Nat.le_of_ble_eq_true rfl) (fun r_ h_ e_ => ?_)
    obtain ⟨e1_, e2_⟩ := e_
    subst e1_
    subst e2_
    show zz G mX8_melt 2 0 0 Q_ 11 [some (.ref 3), some (.int a1), some (.int a2), none] [.int (rX8_isTool a2)] (hh P σ) 0 0
    refine z_if_eq (tgt := 19) dX8_melt_11 (by decide) (fun c_2 => ?_) (fun c_2 => ?_)
    · refine z_iconst dX8_melt_19 k_iconst_m1 ?_
      exact z_ireturn dX8_melt_20 rfl rfl (Nat.le_of_ble_eq_true rfl) (Nat.le_of_ble_eq_true rfl) (by rw [← hQ_]; exact ⟨(by rw [rX8_melt]; try simp only [if_neg c_1, if_pos c_2]), (by rw [sX8_melt]; try simp only [if_neg c_1, if_pos c_2])⟩)
    · refine z_iload_n dX8_melt_14 rfl ?_
      refine z_iload_n dX8_melt_15 rfl ?_
      refine z_icmp_ne (tgt := 21) dX8_melt_16 (by decide) (fun c_3 => ?_) (fun c_3 => ?_)
      · refine z_iconst dX8_melt_21 k_iconst_0 ?_
        refine z_istore_n (lv' := [some (.ref 3), some (.int a1), some (.int a2), some (.int (0 : Int32))]) dX8_melt_22 (Nat.le_of_ble_eq_true rfl) rfl ?_
        refine whX8_melt_23 P σ a1 a2 (0 : Int32) ((((W_.2 c_1).2 c_2).2 c_3).1).1 ((((W_.2 c_1).2 c_2).2 c_3).1).2 (fun hX23_ => ?_)
        rw [eX8_melt_23] at hX23_
        try dsimp only at hX23_
        show zz G mX8_melt 2 0 0 Q_ 23 [some (.ref 3), some (.int a1), some (.int a2), some (.int (wX8_melt_23 σ a1 a2 (0 : Int32)))] [] (hh P σ) 0 0
        refine z_iload_n dX8_melt_23 rfl ?_
        refine z_aloadr_n dX8_melt_24 rfl ?_
        refine z_get (ci := 8) (r := (RX8, TX8, 12)) (j := 3) (v := .int ((σ 3) 3)) dX8_melt_25 (Nat.le_of_ble_eq_true rfl) (zN rfl) rfl rfl (Nat.le_of_ble_eq_true rfl) fl_X8_26 rfl ?_
        refine z_icmp_ge (tgt := 70) dX8_melt_28 (by decide) (fun c_4 => ?_) (fun c_4 => ?_)
        · refine z_iconst dX8_melt_70 k_iconst_0 ?_
          refine z_istore_n (lv' := [some (.ref 3), some (.int a1), some (.int a2), some (.int (0 : Int32))]) dX8_melt_71 (Nat.le_of_ble_eq_true rfl) rfl ?_
          refine lpX8_melt_72 P σ a1 a2 ((((σ 3) 3)).toNatClampNeg) (((((W_.2 c_1).2 c_2).2 c_3).2.1 c_4).1).1 (((((W_.2 c_1).2 c_2).2 c_3).2.1 c_4).1).2 ?_
          show zz G mX8_melt 2 0 0 Q_ 109 [some (.ref 3), some (.int a1), none, none] [] (hh P (zfor (fX8_melt_72 a1 a2) ((((σ 3) 3)).toNatClampNeg) σ)) 0 0
          refine z_aloadr_n dX8_melt_109 rfl ?_
          refine z_iload_n dX8_melt_110 rfl ?_
          refine z_callV (ci := 8) (r := (RX8, TX8, 12)) (b := 3) (As := [.int a1]) (rest := []) (ctX8_keptBy P (zfor (fX8_melt_72 a1 a2) ((((σ 3) 3)).toNatClampNeg) σ) a1 (((((W_.2 c_1).2 c_2).2 c_3).2.1 c_4).2)) dX8_melt_111 lk_X8_185 lv_X8_keptBy (Nat.le_of_ble_eq_true rfl) (zN rfl) rfl rfl rfl rfl (Nat.le_of_ble_eq_true rfl) (Nat.le_of_ble_eq_true rfl) (Nat.le_of_ble_eq_true rfl) (Nat.le_of_ble_eq_true rfl) (fun r_ h_ e_ => ?_)
          obtain ⟨e1_, e2_⟩ := e_
          subst e1_
          subst e2_
          show zz G mX8_melt 2 0 0 Q_ 114 [some (.ref 3), some (.int a1), none, none] [.int (rX8_keptBy (zfor (fX8_melt_72 a1 a2) ((((σ 3) 3)).toNatClampNeg) σ) a1)] (hh P (zfor (fX8_melt_72 a1 a2) ((((σ 3) 3)).toNatClampNeg) σ)) 0 0
          exact z_ireturn dX8_melt_114 rfl rfl (Nat.le_of_ble_eq_true rfl) (Nat.le_of_ble_eq_true rfl) (by rw [← hQ_]; exact ⟨(by rw [rX8_melt]; try simp only [if_neg c_1, if_neg c_2, if_neg c_3, if_pos c_4]), (by rw [sX8_melt]; try simp only [if_neg c_1, if_neg c_2, if_neg c_3, if_pos c_4])⟩)
        · refine z_aloadr_n dX8_melt_31 rfl ?_
          refine z_get (ci := 8) (r := (RX8, TX8, 12)) (j := 2) (v := .ref 9) dX8_melt_32 (Nat.le_of_ble_eq_true rfl) (zN rfl) rfl rfl (Nat.le_of_ble_eq_true rfl) fl_X8_22 rfl ?_
          refine z_iload_n dX8_melt_35 rfl ?_
          have hp_5 := (((((W_.2 c_1).2 c_2).2 c_3).2.2 c_4).1).2
          refine z_aald (r := some (pO ((wX8_melt_23 σ a1 a2 (0 : Int32)).toNatClampNeg))) dX8_melt_36 (Nat.le_of_ble_eq_true rfl) (zN rfl) rfl (((((W_.2 c_1).2 c_2).2 c_3).2.2 c_4).1).1 (if_pos (((((W_.2 c_1).2 c_2).2 c_3).2.2 c_4).1).2) ?_
          refine z_get (ci := 7) (r := (RX7, TX7, 5)) (j := 3) (v := .int ((σ (pO ((wX8_melt_23 σ a1 a2 (0 : Int32)).toNatClampNeg))) 3)) dX8_melt_37 (z3O ((wX8_melt_23 σ a1 a2 (0 : Int32)).toNatClampNeg)) (zNO hp_5) (SH_pO P ((wX8_melt_23 σ a1 a2 (0 : Int32)).toNatClampNeg)) rfl (Nat.le_of_ble_eq_true rfl) fl_X8_175 rfl ?_
          refine z_iload_n dX8_melt_40 rfl ?_
          refine z_icmp_ne (tgt := 64) dX8_melt_41 (by decide) (fun c_6 => ?_) (fun c_6 => ?_)
          · refine z_iinc (v := ((wX8_melt_23 σ a1 a2 (0 : Int32)) + (1 : Int32))) (lv' := [some (.ref 3), some (.int a1), some (.int a2), some (.int ((wX8_melt_23 σ a1 a2 (0 : Int32)) + (1 : Int32)))]) dX8_melt_64 (Nat.le_of_ble_eq_true rfl) rfl (by rw [k_iconst_1]) rfl ?_
            refine z_goto (tgt := 23) dX8_melt_67 (by decide) ?_
            exact (ex_r (ex_r hX23_ c_4) c_6).elim
          · refine z_aloadr_n dX8_melt_44 rfl ?_
            refine z_iload_n dX8_melt_45 rfl ?_
            refine z_aloadr_n dX8_melt_46 rfl ?_
            refine z_get (ci := 8) (r := (RX8, TX8, 12)) (j := 2) (v := .ref 9) dX8_melt_47 (Nat.le_of_ble_eq_true rfl) (zN rfl) rfl rfl (Nat.le_of_ble_eq_true rfl) fl_X8_22 rfl ?_
            refine z_iload_n dX8_melt_50 rfl ?_
            have hp_7 := ((((((W_.2 c_1).2 c_2).2 c_3).2.2 c_4).2.1 c_6).1).2
            refine z_aald (r := some (pO ((wX8_melt_23 σ a1 a2 (0 : Int32)).toNatClampNeg))) dX8_melt_51 (Nat.le_of_ble_eq_true rfl) (zN rfl) rfl ((((((W_.2 c_1).2 c_2).2 c_3).2.2 c_4).2.1 c_6).1).1 (if_pos ((((((W_.2 c_1).2 c_2).2 c_3).2.2 c_4).2.1 c_6).1).2) ?_
            refine z_get (ci := 7) (r := (RX7, TX7, 5)) (j := 4) (v := .int ((σ (pO ((wX8_melt_23 σ a1 a2 (0 : Int32)).toNatClampNeg))) 4)) dX8_melt_52 (z3O ((wX8_melt_23 σ a1 a2 (0 : Int32)).toNatClampNeg)) (zNO hp_7) (SH_pO P ((wX8_melt_23 σ a1 a2 (0 : Int32)).toNatClampNeg)) rfl (Nat.le_of_ble_eq_true rfl) fl_X8_182 rfl ?_
            refine z_callV (ci := 8) (r := (RX8, TX8, 12)) (b := 3) (As := [.int a1, .int ((σ (pO ((wX8_melt_23 σ a1 a2 (0 : Int32)).toNatClampNeg))) 4)]) (rest := []) (ctX8_hasYear P σ a1 ((σ (pO ((wX8_melt_23 σ a1 a2 (0 : Int32)).toNatClampNeg))) 4) ((((((W_.2 c_1).2 c_2).2 c_3).2.2 c_4).2.1 c_6).2)) dX8_melt_55 lk_X8_178 lv_X8_hasYear (Nat.le_of_ble_eq_true rfl) (zN rfl) rfl rfl rfl rfl (Nat.le_of_ble_eq_true rfl) (Nat.le_of_ble_eq_true rfl) (Nat.le_of_ble_eq_true rfl) (Nat.le_of_ble_eq_true rfl) (fun r_ h_ e_ => ?_)
            obtain ⟨e1_, e2_⟩ := e_
            subst e1_
            subst e2_
            show zz G mX8_melt 2 0 0 Q_ 58 [some (.ref 3), some (.int a1), some (.int a2), some (.int (wX8_melt_23 σ a1 a2 (0 : Int32)))] [.int (rX8_hasYear σ a1 ((σ (pO ((wX8_melt_23 σ a1 a2 (0 : Int32)).toNatClampNeg))) 4))] (hh P σ) 0 0
            refine z_if_eq (tgt := 64) dX8_melt_58 (by decide) (fun c_8 => ?_) (fun c_8 => ?_)
            · refine z_iinc (v := ((wX8_melt_23 σ a1 a2 (0 : Int32)) + (1 : Int32))) (lv' := [some (.ref 3), some (.int a1), some (.int a2), some (.int ((wX8_melt_23 σ a1 a2 (0 : Int32)) + (1 : Int32)))]) dX8_melt_64 (Nat.le_of_ble_eq_true rfl) rfl (by rw [k_iconst_1]) rfl ?_
              refine z_goto (tgt := 23) dX8_melt_67 (by decide) ?_
              exact (ex_l (ex_l (ex_r hX23_ c_4) c_6) c_8).elim
            · refine z_bipush dX8_melt_61 k_bipush_m3 ?_
              exact z_ireturn dX8_melt_63 rfl rfl (Nat.le_of_ble_eq_true rfl) (Nat.le_of_ble_eq_true rfl) (by rw [← hQ_]; exact ⟨(by rw [rX8_melt]; try simp only [if_neg c_1, if_neg c_2, if_neg c_3, if_neg c_4, if_pos c_6, if_neg c_8]), (by rw [sX8_melt]; try simp only [if_neg c_1, if_neg c_2, if_neg c_3, if_neg c_4, if_pos c_6, if_neg c_8])⟩)
      · refine z_iconst dX8_melt_19 k_iconst_m1 ?_
        exact z_ireturn dX8_melt_20 rfl rfl (Nat.le_of_ble_eq_true rfl) (Nat.le_of_ble_eq_true rfl) (by rw [← hQ_]; exact ⟨(by rw [rX8_melt]; try simp only [if_neg c_1, if_neg c_2, if_pos c_3]), (by rw [sX8_melt]; try simp only [if_neg c_1, if_neg c_2, if_pos c_3])⟩)

theorem dX8_strangers_31 : decode cX8_strangers 31 = .ok (.iload 5, 2) := by decide +kernel
theorem dX8_strangers_33 : decode cX8_strangers 33 = .ok (.aload_n 0, 1) := by decide +kernel
theorem dX8_strangers_34 : decode cX8_strangers 34 = .ok (.getfield 26, 3) := by decide +kernel
theorem dX8_strangers_37 : decode cX8_strangers 37 = .ok (.if_icmp .ge 65, 3) := by decide +kernel
theorem dX8_strangers_40 : decode cX8_strangers 40 = .ok (.aload_n 0, 1) := by decide +kernel
theorem dX8_strangers_41 : decode cX8_strangers 41 = .ok (.getfield 22, 3) := by decide +kernel
theorem dX8_strangers_44 : decode cX8_strangers 44 = .ok (.iload 4, 2) := by decide +kernel
theorem dX8_strangers_46 : decode cX8_strangers 46 = .ok (.aaload, 1) := by decide +kernel
theorem dX8_strangers_47 : decode cX8_strangers 47 = .ok (.aload_n 0, 1) := by decide +kernel
theorem dX8_strangers_48 : decode cX8_strangers 48 = .ok (.getfield 22, 3) := by decide +kernel
theorem dX8_strangers_51 : decode cX8_strangers 51 = .ok (.iload 5, 2) := by decide +kernel
theorem dX8_strangers_53 : decode cX8_strangers 53 = .ok (.aaload, 1) := by decide +kernel
theorem dX8_strangers_54 : decode cX8_strangers 54 = .ok (.invokestatic 192, 3) := by decide +kernel
theorem dX8_strangers_57 : decode cX8_strangers 57 = .ok (.ifCond .ne 6, 3) := by decide +kernel
theorem dX8_strangers_60 : decode cX8_strangers 60 = .ok (.goto 36, 3) := by decide +kernel
theorem dX8_strangers_63 : decode cX8_strangers 63 = .ok (.iload_n 2, 1) := by decide +kernel
theorem dX8_strangers_64 : decode cX8_strangers 64 = .ok (.iconst 1, 1) := by decide +kernel
theorem dX8_strangers_65 : decode cX8_strangers 65 = .ok (.if_icmp .eq 28, 3) := by decide +kernel
theorem dX8_strangers_68 : decode cX8_strangers 68 = .ok (.aload_n 0, 1) := by decide +kernel
theorem dX8_strangers_69 : decode cX8_strangers 69 = .ok (.getfield 33, 3) := by decide +kernel
theorem dX8_strangers_72 : decode cX8_strangers 72 = .ok (.aload_n 0, 1) := by decide +kernel
theorem dX8_strangers_73 : decode cX8_strangers 73 = .ok (.getfield 22, 3) := by decide +kernel
theorem dX8_strangers_76 : decode cX8_strangers 76 = .ok (.iload 4, 2) := by decide +kernel
theorem dX8_strangers_78 : decode cX8_strangers 78 = .ok (.aaload, 1) := by decide +kernel
theorem dX8_strangers_79 : decode cX8_strangers 79 = .ok (.aload_n 0, 1) := by decide +kernel
theorem dX8_strangers_80 : decode cX8_strangers 80 = .ok (.getfield 22, 3) := by decide +kernel
theorem dX8_strangers_83 : decode cX8_strangers 83 = .ok (.iload 5, 2) := by decide +kernel
theorem dX8_strangers_85 : decode cX8_strangers 85 = .ok (.aaload, 1) := by decide +kernel
theorem dX8_strangers_86 : decode cX8_strangers 86 = .ok (.invokevirtual 188, 3) := by decide +kernel
theorem dX8_strangers_89 : decode cX8_strangers 89 = .ok (.iload_n 1, 1) := by decide +kernel
theorem dX8_strangers_90 : decode cX8_strangers 90 = .ok (.if_icmp .lt 6, 3) := by decide +kernel
theorem dX8_strangers_93 : decode cX8_strangers 93 = .ok (.iinc 3 1, 3) := by decide +kernel
theorem dX8_strangers_96 : decode cX8_strangers 96 = .ok (.iinc 5 1, 3) := by decide +kernel
theorem dX8_strangers_99 : decode cX8_strangers 99 = .ok (.goto (-68), 3) := by decide +kernel
theorem dX8_strangers_102 : decode cX8_strangers 102 = .ok (.iinc 4 1, 3) := by decide +kernel
theorem dX8_strangers_105 : decode cX8_strangers 105 = .ok (.goto (-89), 3) := by decide +kernel
noncomputable def fX8_strangers_31 (P : zp) (l1 : Int32) (l2 : Int32) (l4 : Int32) (s_ : Int32) (i_ : Nat) (a_ : Int32 × zc_N) : Int32 × zc_N := ((if (rX8_areStrangers a_.2 l4.toNatClampNeg (s_ + nI i_).toNatClampNeg) = (0 : Int32) then a_.1 else (if l2 = (1 : Int32) then (a_.1 + (1 : Int32)) else (if (rX4_scoreOf P a_.2 l4.toNatClampNeg (s_ + nI i_).toNatClampNeg) < l1 then a_.1 else (a_.1 + (1 : Int32))))), (if (rX8_areStrangers a_.2 l4.toNatClampNeg (s_ + nI i_).toNatClampNeg) = (0 : Int32) then a_.2 else (if l2 = (1 : Int32) then a_.2 else (sX4_scoreOf P a_.2 l4.toNatClampNeg (s_ + nI i_).toNatClampNeg))))
def qX8_strangers_31 (P : zp) (l2 : Int32) (l4 : Int32) (s_ : Int32) (i_ : Nat) (a_ : Int32 × zc_N) : Prop := ((vp_in l4 24 ∧ l4.toNatClampNeg < P.2.1) ∧ ((vp_in (s_ + nI i_) 24 ∧ (s_ + nI i_).toNatClampNeg < P.2.1) ∧ (((rX8_areStrangers a_.2 l4.toNatClampNeg (s_ + nI i_).toNatClampNeg) = (0 : Int32) → True) ∧ (¬ (rX8_areStrangers a_.2 l4.toNatClampNeg (s_ + nI i_).toNatClampNeg) = (0 : Int32) → ((l2 = (1 : Int32) → True) ∧ (¬ l2 = (1 : Int32) → ((vp_in l4 24 ∧ l4.toNatClampNeg < P.2.1) ∧ ((vp_in (s_ + nI i_) 24 ∧ (s_ + nI i_).toNatClampNeg < P.2.1) ∧ (pX4_scoreOf P a_.2 l4.toNatClampNeg (s_ + nI i_).toNatClampNeg)))))))))
set_option maxHeartbeats 2000000 in
theorem lpX8_strangers_31 {G : zc_G} {Q : Option Value → zc_H → Prop} (P : zp) (σ : zc_N) (l1 : Int32) (l2 : Int32) (l3 : Int32) (l4 : Int32) (s_ : Int32) (n_ : Nat) (hC_ : ∀ i31_ : Nat, i31_ ≤ n_ → ((((zfor (fX8_strangers_31 P l1 l2 l4 s_) i31_ (l3, σ)).2 3) 3) ≤ (s_ + nI i31_) ↔ n_ ≤ i31_)) (W1_ : ∀ i31_ : Nat, i31_ < n_ → qX8_strangers_31 P l2 l4 s_ i31_ (zfor (fX8_strangers_31 P l1 l2 l4 s_) i31_ (l3, σ)))
    (W2_ : zz G mX8_strangers 19 0 0 Q 102 [some (.ref 3), some (.int l1), some (.int l2), some (.int (zfor (fX8_strangers_31 P l1 l2 l4 s_) n_ (l3, σ)).1), some (.int l4), none] [] (hh P (zfor (fX8_strangers_31 P l1 l2 l4 s_) n_ (l3, σ)).2) 0 0) :
    zz G mX8_strangers 19 0 0 Q 31 [some (.ref 3), some (.int l1), some (.int l2), some (.int l3), some (.int l4), some (.int s_)] [] (hh P σ) 0 0 := by
  refine zfor_sI (fun i_ a_ => zz G mX8_strangers 19 0 0 Q 31 [some (.ref 3), some (.int l1), some (.int l2), some (.int a_.1), some (.int l4), some (.int i_)] [] (hh P a_.2) 0 0) (fX8_strangers_31 P l1 l2 l4 s_) s_ n_ (l3, σ) (fun i_ hi_ k_ => ?_) ?_
  all_goals try dsimp only
  · have W3_ := W1_ i_ hi_
    have hD_ := hC_ i_ (Nat.le_of_lt hi_)
    generalize zfor (fX8_strangers_31 P l1 l2 l4 s_) i_ (l3, σ) = g_ at k_ W3_ hD_ ⊢
    obtain ⟨x0_, x1_⟩ := g_
    dsimp only at k_ W3_ hD_ ⊢
    rw [fX8_strangers_31] at k_
    rw [qX8_strangers_31] at W3_
    try dsimp only at W3_
    dsimp only at k_
    refine z_iload dX8_strangers_31 rfl ?_
    refine z_aloadr_n dX8_strangers_33 rfl ?_
    refine z_get (ci := 8) (r := (RX8, TX8, 12)) (j := 3) (v := .int ((x1_ 3) 3)) dX8_strangers_34 (Nat.le_of_ble_eq_true rfl) (zN rfl) rfl rfl (Nat.le_of_ble_eq_true rfl) fl_X8_26 rfl ?_
    refine z_icmp_ge (tgt := 102) dX8_strangers_37 (by decide) (fun c_ => absurd c_ (fun q_ => Nat.not_le_of_lt hi_ (hD_.mp q_))) (fun c_ => ?_)
    refine z_aloadr_n dX8_strangers_40 rfl ?_
    refine z_get (ci := 8) (r := (RX8, TX8, 12)) (j := 2) (v := .ref 9) dX8_strangers_41 (Nat.le_of_ble_eq_true rfl) (zN rfl) rfl rfl (Nat.le_of_ble_eq_true rfl) fl_X8_22 rfl ?_
    refine z_iload dX8_strangers_44 rfl ?_
    have hp_2 := W3_.1.2
    refine z_aald (r := some (pO l4.toNatClampNeg)) dX8_strangers_46 (Nat.le_of_ble_eq_true rfl) (zN rfl) rfl W3_.1.1 (if_pos W3_.1.2) ?_
    refine z_aloadr_n dX8_strangers_47 rfl ?_
    refine z_get (ci := 8) (r := (RX8, TX8, 12)) (j := 2) (v := .ref 9) dX8_strangers_48 (Nat.le_of_ble_eq_true rfl) (zN rfl) rfl rfl (Nat.le_of_ble_eq_true rfl) fl_X8_22 rfl ?_
    refine z_iload dX8_strangers_51 rfl ?_
    have hp_3 := W3_.2.1.2
    refine z_aald (r := some (pO ((s_ + nI i_).toNatClampNeg))) dX8_strangers_53 (Nat.le_of_ble_eq_true rfl) (zN rfl) rfl W3_.2.1.1 (if_pos W3_.2.1.2) ?_
    refine z_callS (As := [.ref (pO l4.toNatClampNeg), .ref (pO ((s_ + nI i_).toNatClampNeg))]) (rest := []) (ctX8_areStrangers P x1_ l4.toNatClampNeg hp_2 ((s_ + nI i_).toNatClampNeg) hp_3) dX8_strangers_54 lk_X8_192 ls_X8_areStrangers rfl (Nat.le_of_ble_eq_true rfl) (Nat.le_of_ble_eq_true rfl) (Nat.le_of_ble_eq_true rfl) (Nat.le_of_ble_eq_true rfl) (fun r_ h_ e_ => ?_)
    obtain ⟨e1_, e2_⟩ := e_
    subst e1_
    subst e2_
    show zz G mX8_strangers 19 0 0 Q 57 [some (.ref 3), some (.int l1), some (.int l2), some (.int x0_), some (.int l4), some (.int (s_ + nI i_))] [.int (rX8_areStrangers x1_ l4.toNatClampNeg ((s_ + nI i_).toNatClampNeg))] (hh P x1_) 0 0
    refine z_if_ne (tgt := 63) dX8_strangers_57 (by decide) (fun c_4 => ?_) (fun c_4 => ?_)
    · refine z_iload_n dX8_strangers_63 rfl ?_
      refine z_iconst dX8_strangers_64 k_iconst_1 ?_
      refine z_icmp_eq (tgt := 93) dX8_strangers_65 (by decide) (fun c_5 => ?_) (fun c_5 => ?_)
      · refine z_iinc (v := (x0_ + (1 : Int32))) (lv' := [some (.ref 3), some (.int l1), some (.int l2), some (.int (x0_ + (1 : Int32))), some (.int l4), some (.int (s_ + nI i_))]) dX8_strangers_93 (Nat.le_of_ble_eq_true rfl) rfl (by rw [k_iconst_1]) rfl ?_
        refine z_iinc (v := ((s_ + nI i_) + (1 : Int32))) (lv' := [some (.ref 3), some (.int l1), some (.int l2), some (.int (x0_ + (1 : Int32))), some (.int l4), some (.int ((s_ + nI i_) + (1 : Int32)))]) dX8_strangers_96 (Nat.le_of_ble_eq_true rfl) rfl (by rw [k_iconst_1]) rfl ?_
        refine z_goto (tgt := 31) dX8_strangers_99 (by decide) ?_
        rw [nS_1]
        simpa only [if_neg c_4, if_pos c_5] using k_
      · refine z_aloadr_n dX8_strangers_68 rfl ?_
        refine z_get (ci := 8) (r := (RX8, TX8, 12)) (j := 4) (v := .ref 10) dX8_strangers_69 (Nat.le_of_ble_eq_true rfl) (zN rfl) rfl rfl (Nat.le_of_ble_eq_true rfl) fl_X8_33 rfl ?_
        refine z_aloadr_n dX8_strangers_72 rfl ?_
        refine z_get (ci := 8) (r := (RX8, TX8, 12)) (j := 2) (v := .ref 9) dX8_strangers_73 (Nat.le_of_ble_eq_true rfl) (zN rfl) rfl rfl (Nat.le_of_ble_eq_true rfl) fl_X8_22 rfl ?_
        refine z_iload dX8_strangers_76 rfl ?_
        have hp_6 := (((W3_.2.2.2 c_4).2 c_5).1).2
        refine z_aald (r := some (pO l4.toNatClampNeg)) dX8_strangers_78 (Nat.le_of_ble_eq_true rfl) (zN rfl) rfl (((W3_.2.2.2 c_4).2 c_5).1).1 (if_pos (((W3_.2.2.2 c_4).2 c_5).1).2) ?_
        refine z_aloadr_n dX8_strangers_79 rfl ?_
        refine z_get (ci := 8) (r := (RX8, TX8, 12)) (j := 2) (v := .ref 9) dX8_strangers_80 (Nat.le_of_ble_eq_true rfl) (zN rfl) rfl rfl (Nat.le_of_ble_eq_true rfl) fl_X8_22 rfl ?_
        refine z_iload dX8_strangers_83 rfl ?_
        have hp_7 := (((W3_.2.2.2 c_4).2 c_5).2.1).2
        refine z_aald (r := some (pO ((s_ + nI i_).toNatClampNeg))) dX8_strangers_85 (Nat.le_of_ble_eq_true rfl) (zN rfl) rfl (((W3_.2.2.2 c_4).2 c_5).2.1).1 (if_pos (((W3_.2.2.2 c_4).2 c_5).2.1).2) ?_
        refine z_callV (ci := 4) (r := (RX4, TX4, 10)) (b := 10) (As := [.ref (pO l4.toNatClampNeg), .ref (pO ((s_ + nI i_).toNatClampNeg))]) (rest := []) (ctX4_scoreOf P x1_ l4.toNatClampNeg hp_6 ((s_ + nI i_).toNatClampNeg) hp_7 (((W3_.2.2.2 c_4).2 c_5).2.2)) dX8_strangers_86 lk_X8_188 lv_X4_scoreOf (Nat.le_of_ble_eq_true rfl) (zN rfl) rfl rfl rfl rfl (Nat.le_of_ble_eq_true rfl) (Nat.le_of_ble_eq_true rfl) (Nat.le_of_ble_eq_true rfl) (Nat.le_of_ble_eq_true rfl) (fun r_ h_ e_ => ?_)
        obtain ⟨e1_, e2_⟩ := e_
        subst e1_
        subst e2_
        show zz G mX8_strangers 19 0 0 Q 89 [some (.ref 3), some (.int l1), some (.int l2), some (.int x0_), some (.int l4), some (.int (s_ + nI i_))] [.int (rX4_scoreOf P x1_ l4.toNatClampNeg ((s_ + nI i_).toNatClampNeg))] (hh P (sX4_scoreOf P x1_ l4.toNatClampNeg ((s_ + nI i_).toNatClampNeg))) 0 0
        refine z_iload_n dX8_strangers_89 rfl ?_
        have K_1 : zz G mX8_strangers 19 0 0 Q 96 [some (.ref 3), some (.int l1), some (.int l2), some (.int (if (rX4_scoreOf P x1_ l4.toNatClampNeg ((s_ + nI i_).toNatClampNeg)) < l1 then x0_ else (x0_ + (1 : Int32)))), some (.int l4), some (.int (s_ + nI i_))] [] (hh P (sX4_scoreOf P x1_ l4.toNatClampNeg ((s_ + nI i_).toNatClampNeg))) 0 0 := by
          refine z_iinc (v := ((s_ + nI i_) + (1 : Int32))) (lv' := [some (.ref 3), some (.int l1), some (.int l2), some (.int (if (rX4_scoreOf P x1_ l4.toNatClampNeg ((s_ + nI i_).toNatClampNeg)) < l1 then x0_ else (x0_ + (1 : Int32)))), some (.int l4), some (.int ((s_ + nI i_) + (1 : Int32)))]) dX8_strangers_96 (Nat.le_of_ble_eq_true rfl) rfl (by rw [k_iconst_1]) rfl ?_
          refine z_goto (tgt := 31) dX8_strangers_99 (by decide) ?_
          rw [nS_1]
          simpa only [if_neg c_4, if_neg c_5] using k_
        refine z_icmp_lt (tgt := 96) dX8_strangers_90 (by decide) (fun c_8 => ?_) (fun c_8 => ?_)
        · rw [show (if (rX4_scoreOf P x1_ l4.toNatClampNeg ((s_ + nI i_).toNatClampNeg)) < l1 then x0_ else (x0_ + (1 : Int32))) = x0_ from (if_pos c_8)] at K_1
          exact K_1
        · refine z_iinc (v := (x0_ + (1 : Int32))) (lv' := [some (.ref 3), some (.int l1), some (.int l2), some (.int (x0_ + (1 : Int32))), some (.int l4), some (.int (s_ + nI i_))]) dX8_strangers_93 (Nat.le_of_ble_eq_true rfl) rfl (by rw [k_iconst_1]) rfl ?_
          rw [show (if (rX4_scoreOf P x1_ l4.toNatClampNeg ((s_ + nI i_).toNatClampNeg)) < l1 then x0_ else (x0_ + (1 : Int32))) = (x0_ + (1 : Int32)) from (if_neg c_8)] at K_1
          exact K_1
    · refine z_goto (tgt := 96) dX8_strangers_60 (by decide) ?_
      refine z_iinc (v := ((s_ + nI i_) + (1 : Int32))) (lv' := [some (.ref 3), some (.int l1), some (.int l2), some (.int x0_), some (.int l4), some (.int ((s_ + nI i_) + (1 : Int32)))]) dX8_strangers_96 (Nat.le_of_ble_eq_true rfl) rfl (by rw [k_iconst_1]) rfl ?_
      refine z_goto (tgt := 31) dX8_strangers_99 (by decide) ?_
      rw [nS_1]
      simpa only [if_pos c_4] using k_
  · have hD_ := hC_ n_ (Nat.le_refl _)
    generalize zfor (fX8_strangers_31 P l1 l2 l4 s_) n_ (l3, σ) = g_ at W2_ hD_ ⊢
    obtain ⟨x0_, x1_⟩ := g_
    dsimp only at W2_ hD_ ⊢
    refine z_iload dX8_strangers_31 rfl ?_
    refine z_aloadr_n dX8_strangers_33 rfl ?_
    refine z_get (ci := 8) (r := (RX8, TX8, 12)) (j := 3) (v := .int ((x1_ 3) 3)) dX8_strangers_34 (Nat.le_of_ble_eq_true rfl) (zN rfl) rfl rfl (Nat.le_of_ble_eq_true rfl) fl_X8_26 rfl ?_
    refine z_icmp_ge (tgt := 102) dX8_strangers_37 (by decide) (fun c_ => ?_) (fun c_ => absurd (hD_.mpr (Nat.le_refl _)) c_)
    exact zz_sub (lv' := [some (.ref 3), some (.int l1), some (.int l2), some (.int x0_), some (.int l4), none]) ⟨rfl, ⟨rfl, ⟨rfl, ⟨rfl, ⟨rfl, trivial⟩⟩⟩⟩⟩ W2_

theorem dX8_strangers_16 : decode cX8_strangers 16 = .ok (.iload 4, 2) := by decide +kernel
theorem dX8_strangers_18 : decode cX8_strangers 18 = .ok (.aload_n 0, 1) := by decide +kernel
theorem dX8_strangers_19 : decode cX8_strangers 19 = .ok (.getfield 26, 3) := by decide +kernel
theorem dX8_strangers_22 : decode cX8_strangers 22 = .ok (.if_icmp .ge 86, 3) := by decide +kernel
theorem dX8_strangers_25 : decode cX8_strangers 25 = .ok (.iload 4, 2) := by decide +kernel
theorem dX8_strangers_27 : decode cX8_strangers 27 = .ok (.iconst 1, 1) := by decide +kernel
theorem dX8_strangers_28 : decode cX8_strangers 28 = .ok (.iadd, 1) := by decide +kernel
theorem dX8_strangers_29 : decode cX8_strangers 29 = .ok (.istore 5, 2) := by decide +kernel
theorem dX8_strangers_108 : decode cX8_strangers 108 = .ok (.iload_n 3, 1) := by decide +kernel
noncomputable def vX8_strangers_1 (P : zp) (l1 : Int32) (l2 : Int32) (l3 : Int32) (l4 : Int32) (σ : zc_N) : zc_N := (zfor (fX8_strangers_31 P l1 l2 l4 (l4 + (1 : Int32))) ((((σ 3) 3) - (l4 + (1 : Int32))).toNatClampNeg) (l3, σ)).2
noncomputable def vX8_strangers_2 (P : zp) (l1 : Int32) (l2 : Int32) (l3 : Int32) (l4 : Int32) (σ : zc_N) : Int32 := (zfor (fX8_strangers_31 P l1 l2 l4 (l4 + (1 : Int32))) ((((σ 3) 3) - (l4 + (1 : Int32))).toNatClampNeg) (l3, σ)).1
noncomputable def fX8_strangers_16 (P : zp) (l1 : Int32) (l2 : Int32) (i_ : Nat) (a_ : Int32 × zc_N) : Int32 × zc_N := ((vX8_strangers_2 P l1 l2 a_.1 (nI i_) a_.2), (vX8_strangers_1 P l1 l2 a_.1 (nI i_) a_.2))
def qX8_strangers_16 (P : zp) (l1 : Int32) (l2 : Int32) (i_ : Nat) (a_ : Int32 × zc_N) : Prop := ((∀ i31_ : Nat, i31_ ≤ ((((a_.2 3) 3) - ((nI i_) + (1 : Int32))).toNatClampNeg) → ((((zfor (fX8_strangers_31 P l1 l2 (nI i_) ((nI i_) + (1 : Int32))) i31_ (a_.1, a_.2)).2 3) 3) ≤ (((nI i_) + (1 : Int32)) + nI i31_) ↔ ((((a_.2 3) 3) - ((nI i_) + (1 : Int32))).toNatClampNeg) ≤ i31_)) ∧ (∀ i31_ : Nat, i31_ < ((((a_.2 3) 3) - ((nI i_) + (1 : Int32))).toNatClampNeg) → qX8_strangers_31 P l2 (nI i_) ((nI i_) + (1 : Int32)) i31_ (zfor (fX8_strangers_31 P l1 l2 (nI i_) ((nI i_) + (1 : Int32))) i31_ (a_.1, a_.2))))
set_option maxHeartbeats 2000000 in
theorem lpX8_strangers_16 {G : zc_G} {Q : Option Value → zc_H → Prop} (P : zp) (σ : zc_N) (l1 : Int32) (l2 : Int32) (l3 : Int32) (n_ : Nat) (hC_ : ∀ i16_ : Nat, i16_ ≤ n_ → ((((zfor (fX8_strangers_16 P l1 l2) i16_ (l3, σ)).2 3) 3) ≤ (nI i16_) ↔ n_ ≤ i16_)) (W1_ : ∀ i16_ : Nat, i16_ < n_ → qX8_strangers_16 P l1 l2 i16_ (zfor (fX8_strangers_16 P l1 l2) i16_ (l3, σ)))
    (W2_ : zz G mX8_strangers 19 0 0 Q 108 [none, none, none, some (.int (zfor (fX8_strangers_16 P l1 l2) n_ (l3, σ)).1), none, none] [] (hh P (zfor (fX8_strangers_16 P l1 l2) n_ (l3, σ)).2) 0 0) :
    zz G mX8_strangers 19 0 0 Q 16 [some (.ref 3), some (.int l1), some (.int l2), some (.int l3), some (.int (nI 0)), none] [] (hh P σ) 0 0 := by
  refine zfor_nI (fun i_ a_ => zz G mX8_strangers 19 0 0 Q 16 [some (.ref 3), some (.int l1), some (.int l2), some (.int a_.1), some (.int i_), none] [] (hh P a_.2) 0 0) (fX8_strangers_16 P l1 l2) n_ (l3, σ) (fun i_ hi_ k_ => ?_) ?_
  all_goals try dsimp only
  · have W3_ := W1_ i_ hi_
    have hD_ := hC_ i_ (Nat.le_of_lt hi_)
    generalize zfor (fX8_strangers_16 P l1 l2) i_ (l3, σ) = g_ at k_ W3_ hD_ ⊢
    obtain ⟨x0_, x1_⟩ := g_
    dsimp only at k_ W3_ hD_ ⊢
    rw [fX8_strangers_16] at k_
    rw [qX8_strangers_16] at W3_
    try dsimp only at W3_
    dsimp only at k_
    refine z_iload dX8_strangers_16 rfl ?_
    refine z_aloadr_n dX8_strangers_18 rfl ?_
    refine z_get (ci := 8) (r := (RX8, TX8, 12)) (j := 3) (v := .int ((x1_ 3) 3)) dX8_strangers_19 (Nat.le_of_ble_eq_true rfl) (zN rfl) rfl rfl (Nat.le_of_ble_eq_true rfl) fl_X8_26 rfl ?_
    refine z_icmp_ge (tgt := 108) dX8_strangers_22 (by decide) (fun c_ => absurd c_ (fun q_ => Nat.not_le_of_lt hi_ (hD_.mp q_))) (fun c_ => ?_)
    refine z_iload dX8_strangers_25 rfl ?_
    refine z_iconst dX8_strangers_27 k_iconst_1 ?_
    refine z_iadd (v := ((nI i_) + (1 : Int32))) dX8_strangers_28 rfl ?_
    refine z_istore (lv' := [some (.ref 3), some (.int l1), some (.int l2), some (.int x0_), some (.int (nI i_)), some (.int ((nI i_) + (1 : Int32)))]) dX8_strangers_29 (Nat.le_of_ble_eq_true rfl) rfl ?_
    refine lpX8_strangers_31 P x1_ l1 l2 x0_ (nI i_) ((nI i_) + (1 : Int32)) ((((x1_ 3) 3) - ((nI i_) + (1 : Int32))).toNatClampNeg) W3_.1 W3_.2 ?_
    show zz G mX8_strangers 19 0 0 Q 102 [some (.ref 3), some (.int l1), some (.int l2), some (.int (vX8_strangers_2 P l1 l2 x0_ (nI i_) x1_)), some (.int (nI i_)), none] [] (hh P (vX8_strangers_1 P l1 l2 x0_ (nI i_) x1_)) 0 0
    refine z_iinc (v := ((nI i_) + (1 : Int32))) (lv' := [some (.ref 3), some (.int l1), some (.int l2), some (.int (vX8_strangers_2 P l1 l2 x0_ (nI i_) x1_)), some (.int ((nI i_) + (1 : Int32))), none]) dX8_strangers_102 (Nat.le_of_ble_eq_true rfl) rfl (by rw [k_iconst_1]) rfl ?_
    refine z_goto (tgt := 16) dX8_strangers_105 (by decide) ?_
    rw [nI_1]
    exact k_
  · have hD_ := hC_ n_ (Nat.le_refl _)
    generalize zfor (fX8_strangers_16 P l1 l2) n_ (l3, σ) = g_ at W2_ hD_ ⊢
    obtain ⟨x0_, x1_⟩ := g_
    dsimp only at W2_ hD_ ⊢
    refine z_iload dX8_strangers_16 rfl ?_
    refine z_aloadr_n dX8_strangers_18 rfl ?_
    refine z_get (ci := 8) (r := (RX8, TX8, 12)) (j := 3) (v := .int ((x1_ 3) 3)) dX8_strangers_19 (Nat.le_of_ble_eq_true rfl) (zN rfl) rfl rfl (Nat.le_of_ble_eq_true rfl) fl_X8_26 rfl ?_
    refine z_icmp_ge (tgt := 108) dX8_strangers_22 (by decide) (fun c_ => ?_) (fun c_ => absurd (hD_.mpr (Nat.le_refl _)) c_)
    exact zz_sub (lv' := [none, none, none, some (.int x0_), none, none]) ⟨rfl, trivial⟩ W2_

theorem dX8_strangers_0 : decode cX8_strangers 0 = .ok (.iload_n 2, 1) := by decide +kernel
theorem dX8_strangers_1 : decode cX8_strangers 1 = .ok (.iconst 0, 1) := by decide +kernel
theorem dX8_strangers_2 : decode cX8_strangers 2 = .ok (.iconst 1, 1) := by decide +kernel
theorem dX8_strangers_3 : decode cX8_strangers 3 = .ok (.invokestatic 67, 3) := by decide +kernel
theorem dX8_strangers_6 : decode cX8_strangers 6 = .ok (.ifCond .ne 5, 3) := by decide +kernel
theorem dX8_strangers_9 : decode cX8_strangers 9 = .ok (.iconst (-1), 1) := by decide +kernel
theorem dX8_strangers_10 : decode cX8_strangers 10 = .ok (.ireturn, 1) := by decide +kernel
theorem dX8_strangers_11 : decode cX8_strangers 11 = .ok (.iconst 0, 1) := by decide +kernel
theorem dX8_strangers_12 : decode cX8_strangers 12 = .ok (.istore_n 3, 1) := by decide +kernel
theorem dX8_strangers_13 : decode cX8_strangers 13 = .ok (.iconst 0, 1) := by decide +kernel
theorem dX8_strangers_14 : decode cX8_strangers 14 = .ok (.istore 4, 2) := by decide +kernel
theorem dX8_strangers_109 : decode cX8_strangers 109 = .ok (.ireturn, 1) := by decide +kernel
def pX8_strangers (P : zp) (σ : zc_N) (a1 : Int32) (a2 : Int32) : Prop := (((rX8_isWithin a2 (0 : Int32) (1 : Int32)) = (0 : Int32) → True) ∧ (¬ (rX8_isWithin a2 (0 : Int32) (1 : Int32)) = (0 : Int32) → ((∀ i16_ : Nat, i16_ ≤ ((((σ 3) 3)).toNatClampNeg) → ((((zfor (fX8_strangers_16 P a1 a2) i16_ ((0 : Int32), σ)).2 3) 3) ≤ (nI i16_) ↔ ((((σ 3) 3)).toNatClampNeg) ≤ i16_)) ∧ (∀ i16_ : Nat, i16_ < ((((σ 3) 3)).toNatClampNeg) → qX8_strangers_16 P a1 a2 i16_ (zfor (fX8_strangers_16 P a1 a2) i16_ ((0 : Int32), σ))))))
noncomputable def rX8_strangers (P : zp) (σ : zc_N) (a1 : Int32) (a2 : Int32) : Int32 := (if (rX8_isWithin a2 (0 : Int32) (1 : Int32)) = (0 : Int32) then (-1 : Int32) else (zfor (fX8_strangers_16 P a1 a2) ((((σ 3) 3)).toNatClampNeg) ((0 : Int32), σ)).1)
noncomputable def sX8_strangers (P : zp) (σ : zc_N) (a1 : Int32) (a2 : Int32) : zc_N := (if (rX8_isWithin a2 (0 : Int32) (1 : Int32)) = (0 : Int32) then σ else (zfor (fX8_strangers_16 P a1 a2) ((((σ 3) 3)).toNatClampNeg) ((0 : Int32), σ)).2)
set_option maxHeartbeats 1000000 in
theorem ctX8_strangers (P : zp) (σ : zc_N) (a1 : Int32) (a2 : Int32) (W_ : (pX8_strangers P σ a1 a2)) : sp mX8_strangers 19 0 0 [.ref 3, .int a1, .int a2] (hh P σ) (fun r_ h_ => r_ = some (.int (rX8_strangers P σ a1 a2)) ∧ h_ = hh P (sX8_strangers P σ a1 a2)) := by
  refine sp_of (lv := [some (.ref 3), some (.int a1), some (.int a2), none, none, none]) (by decide) (zcats_ok _ rfl) (Nat.le_of_ble_eq_true rfl) (zlv_ok _ 3 rfl) (fun G => ?_)
  generalize hQ_ : (fun (r_ : Option Value) (h_ : zc_H) => r_ = some (.int (rX8_strangers P σ a1 a2)) ∧ h_ = hh P (sX8_strangers P σ a1 a2)) = Q_
  unfold pX8_strangers at W_
  refine z_iload_n dX8_strangers_0 rfl ?_
  refine z_iconst dX8_strangers_1 k_iconst_0 ?_
  refine z_iconst dX8_strangers_2 k_iconst_1 ?_
  refine z_callS (As := [.int a2, .int (0 : Int32), .int (1 : Int32)]) (rest := []) (ctX8_isWithin P σ a2 (0 : Int32) (1 : Int32)) dX8_strangers_3 lk_X8_67 ls_X8_isWithin rfl (Nat.le_of_ble_eq_true rfl) (Nat.le_of_ble_eq_true rfl) (Nat.le_of_ble_eq_true rfl) (Nat.le_of_ble_eq_true rfl) (fun r_ h_ e_ => ?_)
  obtain ⟨e1_, e2_⟩ := e_
  subst e1_
  subst e2_
  show zz G mX8_strangers 19 0 0 Q_ 6 [some (.ref 3), some (.int a1), some (.int a2), none, none, none] [.int (rX8_isWithin a2 (0 : Int32) (1 : Int32))] (hh P σ) 0 0
  refine z_if_ne (tgt := 11) dX8_strangers_6 (by decide) (fun c_1 => ?_) (fun c_1 => ?_)
  · refine z_iconst dX8_strangers_11 k_iconst_0 ?_
    refine z_istore_n (lv' := [some (.ref 3), some (.int a1), some (.int a2), some (.int (0 : Int32)), none, none]) dX8_strangers_12 (Nat.le_of_ble_eq_true rfl) rfl ?_
    refine z_iconst dX8_strangers_13 k_iconst_0 ?_
    refine z_istore (lv' := [some (.ref 3), some (.int a1), some (.int a2), some (.int (0 : Int32)), some (.int (0 : Int32)), none]) dX8_strangers_14 (Nat.le_of_ble_eq_true rfl) rfl ?_
    refine lpX8_strangers_16 P σ a1 a2 (0 : Int32) ((((σ 3) 3)).toNatClampNeg) (W_.2 c_1).1 (W_.2 c_1).2 ?_
    show zz G mX8_strangers 19 0 0 Q_ 108 [none, none, none, some (.int (zfor (fX8_strangers_16 P a1 a2) ((((σ 3) 3)).toNatClampNeg) ((0 : Int32), σ)).1), none, none] [] (hh P (zfor (fX8_strangers_16 P a1 a2) ((((σ 3) 3)).toNatClampNeg) ((0 : Int32), σ)).2) 0 0
    refine z_iload_n dX8_strangers_108 rfl ?_
    exact z_ireturn dX8_strangers_109 rfl rfl (Nat.le_of_ble_eq_true rfl) (Nat.le_of_ble_eq_true rfl) (by rw [← hQ_]; exact ⟨(by rw [rX8_strangers]; try simp only [if_neg c_1]), (by rw [sX8_strangers]; try simp only [if_neg c_1])⟩)
  · refine z_iconst dX8_strangers_9 k_iconst_m1 ?_
    exact z_ireturn dX8_strangers_10 rfl rfl (Nat.le_of_ble_eq_true rfl) (Nat.le_of_ble_eq_true rfl) (by rw [← hQ_]; exact ⟨(by rw [rX8_strangers]; try simp only [if_pos c_1]), (by rw [sX8_strangers]; try simp only [if_pos c_1])⟩)
