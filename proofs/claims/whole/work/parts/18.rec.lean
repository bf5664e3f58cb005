/-! ===== printed by wip/whole/p18.py: the two searches that call themselves ===== -/

theorem dX9_finds_2 : decode cX9_finds 2 = .ok (.iload_n 3, 1) := by decide +kernel
theorem dX9_finds_3 : decode cX9_finds 3 = .ok (.iload_n 2, 1) := by decide +kernel
theorem dX9_finds_4 : decode cX9_finds 4 = .ok (.if_icmp .ge 71, 3) := by decide +kernel
theorem dX9_finds_7 : decode cX9_finds 7 = .ok (.aload_n 0, 1) := by decide +kernel
theorem dX9_finds_8 : decode cX9_finds 8 = .ok (.getfield 57, 3) := by decide +kernel
theorem dX9_finds_11 : decode cX9_finds 11 = .ok (.bipush 12, 2) := by decide +kernel
theorem dX9_finds_13 : decode cX9_finds 13 = .ok (.iload_n 1, 1) := by decide +kernel
theorem dX9_finds_14 : decode cX9_finds 14 = .ok (.imul, 1) := by decide +kernel
theorem dX9_finds_15 : decode cX9_finds 15 = .ok (.iload_n 3, 1) := by decide +kernel
theorem dX9_finds_16 : decode cX9_finds 16 = .ok (.iadd, 1) := by decide +kernel
theorem dX9_finds_17 : decode cX9_finds 17 = .ok (.baload, 1) := by decide +kernel
theorem dX9_finds_18 : decode cX9_finds 18 = .ok (.ifCond .eq 51, 3) := by decide +kernel
theorem dX9_finds_21 : decode cX9_finds 21 = .ok (.aload_n 0, 1) := by decide +kernel
theorem dX9_finds_22 : decode cX9_finds 22 = .ok (.getfield 63, 3) := by decide +kernel
theorem dX9_finds_25 : decode cX9_finds 25 = .ok (.iload_n 3, 1) := by decide +kernel
theorem dX9_finds_26 : decode cX9_finds 26 = .ok (.baload, 1) := by decide +kernel
theorem dX9_finds_27 : decode cX9_finds 27 = .ok (.ifCond .ne 42, 3) := by decide +kernel
theorem dX9_finds_30 : decode cX9_finds 30 = .ok (.aload_n 0, 1) := by decide +kernel
theorem dX9_finds_31 : decode cX9_finds 31 = .ok (.getfield 63, 3) := by decide +kernel
theorem dX9_finds_34 : decode cX9_finds 34 = .ok (.iload_n 3, 1) := by decide +kernel
theorem dX9_finds_35 : decode cX9_finds 35 = .ok (.iconst 1, 1) := by decide +kernel
theorem dX9_finds_36 : decode cX9_finds 36 = .ok (.bastore, 1) := by decide +kernel
theorem dX9_finds_37 : decode cX9_finds 37 = .ok (.aload_n 0, 1) := by decide +kernel
theorem dX9_finds_38 : decode cX9_finds 38 = .ok (.getfield 60, 3) := by decide +kernel
theorem dX9_finds_41 : decode cX9_finds 41 = .ok (.iload_n 3, 1) := by decide +kernel
theorem dX9_finds_42 : decode cX9_finds 42 = .ok (.iaload, 1) := by decide +kernel
theorem dX9_finds_43 : decode cX9_finds 43 = .ok (.ifCond .lt 17, 3) := by decide +kernel
theorem dX9_finds_46 : decode cX9_finds 46 = .ok (.aload_n 0, 1) := by decide +kernel
theorem dX9_finds_47 : decode cX9_finds 47 = .ok (.aload_n 0, 1) := by decide +kernel
theorem dX9_finds_48 : decode cX9_finds 48 = .ok (.getfield 60, 3) := by decide +kernel
theorem dX9_finds_51 : decode cX9_finds 51 = .ok (.iload_n 3, 1) := by decide +kernel
theorem dX9_finds_52 : decode cX9_finds 52 = .ok (.iaload, 1) := by decide +kernel
theorem dX9_finds_53 : decode cX9_finds 53 = .ok (.iload_n 2, 1) := by decide +kernel
theorem dX9_finds_54 : decode cX9_finds 54 = .ok (.invokevirtual 148, 3) := by decide +kernel
theorem dX9_finds_57 : decode cX9_finds 57 = .ok (.ifCond .eq 12, 3) := by decide +kernel
theorem dX9_finds_60 : decode cX9_finds 60 = .ok (.aload_n 0, 1) := by decide +kernel
theorem dX9_finds_61 : decode cX9_finds 61 = .ok (.getfield 60, 3) := by decide +kernel
theorem dX9_finds_64 : decode cX9_finds 64 = .ok (.iload_n 3, 1) := by decide +kernel
theorem dX9_finds_65 : decode cX9_finds 65 = .ok (.iload_n 1, 1) := by decide +kernel
theorem dX9_finds_66 : decode cX9_finds 66 = .ok (.iastore, 1) := by decide +kernel
theorem dX9_finds_67 : decode cX9_finds 67 = .ok (.iconst 1, 1) := by decide +kernel
theorem dX9_finds_69 : decode cX9_finds 69 = .ok (.iinc 3 1, 3) := by decide +kernel
theorem dX9_finds_72 : decode cX9_finds 72 = .ok (.goto (-70), 3) := by decide +kernel
theorem dX9_finds_75 : decode cX9_finds 75 = .ok (.iconst 0, 1) := by decide +kernel
noncomputable def fX9_finds_2 (Sf_ : zc_N → Int32 → Int32 → zc_N) (l1 : Int32) (l2 : Int32) (a_ : Int32 × zc_N) : Int32 × zc_N := ((a_.1 + (1 : Int32)), (if ((a_.2 47) (((12 : Int32) * l1) + a_.1).toNatClampNeg) = (0 : Int32) then a_.2 else (if ((a_.2 49) a_.1.toNatClampNeg) = (0 : Int32) then (Sf_ (zu a_.2 49 (zu (a_.2 49) a_.1.toNatClampNeg (1 : Int32))) ((a_.2 48) a_.1.toNatClampNeg) l2) else a_.2)))
def eX9_finds_2 (Rf_ : zc_N → Int32 → Int32 → Int32) (l1 : Int32) (l2 : Int32) (a_ : Int32 × zc_N) : Prop := ((l2 ≤ a_.1 ∧ True) ∨ (¬ l2 ≤ a_.1 ∧ ((((a_.2 47) (((12 : Int32) * l1) + a_.1).toNatClampNeg) = (0 : Int32) ∧ False) ∨ (¬ ((a_.2 47) (((12 : Int32) * l1) + a_.1).toNatClampNeg) = (0 : Int32) ∧ ((((a_.2 49) a_.1.toNatClampNeg) = (0 : Int32) ∧ ((((a_.2 48) a_.1.toNatClampNeg) < (0 : Int32) ∧ True) ∨ (¬ ((a_.2 48) a_.1.toNatClampNeg) < (0 : Int32) ∧ (((Rf_ (zu a_.2 49 (zu (a_.2 49) a_.1.toNatClampNeg (1 : Int32))) ((a_.2 48) a_.1.toNatClampNeg) l2) = (0 : Int32) ∧ False) ∨ (¬ (Rf_ (zu a_.2 49 (zu (a_.2 49) a_.1.toNatClampNeg (1 : Int32))) ((a_.2 48) a_.1.toNatClampNeg) l2) = (0 : Int32) ∧ True))))) ∨ (¬ ((a_.2 49) a_.1.toNatClampNeg) = (0 : Int32) ∧ False))))))
def qX9_finds_2 (Rf_ : zc_N → Int32 → Int32 → Int32) (Pf_ : zc_N → Int32 → Int32 → Prop) (l1 : Int32) (l2 : Int32) (a_ : Int32 × zc_N) : Prop := ((l2 ≤ a_.1 → True) ∧ (¬ l2 ≤ a_.1 → (vp_in (((12 : Int32) * l1) + a_.1) 144 ∧ ((((a_.2 47) (((12 : Int32) * l1) + a_.1).toNatClampNeg) = (0 : Int32) → True) ∧ (¬ ((a_.2 47) (((12 : Int32) * l1) + a_.1).toNatClampNeg) = (0 : Int32) → (vp_in a_.1 12 ∧ ((((a_.2 49) a_.1.toNatClampNeg) = (0 : Int32) → (vp_in a_.1 12 ∧ (vp_in a_.1 12 ∧ ((((a_.2 48) a_.1.toNatClampNeg) < (0 : Int32) → vp_in a_.1 12) ∧ (¬ ((a_.2 48) a_.1.toNatClampNeg) < (0 : Int32) → (vp_in a_.1 12 ∧ (Pf_ (zu a_.2 49 (zu (a_.2 49) a_.1.toNatClampNeg (1 : Int32))) ((a_.2 48) a_.1.toNatClampNeg) l2 ∧ (((Rf_ (zu a_.2 49 (zu (a_.2 49) a_.1.toNatClampNeg (1 : Int32))) ((a_.2 48) a_.1.toNatClampNeg) l2) = (0 : Int32) → True) ∧ (¬ (Rf_ (zu a_.2 49 (zu (a_.2 49) a_.1.toNatClampNeg (1 : Int32))) ((a_.2 48) a_.1.toNatClampNeg) l2) = (0 : Int32) → vp_in a_.1 12))))))))) ∧ (¬ ((a_.2 49) a_.1.toNatClampNeg) = (0 : Int32) → True))))))))
noncomputable def wX9_finds_2 (Rf_ : zc_N → Int32 → Int32 → Int32) (Sf_ : zc_N → Int32 → Int32 → zc_N) (l1 : Int32) (l2 : Int32) (a_ : Int32 × zc_N) : Int32 × zc_N := zit (fX9_finds_2 Sf_ l1 l2) (zwn (fun n_ => (eX9_finds_2 Rf_ l1 l2) (zit (fX9_finds_2 Sf_ l1 l2) n_ a_))) a_
set_option maxHeartbeats 2000000 in
theorem whX9_finds_2 {G : zc_G} {Q : Option Value → zc_H → Prop} (P : zp) (σ : zc_N) (Rf_ : zc_N → Int32 → Int32 → Int32) (Sf_ : zc_N → Int32 → Int32 → zc_N) (Pf_ : zc_N → Int32 → Int32 → Prop) (kd_ : Nat) (hrec_ : ∀ (τ : zc_N) (x1 x2 : Int32), Pf_ τ x1 x2 → sp mX9_finds kd_ 0 0 [.ref 32, .int x1, .int x2] (hh P τ) (fun r_ h_ => r_ = some (.int (Rf_ τ x1 x2)) ∧ h_ = hh P (Sf_ τ x1 x2))) (l1 : Int32) (l2 : Int32) (l3 : Int32)
    (hT_ : ∃ n_ : Nat, (eX9_finds_2 Rf_ l1 l2) (zit (fX9_finds_2 Sf_ l1 l2) n_ (l3, σ))) (W1_ : ∀ i2_ : Nat, i2_ < (zwn (fun n_ => (eX9_finds_2 Rf_ l1 l2) (zit (fX9_finds_2 Sf_ l1 l2) n_ (l3, σ)))) → qX9_finds_2 Rf_ Pf_ l1 l2 (zit (fX9_finds_2 Sf_ l1 l2) i2_ (l3, σ)))
    (W2_ : (eX9_finds_2 Rf_ l1 l2) (wX9_finds_2 Rf_ Sf_ l1 l2 (l3, σ)) → zz G mX9_finds (kd_ + 1) 0 0 Q 2 [some (.ref 32), some (.int l1), some (.int l2), some (.int (wX9_finds_2 Rf_ Sf_ l1 l2 (l3, σ)).1)] [] (hh P (wX9_finds_2 Rf_ Sf_ l1 l2 (l3, σ)).2) 0 0) :
    zz G mX9_finds (kd_ + 1) 0 0 Q 2 [some (.ref 32), some (.int l1), some (.int l2), some (.int l3)] [] (hh P σ) 0 0 := by
  unfold wX9_finds_2 at W2_
  have hs_ := zwn_spec hT_
  refine zit_Z (fun a_ => zz G mX9_finds (kd_ + 1) 0 0 Q 2 [some (.ref 32), some (.int l1), some (.int l2), some (.int a_.1)] [] (hh P a_.2) 0 0) (fX9_finds_2 Sf_ l1 l2) (zwn (fun n_ => (eX9_finds_2 Rf_ l1 l2) (zit (fX9_finds_2 Sf_ l1 l2) n_ (l3, σ)))) (l3, σ) (fun i_ hi_ k_ => ?_) (W2_ hs_.1)
  have hn_ := hs_.2 i_ hi_
  have W3_ := W1_ i_ hi_
  generalize zit (fX9_finds_2 Sf_ l1 l2) i_ (l3, σ) = g_ at k_ hn_ W3_ ⊢
  obtain ⟨x0_, x1_⟩ := g_
  try dsimp only at k_ hn_ W3_ ⊢
  rw [fX9_finds_2] at k_
  rw [eX9_finds_2] at hn_
  try dsimp only at k_ hn_
  rw [qX9_finds_2] at W3_
  try dsimp only at W3_
  refine z_iload_n dX9_finds_2 rfl ?_
  refine z_iload_n dX9_finds_3 rfl ?_
  refine z_icmp_ge (tgt := 75) dX9_finds_4 (by decide) (fun c_1 => ?_) (fun c_1 => ?_)
  · exact absurd (Or.inl ⟨c_1, trivial⟩) hn_
  · refine z_aloadr_n dX9_finds_7 rfl ?_
    refine z_get (ci := 9) (r := (RX9, TX9, 38)) (j := 16) (v := .ref 47) dX9_finds_8 (Nat.le_of_ble_eq_true rfl) (zN rfl) rfl rfl (Nat.le_of_ble_eq_true rfl) fl_X9_57 rfl ?_
    refine z_bipush dX9_finds_11 k_bipush_12 ?_
    refine z_iload_n dX9_finds_13 rfl ?_
    refine z_imul (v := ((12 : Int32) * l1)) dX9_finds_14 rfl ?_
    refine z_iload_n dX9_finds_15 rfl ?_
    refine z_iadd (v := (((12 : Int32) * l1) + x0_)) dX9_finds_16 rfl ?_
    refine z_bald (v := ((x1_ 47) (((12 : Int32) * l1) + x0_).toNatClampNeg)) dX9_finds_17 (Nat.le_of_ble_eq_true rfl) (zN rfl) rfl ((W3_.2 c_1).1) rfl ?_
    refine z_if_eq (tgt := 69) dX9_finds_18 (by decide) (fun c_2 => ?_) (fun c_2 => ?_)
    · refine z_iinc (v := (x0_ + (1 : Int32))) (lv' := [some (.ref 32), some (.int l1), some (.int l2), some (.int (x0_ + (1 : Int32)))]) dX9_finds_69 (Nat.le_of_ble_eq_true rfl) rfl (by rw [k_iconst_1]) rfl ?_
      refine z_goto (tgt := 2) dX9_finds_72 (by decide) ?_
      simpa only [if_neg c_1, if_pos c_2] using k_
    · refine z_aloadr_n dX9_finds_21 rfl ?_
      refine z_get (ci := 9) (r := (RX9, TX9, 38)) (j := 18) (v := .ref 49) dX9_finds_22 (Nat.le_of_ble_eq_true rfl) (zN rfl) rfl rfl (Nat.le_of_ble_eq_true rfl) fl_X9_63 rfl ?_
      refine z_iload_n dX9_finds_25 rfl ?_
      refine z_bald (v := ((x1_ 49) x0_.toNatClampNeg)) dX9_finds_26 (Nat.le_of_ble_eq_true rfl) (zN rfl) rfl (((W3_.2 c_1).2.2 c_2).1) rfl ?_
      refine z_if_ne (tgt := 69) dX9_finds_27 (by decide) (fun c_3 => ?_) (fun c_3 => ?_)
      · refine z_iinc (v := (x0_ + (1 : Int32))) (lv' := [some (.ref 32), some (.int l1), some (.int l2), some (.int (x0_ + (1 : Int32)))]) dX9_finds_69 (Nat.le_of_ble_eq_true rfl) rfl (by rw [k_iconst_1]) rfl ?_
        refine z_goto (tgt := 2) dX9_finds_72 (by decide) ?_
        simpa only [if_neg c_1, if_neg c_2, if_neg c_3] using k_
      · refine z_aloadr_n dX9_finds_30 rfl ?_
        refine z_get (ci := 9) (r := (RX9, TX9, 38)) (j := 18) (v := .ref 49) dX9_finds_31 (Nat.le_of_ble_eq_true rfl) (zN rfl) rfl rfl (Nat.le_of_ble_eq_true rfl) fl_X9_63 rfl ?_
        refine z_iload_n dX9_finds_34 rfl ?_
        refine z_iconst dX9_finds_35 k_iconst_1 ?_
        refine z_bast (σ' := (zu x1_ 49 (zu (x1_ 49) x0_.toNatClampNeg (1 : Int32)))) dX9_finds_36 (Nat.le_of_ble_eq_true rfl) (zN rfl) rfl ((((W3_.2 c_1).2.2 c_2).2.1 c_3).1) rfl rfl ?_
        refine z_aloadr_n dX9_finds_37 rfl ?_
        refine z_get (ci := 9) (r := (RX9, TX9, 38)) (j := 17) (v := .ref 48) dX9_finds_38 (Nat.le_of_ble_eq_true rfl) (zN rfl) rfl rfl (Nat.le_of_ble_eq_true rfl) fl_X9_60 rfl ?_
        refine z_iload_n dX9_finds_41 rfl ?_
        refine z_iald (v := ((x1_ 48) x0_.toNatClampNeg)) dX9_finds_42 (zN rfl) rfl ((((W3_.2 c_1).2.2 c_2).2.1 c_3).2.1) (congrFun (zu_ne _ _ (by decide)) _) ?_
        refine z_if_lt (tgt := 60) dX9_finds_43 (by decide) (fun c_4 => ?_) (fun c_4 => ?_)
        · exact absurd (Or.inr ⟨c_1, (Or.inr ⟨c_2, (Or.inl ⟨c_3, (Or.inl ⟨c_4, trivial⟩)⟩)⟩)⟩) hn_
        · refine z_aloadr_n dX9_finds_46 rfl ?_
          refine z_aloadr_n dX9_finds_47 rfl ?_
          refine z_get (ci := 9) (r := (RX9, TX9, 38)) (j := 17) (v := .ref 48) dX9_finds_48 (Nat.le_of_ble_eq_true rfl) (zN rfl) rfl rfl (Nat.le_of_ble_eq_true rfl) fl_X9_60 rfl ?_
          refine z_iload_n dX9_finds_51 rfl ?_
          refine z_iald (v := ((x1_ 48) x0_.toNatClampNeg)) dX9_finds_52 (zN rfl) rfl (((((W3_.2 c_1).2.2 c_2).2.1 c_3).2.2.2 c_4).1) (congrFun (zu_ne _ _ (by decide)) _) ?_
          refine z_iload_n dX9_finds_53 rfl ?_
          refine z_callV (ci := 9) (r := (RX9, TX9, 38)) (b := 32) (As := [.int ((x1_ 48) x0_.toNatClampNeg), .int l2]) (rest := []) (hrec_ (zu x1_ 49 (zu (x1_ 49) x0_.toNatClampNeg (1 : Int32))) ((x1_ 48) x0_.toNatClampNeg) l2 (((((W3_.2 c_1).2.2 c_2).2.1 c_3).2.2.2 c_4).2.1)) dX9_finds_54 lk_X9_148 lv_X9_finds (Nat.le_of_ble_eq_true rfl) (zN rfl) rfl rfl rfl rfl (Nat.le_refl _) (Nat.le_of_ble_eq_true rfl) (Nat.le_of_ble_eq_true rfl) (Nat.le_of_ble_eq_true rfl) (fun r_ h_ e_ => ?_)
          obtain ⟨e1_, e2_⟩ := e_
          subst e1_
          subst e2_
          show zz G mX9_finds (kd_ + 1) 0 0 Q 57 [some (.ref 32), some (.int l1), some (.int l2), some (.int x0_)] [.int (Rf_ (zu x1_ 49 (zu (x1_ 49) x0_.toNatClampNeg (1 : Int32))) ((x1_ 48) x0_.toNatClampNeg) l2)] (hh P (Sf_ (zu x1_ 49 (zu (x1_ 49) x0_.toNatClampNeg (1 : Int32))) ((x1_ 48) x0_.toNatClampNeg) l2)) 0 0
          refine z_if_eq (tgt := 69) dX9_finds_57 (by decide) (fun c_5 => ?_) (fun c_5 => ?_)
          · refine z_iinc (v := (x0_ + (1 : Int32))) (lv' := [some (.ref 32), some (.int l1), some (.int l2), some (.int (x0_ + (1 : Int32)))]) dX9_finds_69 (Nat.le_of_ble_eq_true rfl) rfl (by rw [k_iconst_1]) rfl ?_
            refine z_goto (tgt := 2) dX9_finds_72 (by decide) ?_
            simpa only [if_neg c_1, if_neg c_2, if_pos c_3, if_neg c_4, if_pos c_5] using k_
          · exact absurd (Or.inr ⟨c_1, (Or.inr ⟨c_2, (Or.inl ⟨c_3, (Or.inr ⟨c_4, (Or.inr ⟨c_5, trivial⟩)⟩)⟩)⟩)⟩) hn_

theorem dX9_finds_0 : decode cX9_finds 0 = .ok (.iconst 0, 1) := by decide +kernel
theorem dX9_finds_1 : decode cX9_finds 1 = .ok (.istore_n 3, 1) := by decide +kernel
theorem dX9_finds_68 : decode cX9_finds 68 = .ok (.ireturn, 1) := by decide +kernel
theorem dX9_finds_76 : decode cX9_finds 76 = .ok (.ireturn, 1) := by decide +kernel
noncomputable def vX9_finds_1 (Rf_ : zc_N → Int32 → Int32 → Int32) (Sf_ : zc_N → Int32 → Int32 → zc_N) (a1 : Int32) (a2 : Int32) (σ : zc_N) : zc_N := (Sf_ (zu (wX9_finds_2 Rf_ Sf_ a1 a2 ((0 : Int32), σ)).2 49 (zu ((wX9_finds_2 Rf_ Sf_ a1 a2 ((0 : Int32), σ)).2 49) ((wX9_finds_2 Rf_ Sf_ a1 a2 ((0 : Int32), σ)).1).toNatClampNeg (1 : Int32))) (((wX9_finds_2 Rf_ Sf_ a1 a2 ((0 : Int32), σ)).2 48) ((wX9_finds_2 Rf_ Sf_ a1 a2 ((0 : Int32), σ)).1).toNatClampNeg) a2)
def pX9_finds (σ : zc_N) (Rf_ : zc_N → Int32 → Int32 → Int32) (Sf_ : zc_N → Int32 → Int32 → zc_N) (Pf_ : zc_N → Int32 → Int32 → Prop) (a1 : Int32) (a2 : Int32) : Prop := (((∃ n_ : Nat, (eX9_finds_2 Rf_ a1 a2) (zit (fX9_finds_2 Sf_ a1 a2) n_ ((0 : Int32), σ))) ∧ (∀ i2_ : Nat, i2_ < (zwn (fun n_ => (eX9_finds_2 Rf_ a1 a2) (zit (fX9_finds_2 Sf_ a1 a2) n_ ((0 : Int32), σ)))) → qX9_finds_2 Rf_ Pf_ a1 a2 (zit (fX9_finds_2 Sf_ a1 a2) i2_ ((0 : Int32), σ)))) ∧ ((a2 ≤ (wX9_finds_2 Rf_ Sf_ a1 a2 ((0 : Int32), σ)).1 → True) ∧ (¬ a2 ≤ (wX9_finds_2 Rf_ Sf_ a1 a2 ((0 : Int32), σ)).1 → (vp_in (((12 : Int32) * a1) + (wX9_finds_2 Rf_ Sf_ a1 a2 ((0 : Int32), σ)).1) 144 ∧ (((((wX9_finds_2 Rf_ Sf_ a1 a2 ((0 : Int32), σ)).2 47) (((12 : Int32) * a1) + (wX9_finds_2 Rf_ Sf_ a1 a2 ((0 : Int32), σ)).1).toNatClampNeg) = (0 : Int32) → True) ∧ (¬ (((wX9_finds_2 Rf_ Sf_ a1 a2 ((0 : Int32), σ)).2 47) (((12 : Int32) * a1) + (wX9_finds_2 Rf_ Sf_ a1 a2 ((0 : Int32), σ)).1).toNatClampNeg) = (0 : Int32) → (vp_in (wX9_finds_2 Rf_ Sf_ a1 a2 ((0 : Int32), σ)).1 12 ∧ (((((wX9_finds_2 Rf_ Sf_ a1 a2 ((0 : Int32), σ)).2 49) ((wX9_finds_2 Rf_ Sf_ a1 a2 ((0 : Int32), σ)).1).toNatClampNeg) = (0 : Int32) → (vp_in (wX9_finds_2 Rf_ Sf_ a1 a2 ((0 : Int32), σ)).1 12 ∧ (vp_in (wX9_finds_2 Rf_ Sf_ a1 a2 ((0 : Int32), σ)).1 12 ∧ (((((wX9_finds_2 Rf_ Sf_ a1 a2 ((0 : Int32), σ)).2 48) ((wX9_finds_2 Rf_ Sf_ a1 a2 ((0 : Int32), σ)).1).toNatClampNeg) < (0 : Int32) → vp_in (wX9_finds_2 Rf_ Sf_ a1 a2 ((0 : Int32), σ)).1 12) ∧ (¬ (((wX9_finds_2 Rf_ Sf_ a1 a2 ((0 : Int32), σ)).2 48) ((wX9_finds_2 Rf_ Sf_ a1 a2 ((0 : Int32), σ)).1).toNatClampNeg) < (0 : Int32) → (vp_in (wX9_finds_2 Rf_ Sf_ a1 a2 ((0 : Int32), σ)).1 12 ∧ (Pf_ (zu (wX9_finds_2 Rf_ Sf_ a1 a2 ((0 : Int32), σ)).2 49 (zu ((wX9_finds_2 Rf_ Sf_ a1 a2 ((0 : Int32), σ)).2 49) ((wX9_finds_2 Rf_ Sf_ a1 a2 ((0 : Int32), σ)).1).toNatClampNeg (1 : Int32))) (((wX9_finds_2 Rf_ Sf_ a1 a2 ((0 : Int32), σ)).2 48) ((wX9_finds_2 Rf_ Sf_ a1 a2 ((0 : Int32), σ)).1).toNatClampNeg) a2 ∧ (((Rf_ (zu (wX9_finds_2 Rf_ Sf_ a1 a2 ((0 : Int32), σ)).2 49 (zu ((wX9_finds_2 Rf_ Sf_ a1 a2 ((0 : Int32), σ)).2 49) ((wX9_finds_2 Rf_ Sf_ a1 a2 ((0 : Int32), σ)).1).toNatClampNeg (1 : Int32))) (((wX9_finds_2 Rf_ Sf_ a1 a2 ((0 : Int32), σ)).2 48) ((wX9_finds_2 Rf_ Sf_ a1 a2 ((0 : Int32), σ)).1).toNatClampNeg) a2) = (0 : Int32) → True) ∧ (¬ (Rf_ (zu (wX9_finds_2 Rf_ Sf_ a1 a2 ((0 : Int32), σ)).2 49 (zu ((wX9_finds_2 Rf_ Sf_ a1 a2 ((0 : Int32), σ)).2 49) ((wX9_finds_2 Rf_ Sf_ a1 a2 ((0 : Int32), σ)).1).toNatClampNeg (1 : Int32))) (((wX9_finds_2 Rf_ Sf_ a1 a2 ((0 : Int32), σ)).2 48) ((wX9_finds_2 Rf_ Sf_ a1 a2 ((0 : Int32), σ)).1).toNatClampNeg) a2) = (0 : Int32) → vp_in (wX9_finds_2 Rf_ Sf_ a1 a2 ((0 : Int32), σ)).1 12))))))))) ∧ (¬ (((wX9_finds_2 Rf_ Sf_ a1 a2 ((0 : Int32), σ)).2 49) ((wX9_finds_2 Rf_ Sf_ a1 a2 ((0 : Int32), σ)).1).toNatClampNeg) = (0 : Int32) → True)))))))))
noncomputable def rX9_finds (σ : zc_N) (Rf_ : zc_N → Int32 → Int32 → Int32) (Sf_ : zc_N → Int32 → Int32 → zc_N) (a1 : Int32) (a2 : Int32) : Int32 := (if a2 ≤ (wX9_finds_2 Rf_ Sf_ a1 a2 ((0 : Int32), σ)).1 then (0 : Int32) else (1 : Int32))
noncomputable def sX9_finds (σ : zc_N) (Rf_ : zc_N → Int32 → Int32 → Int32) (Sf_ : zc_N → Int32 → Int32 → zc_N) (a1 : Int32) (a2 : Int32) : zc_N := (if a2 ≤ (wX9_finds_2 Rf_ Sf_ a1 a2 ((0 : Int32), σ)).1 then (wX9_finds_2 Rf_ Sf_ a1 a2 ((0 : Int32), σ)).2 else (if (((wX9_finds_2 Rf_ Sf_ a1 a2 ((0 : Int32), σ)).2 48) ((wX9_finds_2 Rf_ Sf_ a1 a2 ((0 : Int32), σ)).1).toNatClampNeg) < (0 : Int32) then (zu (zu (wX9_finds_2 Rf_ Sf_ a1 a2 ((0 : Int32), σ)).2 49 (zu ((wX9_finds_2 Rf_ Sf_ a1 a2 ((0 : Int32), σ)).2 49) ((wX9_finds_2 Rf_ Sf_ a1 a2 ((0 : Int32), σ)).1).toNatClampNeg (1 : Int32))) 48 (zu ((wX9_finds_2 Rf_ Sf_ a1 a2 ((0 : Int32), σ)).2 48) ((wX9_finds_2 Rf_ Sf_ a1 a2 ((0 : Int32), σ)).1).toNatClampNeg a1)) else (zu (vX9_finds_1 Rf_ Sf_ a1 a2 σ) 48 (zu ((vX9_finds_1 Rf_ Sf_ a1 a2 σ) 48) ((wX9_finds_2 Rf_ Sf_ a1 a2 ((0 : Int32), σ)).1).toNatClampNeg a1))))
set_option maxHeartbeats 1000000 in
theorem ctX9_finds (P : zp) (σ : zc_N) (Rf_ : zc_N → Int32 → Int32 → Int32) (Sf_ : zc_N → Int32 → Int32 → zc_N) (Pf_ : zc_N → Int32 → Int32 → Prop) (kd_ : Nat) (hrec_ : ∀ (τ : zc_N) (x1 x2 : Int32), Pf_ τ x1 x2 → sp mX9_finds kd_ 0 0 [.ref 32, .int x1, .int x2] (hh P τ) (fun r_ h_ => r_ = some (.int (Rf_ τ x1 x2)) ∧ h_ = hh P (Sf_ τ x1 x2))) (a1 : Int32) (a2 : Int32) (W_ : (pX9_finds σ Rf_ Sf_ Pf_ a1 a2)) : sp mX9_finds (kd_ + 1) 0 0 [.ref 32, .int a1, .int a2] (hh P σ) (fun r_ h_ => r_ = some (.int (rX9_finds σ Rf_ Sf_ a1 a2)) ∧ h_ = hh P (sX9_finds σ Rf_ Sf_ a1 a2)) := by
  refine sp_of (lv := [some (.ref 32), some (.int a1), some (.int a2), none]) (by decide) (zcats_ok _ rfl) (Nat.le_of_ble_eq_true rfl) (zlv_ok _ 1 rfl) (fun G => ?_)
  generalize hQ_ : (fun (r_ : Option Value) (h_ : zc_H) => r_ = some (.int (rX9_finds σ Rf_ Sf_ a1 a2)) ∧ h_ = hh P (sX9_finds σ Rf_ Sf_ a1 a2)) = Q_
  unfold pX9_finds at W_
  refine z_iconst dX9_finds_0 k_iconst_0 ?_
  refine z_istore_n (lv' := [some (.ref 32), some (.int a1), some (.int a2), some (.int (0 : Int32))]) dX9_finds_1 (Nat.le_of_ble_eq_true rfl) rfl ?_
  refine whX9_finds_2 P σ Rf_ Sf_ Pf_ kd_ hrec_ a1 a2 (0 : Int32) W_.1.1 W_.1.2 (fun hX2_ => ?_)
  rw [eX9_finds_2] at hX2_
  try dsimp only at hX2_
  show zz G mX9_finds (kd_ + 1) 0 0 Q_ 2 [some (.ref 32), some (.int a1), some (.int a2), some (.int (wX9_finds_2 Rf_ Sf_ a1 a2 ((0 : Int32), σ)).1)] [] (hh P (wX9_finds_2 Rf_ Sf_ a1 a2 ((0 : Int32), σ)).2) 0 0
  refine z_iload_n dX9_finds_2 rfl ?_
  refine z_iload_n dX9_finds_3 rfl ?_
  refine z_icmp_ge (tgt := 75) dX9_finds_4 (by decide) (fun c_1 => ?_) (fun c_1 => ?_)
  · refine z_iconst dX9_finds_75 k_iconst_0 ?_
    exact z_ireturn dX9_finds_76 rfl rfl (Nat.le_of_ble_eq_true rfl) (Nat.le_of_ble_eq_true rfl) (by rw [← hQ_]; exact ⟨(by rw [rX9_finds]; try simp only [if_pos c_1]), (by rw [sX9_finds]; try simp only [if_pos c_1])⟩)
  · refine z_aloadr_n dX9_finds_7 rfl ?_
    refine z_get (ci := 9) (r := (RX9, TX9, 38)) (j := 16) (v := .ref 47) dX9_finds_8 (Nat.le_of_ble_eq_true rfl) (zN rfl) rfl rfl (Nat.le_of_ble_eq_true rfl) fl_X9_57 rfl ?_
    refine z_bipush dX9_finds_11 k_bipush_12 ?_
    refine z_iload_n dX9_finds_13 rfl ?_
    refine z_imul (v := ((12 : Int32) * a1)) dX9_finds_14 rfl ?_
    refine z_iload_n dX9_finds_15 rfl ?_
    refine z_iadd (v := (((12 : Int32) * a1) + (wX9_finds_2 Rf_ Sf_ a1 a2 ((0 : Int32), σ)).1)) dX9_finds_16 rfl ?_
    refine z_bald (v := (((wX9_finds_2 Rf_ Sf_ a1 a2 ((0 : Int32), σ)).2 47) (((12 : Int32) * a1) + (wX9_finds_2 Rf_ Sf_ a1 a2 ((0 : Int32), σ)).1).toNatClampNeg)) dX9_finds_17 (Nat.le_of_ble_eq_true rfl) (zN rfl) rfl ((W_.2.2 c_1).1) rfl ?_
    refine z_if_eq (tgt := 69) dX9_finds_18 (by decide) (fun c_2 => ?_) (fun c_2 => ?_)
    · refine z_iinc (v := ((wX9_finds_2 Rf_ Sf_ a1 a2 ((0 : Int32), σ)).1 + (1 : Int32))) (lv' := [some (.ref 32), some (.int a1), some (.int a2), some (.int ((wX9_finds_2 Rf_ Sf_ a1 a2 ((0 : Int32), σ)).1 + (1 : Int32)))]) dX9_finds_69 (Nat.le_of_ble_eq_true rfl) rfl (by rw [k_iconst_1]) rfl ?_
      refine z_goto (tgt := 2) dX9_finds_72 (by decide) ?_
      exact (ex_l (ex_r hX2_ c_1) c_2).elim
    · refine z_aloadr_n dX9_finds_21 rfl ?_
      refine z_get (ci := 9) (r := (RX9, TX9, 38)) (j := 18) (v := .ref 49) dX9_finds_22 (Nat.le_of_ble_eq_true rfl) (zN rfl) rfl rfl (Nat.le_of_ble_eq_true rfl) fl_X9_63 rfl ?_
      refine z_iload_n dX9_finds_25 rfl ?_
      refine z_bald (v := (((wX9_finds_2 Rf_ Sf_ a1 a2 ((0 : Int32), σ)).2 49) ((wX9_finds_2 Rf_ Sf_ a1 a2 ((0 : Int32), σ)).1).toNatClampNeg)) dX9_finds_26 (Nat.le_of_ble_eq_true rfl) (zN rfl) rfl (((W_.2.2 c_1).2.2 c_2).1) rfl ?_
      refine z_if_ne (tgt := 69) dX9_finds_27 (by decide) (fun c_3 => ?_) (fun c_3 => ?_)
      · refine z_iinc (v := ((wX9_finds_2 Rf_ Sf_ a1 a2 ((0 : Int32), σ)).1 + (1 : Int32))) (lv' := [some (.ref 32), some (.int a1), some (.int a2), some (.int ((wX9_finds_2 Rf_ Sf_ a1 a2 ((0 : Int32), σ)).1 + (1 : Int32)))]) dX9_finds_69 (Nat.le_of_ble_eq_true rfl) rfl (by rw [k_iconst_1]) rfl ?_
        refine z_goto (tgt := 2) dX9_finds_72 (by decide) ?_
        exact (ex_r (ex_r (ex_r hX2_ c_1) c_2) c_3).elim
      · refine z_aloadr_n dX9_finds_30 rfl ?_
        refine z_get (ci := 9) (r := (RX9, TX9, 38)) (j := 18) (v := .ref 49) dX9_finds_31 (Nat.le_of_ble_eq_true rfl) (zN rfl) rfl rfl (Nat.le_of_ble_eq_true rfl) fl_X9_63 rfl ?_
        refine z_iload_n dX9_finds_34 rfl ?_
        refine z_iconst dX9_finds_35 k_iconst_1 ?_
        refine z_bast (σ' := (zu (wX9_finds_2 Rf_ Sf_ a1 a2 ((0 : Int32), σ)).2 49 (zu ((wX9_finds_2 Rf_ Sf_ a1 a2 ((0 : Int32), σ)).2 49) ((wX9_finds_2 Rf_ Sf_ a1 a2 ((0 : Int32), σ)).1).toNatClampNeg (1 : Int32)))) dX9_finds_36 (Nat.le_of_ble_eq_true rfl) (zN rfl) rfl ((((W_.2.2 c_1).2.2 c_2).2.1 c_3).1) rfl rfl ?_
        refine z_aloadr_n dX9_finds_37 rfl ?_
        refine z_get (ci := 9) (r := (RX9, TX9, 38)) (j := 17) (v := .ref 48) dX9_finds_38 (Nat.le_of_ble_eq_true rfl) (zN rfl) rfl rfl (Nat.le_of_ble_eq_true rfl) fl_X9_60 rfl ?_
        refine z_iload_n dX9_finds_41 rfl ?_
        refine z_iald (v := (((wX9_finds_2 Rf_ Sf_ a1 a2 ((0 : Int32), σ)).2 48) ((wX9_finds_2 Rf_ Sf_ a1 a2 ((0 : Int32), σ)).1).toNatClampNeg)) dX9_finds_42 (zN rfl) rfl ((((W_.2.2 c_1).2.2 c_2).2.1 c_3).2.1) (congrFun (zu_ne _ _ (by decide)) _) ?_
        refine z_if_lt (tgt := 60) dX9_finds_43 (by decide) (fun c_4 => ?_) (fun c_4 => ?_)
        · refine z_aloadr_n dX9_finds_60 rfl ?_
          refine z_get (ci := 9) (r := (RX9, TX9, 38)) (j := 17) (v := .ref 48) dX9_finds_61 (Nat.le_of_ble_eq_true rfl) (zN rfl) rfl rfl (Nat.le_of_ble_eq_true rfl) fl_X9_60 rfl ?_
          refine z_iload_n dX9_finds_64 rfl ?_
          refine z_iload_n dX9_finds_65 rfl ?_
          refine z_iast (σ' := (zu (zu (wX9_finds_2 Rf_ Sf_ a1 a2 ((0 : Int32), σ)).2 49 (zu ((wX9_finds_2 Rf_ Sf_ a1 a2 ((0 : Int32), σ)).2 49) ((wX9_finds_2 Rf_ Sf_ a1 a2 ((0 : Int32), σ)).1).toNatClampNeg (1 : Int32))) 48 (zu ((wX9_finds_2 Rf_ Sf_ a1 a2 ((0 : Int32), σ)).2 48) ((wX9_finds_2 Rf_ Sf_ a1 a2 ((0 : Int32), σ)).1).toNatClampNeg a1))) dX9_finds_66 (Nat.le_of_ble_eq_true rfl) (zN rfl) rfl ((((W_.2.2 c_1).2.2 c_2).2.1 c_3).2.2.1 c_4) (congrArg (fun g_ => zu _ _ (zu g_ _ _)) (zu_ne _ _ (by decide))) ?_
          refine z_iconst dX9_finds_67 k_iconst_1 ?_
          exact z_ireturn dX9_finds_68 rfl rfl (Nat.le_of_ble_eq_true rfl) (Nat.le_of_ble_eq_true rfl) (by rw [← hQ_]; exact ⟨(by rw [rX9_finds]; try simp only [if_neg c_1, if_neg c_2, if_pos c_3, if_pos c_4]), (by rw [sX9_finds]; try simp only [if_neg c_1, if_neg c_2, if_pos c_3, if_pos c_4])⟩)
        · refine z_aloadr_n dX9_finds_46 rfl ?_
          refine z_aloadr_n dX9_finds_47 rfl ?_
          refine z_get (ci := 9) (r := (RX9, TX9, 38)) (j := 17) (v := .ref 48) dX9_finds_48 (Nat.le_of_ble_eq_true rfl) (zN rfl) rfl rfl (Nat.le_of_ble_eq_true rfl) fl_X9_60 rfl ?_
          refine z_iload_n dX9_finds_51 rfl ?_
          refine z_iald (v := (((wX9_finds_2 Rf_ Sf_ a1 a2 ((0 : Int32), σ)).2 48) ((wX9_finds_2 Rf_ Sf_ a1 a2 ((0 : Int32), σ)).1).toNatClampNeg)) dX9_finds_52 (zN rfl) rfl (((((W_.2.2 c_1).2.2 c_2).2.1 c_3).2.2.2 c_4).1) (congrFun (zu_ne _ _ (by decide)) _) ?_
          refine z_iload_n dX9_finds_53 rfl ?_
          refine z_callV (ci := 9) (r := (RX9, TX9, 38)) (b := 32) (As := [.int (((wX9_finds_2 Rf_ Sf_ a1 a2 ((0 : Int32), σ)).2 48) ((wX9_finds_2 Rf_ Sf_ a1 a2 ((0 : Int32), σ)).1).toNatClampNeg), .int a2]) (rest := []) (hrec_ (zu (wX9_finds_2 Rf_ Sf_ a1 a2 ((0 : Int32), σ)).2 49 (zu ((wX9_finds_2 Rf_ Sf_ a1 a2 ((0 : Int32), σ)).2 49) ((wX9_finds_2 Rf_ Sf_ a1 a2 ((0 : Int32), σ)).1).toNatClampNeg (1 : Int32))) (((wX9_finds_2 Rf_ Sf_ a1 a2 ((0 : Int32), σ)).2 48) ((wX9_finds_2 Rf_ Sf_ a1 a2 ((0 : Int32), σ)).1).toNatClampNeg) a2 (((((W_.2.2 c_1).2.2 c_2).2.1 c_3).2.2.2 c_4).2.1)) dX9_finds_54 lk_X9_148 lv_X9_finds (Nat.le_of_ble_eq_true rfl) (zN rfl) rfl rfl rfl rfl (Nat.le_refl _) (Nat.le_of_ble_eq_true rfl) (Nat.le_of_ble_eq_true rfl) (Nat.le_of_ble_eq_true rfl) (fun r_ h_ e_ => ?_)
          obtain ⟨e1_, e2_⟩ := e_
          subst e1_
          subst e2_
          show zz G mX9_finds (kd_ + 1) 0 0 Q_ 57 [some (.ref 32), some (.int a1), some (.int a2), some (.int (wX9_finds_2 Rf_ Sf_ a1 a2 ((0 : Int32), σ)).1)] [.int (Rf_ (zu (wX9_finds_2 Rf_ Sf_ a1 a2 ((0 : Int32), σ)).2 49 (zu ((wX9_finds_2 Rf_ Sf_ a1 a2 ((0 : Int32), σ)).2 49) ((wX9_finds_2 Rf_ Sf_ a1 a2 ((0 : Int32), σ)).1).toNatClampNeg (1 : Int32))) (((wX9_finds_2 Rf_ Sf_ a1 a2 ((0 : Int32), σ)).2 48) ((wX9_finds_2 Rf_ Sf_ a1 a2 ((0 : Int32), σ)).1).toNatClampNeg) a2)] (hh P (vX9_finds_1 Rf_ Sf_ a1 a2 σ)) 0 0
          refine z_if_eq (tgt := 69) dX9_finds_57 (by decide) (fun c_5 => ?_) (fun c_5 => ?_)
          · refine z_iinc (v := ((wX9_finds_2 Rf_ Sf_ a1 a2 ((0 : Int32), σ)).1 + (1 : Int32))) (lv' := [some (.ref 32), some (.int a1), some (.int a2), some (.int ((wX9_finds_2 Rf_ Sf_ a1 a2 ((0 : Int32), σ)).1 + (1 : Int32)))]) dX9_finds_69 (Nat.le_of_ble_eq_true rfl) rfl (by rw [k_iconst_1]) rfl ?_
            refine z_goto (tgt := 2) dX9_finds_72 (by decide) ?_
            exact (ex_l (ex_r (ex_l (ex_r (ex_r hX2_ c_1) c_2) c_3) c_4) c_5).elim
          · refine z_aloadr_n dX9_finds_60 rfl ?_
            refine z_get (ci := 9) (r := (RX9, TX9, 38)) (j := 17) (v := .ref 48) dX9_finds_61 (Nat.le_of_ble_eq_true rfl) (zN rfl) rfl rfl (Nat.le_of_ble_eq_true rfl) fl_X9_60 rfl ?_
            refine z_iload_n dX9_finds_64 rfl ?_
            refine z_iload_n dX9_finds_65 rfl ?_
            refine z_iast (σ' := (zu (vX9_finds_1 Rf_ Sf_ a1 a2 σ) 48 (zu ((vX9_finds_1 Rf_ Sf_ a1 a2 σ) 48) ((wX9_finds_2 Rf_ Sf_ a1 a2 ((0 : Int32), σ)).1).toNatClampNeg a1))) dX9_finds_66 (Nat.le_of_ble_eq_true rfl) (zN rfl) rfl (((((W_.2.2 c_1).2.2 c_2).2.1 c_3).2.2.2 c_4).2.2.2 c_5) rfl ?_
            refine z_iconst dX9_finds_67 k_iconst_1 ?_
            exact z_ireturn dX9_finds_68 rfl rfl (Nat.le_of_ble_eq_true rfl) (Nat.le_of_ble_eq_true rfl) (by rw [← hQ_]; exact ⟨(by rw [rX9_finds]; try simp only [if_neg c_1, if_neg c_2, if_pos c_3, if_neg c_4, if_neg c_5]), (by rw [sX9_finds]; try simp only [if_neg c_1, if_neg c_2, if_pos c_3, if_neg c_4, if_neg c_5])⟩)

theorem dX5_finds_10 : decode cX5_finds 10 = .ok (.iload_n 3, 1) := by decide +kernel
theorem dX5_finds_11 : decode cX5_finds 11 = .ok (.bipush 12, 2) := by decide +kernel
theorem dX5_finds_13 : decode cX5_finds 13 = .ok (.if_icmp .ge 94, 3) := by decide +kernel
theorem dX5_finds_16 : decode cX5_finds 16 = .ok (.aload_n 0, 1) := by decide +kernel
theorem dX5_finds_17 : decode cX5_finds 17 = .ok (.getfield 9, 3) := by decide +kernel
theorem dX5_finds_20 : decode cX5_finds 20 = .ok (.iload_n 1, 1) := by decide +kernel
theorem dX5_finds_21 : decode cX5_finds 21 = .ok (.iaload, 1) := by decide +kernel
theorem dX5_finds_22 : decode cX5_finds 22 = .ok (.aload_n 0, 1) := by decide +kernel
theorem dX5_finds_23 : decode cX5_finds 23 = .ok (.getfield 22, 3) := by decide +kernel
theorem dX5_finds_26 : decode cX5_finds 26 = .ok (.iand, 1) := by decide +kernel
theorem dX5_finds_27 : decode cX5_finds 27 = .ok (.istore 4, 2) := by decide +kernel
theorem dX5_finds_29 : decode cX5_finds 29 = .ok (.iload 4, 2) := by decide +kernel
theorem dX5_finds_31 : decode cX5_finds 31 = .ok (.ifCond .ne 5, 3) := by decide +kernel
theorem dX5_finds_34 : decode cX5_finds 34 = .ok (.iconst 0, 1) := by decide +kernel
theorem dX5_finds_36 : decode cX5_finds 36 = .ok (.iload 4, 2) := by decide +kernel
theorem dX5_finds_38 : decode cX5_finds 38 = .ok (.iload 4, 2) := by decide +kernel
theorem dX5_finds_40 : decode cX5_finds 40 = .ok (.ineg, 1) := by decide +kernel
theorem dX5_finds_41 : decode cX5_finds 41 = .ok (.iand, 1) := by decide +kernel
theorem dX5_finds_42 : decode cX5_finds 42 = .ok (.iconst 1, 1) := by decide +kernel
theorem dX5_finds_43 : decode cX5_finds 43 = .ok (.isub, 1) := by decide +kernel
theorem dX5_finds_44 : decode cX5_finds 44 = .ok (.invokestatic 25, 3) := by decide +kernel
theorem dX5_finds_47 : decode cX5_finds 47 = .ok (.istore 5, 2) := by decide +kernel
theorem dX5_finds_49 : decode cX5_finds 49 = .ok (.aload_n 0, 1) := by decide +kernel
theorem dX5_finds_50 : decode cX5_finds 50 = .ok (.dup, 1) := by decide +kernel
theorem dX5_finds_51 : decode cX5_finds 51 = .ok (.getfield 22, 3) := by decide +kernel
theorem dX5_finds_54 : decode cX5_finds 54 = .ok (.iconst 1, 1) := by decide +kernel
theorem dX5_finds_55 : decode cX5_finds 55 = .ok (.iload 5, 2) := by decide +kernel
theorem dX5_finds_57 : decode cX5_finds 57 = .ok (.ishl, 1) := by decide +kernel
theorem dX5_finds_58 : decode cX5_finds 58 = .ok (.iconst (-1), 1) := by decide +kernel
theorem dX5_finds_59 : decode cX5_finds 59 = .ok (.ixor, 1) := by decide +kernel
theorem dX5_finds_60 : decode cX5_finds 60 = .ok (.iand, 1) := by decide +kernel
theorem dX5_finds_61 : decode cX5_finds 61 = .ok (.putfield 22, 3) := by decide +kernel
theorem dX5_finds_64 : decode cX5_finds 64 = .ok (.aload_n 0, 1) := by decide +kernel
theorem dX5_finds_65 : decode cX5_finds 65 = .ok (.getfield 19, 3) := by decide +kernel
theorem dX5_finds_68 : decode cX5_finds 68 = .ok (.iload 5, 2) := by decide +kernel
theorem dX5_finds_70 : decode cX5_finds 70 = .ok (.iaload, 1) := by decide +kernel
theorem dX5_finds_71 : decode cX5_finds 71 = .ok (.istore 6, 2) := by decide +kernel
theorem dX5_finds_73 : decode cX5_finds 73 = .ok (.iload 6, 2) := by decide +kernel
theorem dX5_finds_75 : decode cX5_finds 75 = .ok (.iconst (-1), 1) := by decide +kernel
theorem dX5_finds_76 : decode cX5_finds 76 = .ok (.if_icmp .eq 15, 3) := by decide +kernel
theorem dX5_finds_79 : decode cX5_finds 79 = .ok (.aload_n 0, 1) := by decide +kernel
theorem dX5_finds_80 : decode cX5_finds 80 = .ok (.iload 6, 2) := by decide +kernel
theorem dX5_finds_82 : decode cX5_finds 82 = .ok (.iload_n 2, 1) := by decide +kernel
theorem dX5_finds_83 : decode cX5_finds 83 = .ok (.iconst 1, 1) := by decide +kernel
theorem dX5_finds_84 : decode cX5_finds 84 = .ok (.iadd, 1) := by decide +kernel
theorem dX5_finds_85 : decode cX5_finds 85 = .ok (.invokestatic 43, 3) := by decide +kernel
theorem dX5_finds_88 : decode cX5_finds 88 = .ok (.ifCond .eq 13, 3) := by decide +kernel
theorem dX5_finds_91 : decode cX5_finds 91 = .ok (.aload_n 0, 1) := by decide +kernel
theorem dX5_finds_92 : decode cX5_finds 92 = .ok (.getfield 19, 3) := by decide +kernel
theorem dX5_finds_95 : decode cX5_finds 95 = .ok (.iload 5, 2) := by decide +kernel
theorem dX5_finds_97 : decode cX5_finds 97 = .ok (.iload_n 1, 1) := by decide +kernel
theorem dX5_finds_98 : decode cX5_finds 98 = .ok (.iastore, 1) := by decide +kernel
theorem dX5_finds_99 : decode cX5_finds 99 = .ok (.iconst 1, 1) := by decide +kernel
theorem dX5_finds_101 : decode cX5_finds 101 = .ok (.iinc 3 1, 3) := by decide +kernel
theorem dX5_finds_104 : decode cX5_finds 104 = .ok (.goto (-94), 3) := by decide +kernel
theorem dX5_finds_107 : decode cX5_finds 107 = .ok (.iconst 0, 1) := by decide +kernel
noncomputable def vX5_finds_1 (l1 : Int32) (σ : zc_N) : Int32 := (rJ6_bitCount_0f7a4 (((((σ 17) l1.toNatClampNeg) &&& ((σ 16) 3)) &&& (-(((σ 17) l1.toNatClampNeg) &&& ((σ 16) 3)))) - (1 : Int32)))
noncomputable def vX5_finds_2 (Sf_ : zc_N → Int32 → Int32 → zc_N) (l1 : Int32) (l2 : Int32) (σ : zc_N) : zc_N := (Sf_ (zu σ 16 (zu (σ 16) 3 (((σ 16) 3) &&& ((zshl (1 : Int32) (vX5_finds_1 l1 σ)) ^^^ (-1 : Int32))))) ((σ 18) (vX5_finds_1 l1 σ).toNatClampNeg) (l2 + (1 : Int32)))
noncomputable def fX5_finds_10 (Sf_ : zc_N → Int32 → Int32 → zc_N) (l1 : Int32) (l2 : Int32) (a_ : Int32 × zc_N) : Int32 × zc_N := ((a_.1 + (1 : Int32)), (vX5_finds_2 Sf_ l1 l2 a_.2))
def eX5_finds_10 (Rf_ : zc_N → Int32 → Int32 → Int32) (l1 : Int32) (l2 : Int32) (a_ : Int32 × zc_N) : Prop := (((12 : Int32) ≤ a_.1 ∧ True) ∨ (¬ (12 : Int32) ≤ a_.1 ∧ (((((a_.2 17) l1.toNatClampNeg) &&& ((a_.2 16) 3)) = (0 : Int32) ∧ True) ∨ (¬ (((a_.2 17) l1.toNatClampNeg) &&& ((a_.2 16) 3)) = (0 : Int32) ∧ ((((a_.2 18) (vX5_finds_1 l1 a_.2).toNatClampNeg) = (-1 : Int32) ∧ True) ∨ (¬ ((a_.2 18) (vX5_finds_1 l1 a_.2).toNatClampNeg) = (-1 : Int32) ∧ (((Rf_ (zu a_.2 16 (zu (a_.2 16) 3 (((a_.2 16) 3) &&& ((zshl (1 : Int32) (vX5_finds_1 l1 a_.2)) ^^^ (-1 : Int32))))) ((a_.2 18) (vX5_finds_1 l1 a_.2).toNatClampNeg) (l2 + (1 : Int32))) = (0 : Int32) ∧ False) ∨ (¬ (Rf_ (zu a_.2 16 (zu (a_.2 16) 3 (((a_.2 16) 3) &&& ((zshl (1 : Int32) (vX5_finds_1 l1 a_.2)) ^^^ (-1 : Int32))))) ((a_.2 18) (vX5_finds_1 l1 a_.2).toNatClampNeg) (l2 + (1 : Int32))) = (0 : Int32) ∧ True))))))))
def qX5_finds_10 (Rf_ : zc_N → Int32 → Int32 → Int32) (Pf_ : zc_N → Int32 → Int32 → Prop) (l1 : Int32) (l2 : Int32) (a_ : Int32 × zc_N) : Prop := (((12 : Int32) ≤ a_.1 → True) ∧ (¬ (12 : Int32) ≤ a_.1 → (vp_in l1 12 ∧ (((((a_.2 17) l1.toNatClampNeg) &&& ((a_.2 16) 3)) = (0 : Int32) → True) ∧ (¬ (((a_.2 17) l1.toNatClampNeg) &&& ((a_.2 16) 3)) = (0 : Int32) → (vp_in (vX5_finds_1 l1 a_.2) 12 ∧ ((((a_.2 18) (vX5_finds_1 l1 a_.2).toNatClampNeg) = (-1 : Int32) → vp_in (vX5_finds_1 l1 a_.2) 12) ∧ (¬ ((a_.2 18) (vX5_finds_1 l1 a_.2).toNatClampNeg) = (-1 : Int32) → (Pf_ (zu a_.2 16 (zu (a_.2 16) 3 (((a_.2 16) 3) &&& ((zshl (1 : Int32) (vX5_finds_1 l1 a_.2)) ^^^ (-1 : Int32))))) ((a_.2 18) (vX5_finds_1 l1 a_.2).toNatClampNeg) (l2 + (1 : Int32)) ∧ (((Rf_ (zu a_.2 16 (zu (a_.2 16) 3 (((a_.2 16) 3) &&& ((zshl (1 : Int32) (vX5_finds_1 l1 a_.2)) ^^^ (-1 : Int32))))) ((a_.2 18) (vX5_finds_1 l1 a_.2).toNatClampNeg) (l2 + (1 : Int32))) = (0 : Int32) → True) ∧ (¬ (Rf_ (zu a_.2 16 (zu (a_.2 16) 3 (((a_.2 16) 3) &&& ((zshl (1 : Int32) (vX5_finds_1 l1 a_.2)) ^^^ (-1 : Int32))))) ((a_.2 18) (vX5_finds_1 l1 a_.2).toNatClampNeg) (l2 + (1 : Int32))) = (0 : Int32) → vp_in (vX5_finds_1 l1 a_.2) 12)))))))))))
noncomputable def wX5_finds_10 (Rf_ : zc_N → Int32 → Int32 → Int32) (Sf_ : zc_N → Int32 → Int32 → zc_N) (l1 : Int32) (l2 : Int32) (a_ : Int32 × zc_N) : Int32 × zc_N := zit (fX5_finds_10 Sf_ l1 l2) (zwn (fun n_ => (eX5_finds_10 Rf_ l1 l2) (zit (fX5_finds_10 Sf_ l1 l2) n_ a_))) a_
set_option maxHeartbeats 2000000 in
theorem whX5_finds_10 {G : zc_G} {Q : Option Value → zc_H → Prop} (P : zp) (σ : zc_N) (Rf_ : zc_N → Int32 → Int32 → Int32) (Sf_ : zc_N → Int32 → Int32 → zc_N) (Pf_ : zc_N → Int32 → Int32 → Prop) (kd_ : Nat) (hrec_ : ∀ (τ : zc_N) (x1 x2 : Int32), Pf_ τ x1 x2 → sp mX5_finds kd_ 0 0 [.ref 16, .int x1, .int x2] (hh P τ) (fun r_ h_ => r_ = some (.int (Rf_ τ x1 x2)) ∧ h_ = hh P (Sf_ τ x1 x2))) (l1 : Int32) (l2 : Int32) (l3 : Int32)
    (hT_ : ∃ n_ : Nat, (eX5_finds_10 Rf_ l1 l2) (zit (fX5_finds_10 Sf_ l1 l2) n_ (l3, σ))) (W1_ : ∀ i10_ : Nat, i10_ < (zwn (fun n_ => (eX5_finds_10 Rf_ l1 l2) (zit (fX5_finds_10 Sf_ l1 l2) n_ (l3, σ)))) → qX5_finds_10 Rf_ Pf_ l1 l2 (zit (fX5_finds_10 Sf_ l1 l2) i10_ (l3, σ)))
    (W2_ : (eX5_finds_10 Rf_ l1 l2) (wX5_finds_10 Rf_ Sf_ l1 l2 (l3, σ)) → zz G mX5_finds (kd_ + 1) 0 0 Q 10 [some (.ref 16), some (.int l1), some (.int l2), some (.int (wX5_finds_10 Rf_ Sf_ l1 l2 (l3, σ)).1), none, none, none] [] (hh P (wX5_finds_10 Rf_ Sf_ l1 l2 (l3, σ)).2) 0 0) :
    zz G mX5_finds (kd_ + 1) 0 0 Q 10 [some (.ref 16), some (.int l1), some (.int l2), some (.int l3), none, none, none] [] (hh P σ) 0 0 := by
  unfold wX5_finds_10 at W2_
  have hs_ := zwn_spec hT_
  refine zit_Z (fun a_ => zz G mX5_finds (kd_ + 1) 0 0 Q 10 [some (.ref 16), some (.int l1), some (.int l2), some (.int a_.1), none, none, none] [] (hh P a_.2) 0 0) (fX5_finds_10 Sf_ l1 l2) (zwn (fun n_ => (eX5_finds_10 Rf_ l1 l2) (zit (fX5_finds_10 Sf_ l1 l2) n_ (l3, σ)))) (l3, σ) (fun i_ hi_ k_ => ?_) (W2_ hs_.1)
  have hn_ := hs_.2 i_ hi_
  have W3_ := W1_ i_ hi_
  generalize zit (fX5_finds_10 Sf_ l1 l2) i_ (l3, σ) = g_ at k_ hn_ W3_ ⊢
  obtain ⟨x0_, x1_⟩ := g_
  try dsimp only at k_ hn_ W3_ ⊢
  rw [fX5_finds_10] at k_
  rw [eX5_finds_10] at hn_
  try dsimp only at k_ hn_
  rw [qX5_finds_10] at W3_
  try dsimp only at W3_
  refine z_iload_n dX5_finds_10 rfl ?_
  refine z_bipush dX5_finds_11 k_bipush_12 ?_
  refine z_icmp_ge (tgt := 107) dX5_finds_13 (by decide) (fun c_1 => ?_) (fun c_1 => ?_)
  · exact absurd (Or.inl ⟨c_1, trivial⟩) hn_
  · refine z_aloadr_n dX5_finds_16 rfl ?_
    refine z_get (ci := 5) (r := (RX5, TX5, 4)) (j := 0) (v := .ref 17) dX5_finds_17 (Nat.le_of_ble_eq_true rfl) (zN rfl) rfl rfl (Nat.le_of_ble_eq_true rfl) fl_X5_9 rfl ?_
    refine z_iload_n dX5_finds_20 rfl ?_
    refine z_iald (v := ((x1_ 17) l1.toNatClampNeg)) dX5_finds_21 (zN rfl) rfl ((W3_.2 c_1).1) rfl ?_
    refine z_aloadr_n dX5_finds_22 rfl ?_
    refine z_get (ci := 5) (r := (RX5, TX5, 4)) (j := 3) (v := .int ((x1_ 16) 3)) dX5_finds_23 (Nat.le_of_ble_eq_true rfl) (zN rfl) rfl rfl (Nat.le_of_ble_eq_true rfl) fl_X5_22 rfl ?_
    refine z_iand (v := (((x1_ 17) l1.toNatClampNeg) &&& ((x1_ 16) 3))) dX5_finds_26 rfl ?_
    refine z_istore (lv' := [some (.ref 16), some (.int l1), some (.int l2), some (.int x0_), some (.int (((x1_ 17) l1.toNatClampNeg) &&& ((x1_ 16) 3))), none, none]) dX5_finds_27 (Nat.le_of_ble_eq_true rfl) rfl ?_
    refine z_iload dX5_finds_29 rfl ?_
    refine z_if_ne (tgt := 36) dX5_finds_31 (by decide) (fun c_2 => ?_) (fun c_2 => ?_)
    · refine z_iload dX5_finds_36 rfl ?_
      refine z_iload dX5_finds_38 rfl ?_
      refine z_ineg (v := (-(((x1_ 17) l1.toNatClampNeg) &&& ((x1_ 16) 3)))) dX5_finds_40 rfl ?_
      refine z_iand (v := ((((x1_ 17) l1.toNatClampNeg) &&& ((x1_ 16) 3)) &&& (-(((x1_ 17) l1.toNatClampNeg) &&& ((x1_ 16) 3))))) dX5_finds_41 rfl ?_
      refine z_iconst dX5_finds_42 k_iconst_1 ?_
      refine z_isub (v := (((((x1_ 17) l1.toNatClampNeg) &&& ((x1_ 16) 3)) &&& (-(((x1_ 17) l1.toNatClampNeg) &&& ((x1_ 16) 3)))) - (1 : Int32))) dX5_finds_43 rfl ?_
      refine z_callS (As := [.int (((((x1_ 17) l1.toNatClampNeg) &&& ((x1_ 16) 3)) &&& (-(((x1_ 17) l1.toNatClampNeg) &&& ((x1_ 16) 3)))) - (1 : Int32))]) (rest := []) (ctJ6_bitCount_0f7a4 P x1_ (((((x1_ 17) l1.toNatClampNeg) &&& ((x1_ 16) 3)) &&& (-(((x1_ 17) l1.toNatClampNeg) &&& ((x1_ 16) 3)))) - (1 : Int32))) dX5_finds_44 lk_X5_25 ls_J6_bitCount_0f7a4 rfl (Nat.le_of_ble_eq_true rfl) (Nat.le_of_ble_eq_true rfl) (Nat.le_of_ble_eq_true rfl) (Nat.le_of_ble_eq_true rfl) (fun r_ h_ e_ => ?_)
      obtain ⟨e1_, e2_⟩ := e_
      subst e1_
      subst e2_
      show zz G mX5_finds (kd_ + 1) 0 0 Q 47 [some (.ref 16), some (.int l1), some (.int l2), some (.int x0_), some (.int (((x1_ 17) l1.toNatClampNeg) &&& ((x1_ 16) 3))), none, none] [.int (rJ6_bitCount_0f7a4 (((((x1_ 17) l1.toNatClampNeg) &&& ((x1_ 16) 3)) &&& (-(((x1_ 17) l1.toNatClampNeg) &&& ((x1_ 16) 3)))) - (1 : Int32)))] (hh P x1_) 0 0
      refine z_istore (lv' := [some (.ref 16), some (.int l1), some (.int l2), some (.int x0_), some (.int (((x1_ 17) l1.toNatClampNeg) &&& ((x1_ 16) 3))), some (.int (vX5_finds_1 l1 x1_)), none]) dX5_finds_47 (Nat.le_of_ble_eq_true rfl) rfl ?_
      refine z_aloadr_n dX5_finds_49 rfl ?_
      refine z_dup dX5_finds_50 rfl ?_
      refine z_get (ci := 5) (r := (RX5, TX5, 4)) (j := 3) (v := .int ((x1_ 16) 3)) dX5_finds_51 (Nat.le_of_ble_eq_true rfl) (zN rfl) rfl rfl (Nat.le_of_ble_eq_true rfl) fl_X5_22 rfl ?_
      refine z_iconst dX5_finds_54 k_iconst_1 ?_
      refine z_iload dX5_finds_55 rfl ?_
      refine z_ishl (v := (zshl (1 : Int32) (vX5_finds_1 l1 x1_))) dX5_finds_57 rfl ?_
      refine z_iconst dX5_finds_58 k_iconst_m1 ?_
      refine z_ixor (v := ((zshl (1 : Int32) (vX5_finds_1 l1 x1_)) ^^^ (-1 : Int32))) dX5_finds_59 rfl ?_
      refine z_iand (v := (((x1_ 16) 3) &&& ((zshl (1 : Int32) (vX5_finds_1 l1 x1_)) ^^^ (-1 : Int32)))) dX5_finds_60 rfl ?_
      refine z_put (ci := 5) (r := (RX5, TX5, 4)) (j := 3) (σ' := (zu x1_ 16 (zu (x1_ 16) 3 (((x1_ 16) 3) &&& ((zshl (1 : Int32) (vX5_finds_1 l1 x1_)) ^^^ (-1 : Int32)))))) dX5_finds_61 (Nat.le_of_ble_eq_true rfl) (zN rfl) rfl rfl (Nat.le_of_ble_eq_true rfl) fl_X5_22 rfl rfl rfl rfl rfl ?_
      refine z_aloadr_n dX5_finds_64 rfl ?_
      refine z_get (ci := 5) (r := (RX5, TX5, 4)) (j := 2) (v := .ref 18) dX5_finds_65 (Nat.le_of_ble_eq_true rfl) (zN rfl) rfl rfl (Nat.le_of_ble_eq_true rfl) fl_X5_19 rfl ?_
      refine z_iload dX5_finds_68 rfl ?_
      refine z_iald (v := ((x1_ 18) (vX5_finds_1 l1 x1_).toNatClampNeg)) dX5_finds_70 (zN rfl) rfl (((W3_.2 c_1).2.2 c_2).1) (congrFun (zu_ne _ _ (by decide)) _) ?_
      refine z_istore (lv' := [some (.ref 16), some (.int l1), some (.int l2), some (.int x0_), some (.int (((x1_ 17) l1.toNatClampNeg) &&& ((x1_ 16) 3))), some (.int (vX5_finds_1 l1 x1_)), some (.int ((x1_ 18) (vX5_finds_1 l1 x1_).toNatClampNeg))]) dX5_finds_71 (Nat.le_of_ble_eq_true rfl) rfl ?_
      refine z_iload dX5_finds_73 rfl ?_
      refine z_iconst dX5_finds_75 k_iconst_m1 ?_
      refine z_icmp_eq (tgt := 91) dX5_finds_76 (by decide) (fun c_3 => ?_) (fun c_3 => ?_)
      · exact absurd (Or.inr ⟨c_1, (Or.inr ⟨c_2, (Or.inl ⟨c_3, trivial⟩)⟩)⟩) hn_
      · refine z_aloadr_n dX5_finds_79 rfl ?_
        refine z_iload dX5_finds_80 rfl ?_
        refine z_iload_n dX5_finds_82 rfl ?_
        refine z_iconst dX5_finds_83 k_iconst_1 ?_
        refine z_iadd (v := (l2 + (1 : Int32))) dX5_finds_84 rfl ?_
        refine z_callS (As := [.ref 16, .int ((x1_ 18) (vX5_finds_1 l1 x1_).toNatClampNeg), .int (l2 + (1 : Int32))]) (rest := []) (hrec_ (zu x1_ 16 (zu (x1_ 16) 3 (((x1_ 16) 3) &&& ((zshl (1 : Int32) (vX5_finds_1 l1 x1_)) ^^^ (-1 : Int32))))) ((x1_ 18) (vX5_finds_1 l1 x1_).toNatClampNeg) (l2 + (1 : Int32)) ((((W3_.2 c_1).2.2 c_2).2.2 c_3).1)) dX5_finds_85 lk_X5_43 ls_X5_finds rfl (Nat.le_refl _) (Nat.le_of_ble_eq_true rfl) (Nat.le_of_ble_eq_true rfl) (Nat.le_of_ble_eq_true rfl) (fun r_ h_ e_ => ?_)
        obtain ⟨e1_, e2_⟩ := e_
        subst e1_
        subst e2_
        show zz G mX5_finds (kd_ + 1) 0 0 Q 88 [some (.ref 16), some (.int l1), some (.int l2), some (.int x0_), some (.int (((x1_ 17) l1.toNatClampNeg) &&& ((x1_ 16) 3))), some (.int (vX5_finds_1 l1 x1_)), some (.int ((x1_ 18) (vX5_finds_1 l1 x1_).toNatClampNeg))] [.int (Rf_ (zu x1_ 16 (zu (x1_ 16) 3 (((x1_ 16) 3) &&& ((zshl (1 : Int32) (vX5_finds_1 l1 x1_)) ^^^ (-1 : Int32))))) ((x1_ 18) (vX5_finds_1 l1 x1_).toNatClampNeg) (l2 + (1 : Int32)))] (hh P (vX5_finds_2 Sf_ l1 l2 x1_)) 0 0
        refine z_if_eq (tgt := 101) dX5_finds_88 (by decide) (fun c_4 => ?_) (fun c_4 => ?_)
        · refine z_iinc (v := (x0_ + (1 : Int32))) (lv' := [some (.ref 16), some (.int l1), some (.int l2), some (.int (x0_ + (1 : Int32))), some (.int (((x1_ 17) l1.toNatClampNeg) &&& ((x1_ 16) 3))), some (.int (vX5_finds_1 l1 x1_)), some (.int ((x1_ 18) (vX5_finds_1 l1 x1_).toNatClampNeg))]) dX5_finds_101 (Nat.le_of_ble_eq_true rfl) rfl (by rw [k_iconst_1]) rfl ?_
          refine z_goto (tgt := 10) dX5_finds_104 (by decide) ?_
          refine zz_sub (lv' := [some (.ref 16), some (.int l1), some (.int l2), some (.int (x0_ + (1 : Int32))), none, none, none]) ⟨rfl, ⟨rfl, ⟨rfl, ⟨rfl, trivial⟩⟩⟩⟩ ?_
          simpa only [if_neg c_1, if_neg c_2, if_neg c_3, if_pos c_4] using k_
        · exact absurd (Or.inr ⟨c_1, (Or.inr ⟨c_2, (Or.inr ⟨c_3, (Or.inr ⟨c_4, trivial⟩)⟩)⟩)⟩) hn_
    · exact absurd (Or.inr ⟨c_1, (Or.inl ⟨c_2, trivial⟩)⟩) hn_

theorem dX5_finds_0 : decode cX5_finds 0 = .ok (.iload_n 2, 1) := by decide +kernel
theorem dX5_finds_1 : decode cX5_finds 1 = .ok (.bipush 12, 2) := by decide +kernel
theorem dX5_finds_3 : decode cX5_finds 3 = .ok (.if_icmp .lt 5, 3) := by decide +kernel
theorem dX5_finds_6 : decode cX5_finds 6 = .ok (.iconst 0, 1) := by decide +kernel
theorem dX5_finds_7 : decode cX5_finds 7 = .ok (.ireturn, 1) := by decide +kernel
theorem dX5_finds_8 : decode cX5_finds 8 = .ok (.iconst 0, 1) := by decide +kernel
theorem dX5_finds_9 : decode cX5_finds 9 = .ok (.istore_n 3, 1) := by decide +kernel
theorem dX5_finds_35 : decode cX5_finds 35 = .ok (.ireturn, 1) := by decide +kernel
theorem dX5_finds_100 : decode cX5_finds 100 = .ok (.ireturn, 1) := by decide +kernel
theorem dX5_finds_108 : decode cX5_finds 108 = .ok (.ireturn, 1) := by decide +kernel
noncomputable def vX5_finds_3 (Rf_ : zc_N → Int32 → Int32 → Int32) (Sf_ : zc_N → Int32 → Int32 → zc_N) (a1 : Int32) (a2 : Int32) (σ : zc_N) : Int32 := ((((wX5_finds_10 Rf_ Sf_ a1 a2 ((0 : Int32), σ)).2 17) a1.toNatClampNeg) &&& (((wX5_finds_10 Rf_ Sf_ a1 a2 ((0 : Int32), σ)).2 16) 3))
noncomputable def vX5_finds_4 (Rf_ : zc_N → Int32 → Int32 → Int32) (Sf_ : zc_N → Int32 → Int32 → zc_N) (a1 : Int32) (a2 : Int32) (σ : zc_N) : Int32 := (((wX5_finds_10 Rf_ Sf_ a1 a2 ((0 : Int32), σ)).2 18) (rJ6_bitCount_0f7a4 (((vX5_finds_3 Rf_ Sf_ a1 a2 σ) &&& (-(vX5_finds_3 Rf_ Sf_ a1 a2 σ))) - (1 : Int32))).toNatClampNeg)
noncomputable def vX5_finds_5 (Rf_ : zc_N → Int32 → Int32 → Int32) (Sf_ : zc_N → Int32 → Int32 → zc_N) (a1 : Int32) (a2 : Int32) (σ : zc_N) : zc_N := (Sf_ (zu (wX5_finds_10 Rf_ Sf_ a1 a2 ((0 : Int32), σ)).2 16 (zu ((wX5_finds_10 Rf_ Sf_ a1 a2 ((0 : Int32), σ)).2 16) 3 ((((wX5_finds_10 Rf_ Sf_ a1 a2 ((0 : Int32), σ)).2 16) 3) &&& ((zshl (1 : Int32) (rJ6_bitCount_0f7a4 (((vX5_finds_3 Rf_ Sf_ a1 a2 σ) &&& (-(vX5_finds_3 Rf_ Sf_ a1 a2 σ))) - (1 : Int32)))) ^^^ (-1 : Int32))))) (vX5_finds_4 Rf_ Sf_ a1 a2 σ) (a2 + (1 : Int32)))
def pX5_finds (σ : zc_N) (Rf_ : zc_N → Int32 → Int32 → Int32) (Sf_ : zc_N → Int32 → Int32 → zc_N) (Pf_ : zc_N → Int32 → Int32 → Prop) (a1 : Int32) (a2 : Int32) : Prop := ((a2 < (12 : Int32) → (((∃ n_ : Nat, (eX5_finds_10 Rf_ a1 a2) (zit (fX5_finds_10 Sf_ a1 a2) n_ ((0 : Int32), σ))) ∧ (∀ i10_ : Nat, i10_ < (zwn (fun n_ => (eX5_finds_10 Rf_ a1 a2) (zit (fX5_finds_10 Sf_ a1 a2) n_ ((0 : Int32), σ)))) → qX5_finds_10 Rf_ Pf_ a1 a2 (zit (fX5_finds_10 Sf_ a1 a2) i10_ ((0 : Int32), σ)))) ∧ (((12 : Int32) ≤ (wX5_finds_10 Rf_ Sf_ a1 a2 ((0 : Int32), σ)).1 → True) ∧ (¬ (12 : Int32) ≤ (wX5_finds_10 Rf_ Sf_ a1 a2 ((0 : Int32), σ)).1 → (vp_in a1 12 ∧ (((vX5_finds_3 Rf_ Sf_ a1 a2 σ) = (0 : Int32) → True) ∧ (¬ (vX5_finds_3 Rf_ Sf_ a1 a2 σ) = (0 : Int32) → (vp_in (rJ6_bitCount_0f7a4 (((vX5_finds_3 Rf_ Sf_ a1 a2 σ) &&& (-(vX5_finds_3 Rf_ Sf_ a1 a2 σ))) - (1 : Int32))) 12 ∧ (((vX5_finds_4 Rf_ Sf_ a1 a2 σ) = (-1 : Int32) → vp_in (rJ6_bitCount_0f7a4 (((vX5_finds_3 Rf_ Sf_ a1 a2 σ) &&& (-(vX5_finds_3 Rf_ Sf_ a1 a2 σ))) - (1 : Int32))) 12) ∧ (¬ (vX5_finds_4 Rf_ Sf_ a1 a2 σ) = (-1 : Int32) → (Pf_ (zu (wX5_finds_10 Rf_ Sf_ a1 a2 ((0 : Int32), σ)).2 16 (zu ((wX5_finds_10 Rf_ Sf_ a1 a2 ((0 : Int32), σ)).2 16) 3 ((((wX5_finds_10 Rf_ Sf_ a1 a2 ((0 : Int32), σ)).2 16) 3) &&& ((zshl (1 : Int32) (rJ6_bitCount_0f7a4 (((vX5_finds_3 Rf_ Sf_ a1 a2 σ) &&& (-(vX5_finds_3 Rf_ Sf_ a1 a2 σ))) - (1 : Int32)))) ^^^ (-1 : Int32))))) (vX5_finds_4 Rf_ Sf_ a1 a2 σ) (a2 + (1 : Int32)) ∧ (((Rf_ (zu (wX5_finds_10 Rf_ Sf_ a1 a2 ((0 : Int32), σ)).2 16 (zu ((wX5_finds_10 Rf_ Sf_ a1 a2 ((0 : Int32), σ)).2 16) 3 ((((wX5_finds_10 Rf_ Sf_ a1 a2 ((0 : Int32), σ)).2 16) 3) &&& ((zshl (1 : Int32) (rJ6_bitCount_0f7a4 (((vX5_finds_3 Rf_ Sf_ a1 a2 σ) &&& (-(vX5_finds_3 Rf_ Sf_ a1 a2 σ))) - (1 : Int32)))) ^^^ (-1 : Int32))))) (vX5_finds_4 Rf_ Sf_ a1 a2 σ) (a2 + (1 : Int32))) = (0 : Int32) → True) ∧ (¬ (Rf_ (zu (wX5_finds_10 Rf_ Sf_ a1 a2 ((0 : Int32), σ)).2 16 (zu ((wX5_finds_10 Rf_ Sf_ a1 a2 ((0 : Int32), σ)).2 16) 3 ((((wX5_finds_10 Rf_ Sf_ a1 a2 ((0 : Int32), σ)).2 16) 3) &&& ((zshl (1 : Int32) (rJ6_bitCount_0f7a4 (((vX5_finds_3 Rf_ Sf_ a1 a2 σ) &&& (-(vX5_finds_3 Rf_ Sf_ a1 a2 σ))) - (1 : Int32)))) ^^^ (-1 : Int32))))) (vX5_finds_4 Rf_ Sf_ a1 a2 σ) (a2 + (1 : Int32))) = (0 : Int32) → vp_in (rJ6_bitCount_0f7a4 (((vX5_finds_3 Rf_ Sf_ a1 a2 σ) &&& (-(vX5_finds_3 Rf_ Sf_ a1 a2 σ))) - (1 : Int32))) 12))))))))))))) ∧ (¬ a2 < (12 : Int32) → True))
noncomputable def rX5_finds (σ : zc_N) (Rf_ : zc_N → Int32 → Int32 → Int32) (Sf_ : zc_N → Int32 → Int32 → zc_N) (a1 : Int32) (a2 : Int32) : Int32 := (if a2 < (12 : Int32) then (if (12 : Int32) ≤ (wX5_finds_10 Rf_ Sf_ a1 a2 ((0 : Int32), σ)).1 then (0 : Int32) else (if (vX5_finds_3 Rf_ Sf_ a1 a2 σ) = (0 : Int32) then (0 : Int32) else (1 : Int32))) else (0 : Int32))
noncomputable def sX5_finds (σ : zc_N) (Rf_ : zc_N → Int32 → Int32 → Int32) (Sf_ : zc_N → Int32 → Int32 → zc_N) (a1 : Int32) (a2 : Int32) : zc_N := (if a2 < (12 : Int32) then (if (12 : Int32) ≤ (wX5_finds_10 Rf_ Sf_ a1 a2 ((0 : Int32), σ)).1 then (wX5_finds_10 Rf_ Sf_ a1 a2 ((0 : Int32), σ)).2 else (if (vX5_finds_3 Rf_ Sf_ a1 a2 σ) = (0 : Int32) then (wX5_finds_10 Rf_ Sf_ a1 a2 ((0 : Int32), σ)).2 else (if (vX5_finds_4 Rf_ Sf_ a1 a2 σ) = (-1 : Int32) then (zu (zu (wX5_finds_10 Rf_ Sf_ a1 a2 ((0 : Int32), σ)).2 16 (zu ((wX5_finds_10 Rf_ Sf_ a1 a2 ((0 : Int32), σ)).2 16) 3 ((((wX5_finds_10 Rf_ Sf_ a1 a2 ((0 : Int32), σ)).2 16) 3) &&& ((zshl (1 : Int32) (rJ6_bitCount_0f7a4 (((vX5_finds_3 Rf_ Sf_ a1 a2 σ) &&& (-(vX5_finds_3 Rf_ Sf_ a1 a2 σ))) - (1 : Int32)))) ^^^ (-1 : Int32))))) 18 (zu ((wX5_finds_10 Rf_ Sf_ a1 a2 ((0 : Int32), σ)).2 18) (rJ6_bitCount_0f7a4 (((vX5_finds_3 Rf_ Sf_ a1 a2 σ) &&& (-(vX5_finds_3 Rf_ Sf_ a1 a2 σ))) - (1 : Int32))).toNatClampNeg a1)) else (zu (vX5_finds_5 Rf_ Sf_ a1 a2 σ) 18 (zu ((vX5_finds_5 Rf_ Sf_ a1 a2 σ) 18) (rJ6_bitCount_0f7a4 (((vX5_finds_3 Rf_ Sf_ a1 a2 σ) &&& (-(vX5_finds_3 Rf_ Sf_ a1 a2 σ))) - (1 : Int32))).toNatClampNeg a1))))) else σ)
set_option maxHeartbeats 1000000 in
theorem ctX5_finds (P : zp) (σ : zc_N) (Rf_ : zc_N → Int32 → Int32 → Int32) (Sf_ : zc_N → Int32 → Int32 → zc_N) (Pf_ : zc_N → Int32 → Int32 → Prop) (kd_ : Nat) (hrec_ : ∀ (τ : zc_N) (x1 x2 : Int32), Pf_ τ x1 x2 → sp mX5_finds kd_ 0 0 [.ref 16, .int x1, .int x2] (hh P τ) (fun r_ h_ => r_ = some (.int (Rf_ τ x1 x2)) ∧ h_ = hh P (Sf_ τ x1 x2))) (a1 : Int32) (a2 : Int32) (W_ : (pX5_finds σ Rf_ Sf_ Pf_ a1 a2)) : sp mX5_finds (kd_ + 1) 0 0 [.ref 16, .int a1, .int a2] (hh P σ) (fun r_ h_ => r_ = some (.int (rX5_finds σ Rf_ Sf_ a1 a2)) ∧ h_ = hh P (sX5_finds σ Rf_ Sf_ a1 a2)) := by
  refine sp_of (lv := [some (.ref 16), some (.int a1), some (.int a2), none, none, none, none]) (by decide) (zcats_ok _ rfl) (Nat.le_of_ble_eq_true rfl) (zlv_ok _ 4 rfl) (fun G => ?_)
  generalize hQ_ : (fun (r_ : Option Value) (h_ : zc_H) => r_ = some (.int (rX5_finds σ Rf_ Sf_ a1 a2)) ∧ h_ = hh P (sX5_finds σ Rf_ Sf_ a1 a2)) = Q_
  unfold pX5_finds at W_
  refine z_iload_n dX5_finds_0 rfl ?_
  refine z_bipush dX5_finds_1 k_bipush_12 ?_
  refine z_icmp_lt (tgt := 8) dX5_finds_3 (by decide) (fun c_1 => ?_) (fun c_1 => ?_)
  · refine z_iconst dX5_finds_8 k_iconst_0 ?_
    refine z_istore_n (lv' := [some (.ref 16), some (.int a1), some (.int a2), some (.int (0 : Int32)), none, none, none]) dX5_finds_9 (Nat.le_of_ble_eq_true rfl) rfl ?_
    refine whX5_finds_10 P σ Rf_ Sf_ Pf_ kd_ hrec_ a1 a2 (0 : Int32) ((W_.1 c_1).1).1 ((W_.1 c_1).1).2 (fun hX10_ => ?_)
    rw [eX5_finds_10] at hX10_
    try dsimp only at hX10_
    show zz G mX5_finds (kd_ + 1) 0 0 Q_ 10 [some (.ref 16), some (.int a1), some (.int a2), some (.int (wX5_finds_10 Rf_ Sf_ a1 a2 ((0 : Int32), σ)).1), none, none, none] [] (hh P (wX5_finds_10 Rf_ Sf_ a1 a2 ((0 : Int32), σ)).2) 0 0
    refine z_iload_n dX5_finds_10 rfl ?_
    refine z_bipush dX5_finds_11 k_bipush_12 ?_
    refine z_icmp_ge (tgt := 107) dX5_finds_13 (by decide) (fun c_2 => ?_) (fun c_2 => ?_)
    · refine z_iconst dX5_finds_107 k_iconst_0 ?_
      exact z_ireturn dX5_finds_108 rfl rfl (Nat.le_of_ble_eq_true rfl) (Nat.le_of_ble_eq_true rfl) (by rw [← hQ_]; exact ⟨(by rw [rX5_finds]; try simp only [if_pos c_1, if_pos c_2]), (by rw [sX5_finds]; try simp only [if_pos c_1, if_pos c_2])⟩)
    · refine z_aloadr_n dX5_finds_16 rfl ?_
      refine z_get (ci := 5) (r := (RX5, TX5, 4)) (j := 0) (v := .ref 17) dX5_finds_17 (Nat.le_of_ble_eq_true rfl) (zN rfl) rfl rfl (Nat.le_of_ble_eq_true rfl) fl_X5_9 rfl ?_
      refine z_iload_n dX5_finds_20 rfl ?_
      refine z_iald (v := (((wX5_finds_10 Rf_ Sf_ a1 a2 ((0 : Int32), σ)).2 17) a1.toNatClampNeg)) dX5_finds_21 (zN rfl) rfl (((W_.1 c_1).2.2 c_2).1) rfl ?_
      refine z_aloadr_n dX5_finds_22 rfl ?_
      refine z_get (ci := 5) (r := (RX5, TX5, 4)) (j := 3) (v := .int (((wX5_finds_10 Rf_ Sf_ a1 a2 ((0 : Int32), σ)).2 16) 3)) dX5_finds_23 (Nat.le_of_ble_eq_true rfl) (zN rfl) rfl rfl (Nat.le_of_ble_eq_true rfl) fl_X5_22 rfl ?_
      refine z_iand (v := ((((wX5_finds_10 Rf_ Sf_ a1 a2 ((0 : Int32), σ)).2 17) a1.toNatClampNeg) &&& (((wX5_finds_10 Rf_ Sf_ a1 a2 ((0 : Int32), σ)).2 16) 3))) dX5_finds_26 rfl ?_
      refine z_istore (lv' := [some (.ref 16), some (.int a1), some (.int a2), some (.int (wX5_finds_10 Rf_ Sf_ a1 a2 ((0 : Int32), σ)).1), some (.int (vX5_finds_3 Rf_ Sf_ a1 a2 σ)), none, none]) dX5_finds_27 (Nat.le_of_ble_eq_true rfl) rfl ?_
      refine z_iload dX5_finds_29 rfl ?_
      refine z_if_ne (tgt := 36) dX5_finds_31 (by decide) (fun c_3 => ?_) (fun c_3 => ?_)
      · refine z_iload dX5_finds_36 rfl ?_
        refine z_iload dX5_finds_38 rfl ?_
        refine z_ineg (v := (-(vX5_finds_3 Rf_ Sf_ a1 a2 σ))) dX5_finds_40 rfl ?_
        refine z_iand (v := ((vX5_finds_3 Rf_ Sf_ a1 a2 σ) &&& (-(vX5_finds_3 Rf_ Sf_ a1 a2 σ)))) dX5_finds_41 rfl ?_
        refine z_iconst dX5_finds_42 k_iconst_1 ?_
        refine z_isub (v := (((vX5_finds_3 Rf_ Sf_ a1 a2 σ) &&& (-(vX5_finds_3 Rf_ Sf_ a1 a2 σ))) - (1 : Int32))) dX5_finds_43 rfl ?_
        refine z_callS (As := [.int (((vX5_finds_3 Rf_ Sf_ a1 a2 σ) &&& (-(vX5_finds_3 Rf_ Sf_ a1 a2 σ))) - (1 : Int32))]) (rest := []) (ctJ6_bitCount_0f7a4 P ((wX5_finds_10 Rf_ Sf_ a1 a2 ((0 : Int32), σ)).2) (((vX5_finds_3 Rf_ Sf_ a1 a2 σ) &&& (-(vX5_finds_3 Rf_ Sf_ a1 a2 σ))) - (1 : Int32))) dX5_finds_44 lk_X5_25 ls_J6_bitCount_0f7a4 rfl (Nat.le_of_ble_eq_true rfl) (Nat.le_of_ble_eq_true rfl) (Nat.le_of_ble_eq_true rfl) (Nat.le_of_ble_eq_true rfl) (fun r_ h_ e_ => ?_)
        obtain ⟨e1_, e2_⟩ := e_
        subst e1_
        subst e2_
        show zz G mX5_finds (kd_ + 1) 0 0 Q_ 47 [some (.ref 16), some (.int a1), some (.int a2), some (.int (wX5_finds_10 Rf_ Sf_ a1 a2 ((0 : Int32), σ)).1), some (.int (vX5_finds_3 Rf_ Sf_ a1 a2 σ)), none, none] [.int (rJ6_bitCount_0f7a4 (((vX5_finds_3 Rf_ Sf_ a1 a2 σ) &&& (-(vX5_finds_3 Rf_ Sf_ a1 a2 σ))) - (1 : Int32)))] (hh P (wX5_finds_10 Rf_ Sf_ a1 a2 ((0 : Int32), σ)).2) 0 0
        refine z_istore (lv' := [some (.ref 16), some (.int a1), some (.int a2), some (.int (wX5_finds_10 Rf_ Sf_ a1 a2 ((0 : Int32), σ)).1), some (.int (vX5_finds_3 Rf_ Sf_ a1 a2 σ)), some (.int (rJ6_bitCount_0f7a4 (((vX5_finds_3 Rf_ Sf_ a1 a2 σ) &&& (-(vX5_finds_3 Rf_ Sf_ a1 a2 σ))) - (1 : Int32)))), none]) dX5_finds_47 (Nat.le_of_ble_eq_true rfl) rfl ?_
        refine z_aloadr_n dX5_finds_49 rfl ?_
        refine z_dup dX5_finds_50 rfl ?_
        refine z_get (ci := 5) (r := (RX5, TX5, 4)) (j := 3) (v := .int (((wX5_finds_10 Rf_ Sf_ a1 a2 ((0 : Int32), σ)).2 16) 3)) dX5_finds_51 (Nat.le_of_ble_eq_true rfl) (zN rfl) rfl rfl (Nat.le_of_ble_eq_true rfl) fl_X5_22 rfl ?_
        refine z_iconst dX5_finds_54 k_iconst_1 ?_
        refine z_iload dX5_finds_55 rfl ?_
        refine z_ishl (v := (zshl (1 : Int32) (rJ6_bitCount_0f7a4 (((vX5_finds_3 Rf_ Sf_ a1 a2 σ) &&& (-(vX5_finds_3 Rf_ Sf_ a1 a2 σ))) - (1 : Int32))))) dX5_finds_57 rfl ?_
        refine z_iconst dX5_finds_58 k_iconst_m1 ?_
        refine z_ixor (v := ((zshl (1 : Int32) (rJ6_bitCount_0f7a4 (((vX5_finds_3 Rf_ Sf_ a1 a2 σ) &&& (-(vX5_finds_3 Rf_ Sf_ a1 a2 σ))) - (1 : Int32)))) ^^^ (-1 : Int32))) dX5_finds_59 rfl ?_
        refine z_iand (v := ((((wX5_finds_10 Rf_ Sf_ a1 a2 ((0 : Int32), σ)).2 16) 3) &&& ((zshl (1 : Int32) (rJ6_bitCount_0f7a4 (((vX5_finds_3 Rf_ Sf_ a1 a2 σ) &&& (-(vX5_finds_3 Rf_ Sf_ a1 a2 σ))) - (1 : Int32)))) ^^^ (-1 : Int32)))) dX5_finds_60 rfl ?_
        refine z_put (ci := 5) (r := (RX5, TX5, 4)) (j := 3) (σ' := (zu (wX5_finds_10 Rf_ Sf_ a1 a2 ((0 : Int32), σ)).2 16 (zu ((wX5_finds_10 Rf_ Sf_ a1 a2 ((0 : Int32), σ)).2 16) 3 ((((wX5_finds_10 Rf_ Sf_ a1 a2 ((0 : Int32), σ)).2 16) 3) &&& ((zshl (1 : Int32) (rJ6_bitCount_0f7a4 (((vX5_finds_3 Rf_ Sf_ a1 a2 σ) &&& (-(vX5_finds_3 Rf_ Sf_ a1 a2 σ))) - (1 : Int32)))) ^^^ (-1 : Int32)))))) dX5_finds_61 (Nat.le_of_ble_eq_true rfl) (zN rfl) rfl rfl (Nat.le_of_ble_eq_true rfl) fl_X5_22 rfl rfl rfl rfl rfl ?_
        refine z_aloadr_n dX5_finds_64 rfl ?_
        refine z_get (ci := 5) (r := (RX5, TX5, 4)) (j := 2) (v := .ref 18) dX5_finds_65 (Nat.le_of_ble_eq_true rfl) (zN rfl) rfl rfl (Nat.le_of_ble_eq_true rfl) fl_X5_19 rfl ?_
        refine z_iload dX5_finds_68 rfl ?_
        refine z_iald (v := (((wX5_finds_10 Rf_ Sf_ a1 a2 ((0 : Int32), σ)).2 18) (rJ6_bitCount_0f7a4 (((vX5_finds_3 Rf_ Sf_ a1 a2 σ) &&& (-(vX5_finds_3 Rf_ Sf_ a1 a2 σ))) - (1 : Int32))).toNatClampNeg)) dX5_finds_70 (zN rfl) rfl ((((W_.1 c_1).2.2 c_2).2.2 c_3).1) (congrFun (zu_ne _ _ (by decide)) _) ?_
        refine z_istore (lv' := [some (.ref 16), some (.int a1), some (.int a2), some (.int (wX5_finds_10 Rf_ Sf_ a1 a2 ((0 : Int32), σ)).1), some (.int (vX5_finds_3 Rf_ Sf_ a1 a2 σ)), some (.int (rJ6_bitCount_0f7a4 (((vX5_finds_3 Rf_ Sf_ a1 a2 σ) &&& (-(vX5_finds_3 Rf_ Sf_ a1 a2 σ))) - (1 : Int32)))), some (.int (vX5_finds_4 Rf_ Sf_ a1 a2 σ))]) dX5_finds_71 (Nat.le_of_ble_eq_true rfl) rfl ?_
        refine z_iload dX5_finds_73 rfl ?_
        refine z_iconst dX5_finds_75 k_iconst_m1 ?_
        refine z_icmp_eq (tgt := 91) dX5_finds_76 (by decide) (fun c_4 => ?_) (fun c_4 => ?_)
        · refine z_aloadr_n dX5_finds_91 rfl ?_
          refine z_get (ci := 5) (r := (RX5, TX5, 4)) (j := 2) (v := .ref 18) dX5_finds_92 (Nat.le_of_ble_eq_true rfl) (zN rfl) rfl rfl (Nat.le_of_ble_eq_true rfl) fl_X5_19 rfl ?_
          refine z_iload dX5_finds_95 rfl ?_
          refine z_iload_n dX5_finds_97 rfl ?_
          refine z_iast (σ' := (zu (zu (wX5_finds_10 Rf_ Sf_ a1 a2 ((0 : Int32), σ)).2 16 (zu ((wX5_finds_10 Rf_ Sf_ a1 a2 ((0 : Int32), σ)).2 16) 3 ((((wX5_finds_10 Rf_ Sf_ a1 a2 ((0 : Int32), σ)).2 16) 3) &&& ((zshl (1 : Int32) (rJ6_bitCount_0f7a4 (((vX5_finds_3 Rf_ Sf_ a1 a2 σ) &&& (-(vX5_finds_3 Rf_ Sf_ a1 a2 σ))) - (1 : Int32)))) ^^^ (-1 : Int32))))) 18 (zu ((wX5_finds_10 Rf_ Sf_ a1 a2 ((0 : Int32), σ)).2 18) (rJ6_bitCount_0f7a4 (((vX5_finds_3 Rf_ Sf_ a1 a2 σ) &&& (-(vX5_finds_3 Rf_ Sf_ a1 a2 σ))) - (1 : Int32))).toNatClampNeg a1))) dX5_finds_98 (Nat.le_of_ble_eq_true rfl) (zN rfl) rfl ((((W_.1 c_1).2.2 c_2).2.2 c_3).2.1 c_4) (congrArg (fun g_ => zu _ _ (zu g_ _ _)) (zu_ne _ _ (by decide))) ?_
          refine z_iconst dX5_finds_99 k_iconst_1 ?_
          exact z_ireturn dX5_finds_100 rfl rfl (Nat.le_of_ble_eq_true rfl) (Nat.le_of_ble_eq_true rfl) (by rw [← hQ_]; exact ⟨(by rw [rX5_finds]; try simp only [if_pos c_1, if_neg c_2, if_neg c_3, if_pos c_4]), (by rw [sX5_finds]; try simp only [if_pos c_1, if_neg c_2, if_neg c_3, if_pos c_4])⟩)
        · refine z_aloadr_n dX5_finds_79 rfl ?_
          refine z_iload dX5_finds_80 rfl ?_
          refine z_iload_n dX5_finds_82 rfl ?_
          refine z_iconst dX5_finds_83 k_iconst_1 ?_
          refine z_iadd (v := (a2 + (1 : Int32))) dX5_finds_84 rfl ?_
          refine z_callS (As := [.ref 16, .int (vX5_finds_4 Rf_ Sf_ a1 a2 σ), .int (a2 + (1 : Int32))]) (rest := []) (hrec_ (zu (wX5_finds_10 Rf_ Sf_ a1 a2 ((0 : Int32), σ)).2 16 (zu ((wX5_finds_10 Rf_ Sf_ a1 a2 ((0 : Int32), σ)).2 16) 3 ((((wX5_finds_10 Rf_ Sf_ a1 a2 ((0 : Int32), σ)).2 16) 3) &&& ((zshl (1 : Int32) (rJ6_bitCount_0f7a4 (((vX5_finds_3 Rf_ Sf_ a1 a2 σ) &&& (-(vX5_finds_3 Rf_ Sf_ a1 a2 σ))) - (1 : Int32)))) ^^^ (-1 : Int32))))) (vX5_finds_4 Rf_ Sf_ a1 a2 σ) (a2 + (1 : Int32)) (((((W_.1 c_1).2.2 c_2).2.2 c_3).2.2 c_4).1)) dX5_finds_85 lk_X5_43 ls_X5_finds rfl (Nat.le_refl _) (Nat.le_of_ble_eq_true rfl) (Nat.le_of_ble_eq_true rfl) (Nat.le_of_ble_eq_true rfl) (fun r_ h_ e_ => ?_)
          obtain ⟨e1_, e2_⟩ := e_
          subst e1_
          subst e2_
          show zz G mX5_finds (kd_ + 1) 0 0 Q_ 88 [some (.ref 16), some (.int a1), some (.int a2), some (.int (wX5_finds_10 Rf_ Sf_ a1 a2 ((0 : Int32), σ)).1), some (.int (vX5_finds_3 Rf_ Sf_ a1 a2 σ)), some (.int (rJ6_bitCount_0f7a4 (((vX5_finds_3 Rf_ Sf_ a1 a2 σ) &&& (-(vX5_finds_3 Rf_ Sf_ a1 a2 σ))) - (1 : Int32)))), some (.int (vX5_finds_4 Rf_ Sf_ a1 a2 σ))] [.int (Rf_ (zu (wX5_finds_10 Rf_ Sf_ a1 a2 ((0 : Int32), σ)).2 16 (zu ((wX5_finds_10 Rf_ Sf_ a1 a2 ((0 : Int32), σ)).2 16) 3 ((((wX5_finds_10 Rf_ Sf_ a1 a2 ((0 : Int32), σ)).2 16) 3) &&& ((zshl (1 : Int32) (rJ6_bitCount_0f7a4 (((vX5_finds_3 Rf_ Sf_ a1 a2 σ) &&& (-(vX5_finds_3 Rf_ Sf_ a1 a2 σ))) - (1 : Int32)))) ^^^ (-1 : Int32))))) (vX5_finds_4 Rf_ Sf_ a1 a2 σ) (a2 + (1 : Int32)))] (hh P (vX5_finds_5 Rf_ Sf_ a1 a2 σ)) 0 0
          refine z_if_eq (tgt := 101) dX5_finds_88 (by decide) (fun c_5 => ?_) (fun c_5 => ?_)
          · refine z_iinc (v := ((wX5_finds_10 Rf_ Sf_ a1 a2 ((0 : Int32), σ)).1 + (1 : Int32))) (lv' := [some (.ref 16), some (.int a1), some (.int a2), some (.int ((wX5_finds_10 Rf_ Sf_ a1 a2 ((0 : Int32), σ)).1 + (1 : Int32))), some (.int (vX5_finds_3 Rf_ Sf_ a1 a2 σ)), some (.int (rJ6_bitCount_0f7a4 (((vX5_finds_3 Rf_ Sf_ a1 a2 σ) &&& (-(vX5_finds_3 Rf_ Sf_ a1 a2 σ))) - (1 : Int32)))), some (.int (vX5_finds_4 Rf_ Sf_ a1 a2 σ))]) dX5_finds_101 (Nat.le_of_ble_eq_true rfl) rfl (by rw [k_iconst_1]) rfl ?_
            refine z_goto (tgt := 10) dX5_finds_104 (by decide) ?_
            exact (ex_l (ex_r (ex_r (ex_r hX10_ c_2) c_3) c_4) c_5).elim
          · refine z_aloadr_n dX5_finds_91 rfl ?_
            refine z_get (ci := 5) (r := (RX5, TX5, 4)) (j := 2) (v := .ref 18) dX5_finds_92 (Nat.le_of_ble_eq_true rfl) (zN rfl) rfl rfl (Nat.le_of_ble_eq_true rfl) fl_X5_19 rfl ?_
            refine z_iload dX5_finds_95 rfl ?_
            refine z_iload_n dX5_finds_97 rfl ?_
            refine z_iast (σ' := (zu (vX5_finds_5 Rf_ Sf_ a1 a2 σ) 18 (zu ((vX5_finds_5 Rf_ Sf_ a1 a2 σ) 18) (rJ6_bitCount_0f7a4 (((vX5_finds_3 Rf_ Sf_ a1 a2 σ) &&& (-(vX5_finds_3 Rf_ Sf_ a1 a2 σ))) - (1 : Int32))).toNatClampNeg a1))) dX5_finds_98 (Nat.le_of_ble_eq_true rfl) (zN rfl) rfl (((((W_.1 c_1).2.2 c_2).2.2 c_3).2.2 c_4).2.2 c_5) rfl ?_
            refine z_iconst dX5_finds_99 k_iconst_1 ?_
            exact z_ireturn dX5_finds_100 rfl rfl (Nat.le_of_ble_eq_true rfl) (Nat.le_of_ble_eq_true rfl) (by rw [← hQ_]; exact ⟨(by rw [rX5_finds]; try simp only [if_pos c_1, if_neg c_2, if_neg c_3, if_neg c_4, if_neg c_5]), (by rw [sX5_finds]; try simp only [if_pos c_1, if_neg c_2, if_neg c_3, if_neg c_4, if_neg c_5])⟩)
      · refine z_iconst dX5_finds_34 k_iconst_0 ?_
        exact z_ireturn dX5_finds_35 rfl rfl (Nat.le_of_ble_eq_true rfl) (Nat.le_of_ble_eq_true rfl) (by rw [← hQ_]; exact ⟨(by rw [rX5_finds]; try simp only [if_pos c_1, if_neg c_2, if_pos c_3]), (by rw [sX5_finds]; try simp only [if_pos c_1, if_neg c_2, if_pos c_3])⟩)
  · refine z_iconst dX5_finds_6 k_iconst_0 ?_
    exact z_ireturn dX5_finds_7 rfl rfl (Nat.le_of_ble_eq_true rfl) (Nat.le_of_ble_eq_true rfl) (by rw [← hQ_]; exact ⟨(by rw [rX5_finds]; try simp only [if_neg c_1]), (by rw [sX5_finds]; try simp only [if_neg c_1])⟩)

/-- the search, k deep -/
noncomputable def zFm : Nat → (zc_N → Int32 → Int32 → Int32) × (zc_N → Int32 → Int32 → zc_N) × (zc_N → Int32 → Int32 → Prop)
  | 0 => (fun _ _ _ => 0, fun σ _ _ => σ, fun _ _ _ => False)
  | k + 1 => (fun σ a b => rX9_finds σ (zFm k).1 (zFm k).2.1 a b, fun σ a b => sX9_finds σ (zFm k).1 (zFm k).2.1 a b, fun σ a b => pX9_finds σ (zFm k).1 (zFm k).2.1 (zFm k).2.2 a b)
theorem czFm (P : zp) : ∀ (k : Nat) (σ : zc_N) (a b : Int32), (zFm k).2.2 σ a b → sp mX9_finds k 0 0 [.ref 32, .int a, .int b] (hh P σ) (fun r_ h_ => r_ = some (.int ((zFm k).1 σ a b)) ∧ h_ = hh P ((zFm k).2.1 σ a b))
  | 0, _, _, _, h => h.elim
  | k + 1, σ, a, b, h => ctX9_finds P σ (zFm k).1 (zFm k).2.1 (zFm k).2.2 k (czFm P k) a b h

/-- the search, k deep -/
noncomputable def zFc : Nat → (zc_N → Int32 → Int32 → Int32) × (zc_N → Int32 → Int32 → zc_N) × (zc_N → Int32 → Int32 → Prop)
  | 0 => (fun _ _ _ => 0, fun σ _ _ => σ, fun _ _ _ => False)
  | k + 1 => (fun σ a b => rX5_finds σ (zFc k).1 (zFc k).2.1 a b, fun σ a b => sX5_finds σ (zFc k).1 (zFc k).2.1 a b, fun σ a b => pX5_finds σ (zFc k).1 (zFc k).2.1 (zFc k).2.2 a b)
theorem czFc (P : zp) : ∀ (k : Nat) (σ : zc_N) (a b : Int32), (zFc k).2.2 σ a b → sp mX5_finds k 0 0 [.ref 16, .int a, .int b] (hh P σ) (fun r_ h_ => r_ = some (.int ((zFc k).1 σ a b)) ∧ h_ = hh P ((zFc k).2.1 σ a b))
  | 0, _, _, _, h => h.elim
  | k + 1, σ, a, b, h => ctX5_finds P σ (zFc k).1 (zFc k).2.1 (zFc k).2.2 k (czFc P k) a b h
