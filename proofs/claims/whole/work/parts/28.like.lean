/-! ===== printed by wip/whole/p28.py ===== -/

theorem dX8_like_23 : decode cX8_like 23 = .ok (.iload 5, 2) := by decide +kernel
theorem dX8_like_25 : decode cX8_like 25 = .ok (.aload_n 0, 1) := by decide +kernel
theorem dX8_like_26 : decode cX8_like 26 = .ok (.getfield 26, 3) := by decide +kernel
theorem dX8_like_29 : decode cX8_like 29 = .ok (.if_icmp .ge 81, 3) := by decide +kernel
theorem dX8_like_32 : decode cX8_like 32 = .ok (.aload_n 0, 1) := by decide +kernel
theorem dX8_like_33 : decode cX8_like 33 = .ok (.getfield 22, 3) := by decide +kernel
theorem dX8_like_36 : decode cX8_like 36 = .ok (.iload 5, 2) := by decide +kernel
theorem dX8_like_38 : decode cX8_like 38 = .ok (.aaload, 1) := by decide +kernel
theorem dX8_like_39 : decode cX8_like 39 = .ok (.astore 6, 2) := by decide +kernel
theorem dX8_like_41 : decode cX8_like 41 = .ok (.aload 6, 2) := by decide +kernel
theorem dX8_like_43 : decode cX8_like 43 = .ok (.aload_n 2, 1) := by decide +kernel
theorem dX8_like_44 : decode cX8_like 44 = .ok (.if_acmp .eq 60, 3) := by decide +kernel
theorem dX8_like_47 : decode cX8_like 47 = .ok (.aload 6, 2) := by decide +kernel
theorem dX8_like_49 : decode cX8_like 49 = .ok (.getfield 175, 3) := by decide +kernel
theorem dX8_like_52 : decode cX8_like 52 = .ok (.iconst (-1), 1) := by decide +kernel
theorem dX8_like_53 : decode cX8_like 53 = .ok (.if_icmp .ne 6, 3) := by decide +kernel
theorem dX8_like_56 : decode cX8_like 56 = .ok (.goto 48, 3) := by decide +kernel
theorem dX8_like_59 : decode cX8_like 59 = .ok (.aload_n 0, 1) := by decide +kernel
theorem dX8_like_60 : decode cX8_like 60 = .ok (.getfield 33, 3) := by decide +kernel
theorem dX8_like_63 : decode cX8_like 63 = .ok (.aload 6, 2) := by decide +kernel
theorem dX8_like_65 : decode cX8_like 65 = .ok (.aload_n 2, 1) := by decide +kernel
theorem dX8_like_66 : decode cX8_like 66 = .ok (.invokevirtual 188, 3) := by decide +kernel
theorem dX8_like_69 : decode cX8_like 69 = .ok (.istore 7, 2) := by decide +kernel
theorem dX8_like_71 : decode cX8_like 71 = .ok (.iload 7, 2) := by decide +kernel
theorem dX8_like_73 : decode cX8_like 73 = .ok (.iload 4, 2) := by decide +kernel
theorem dX8_like_75 : decode cX8_like 75 = .ok (.if_icmp .gt 19, 3) := by decide +kernel
theorem dX8_like_78 : decode cX8_like 78 = .ok (.iload 7, 2) := by decide +kernel
theorem dX8_like_80 : decode cX8_like 80 = .ok (.iload 4, 2) := by decide +kernel
theorem dX8_like_82 : decode cX8_like 82 = .ok (.if_icmp .ne 22, 3) := by decide +kernel
theorem dX8_like_85 : decode cX8_like 85 = .ok (.aload 6, 2) := by decide +kernel
theorem dX8_like_87 : decode cX8_like 87 = .ok (.getfield 175, 3) := by decide +kernel
theorem dX8_like_90 : decode cX8_like 90 = .ok (.iload_n 3, 1) := by decide +kernel
theorem dX8_like_91 : decode cX8_like 91 = .ok (.if_icmp .ge 13, 3) := by decide +kernel
theorem dX8_like_94 : decode cX8_like 94 = .ok (.iload 7, 2) := by decide +kernel
theorem dX8_like_96 : decode cX8_like 96 = .ok (.istore 4, 2) := by decide +kernel
theorem dX8_like_98 : decode cX8_like 98 = .ok (.aload 6, 2) := by decide +kernel
theorem dX8_like_100 : decode cX8_like 100 = .ok (.getfield 175, 3) := by decide +kernel
theorem dX8_like_103 : decode cX8_like 103 = .ok (.istore_n 3, 1) := by decide +kernel
theorem dX8_like_104 : decode cX8_like 104 = .ok (.iinc 5 1, 3) := by decide +kernel
theorem dX8_like_107 : decode cX8_like 107 = .ok (.goto (-84), 3) := by decide +kernel
theorem dX8_like_110 : decode cX8_like 110 = .ok (.iload_n 3, 1) := by decide +kernel
noncomputable def fX8_like_23 (P : zp) (i9 : Nat) (i_ : Nat) (a_ : Int32 × Int32 × zc_N) : Int32 × Int32 × zc_N := ((if (some (pO (nI i_).toNatClampNeg)) = (some (pO i9)) then a_.1 else (if ((a_.2.2 (pO (nI i_).toNatClampNeg)) 3) = (-1 : Int32) then a_.1 else (if a_.2.1 < (rX4_scoreOf P a_.2.2 (nI i_).toNatClampNeg i9) then (((sX4_scoreOf P a_.2.2 (nI i_).toNatClampNeg i9) (pO (nI i_).toNatClampNeg)) 3) else (if (rX4_scoreOf P a_.2.2 (nI i_).toNatClampNeg i9) = a_.2.1 then (if a_.1 ≤ (((sX4_scoreOf P a_.2.2 (nI i_).toNatClampNeg i9) (pO (nI i_).toNatClampNeg)) 3) then a_.1 else (((sX4_scoreOf P a_.2.2 (nI i_).toNatClampNeg i9) (pO (nI i_).toNatClampNeg)) 3)) else a_.1)))), (if (some (pO (nI i_).toNatClampNeg)) = (some (pO i9)) then a_.2.1 else (if ((a_.2.2 (pO (nI i_).toNatClampNeg)) 3) = (-1 : Int32) then a_.2.1 else (if a_.2.1 < (rX4_scoreOf P a_.2.2 (nI i_).toNatClampNeg i9) then (rX4_scoreOf P a_.2.2 (nI i_).toNatClampNeg i9) else (if (rX4_scoreOf P a_.2.2 (nI i_).toNatClampNeg i9) = a_.2.1 then (if a_.1 ≤ (((sX4_scoreOf P a_.2.2 (nI i_).toNatClampNeg i9) (pO (nI i_).toNatClampNeg)) 3) then a_.2.1 else (rX4_scoreOf P a_.2.2 (nI i_).toNatClampNeg i9)) else a_.2.1)))), (if (some (pO (nI i_).toNatClampNeg)) = (some (pO i9)) then a_.2.2 else (if ((a_.2.2 (pO (nI i_).toNatClampNeg)) 3) = (-1 : Int32) then a_.2.2 else (sX4_scoreOf P a_.2.2 (nI i_).toNatClampNeg i9))))
def qX8_like_23 (P : zp) (i9 : Nat) (i_ : Nat) (a_ : Int32 × Int32 × zc_N) : Prop := ((vp_in (nI i_) 24 ∧ (nI i_).toNatClampNeg < P.2.1) ∧ (((some (pO (nI i_).toNatClampNeg)) = (some (pO i9)) → True) ∧ (¬ (some (pO (nI i_).toNatClampNeg)) = (some (pO i9)) → ((((a_.2.2 (pO (nI i_).toNatClampNeg)) 3) = (-1 : Int32) → True) ∧ (¬ ((a_.2.2 (pO (nI i_).toNatClampNeg)) 3) = (-1 : Int32) → (pX4_scoreOf P a_.2.2 (nI i_).toNatClampNeg i9))))))
set_option maxHeartbeats 2000000 in
theorem lpX8_like_23 {G : zc_G} {Q : Option Value → zc_H → Prop} (P : zp) (σ : zc_N) (i9 : Nat) (h9 : i9 < P.2.1) (l3 : Int32) (l4 : Int32) (n_ : Nat) (hC_ : ∀ i23_ : Nat, i23_ ≤ n_ → ((((zfor (fX8_like_23 P i9) i23_ (l3, l4, σ)).2.2 3) 3) ≤ (nI i23_) ↔ n_ ≤ i23_)) (W1_ : ∀ i23_ : Nat, i23_ < n_ → qX8_like_23 P i9 i23_ (zfor (fX8_like_23 P i9) i23_ (l3, l4, σ)))
    (W2_ : zz G mX8_like 19 0 0 Q 110 [none, none, none, some (.int (zfor (fX8_like_23 P i9) n_ (l3, l4, σ)).1), none, none, none, none] [] (hh P (zfor (fX8_like_23 P i9) n_ (l3, l4, σ)).2.2) 0 0) :
    zz G mX8_like 19 0 0 Q 23 [some (.ref 3), none, some (.ref (pO i9)), some (.int l3), some (.int l4), some (.int (nI 0)), none, none] [] (hh P σ) 0 0 := by
  refine zfor_nI (fun i_ a_ => zz G mX8_like 19 0 0 Q 23 [some (.ref 3), none, some (.ref (pO i9)), some (.int a_.1), some (.int a_.2.1), some (.int i_), none, none] [] (hh P a_.2.2) 0 0) (fX8_like_23 P i9) n_ (l3, l4, σ) (fun i_ hi_ k_ => ?_) ?_
  all_goals try dsimp only
  · have W3_ := W1_ i_ hi_
    have hD_ := hC_ i_ (Nat.le_of_lt hi_)
    generalize zfor (fX8_like_23 P i9) i_ (l3, l4, σ) = g_ at k_ W3_ hD_ ⊢
    obtain ⟨x0_, x1_, x2_⟩ := g_
    dsimp only at k_ W3_ hD_ ⊢
    rw [fX8_like_23] at k_
    rw [qX8_like_23] at W3_
    try dsimp only at W3_
    dsimp only at k_
    refine z_iload dX8_like_23 rfl ?_
    refine z_aloadr_n dX8_like_25 rfl ?_
    refine z_get (ci := 8) (r := (RX8, TX8, 12)) (j := 3) (v := .int ((x2_ 3) 3)) dX8_like_26 (Nat.le_of_ble_eq_true rfl) (zN rfl) rfl rfl (Nat.le_of_ble_eq_true rfl) fl_X8_26 rfl ?_
    refine z_icmp_ge (tgt := 110) dX8_like_29 (by decide) (fun c_ => absurd c_ (fun q_ => Nat.not_le_of_lt hi_ (hD_.mp q_))) (fun c_ => ?_)
    refine z_aloadr_n dX8_like_32 rfl ?_
    refine z_get (ci := 8) (r := (RX8, TX8, 12)) (j := 2) (v := .ref 9) dX8_like_33 (Nat.le_of_ble_eq_true rfl) (zN rfl) rfl rfl (Nat.le_of_ble_eq_true rfl) fl_X8_22 rfl ?_
    refine z_iload dX8_like_36 rfl ?_
    have hp_2 := W3_.1.2
    refine z_aald (r := some (pO ((nI i_).toNatClampNeg))) dX8_like_38 (Nat.le_of_ble_eq_true rfl) (zN rfl) rfl W3_.1.1 (if_pos W3_.1.2) ?_
    refine z_astorer (lv' := [some (.ref 3), none, some (.ref (pO i9)), some (.int x0_), some (.int x1_), some (.int (nI i_)), some (.ref (pO ((nI i_).toNatClampNeg))), none]) dX8_like_39 (Nat.le_of_ble_eq_true rfl) rfl ?_
    refine z_aloadr dX8_like_41 rfl ?_
    refine z_aloadr_n dX8_like_43 rfl ?_
    refine z_acmp_eq (r := some (pO ((nI i_).toNatClampNeg))) (q := some (pO i9)) (tgt := 104) dX8_like_44 (by decide) (fun a_ q_ => by cases q_; exact (z3O ((nI i_).toNatClampNeg))) (fun a_ q_ => by cases q_; exact (z3O i9)) (fun c_3 => ?_) (fun c_3 => ?_)
    · refine z_iinc (v := ((nI i_) + (1 : Int32))) (lv' := [some (.ref 3), none, some (.ref (pO i9)), some (.int x0_), some (.int x1_), some (.int ((nI i_) + (1 : Int32))), some (.ref (pO ((nI i_).toNatClampNeg))), none]) dX8_like_104 (Nat.le_of_ble_eq_true rfl) rfl (by rw [k_iconst_1]) rfl ?_
      refine z_goto (tgt := 23) dX8_like_107 (by decide) ?_
      refine zz_sub (lv' := [some (.ref 3), none, some (.ref (pO i9)), some (.int x0_), some (.int x1_), some (.int ((nI i_) + (1 : Int32))), none, none]) ⟨rfl, ⟨rfl, ⟨rfl, ⟨rfl, ⟨rfl, trivial⟩⟩⟩⟩⟩ ?_
      rw [nI_1]
      simpa only [if_pos c_3] using k_
    · refine z_aloadr dX8_like_47 rfl ?_
      refine z_get (ci := 7) (r := (RX7, TX7, 5)) (j := 3) (v := .int ((x2_ (pO ((nI i_).toNatClampNeg))) 3)) dX8_like_49 (z3O ((nI i_).toNatClampNeg)) (zNO hp_2) (SH_pO P ((nI i_).toNatClampNeg)) rfl (Nat.le_of_ble_eq_true rfl) fl_X8_175 rfl ?_
      refine z_iconst dX8_like_52 k_iconst_m1 ?_
      refine z_icmp_ne (tgt := 59) dX8_like_53 (by decide) (fun c_4 => ?_) (fun c_4 => ?_)
      · refine z_aloadr_n dX8_like_59 rfl ?_
        refine z_get (ci := 8) (r := (RX8, TX8, 12)) (j := 4) (v := .ref 10) dX8_like_60 (Nat.le_of_ble_eq_true rfl) (zN rfl) rfl rfl (Nat.le_of_ble_eq_true rfl) fl_X8_33 rfl ?_
        refine z_aloadr dX8_like_63 rfl ?_
        refine z_aloadr_n dX8_like_65 rfl ?_
        refine z_callV (ci := 4) (r := (RX4, TX4, 10)) (b := 10) (As := [.ref (pO ((nI i_).toNatClampNeg)), .ref (pO i9)]) (rest := []) (ctX4_scoreOf P x2_ ((nI i_).toNatClampNeg) hp_2 i9 h9 ((W3_.2.2 c_3).2 c_4)) dX8_like_66 lk_X8_188 lv_X4_scoreOf (Nat.le_of_ble_eq_true rfl) (zN rfl) rfl rfl rfl rfl (Nat.le_of_ble_eq_true rfl) (Nat.le_of_ble_eq_true rfl) (Nat.le_of_ble_eq_true rfl) (Nat.le_of_ble_eq_true rfl) (fun r_ h_ e_ => ?_)
        obtain ⟨e1_, e2_⟩ := e_
        subst e1_
        subst e2_
        show zz G mX8_like 19 0 0 Q 69 [some (.ref 3), none, some (.ref (pO i9)), some (.int x0_), some (.int x1_), some (.int (nI i_)), some (.ref (pO ((nI i_).toNatClampNeg))), none] [.int (rX4_scoreOf P x2_ ((nI i_).toNatClampNeg) i9)] (hh P (sX4_scoreOf P x2_ ((nI i_).toNatClampNeg) i9)) 0 0
        refine z_istore (lv' := [some (.ref 3), none, some (.ref (pO i9)), some (.int x0_), some (.int x1_), some (.int (nI i_)), some (.ref (pO ((nI i_).toNatClampNeg))), some (.int (rX4_scoreOf P x2_ ((nI i_).toNatClampNeg) i9))]) dX8_like_69 (Nat.le_of_ble_eq_true rfl) rfl ?_
        refine z_iload dX8_like_71 rfl ?_
        refine z_iload dX8_like_73 rfl ?_
        have K_1 : zz G mX8_like 19 0 0 Q 104 [some (.ref 3), none, some (.ref (pO i9)), some (.int (if x1_ < (rX4_scoreOf P x2_ ((nI i_).toNatClampNeg) i9) then (((sX4_scoreOf P x2_ ((nI i_).toNatClampNeg) i9) (pO ((nI i_).toNatClampNeg))) 3) else (if (rX4_scoreOf P x2_ ((nI i_).toNatClampNeg) i9) = x1_ then (if x0_ ≤ (((sX4_scoreOf P x2_ ((nI i_).toNatClampNeg) i9) (pO ((nI i_).toNatClampNeg))) 3) then x0_ else (((sX4_scoreOf P x2_ ((nI i_).toNatClampNeg) i9) (pO ((nI i_).toNatClampNeg))) 3)) else x0_))), some (.int (if x1_ < (rX4_scoreOf P x2_ ((nI i_).toNatClampNeg) i9) then (rX4_scoreOf P x2_ ((nI i_).toNatClampNeg) i9) else (if (rX4_scoreOf P x2_ ((nI i_).toNatClampNeg) i9) = x1_ then (if x0_ ≤ (((sX4_scoreOf P x2_ ((nI i_).toNatClampNeg) i9) (pO ((nI i_).toNatClampNeg))) 3) then x1_ else (rX4_scoreOf P x2_ ((nI i_).toNatClampNeg) i9)) else x1_))), some (.int (nI i_)), none, none] [] (hh P (sX4_scoreOf P x2_ ((nI i_).toNatClampNeg) i9)) 0 0 := by
          refine z_iinc (v := ((nI i_) + (1 : Int32))) (lv' := [some (.ref 3), none, some (.ref (pO i9)), some (.int (if x1_ < (rX4_scoreOf P x2_ ((nI i_).toNatClampNeg) i9) then (((sX4_scoreOf P x2_ ((nI i_).toNatClampNeg) i9) (pO ((nI i_).toNatClampNeg))) 3) else (if (rX4_scoreOf P x2_ ((nI i_).toNatClampNeg) i9) = x1_ then (if x0_ ≤ (((sX4_scoreOf P x2_ ((nI i_).toNatClampNeg) i9) (pO ((nI i_).toNatClampNeg))) 3) then x0_ else (((sX4_scoreOf P x2_ ((nI i_).toNatClampNeg) i9) (pO ((nI i_).toNatClampNeg))) 3)) else x0_))), some (.int (if x1_ < (rX4_scoreOf P x2_ ((nI i_).toNatClampNeg) i9) then (rX4_scoreOf P x2_ ((nI i_).toNatClampNeg) i9) else (if (rX4_scoreOf P x2_ ((nI i_).toNatClampNeg) i9) = x1_ then (if x0_ ≤ (((sX4_scoreOf P x2_ ((nI i_).toNatClampNeg) i9) (pO ((nI i_).toNatClampNeg))) 3) then x1_ else (rX4_scoreOf P x2_ ((nI i_).toNatClampNeg) i9)) else x1_))), some (.int ((nI i_) + (1 : Int32))), none, none]) dX8_like_104 (Nat.le_of_ble_eq_true rfl) rfl (by rw [k_iconst_1]) rfl ?_
          refine z_goto (tgt := 23) dX8_like_107 (by decide) ?_
          rw [nI_1]
          simpa only [if_neg c_3, if_neg c_4] using k_
        refine z_icmp_gt (tgt := 94) dX8_like_75 (by decide) (fun c_5 => ?_) (fun c_5 => ?_)
        · refine z_iload dX8_like_94 rfl ?_
          refine z_istore (lv' := [some (.ref 3), none, some (.ref (pO i9)), some (.int x0_), some (.int (rX4_scoreOf P x2_ ((nI i_).toNatClampNeg) i9)), some (.int (nI i_)), some (.ref (pO ((nI i_).toNatClampNeg))), some (.int (rX4_scoreOf P x2_ ((nI i_).toNatClampNeg) i9))]) dX8_like_96 (Nat.le_of_ble_eq_true rfl) rfl ?_
          refine z_aloadr dX8_like_98 rfl ?_
          refine z_get (ci := 7) (r := (RX7, TX7, 5)) (j := 3) (v := .int (((sX4_scoreOf P x2_ ((nI i_).toNatClampNeg) i9) (pO ((nI i_).toNatClampNeg))) 3)) dX8_like_100 (z3O ((nI i_).toNatClampNeg)) (zNO hp_2) (SH_pO P ((nI i_).toNatClampNeg)) rfl (Nat.le_of_ble_eq_true rfl) fl_X8_175 rfl ?_
          refine z_istore_n (lv' := [some (.ref 3), none, some (.ref (pO i9)), some (.int (((sX4_scoreOf P x2_ ((nI i_).toNatClampNeg) i9) (pO ((nI i_).toNatClampNeg))) 3)), some (.int (rX4_scoreOf P x2_ ((nI i_).toNatClampNeg) i9)), some (.int (nI i_)), some (.ref (pO ((nI i_).toNatClampNeg))), some (.int (rX4_scoreOf P x2_ ((nI i_).toNatClampNeg) i9))]) dX8_like_103 (Nat.le_of_ble_eq_true rfl) rfl ?_
          refine zz_sub (lv' := [some (.ref 3), none, some (.ref (pO i9)), some (.int (((sX4_scoreOf P x2_ ((nI i_).toNatClampNeg) i9) (pO ((nI i_).toNatClampNeg))) 3)), some (.int (rX4_scoreOf P x2_ ((nI i_).toNatClampNeg) i9)), some (.int (nI i_)), none, none]) ⟨rfl, ⟨rfl, ⟨rfl, ⟨rfl, ⟨rfl, trivial⟩⟩⟩⟩⟩ ?_
          rw [show (if x1_ < (rX4_scoreOf P x2_ ((nI i_).toNatClampNeg) i9) then (((sX4_scoreOf P x2_ ((nI i_).toNatClampNeg) i9) (pO ((nI i_).toNatClampNeg))) 3) else (if (rX4_scoreOf P x2_ ((nI i_).toNatClampNeg) i9) = x1_ then (if x0_ ≤ (((sX4_scoreOf P x2_ ((nI i_).toNatClampNeg) i9) (pO ((nI i_).toNatClampNeg))) 3) then x0_ else (((sX4_scoreOf P x2_ ((nI i_).toNatClampNeg) i9) (pO ((nI i_).toNatClampNeg))) 3)) else x0_)) = (((sX4_scoreOf P x2_ ((nI i_).toNatClampNeg) i9) (pO ((nI i_).toNatClampNeg))) 3) from (if_pos c_5)] at K_1
          rw [show (if x1_ < (rX4_scoreOf P x2_ ((nI i_).toNatClampNeg) i9) then (rX4_scoreOf P x2_ ((nI i_).toNatClampNeg) i9) else (if (rX4_scoreOf P x2_ ((nI i_).toNatClampNeg) i9) = x1_ then (if x0_ ≤ (((sX4_scoreOf P x2_ ((nI i_).toNatClampNeg) i9) (pO ((nI i_).toNatClampNeg))) 3) then x1_ else (rX4_scoreOf P x2_ ((nI i_).toNatClampNeg) i9)) else x1_)) = (rX4_scoreOf P x2_ ((nI i_).toNatClampNeg) i9) from (if_pos c_5)] at K_1
          exact K_1
        · refine z_iload dX8_like_78 rfl ?_
          refine z_iload dX8_like_80 rfl ?_
          refine z_icmp_ne (tgt := 104) dX8_like_82 (by decide) (fun c_6 => ?_) (fun c_6 => ?_)
          · refine zz_sub (lv' := [some (.ref 3), none, some (.ref (pO i9)), some (.int x0_), some (.int x1_), some (.int (nI i_)), none, none]) ⟨rfl, ⟨rfl, ⟨rfl, ⟨rfl, ⟨rfl, trivial⟩⟩⟩⟩⟩ ?_
            rw [show (if x1_ < (rX4_scoreOf P x2_ ((nI i_).toNatClampNeg) i9) then (((sX4_scoreOf P x2_ ((nI i_).toNatClampNeg) i9) (pO ((nI i_).toNatClampNeg))) 3) else (if (rX4_scoreOf P x2_ ((nI i_).toNatClampNeg) i9) = x1_ then (if x0_ ≤ (((sX4_scoreOf P x2_ ((nI i_).toNatClampNeg) i9) (pO ((nI i_).toNatClampNeg))) 3) then x0_ else (((sX4_scoreOf P x2_ ((nI i_).toNatClampNeg) i9) (pO ((nI i_).toNatClampNeg))) 3)) else x0_)) = x0_ from ((if_neg c_5).trans (if_neg c_6))] at K_1
            rw [show (if x1_ < (rX4_scoreOf P x2_ ((nI i_).toNatClampNeg) i9) then (rX4_scoreOf P x2_ ((nI i_).toNatClampNeg) i9) else (if (rX4_scoreOf P x2_ ((nI i_).toNatClampNeg) i9) = x1_ then (if x0_ ≤ (((sX4_scoreOf P x2_ ((nI i_).toNatClampNeg) i9) (pO ((nI i_).toNatClampNeg))) 3) then x1_ else (rX4_scoreOf P x2_ ((nI i_).toNatClampNeg) i9)) else x1_)) = x1_ from ((if_neg c_5).trans (if_neg c_6))] at K_1
            exact K_1
          · refine z_aloadr dX8_like_85 rfl ?_
            refine z_get (ci := 7) (r := (RX7, TX7, 5)) (j := 3) (v := .int (((sX4_scoreOf P x2_ ((nI i_).toNatClampNeg) i9) (pO ((nI i_).toNatClampNeg))) 3)) dX8_like_87 (z3O ((nI i_).toNatClampNeg)) (zNO hp_2) (SH_pO P ((nI i_).toNatClampNeg)) rfl (Nat.le_of_ble_eq_true rfl) fl_X8_175 rfl ?_
            refine z_iload_n dX8_like_90 rfl ?_
            refine z_icmp_ge (tgt := 104) dX8_like_91 (by decide) (fun c_7 => ?_) (fun c_7 => ?_)
            · refine zz_sub (lv' := [some (.ref 3), none, some (.ref (pO i9)), some (.int x0_), some (.int x1_), some (.int (nI i_)), none, none]) ⟨rfl, ⟨rfl, ⟨rfl, ⟨rfl, ⟨rfl, trivial⟩⟩⟩⟩⟩ ?_
              rw [show (if x1_ < (rX4_scoreOf P x2_ ((nI i_).toNatClampNeg) i9) then (((sX4_scoreOf P x2_ ((nI i_).toNatClampNeg) i9) (pO ((nI i_).toNatClampNeg))) 3) else (if (rX4_scoreOf P x2_ ((nI i_).toNatClampNeg) i9) = x1_ then (if x0_ ≤ (((sX4_scoreOf P x2_ ((nI i_).toNatClampNeg) i9) (pO ((nI i_).toNatClampNeg))) 3) then x0_ else (((sX4_scoreOf P x2_ ((nI i_).toNatClampNeg) i9) (pO ((nI i_).toNatClampNeg))) 3)) else x0_)) = x0_ from ((if_neg c_5).trans ((if_pos c_6).trans (if_pos c_7)))] at K_1
              rw [show (if x1_ < (rX4_scoreOf P x2_ ((nI i_).toNatClampNeg) i9) then (rX4_scoreOf P x2_ ((nI i_).toNatClampNeg) i9) else (if (rX4_scoreOf P x2_ ((nI i_).toNatClampNeg) i9) = x1_ then (if x0_ ≤ (((sX4_scoreOf P x2_ ((nI i_).toNatClampNeg) i9) (pO ((nI i_).toNatClampNeg))) 3) then x1_ else (rX4_scoreOf P x2_ ((nI i_).toNatClampNeg) i9)) else x1_)) = x1_ from ((if_neg c_5).trans ((if_pos c_6).trans (if_pos c_7)))] at K_1
              exact K_1
            · refine z_iload dX8_like_94 rfl ?_
              refine z_istore (lv' := [some (.ref 3), none, some (.ref (pO i9)), some (.int x0_), some (.int (rX4_scoreOf P x2_ ((nI i_).toNatClampNeg) i9)), some (.int (nI i_)), some (.ref (pO ((nI i_).toNatClampNeg))), some (.int (rX4_scoreOf P x2_ ((nI i_).toNatClampNeg) i9))]) dX8_like_96 (Nat.le_of_ble_eq_true rfl) rfl ?_
              refine z_aloadr dX8_like_98 rfl ?_
              refine z_get (ci := 7) (r := (RX7, TX7, 5)) (j := 3) (v := .int (((sX4_scoreOf P x2_ ((nI i_).toNatClampNeg) i9) (pO ((nI i_).toNatClampNeg))) 3)) dX8_like_100 (z3O ((nI i_).toNatClampNeg)) (zNO hp_2) (SH_pO P ((nI i_).toNatClampNeg)) rfl (Nat.le_of_ble_eq_true rfl) fl_X8_175 rfl ?_
              refine z_istore_n (lv' := [some (.ref 3), none, some (.ref (pO i9)), some (.int (((sX4_scoreOf P x2_ ((nI i_).toNatClampNeg) i9) (pO ((nI i_).toNatClampNeg))) 3)), some (.int (rX4_scoreOf P x2_ ((nI i_).toNatClampNeg) i9)), some (.int (nI i_)), some (.ref (pO ((nI i_).toNatClampNeg))), some (.int (rX4_scoreOf P x2_ ((nI i_).toNatClampNeg) i9))]) dX8_like_103 (Nat.le_of_ble_eq_true rfl) rfl ?_
              refine zz_sub (lv' := [some (.ref 3), none, some (.ref (pO i9)), some (.int (((sX4_scoreOf P x2_ ((nI i_).toNatClampNeg) i9) (pO ((nI i_).toNatClampNeg))) 3)), some (.int (rX4_scoreOf P x2_ ((nI i_).toNatClampNeg) i9)), some (.int (nI i_)), none, none]) ⟨rfl, ⟨rfl, ⟨rfl, ⟨rfl, ⟨rfl, trivial⟩⟩⟩⟩⟩ ?_
              rw [show (if x1_ < (rX4_scoreOf P x2_ ((nI i_).toNatClampNeg) i9) then (((sX4_scoreOf P x2_ ((nI i_).toNatClampNeg) i9) (pO ((nI i_).toNatClampNeg))) 3) else (if (rX4_scoreOf P x2_ ((nI i_).toNatClampNeg) i9) = x1_ then (if x0_ ≤ (((sX4_scoreOf P x2_ ((nI i_).toNatClampNeg) i9) (pO ((nI i_).toNatClampNeg))) 3) then x0_ else (((sX4_scoreOf P x2_ ((nI i_).toNatClampNeg) i9) (pO ((nI i_).toNatClampNeg))) 3)) else x0_)) = (((sX4_scoreOf P x2_ ((nI i_).toNatClampNeg) i9) (pO ((nI i_).toNatClampNeg))) 3) from ((if_neg c_5).trans ((if_pos c_6).trans (if_neg c_7)))] at K_1
              rw [show (if x1_ < (rX4_scoreOf P x2_ ((nI i_).toNatClampNeg) i9) then (rX4_scoreOf P x2_ ((nI i_).toNatClampNeg) i9) else (if (rX4_scoreOf P x2_ ((nI i_).toNatClampNeg) i9) = x1_ then (if x0_ ≤ (((sX4_scoreOf P x2_ ((nI i_).toNatClampNeg) i9) (pO ((nI i_).toNatClampNeg))) 3) then x1_ else (rX4_scoreOf P x2_ ((nI i_).toNatClampNeg) i9)) else x1_)) = (rX4_scoreOf P x2_ ((nI i_).toNatClampNeg) i9) from ((if_neg c_5).trans ((if_pos c_6).trans (if_neg c_7)))] at K_1
              exact K_1
      · refine z_goto (tgt := 104) dX8_like_56 (by decide) ?_
        refine z_iinc (v := ((nI i_) + (1 : Int32))) (lv' := [some (.ref 3), none, some (.ref (pO i9)), some (.int x0_), some (.int x1_), some (.int ((nI i_) + (1 : Int32))), some (.ref (pO ((nI i_).toNatClampNeg))), none]) dX8_like_104 (Nat.le_of_ble_eq_true rfl) rfl (by rw [k_iconst_1]) rfl ?_
        refine z_goto (tgt := 23) dX8_like_107 (by decide) ?_
        refine zz_sub (lv' := [some (.ref 3), none, some (.ref (pO i9)), some (.int x0_), some (.int x1_), some (.int ((nI i_) + (1 : Int32))), none, none]) ⟨rfl, ⟨rfl, ⟨rfl, ⟨rfl, ⟨rfl, trivial⟩⟩⟩⟩⟩ ?_
        rw [nI_1]
        simpa only [if_neg c_3, if_pos c_4] using k_
  · have hD_ := hC_ n_ (Nat.le_refl _)
    generalize zfor (fX8_like_23 P i9) n_ (l3, l4, σ) = g_ at W2_ hD_ ⊢
    obtain ⟨x0_, x1_, x2_⟩ := g_
    dsimp only at W2_ hD_ ⊢
    refine z_iload dX8_like_23 rfl ?_
    refine z_aloadr_n dX8_like_25 rfl ?_
    refine z_get (ci := 8) (r := (RX8, TX8, 12)) (j := 3) (v := .int ((x2_ 3) 3)) dX8_like_26 (Nat.le_of_ble_eq_true rfl) (zN rfl) rfl rfl (Nat.le_of_ble_eq_true rfl) fl_X8_26 rfl ?_
    refine z_icmp_ge (tgt := 110) dX8_like_29 (by decide) (fun c_ => ?_) (fun c_ => absurd (hD_.mpr (Nat.le_refl _)) c_)
    exact zz_sub (lv' := [none, none, none, some (.int x0_), none, none, none, none]) ⟨rfl, trivial⟩ W2_

theorem dX8_like_0 : decode cX8_like 0 = .ok (.aload_n 0, 1) := by decide +kernel
theorem dX8_like_1 : decode cX8_like 1 = .ok (.iload_n 1, 1) := by decide +kernel
theorem dX8_like_2 : decode cX8_like 2 = .ok (.invokevirtual 117, 3) := by decide +kernel
theorem dX8_like_5 : decode cX8_like 5 = .ok (.astore_n 2, 1) := by decide +kernel
theorem dX8_like_6 : decode cX8_like 6 = .ok (.aload_n 2, 1) := by decide +kernel
theorem dX8_like_7 : decode cX8_like 7 = .ok (.ifnonnull 5, 3) := by decide +kernel
theorem dX8_like_10 : decode cX8_like 10 = .ok (.iconst (-1), 1) := by decide +kernel
theorem dX8_like_11 : decode cX8_like 11 = .ok (.ireturn, 1) := by decide +kernel
theorem dX8_like_12 : decode cX8_like 12 = .ok (.bipush (-4), 2) := by decide +kernel
theorem dX8_like_14 : decode cX8_like 14 = .ok (.istore_n 3, 1) := by decide +kernel
theorem dX8_like_15 : decode cX8_like 15 = .ok (.sipush (-1000), 3) := by decide +kernel
theorem dX8_like_18 : decode cX8_like 18 = .ok (.istore 4, 2) := by decide +kernel
theorem dX8_like_20 : decode cX8_like 20 = .ok (.iconst 0, 1) := by decide +kernel
theorem dX8_like_21 : decode cX8_like 21 = .ok (.istore 5, 2) := by decide +kernel
theorem dX8_like_111 : decode cX8_like 111 = .ok (.ireturn, 1) := by decide +kernel
noncomputable def vX8_like_1 (P : zp) (a1 : Int32) (σ : zc_N) : zc_N := (zfor (fX8_like_23 P a1.toNatClampNeg) ((((σ 3) 3)).toNatClampNeg) ((-4 : Int32), (-1000 : Int32), σ)).2.2
def pX8_like (P : zp) (σ : zc_N) (a1 : Int32) : Prop := ((pX8_printAt P σ a1) ∧ (((rX8_isWithin a1 (0 : Int32) (((σ 3) 3) - (1 : Int32))) = (0 : Int32) → True) ∧ (¬ (rX8_isWithin a1 (0 : Int32) (((σ 3) 3) - (1 : Int32))) = (0 : Int32) → (a1.toNatClampNeg < P.2.1 ∧ ((∀ i23_ : Nat, i23_ ≤ ((((σ 3) 3)).toNatClampNeg) → ((((zfor (fX8_like_23 P a1.toNatClampNeg) i23_ ((-4 : Int32), (-1000 : Int32), σ)).2.2 3) 3) ≤ (nI i23_) ↔ ((((σ 3) 3)).toNatClampNeg) ≤ i23_)) ∧ (∀ i23_ : Nat, i23_ < ((((σ 3) 3)).toNatClampNeg) → qX8_like_23 P a1.toNatClampNeg i23_ (zfor (fX8_like_23 P a1.toNatClampNeg) i23_ ((-4 : Int32), (-1000 : Int32), σ))))))))
noncomputable def rX8_like (P : zp) (σ : zc_N) (a1 : Int32) : Int32 := (if (rX8_isWithin a1 (0 : Int32) (((σ 3) 3) - (1 : Int32))) = (0 : Int32) then (-1 : Int32) else (zfor (fX8_like_23 P a1.toNatClampNeg) ((((σ 3) 3)).toNatClampNeg) ((-4 : Int32), (-1000 : Int32), σ)).1)
noncomputable def sX8_like (P : zp) (σ : zc_N) (a1 : Int32) : zc_N := (if (rX8_isWithin a1 (0 : Int32) (((σ 3) 3) - (1 : Int32))) = (0 : Int32) then σ else (vX8_like_1 P a1 σ))
set_option maxHeartbeats 1000000 in
theorem ctX8_like (P : zp) (σ : zc_N) (a1 : Int32) (W_ : (pX8_like P σ a1)) : sp mX8_like 19 0 0 [.ref 3, .int a1] (hh P σ) (fun r_ h_ => r_ = some (.int (rX8_like P σ a1)) ∧ h_ = hh P (sX8_like P σ a1)) := by
  refine sp_of (lv := [some (.ref 3), some (.int a1), none, none, none, none, none, none]) (by decide) (zcats_ok _ rfl) (Nat.le_of_ble_eq_true rfl) (zlv_ok _ 6 rfl) (fun G => ?_)
  generalize hQ_ : (fun (r_ : Option Value) (h_ : zc_H) => r_ = some (.int (rX8_like P σ a1)) ∧ h_ = hh P (sX8_like P σ a1)) = Q_
  unfold pX8_like at W_
  refine z_aloadr_n dX8_like_0 rfl ?_
  refine z_iload_n dX8_like_1 rfl ?_
  refine z_callV (ci := 8) (r := (RX8, TX8, 12)) (b := 3) (As := [.int a1]) (rest := []) (ctX8_printAt P σ a1 W_.1) dX8_like_2 lk_X8_117 lv_X8_printAt (Nat.le_of_ble_eq_true rfl) (zN rfl) rfl rfl rfl rfl (Nat.le_of_ble_eq_true rfl) (Nat.le_of_ble_eq_true rfl) (Nat.le_of_ble_eq_true rfl) (Nat.le_of_ble_eq_true rfl) (fun r_ h_ e_ => ?_)
  obtain ⟨e1_, e2_⟩ := e_
  subst e1_
  subst e2_
  show zz G mX8_like 19 0 0 Q_ 5 [some (.ref 3), some (.int a1), none, none, none, none, none, none] [va_rf (if (rX8_isWithin a1 (0 : Int32) (((σ 3) 3) - (1 : Int32))) = (0 : Int32) then none else some (pO a1.toNatClampNeg))] (hh P σ) 0 0
  refine z_astore_n (r := (if (rX8_isWithin a1 (0 : Int32) (((σ 3) 3) - (1 : Int32))) = (0 : Int32) then none else some (pO a1.toNatClampNeg))) (lv' := [some (.ref 3), some (.int a1), some (va_rf (if (rX8_isWithin a1 (0 : Int32) (((σ 3) 3) - (1 : Int32))) = (0 : Int32) then none else some (pO a1.toNatClampNeg))), none, none, none, none, none]) dX8_like_5 (Nat.le_of_ble_eq_true rfl) rfl ?_
  refine z_aload_n (r := (if (rX8_isWithin a1 (0 : Int32) (((σ 3) 3) - (1 : Int32))) = (0 : Int32) then none else some (pO a1.toNatClampNeg))) dX8_like_6 rfl ?_
  refine z_ifnonnullc (c := (rX8_isWithin a1 (0 : Int32) (((σ 3) 3) - (1 : Int32))) = (0 : Int32)) inferInstance (tgt := 12) dX8_like_7 (by decide) (fun c_1 => ?_) (fun c_1 => ?_)
  · have hp_2 := ((W_.2.2 c_1).1)
    try rw [if_neg c_1]
    show zz G mX8_like 19 0 0 Q_ 12 [some (.ref 3), some (.int a1), some (.ref (pO a1.toNatClampNeg)), none, none, none, none, none] [] (hh P σ) 0 0
    refine z_bipush dX8_like_12 k_bipush_m4 ?_
    refine z_istore_n (lv' := [some (.ref 3), some (.int a1), some (.ref (pO a1.toNatClampNeg)), some (.int (-4 : Int32)), none, none, none, none]) dX8_like_14 (Nat.le_of_ble_eq_true rfl) rfl ?_
    refine z_sipush dX8_like_15 k_sipush_m1000 ?_
    refine z_istore (lv' := [some (.ref 3), some (.int a1), some (.ref (pO a1.toNatClampNeg)), some (.int (-4 : Int32)), some (.int (-1000 : Int32)), none, none, none]) dX8_like_18 (Nat.le_of_ble_eq_true rfl) rfl ?_
    refine z_iconst dX8_like_20 k_iconst_0 ?_
    refine z_istore (lv' := [some (.ref 3), some (.int a1), some (.ref (pO a1.toNatClampNeg)), some (.int (-4 : Int32)), some (.int (-1000 : Int32)), some (.int (0 : Int32)), none, none]) dX8_like_21 (Nat.le_of_ble_eq_true rfl) rfl ?_
    refine zz_sub (lv' := [some (.ref 3), none, some (.ref (pO a1.toNatClampNeg)), some (.int (-4 : Int32)), some (.int (-1000 : Int32)), some (.int (0 : Int32)), none, none]) ⟨rfl, ⟨rfl, ⟨rfl, ⟨rfl, ⟨rfl, trivial⟩⟩⟩⟩⟩ ?_
    refine lpX8_like_23 P σ a1.toNatClampNeg hp_2 (-4 : Int32) (-1000 : Int32) ((((σ 3) 3)).toNatClampNeg) ((W_.2.2 c_1).2).1 ((W_.2.2 c_1).2).2 ?_
    show zz G mX8_like 19 0 0 Q_ 110 [none, none, none, some (.int (zfor (fX8_like_23 P a1.toNatClampNeg) ((((σ 3) 3)).toNatClampNeg) ((-4 : Int32), (-1000 : Int32), σ)).1), none, none, none, none] [] (hh P (vX8_like_1 P a1 σ)) 0 0
    refine z_iload_n dX8_like_110 rfl ?_
    exact z_ireturn dX8_like_111 rfl rfl (Nat.le_of_ble_eq_true rfl) (Nat.le_of_ble_eq_true rfl) (by rw [← hQ_]; exact ⟨(by rw [rX8_like]; try simp only [if_neg c_1]), (by rw [sX8_like]; try simp only [if_neg c_1])⟩)
  · refine z_iconst dX8_like_10 k_iconst_m1 ?_
    exact z_ireturn dX8_like_11 rfl rfl (Nat.le_of_ble_eq_true rfl) (Nat.le_of_ble_eq_true rfl) (by rw [← hQ_]; exact ⟨(by rw [rX8_like]; try simp only [if_pos c_1]), (by rw [sX8_like]; try simp only [if_pos c_1])⟩)

theorem dX8_newestOf_0 : decode cX8_newestOf 0 = .ok (.aconst_null, 1) := by decide +kernel
theorem dX8_newestOf_1 : decode cX8_newestOf 1 = .ok (.astore_n 2, 1) := by decide +kernel
theorem dX8_newestOf_2 : decode cX8_newestOf 2 = .ok (.iconst 0, 1) := by decide +kernel
theorem dX8_newestOf_3 : decode cX8_newestOf 3 = .ok (.istore_n 3, 1) := by decide +kernel
theorem dX8_newestOf_4 : decode cX8_newestOf 4 = .ok (.iload_n 3, 1) := by decide +kernel
theorem dX8_newestOf_5 : decode cX8_newestOf 5 = .ok (.aload_n 0, 1) := by decide +kernel
theorem dX8_newestOf_6 : decode cX8_newestOf 6 = .ok (.getfield 26, 3) := by decide +kernel
theorem dX8_newestOf_9 : decode cX8_newestOf 9 = .ok (.if_icmp .ge 49, 3) := by decide +kernel
theorem dX8_newestOf_12 : decode cX8_newestOf 12 = .ok (.aload_n 0, 1) := by decide +kernel
theorem dX8_newestOf_13 : decode cX8_newestOf 13 = .ok (.getfield 22, 3) := by decide +kernel
theorem dX8_newestOf_16 : decode cX8_newestOf 16 = .ok (.iload_n 3, 1) := by decide +kernel
theorem dX8_newestOf_17 : decode cX8_newestOf 17 = .ok (.aaload, 1) := by decide +kernel
theorem dX8_newestOf_18 : decode cX8_newestOf 18 = .ok (.getfield 175, 3) := by decide +kernel
theorem dX8_newestOf_21 : decode cX8_newestOf 21 = .ok (.iload_n 1, 1) := by decide +kernel
theorem dX8_newestOf_22 : decode cX8_newestOf 22 = .ok (.if_icmp .ne 30, 3) := by decide +kernel
theorem dX8_newestOf_25 : decode cX8_newestOf 25 = .ok (.aload_n 2, 1) := by decide +kernel
theorem dX8_newestOf_26 : decode cX8_newestOf 26 = .ok (.ifnull 19, 3) := by decide +kernel
theorem dX8_newestOf_45 : decode cX8_newestOf 45 = .ok (.aload_n 0, 1) := by decide +kernel
theorem dX8_newestOf_46 : decode cX8_newestOf 46 = .ok (.getfield 22, 3) := by decide +kernel
theorem dX8_newestOf_49 : decode cX8_newestOf 49 = .ok (.iload_n 3, 1) := by decide +kernel
theorem dX8_newestOf_50 : decode cX8_newestOf 50 = .ok (.aaload, 1) := by decide +kernel
theorem dX8_newestOf_51 : decode cX8_newestOf 51 = .ok (.astore_n 2, 1) := by decide +kernel
theorem dX8_newestOf_52 : decode cX8_newestOf 52 = .ok (.iinc 3 1, 3) := by decide +kernel
theorem dX8_newestOf_55 : decode cX8_newestOf 55 = .ok (.goto (-51), 3) := by decide +kernel
theorem dX8_newestOf_58 : decode cX8_newestOf 58 = .ok (.aload_n 2, 1) := by decide +kernel
theorem dX8_newestOf_59 : decode cX8_newestOf 59 = .ok (.areturn, 1) := by decide +kernel
theorem sgX8_newestOf_n_0 {G : zc_G} {Q : Option Value → zc_H → Prop} (P : zp) (σ : zc_N) (a1 : Int32)
    (W_ : zz G mX8_newestOf 0 0 0 Q 4 [some (.ref 3), some (.int a1), some (.null), some (.int (0 : Int32))] [] (hh P σ) 0 0) :
    zz G mX8_newestOf 0 0 0 Q 0 [some (.ref 3), some (.int a1), none, none] [] (hh P σ) 0 0 := by
  refine z_null dX8_newestOf_0 ?_
  refine z_astore_n (r := none) (lv' := [some (.ref 3), some (.int a1), some (.null), none]) dX8_newestOf_1 (Nat.le_of_ble_eq_true rfl) rfl ?_
  refine z_iconst dX8_newestOf_2 k_iconst_0 ?_
  refine z_istore_n (lv' := [some (.ref 3), some (.int a1), some (.null), some (.int (0 : Int32))]) dX8_newestOf_3 (Nat.le_of_ble_eq_true rfl) rfl ?_
  exact W_

theorem sgX8_newestOf_n_4 {G : zc_G} {Q : Option Value → zc_H → Prop} (P : zp) (σ : zc_N)  (l1 : Int32) (l3 : Int32)
    (W_ : ((((σ 3) 3) ≤ l3 → Q (some (.null)) (hh P σ)) ∧ (¬ ((σ 3) 3) ≤ l3 → ((vp_in l3 24 ∧ l3.toNatClampNeg < P.2.1) ∧ ((((σ (pO l3.toNatClampNeg)) 3) = l1 → ((vp_in l3 24 ∧ l3.toNatClampNeg < P.2.1) ∧ zz G mX8_newestOf 0 0 0 Q 4 [some (.ref 3), some (.int l1), some (.ref (pO l3.toNatClampNeg)), some (.int (l3 + (1 : Int32)))] [] (hh P σ) 0 0)) ∧ (¬ ((σ (pO l3.toNatClampNeg)) 3) = l1 → zz G mX8_newestOf 0 0 0 Q 4 [some (.ref 3), some (.int l1), some (.null), some (.int (l3 + (1 : Int32)))] [] (hh P σ) 0 0)))))) :
    zz G mX8_newestOf 0 0 0 Q 4 [some (.ref 3), some (.int l1), some (.null), some (.int l3)] [] (hh P σ) 0 0 := by
  refine z_iload_n dX8_newestOf_4 rfl ?_
  refine z_aloadr_n dX8_newestOf_5 rfl ?_
  refine z_get (ci := 8) (r := (RX8, TX8, 12)) (j := 3) (v := .int ((σ 3) 3)) dX8_newestOf_6 (Nat.le_of_ble_eq_true rfl) (zN rfl) rfl rfl (Nat.le_of_ble_eq_true rfl) fl_X8_26 rfl ?_
  refine z_icmp_ge (tgt := 58) dX8_newestOf_9 (by decide) (fun c_1 => ?_) (fun c_1 => ?_)
  · refine z_aload_n (r := none) dX8_newestOf_58 rfl ?_
    exact z_areturn (q := none) dX8_newestOf_59 rfl (Or.inl ⟨_, rfl⟩) (Nat.le_of_ble_eq_true rfl) (Nat.le_of_ble_eq_true rfl) (W_.1 c_1)
  · refine z_aloadr_n dX8_newestOf_12 rfl ?_
    refine z_get (ci := 8) (r := (RX8, TX8, 12)) (j := 2) (v := .ref 9) dX8_newestOf_13 (Nat.le_of_ble_eq_true rfl) (zN rfl) rfl rfl (Nat.le_of_ble_eq_true rfl) fl_X8_22 rfl ?_
    refine z_iload_n dX8_newestOf_16 rfl ?_
    have hp_2 := ((W_.2 c_1).1).2
    refine z_aald (r := some (pO l3.toNatClampNeg)) dX8_newestOf_17 (Nat.le_of_ble_eq_true rfl) (zN rfl) rfl ((W_.2 c_1).1).1 (if_pos ((W_.2 c_1).1).2) ?_
    refine z_get (ci := 7) (r := (RX7, TX7, 5)) (j := 3) (v := .int ((σ (pO l3.toNatClampNeg)) 3)) dX8_newestOf_18 (z3O l3.toNatClampNeg) (zNO hp_2) (SH_pO P l3.toNatClampNeg) rfl (Nat.le_of_ble_eq_true rfl) fl_X8_175 rfl ?_
    refine z_iload_n dX8_newestOf_21 rfl ?_
    refine z_icmp_ne (tgt := 52) dX8_newestOf_22 (by decide) (fun c_3 => ?_) (fun c_3 => ?_)
    · refine z_iinc (v := (l3 + (1 : Int32))) (lv' := [some (.ref 3), some (.int l1), some (.null), some (.int (l3 + (1 : Int32)))]) dX8_newestOf_52 (Nat.le_of_ble_eq_true rfl) rfl (by rw [k_iconst_1]) rfl ?_
      refine z_goto (tgt := 4) dX8_newestOf_55 (by decide) ?_
      exact ((W_.2 c_1).2.2 c_3)
    · refine z_aload_n (r := none) dX8_newestOf_25 rfl ?_
      refine z_ifnull (r := none) (tgt := 45) dX8_newestOf_26 (by decide) (fun _ => ?_) (fun q_ => absurd rfl q_)
      refine z_aloadr_n dX8_newestOf_45 rfl ?_
      refine z_get (ci := 8) (r := (RX8, TX8, 12)) (j := 2) (v := .ref 9) dX8_newestOf_46 (Nat.le_of_ble_eq_true rfl) (zN rfl) rfl rfl (Nat.le_of_ble_eq_true rfl) fl_X8_22 rfl ?_
      refine z_iload_n dX8_newestOf_49 rfl ?_
      have hp_4 := (((W_.2 c_1).2.1 c_3).1).2
      refine z_aald (r := some (pO l3.toNatClampNeg)) dX8_newestOf_50 (Nat.le_of_ble_eq_true rfl) (zN rfl) rfl (((W_.2 c_1).2.1 c_3).1).1 (if_pos (((W_.2 c_1).2.1 c_3).1).2) ?_
      refine z_astorer_n (lv' := [some (.ref 3), some (.int l1), some (.ref (pO l3.toNatClampNeg)), some (.int l3)]) dX8_newestOf_51 (Nat.le_of_ble_eq_true rfl) rfl ?_
      refine z_iinc (v := (l3 + (1 : Int32))) (lv' := [some (.ref 3), some (.int l1), some (.ref (pO l3.toNatClampNeg)), some (.int (l3 + (1 : Int32)))]) dX8_newestOf_52 (Nat.le_of_ble_eq_true rfl) rfl (by rw [k_iconst_1]) rfl ?_
      refine z_goto (tgt := 4) dX8_newestOf_55 (by decide) ?_
      exact ((W_.2 c_1).2.1 c_3).2


theorem dX8_newestOf_29 : decode cX8_newestOf 29 = .ok (.aload_n 0, 1) := by decide +kernel
theorem dX8_newestOf_30 : decode cX8_newestOf 30 = .ok (.getfield 22, 3) := by decide +kernel
theorem dX8_newestOf_33 : decode cX8_newestOf 33 = .ok (.iload_n 3, 1) := by decide +kernel
theorem dX8_newestOf_34 : decode cX8_newestOf 34 = .ok (.aaload, 1) := by decide +kernel
theorem dX8_newestOf_35 : decode cX8_newestOf 35 = .ok (.getfield 182, 3) := by decide +kernel
theorem dX8_newestOf_38 : decode cX8_newestOf 38 = .ok (.aload_n 2, 1) := by decide +kernel
theorem dX8_newestOf_39 : decode cX8_newestOf 39 = .ok (.getfield 182, 3) := by decide +kernel
theorem dX8_newestOf_42 : decode cX8_newestOf 42 = .ok (.if_icmp .le 10, 3) := by decide +kernel
theorem sgX8_newestOf_p_0 {G : zc_G} {Q : Option Value → zc_H → Prop} (P : zp) (σ : zc_N) (a1 : Int32)
    (W_ : zz G mX8_newestOf 0 0 0 Q 4 [some (.ref 3), some (.int a1), some (.null), some (.int (0 : Int32))] [] (hh P σ) 0 0) :
    zz G mX8_newestOf 0 0 0 Q 0 [some (.ref 3), some (.int a1), none, none] [] (hh P σ) 0 0 := by
  refine z_null dX8_newestOf_0 ?_
  refine z_astore_n (r := none) (lv' := [some (.ref 3), some (.int a1), some (.null), none]) dX8_newestOf_1 (Nat.le_of_ble_eq_true rfl) rfl ?_
  refine z_iconst dX8_newestOf_2 k_iconst_0 ?_
  refine z_istore_n (lv' := [some (.ref 3), some (.int a1), some (.null), some (.int (0 : Int32))]) dX8_newestOf_3 (Nat.le_of_ble_eq_true rfl) rfl ?_
  exact W_

theorem sgX8_newestOf_p_4 {G : zc_G} {Q : Option Value → zc_H → Prop} (P : zp) (σ : zc_N) (j : Nat) (hj : j < P.2.1)  (l1 : Int32) (l3 : Int32)
    (W_ : ((((σ 3) 3) ≤ l3 → Q (some (.ref (pO j))) (hh P σ)) ∧ (¬ ((σ 3) 3) ≤ l3 → ((vp_in l3 24 ∧ l3.toNatClampNeg < P.2.1) ∧ ((((σ (pO l3.toNatClampNeg)) 3) = l1 → ((vp_in l3 24 ∧ l3.toNatClampNeg < P.2.1) ∧ ((((σ (pO l3.toNatClampNeg)) 4) ≤ ((σ (pO j)) 4) → zz G mX8_newestOf 0 0 0 Q 4 [some (.ref 3), some (.int l1), some (.ref (pO j)), some (.int (l3 + (1 : Int32)))] [] (hh P σ) 0 0) ∧ (¬ ((σ (pO l3.toNatClampNeg)) 4) ≤ ((σ (pO j)) 4) → ((vp_in l3 24 ∧ l3.toNatClampNeg < P.2.1) ∧ zz G mX8_newestOf 0 0 0 Q 4 [some (.ref 3), some (.int l1), some (.ref (pO l3.toNatClampNeg)), some (.int (l3 + (1 : Int32)))] [] (hh P σ) 0 0))))) ∧ (¬ ((σ (pO l3.toNatClampNeg)) 3) = l1 → zz G mX8_newestOf 0 0 0 Q 4 [some (.ref 3), some (.int l1), some (.ref (pO j)), some (.int (l3 + (1 : Int32)))] [] (hh P σ) 0 0)))))) :
    zz G mX8_newestOf 0 0 0 Q 4 [some (.ref 3), some (.int l1), some (.ref (pO j)), some (.int l3)] [] (hh P σ) 0 0 := by
  refine z_iload_n dX8_newestOf_4 rfl ?_
  refine z_aloadr_n dX8_newestOf_5 rfl ?_
  refine z_get (ci := 8) (r := (RX8, TX8, 12)) (j := 3) (v := .int ((σ 3) 3)) dX8_newestOf_6 (Nat.le_of_ble_eq_true rfl) (zN rfl) rfl rfl (Nat.le_of_ble_eq_true rfl) fl_X8_26 rfl ?_
  refine z_icmp_ge (tgt := 58) dX8_newestOf_9 (by decide) (fun c_1 => ?_) (fun c_1 => ?_)
  · refine z_aloadr_n dX8_newestOf_58 rfl ?_
    exact z_areturn (q := some (pO j)) dX8_newestOf_59 rfl (Or.inl ⟨_, rfl⟩) (Nat.le_of_ble_eq_true rfl) (Nat.le_of_ble_eq_true rfl) (W_.1 c_1)
  · refine z_aloadr_n dX8_newestOf_12 rfl ?_
    refine z_get (ci := 8) (r := (RX8, TX8, 12)) (j := 2) (v := .ref 9) dX8_newestOf_13 (Nat.le_of_ble_eq_true rfl) (zN rfl) rfl rfl (Nat.le_of_ble_eq_true rfl) fl_X8_22 rfl ?_
    refine z_iload_n dX8_newestOf_16 rfl ?_
    have hp_2 := ((W_.2 c_1).1).2
    refine z_aald (r := some (pO l3.toNatClampNeg)) dX8_newestOf_17 (Nat.le_of_ble_eq_true rfl) (zN rfl) rfl ((W_.2 c_1).1).1 (if_pos ((W_.2 c_1).1).2) ?_
    refine z_get (ci := 7) (r := (RX7, TX7, 5)) (j := 3) (v := .int ((σ (pO l3.toNatClampNeg)) 3)) dX8_newestOf_18 (z3O l3.toNatClampNeg) (zNO hp_2) (SH_pO P l3.toNatClampNeg) rfl (Nat.le_of_ble_eq_true rfl) fl_X8_175 rfl ?_
    refine z_iload_n dX8_newestOf_21 rfl ?_
    refine z_icmp_ne (tgt := 52) dX8_newestOf_22 (by decide) (fun c_3 => ?_) (fun c_3 => ?_)
    · refine z_iinc (v := (l3 + (1 : Int32))) (lv' := [some (.ref 3), some (.int l1), some (.ref (pO j)), some (.int (l3 + (1 : Int32)))]) dX8_newestOf_52 (Nat.le_of_ble_eq_true rfl) rfl (by rw [k_iconst_1]) rfl ?_
      refine z_goto (tgt := 4) dX8_newestOf_55 (by decide) ?_
      exact ((W_.2 c_1).2.2 c_3)
    · refine z_aloadr_n dX8_newestOf_25 rfl ?_
      refine z_ifnull (r := some (pO j)) (tgt := 45) dX8_newestOf_26 (by decide) (fun q_ => by cases q_) (fun _ => ?_)
      refine z_aloadr_n dX8_newestOf_29 rfl ?_
      refine z_get (ci := 8) (r := (RX8, TX8, 12)) (j := 2) (v := .ref 9) dX8_newestOf_30 (Nat.le_of_ble_eq_true rfl) (zN rfl) rfl rfl (Nat.le_of_ble_eq_true rfl) fl_X8_22 rfl ?_
      refine z_iload_n dX8_newestOf_33 rfl ?_
      have hp_4 := (((W_.2 c_1).2.1 c_3).1).2
      refine z_aald (r := some (pO l3.toNatClampNeg)) dX8_newestOf_34 (Nat.le_of_ble_eq_true rfl) (zN rfl) rfl (((W_.2 c_1).2.1 c_3).1).1 (if_pos (((W_.2 c_1).2.1 c_3).1).2) ?_
      refine z_get (ci := 7) (r := (RX7, TX7, 5)) (j := 4) (v := .int ((σ (pO l3.toNatClampNeg)) 4)) dX8_newestOf_35 (z3O l3.toNatClampNeg) (zNO hp_4) (SH_pO P l3.toNatClampNeg) rfl (Nat.le_of_ble_eq_true rfl) fl_X8_182 rfl ?_
      refine z_aloadr_n dX8_newestOf_38 rfl ?_
      refine z_get (ci := 7) (r := (RX7, TX7, 5)) (j := 4) (v := .int ((σ (pO j)) 4)) dX8_newestOf_39 (z3O j) (zNO hj) (SH_pO P j) rfl (Nat.le_of_ble_eq_true rfl) fl_X8_182 rfl ?_
      refine z_icmp_le (tgt := 52) dX8_newestOf_42 (by decide) (fun c_5 => ?_) (fun c_5 => ?_)
      · refine z_iinc (v := (l3 + (1 : Int32))) (lv' := [some (.ref 3), some (.int l1), some (.ref (pO j)), some (.int (l3 + (1 : Int32)))]) dX8_newestOf_52 (Nat.le_of_ble_eq_true rfl) rfl (by rw [k_iconst_1]) rfl ?_
        refine z_goto (tgt := 4) dX8_newestOf_55 (by decide) ?_
        exact (((W_.2 c_1).2.1 c_3).2.1 c_5)
      · refine z_aloadr_n dX8_newestOf_45 rfl ?_
        refine z_get (ci := 8) (r := (RX8, TX8, 12)) (j := 2) (v := .ref 9) dX8_newestOf_46 (Nat.le_of_ble_eq_true rfl) (zN rfl) rfl rfl (Nat.le_of_ble_eq_true rfl) fl_X8_22 rfl ?_
        refine z_iload_n dX8_newestOf_49 rfl ?_
        have hp_6 := ((((W_.2 c_1).2.1 c_3).2.2 c_5).1).2
        refine z_aald (r := some (pO l3.toNatClampNeg)) dX8_newestOf_50 (Nat.le_of_ble_eq_true rfl) (zN rfl) rfl ((((W_.2 c_1).2.1 c_3).2.2 c_5).1).1 (if_pos ((((W_.2 c_1).2.1 c_3).2.2 c_5).1).2) ?_
        refine z_astorer_n (lv' := [some (.ref 3), some (.int l1), some (.ref (pO l3.toNatClampNeg)), some (.int l3)]) dX8_newestOf_51 (Nat.le_of_ble_eq_true rfl) rfl ?_
        refine z_iinc (v := (l3 + (1 : Int32))) (lv' := [some (.ref 3), some (.int l1), some (.ref (pO l3.toNatClampNeg)), some (.int (l3 + (1 : Int32)))]) dX8_newestOf_52 (Nat.le_of_ble_eq_true rfl) rfl (by rw [k_iconst_1]) rfl ?_
        refine z_goto (tgt := 4) dX8_newestOf_55 (by decide) ?_
        exact (((W_.2 c_1).2.1 c_3).2.2 c_5).2
