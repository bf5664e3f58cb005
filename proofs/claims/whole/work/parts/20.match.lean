/-! ===== printed by wip/whole/p20.py: matching, in the reference ===== -/

theorem dX9_mostPairs_55 : decode cX9_mostPairs 55 = .ok (.iload 7, 2) := by decide +kernel
theorem dX9_mostPairs_57 : decode cX9_mostPairs 57 = .ok (.iload_n 1, 1) := by decide +kernel
theorem dX9_mostPairs_58 : decode cX9_mostPairs 58 = .ok (.if_icmp .ge 43, 3) := by decide +kernel
theorem dX9_mostPairs_61 : decode cX9_mostPairs 61 = .ok (.aload_n 0, 1) := by decide +kernel
theorem dX9_mostPairs_62 : decode cX9_mostPairs 62 = .ok (.getfield 63, 3) := by decide +kernel
theorem dX9_mostPairs_65 : decode cX9_mostPairs 65 = .ok (.iload 6, 2) := by decide +kernel
theorem dX9_mostPairs_67 : decode cX9_mostPairs 67 = .ok (.aload_n 0, 1) := by decide +kernel
theorem dX9_mostPairs_68 : decode cX9_mostPairs 68 = .ok (.getfield 63, 3) := by decide +kernel
theorem dX9_mostPairs_71 : decode cX9_mostPairs 71 = .ok (.iload 6, 2) := by decide +kernel
theorem dX9_mostPairs_73 : decode cX9_mostPairs 73 = .ok (.baload, 1) := by decide +kernel
theorem dX9_mostPairs_74 : decode cX9_mostPairs 74 = .ok (.ifCond .ne 15, 3) := by decide +kernel
theorem dX9_mostPairs_77 : decode cX9_mostPairs 77 = .ok (.aload_n 0, 1) := by decide +kernel
theorem dX9_mostPairs_78 : decode cX9_mostPairs 78 = .ok (.getfield 66, 3) := by decide +kernel
theorem dX9_mostPairs_81 : decode cX9_mostPairs 81 = .ok (.iload 7, 2) := by decide +kernel
theorem dX9_mostPairs_83 : decode cX9_mostPairs 83 = .ok (.iaload, 1) := by decide +kernel
theorem dX9_mostPairs_84 : decode cX9_mostPairs 84 = .ok (.iload 6, 2) := by decide +kernel
theorem dX9_mostPairs_86 : decode cX9_mostPairs 86 = .ok (.if_icmp .ne 7, 3) := by decide +kernel
theorem dX9_mostPairs_89 : decode cX9_mostPairs 89 = .ok (.iconst 1, 1) := by decide +kernel
theorem dX9_mostPairs_90 : decode cX9_mostPairs 90 = .ok (.goto 4, 3) := by decide +kernel
theorem dX9_mostPairs_93 : decode cX9_mostPairs 93 = .ok (.iconst 0, 1) := by decide +kernel
theorem dX9_mostPairs_94 : decode cX9_mostPairs 94 = .ok (.bastore, 1) := by decide +kernel
theorem dX9_mostPairs_95 : decode cX9_mostPairs 95 = .ok (.iinc 7 1, 3) := by decide +kernel
theorem dX9_mostPairs_98 : decode cX9_mostPairs 98 = .ok (.goto (-43), 3) := by decide +kernel
theorem dX9_mostPairs_101 : decode cX9_mostPairs 101 = .ok (.iinc 6 1, 3) := by decide +kernel
theorem dX9_mostPairs_104 : decode cX9_mostPairs 104 = .ok (.goto (-66), 3) := by decide +kernel
noncomputable def fX9_mostPairs_55 (l6 : Int32) (i_ : Nat) (a_ : zc_N) : zc_N := (zu a_ 49 (zu (a_ 49) l6.toNatClampNeg (if ((a_ 49) l6.toNatClampNeg) = (0 : Int32) then (if ((a_ 50) (nI i_).toNatClampNeg) = l6 then (1 : Int32) else (0 : Int32)) else (1 : Int32))))
def qX9_mostPairs_55 (l6 : Int32) (i_ : Nat) (a_ : zc_N) : Prop := (vp_in l6 12 ∧ (((((a_ 49) l6.toNatClampNeg) = (0 : Int32) → vp_in (nI i_) 12) ∧ (¬ ((a_ 49) l6.toNatClampNeg) = (0 : Int32) → True)) ∧ vp_in l6 12))
set_option maxHeartbeats 2000000 in
theorem lpX9_mostPairs_55 {G : zc_G} {Q : Option Value → zc_H → Prop} (P : zp) (σ : zc_N) (l1 : Int32) (l2 : Int32) (l3 : Int32) (l4 : Int32) (l5 : Int32) (l6 : Int32) (n_ : Nat) (hC_ : ∀ i55_ : Nat, i55_ ≤ n_ → (l1 ≤ (nI i55_) ↔ n_ ≤ i55_)) (W1_ : ∀ i55_ : Nat, i55_ < n_ → qX9_mostPairs_55 l6 i55_ (zfor (fX9_mostPairs_55 l6) i55_ σ))
    (W2_ : zz G mX9_mostPairs 14 0 0 Q 101 [some (.ref 32), some (.int l1), some (.int l2), some (.int l3), some (.int l4), some (.int l5), some (.int l6), none] [] (hh P (zfor (fX9_mostPairs_55 l6) n_ σ)) 0 0) :
    zz G mX9_mostPairs 14 0 0 Q 55 [some (.ref 32), some (.int l1), some (.int l2), some (.int l3), some (.int l4), some (.int l5), some (.int l6), some (.int (nI 0))] [] (hh P σ) 0 0 := by
  refine zfor_nI (fun i_ a_ => zz G mX9_mostPairs 14 0 0 Q 55 [some (.ref 32), some (.int l1), some (.int l2), some (.int l3), some (.int l4), some (.int l5), some (.int l6), some (.int i_)] [] (hh P a_) 0 0) (fX9_mostPairs_55 l6) n_ σ (fun i_ hi_ k_ => ?_) ?_
  · have W3_ := W1_ i_ hi_
    have hD_ := hC_ i_ (Nat.le_of_lt hi_)
    generalize zfor (fX9_mostPairs_55 l6) i_ σ = g_ at k_ W3_ hD_ ⊢
    rw [fX9_mostPairs_55] at k_
    rw [qX9_mostPairs_55] at W3_
    try dsimp only at W3_
    refine z_iload dX9_mostPairs_55 rfl ?_
    refine z_iload_n dX9_mostPairs_57 rfl ?_
    refine z_icmp_ge (tgt := 101) dX9_mostPairs_58 (by decide) (fun c_ => absurd c_ (fun q_ => Nat.not_le_of_lt hi_ (hD_.mp q_))) (fun c_ => ?_)
    refine z_aloadr_n dX9_mostPairs_61 rfl ?_
    refine z_get (ci := 9) (r := (RX9, TX9, 38)) (j := 18) (v := .ref 49) dX9_mostPairs_62 (Nat.le_of_ble_eq_true rfl) (zN rfl) rfl rfl (Nat.le_of_ble_eq_true rfl) fl_X9_63 rfl ?_
    refine z_iload dX9_mostPairs_65 rfl ?_
    refine z_aloadr_n dX9_mostPairs_67 rfl ?_
    refine z_get (ci := 9) (r := (RX9, TX9, 38)) (j := 18) (v := .ref 49) dX9_mostPairs_68 (Nat.le_of_ble_eq_true rfl) (zN rfl) rfl rfl (Nat.le_of_ble_eq_true rfl) fl_X9_63 rfl ?_
    refine z_iload dX9_mostPairs_71 rfl ?_
    refine z_bald (v := ((g_ 49) l6.toNatClampNeg)) dX9_mostPairs_73 (Nat.le_of_ble_eq_true rfl) (zN rfl) rfl W3_.1 rfl ?_
    have K_1 : zz G mX9_mostPairs 14 0 0 Q 94 [some (.ref 32), some (.int l1), some (.int l2), some (.int l3), some (.int l4), some (.int l5), some (.int l6), some (.int (nI i_))] [.int (if ((g_ 49) l6.toNatClampNeg) = (0 : Int32) then (if ((g_ 50) (nI i_).toNatClampNeg) = l6 then (1 : Int32) else (0 : Int32)) else (1 : Int32)), .int l6, .ref 49] (hh P g_) 0 0 := by
      refine z_bast (σ' := (zu g_ 49 (zu (g_ 49) l6.toNatClampNeg (if ((g_ 49) l6.toNatClampNeg) = (0 : Int32) then (if ((g_ 50) (nI i_).toNatClampNeg) = l6 then (1 : Int32) else (0 : Int32)) else (1 : Int32))))) dX9_mostPairs_94 (Nat.le_of_ble_eq_true rfl) (zN rfl) rfl W3_.2.2 (by (repeat' split) <;> rfl) rfl ?_
      refine z_iinc (v := ((nI i_) + (1 : Int32))) (lv' := [some (.ref 32), some (.int l1), some (.int l2), some (.int l3), some (.int l4), some (.int l5), some (.int l6), some (.int ((nI i_) + (1 : Int32)))]) dX9_mostPairs_95 (Nat.le_of_ble_eq_true rfl) rfl (by rw [k_iconst_1]) rfl ?_
      refine z_goto (tgt := 55) dX9_mostPairs_98 (by decide) ?_
      rw [nI_1]
      exact k_
    refine z_if_ne (tgt := 89) dX9_mostPairs_74 (by decide) (fun c_2 => ?_) (fun c_2 => ?_)
    · refine z_iconst dX9_mostPairs_89 k_iconst_1 ?_
      refine z_goto (tgt := 94) dX9_mostPairs_90 (by decide) ?_
      rw [show (if ((g_ 49) l6.toNatClampNeg) = (0 : Int32) then (if ((g_ 50) (nI i_).toNatClampNeg) = l6 then (1 : Int32) else (0 : Int32)) else (1 : Int32)) = (1 : Int32) from (if_neg c_2)] at K_1
      exact K_1
    · refine z_aloadr_n dX9_mostPairs_77 rfl ?_
      refine z_get (ci := 9) (r := (RX9, TX9, 38)) (j := 19) (v := .ref 50) dX9_mostPairs_78 (Nat.le_of_ble_eq_true rfl) (zN rfl) rfl rfl (Nat.le_of_ble_eq_true rfl) fl_X9_66 rfl ?_
      refine z_iload dX9_mostPairs_81 rfl ?_
      refine z_iald (v := ((g_ 50) (nI i_).toNatClampNeg)) dX9_mostPairs_83 (zN rfl) rfl (W3_.2.1.1 c_2) rfl ?_
      refine z_iload dX9_mostPairs_84 rfl ?_
      refine z_icmp_ne (tgt := 93) dX9_mostPairs_86 (by decide) (fun c_3 => ?_) (fun c_3 => ?_)
      · refine z_iconst dX9_mostPairs_93 k_iconst_0 ?_
        rw [show (if ((g_ 49) l6.toNatClampNeg) = (0 : Int32) then (if ((g_ 50) (nI i_).toNatClampNeg) = l6 then (1 : Int32) else (0 : Int32)) else (1 : Int32)) = (0 : Int32) from ((if_pos c_2).trans (if_neg c_3))] at K_1
        exact K_1
      · refine z_iconst dX9_mostPairs_89 k_iconst_1 ?_
        refine z_goto (tgt := 94) dX9_mostPairs_90 (by decide) ?_
        rw [show (if ((g_ 49) l6.toNatClampNeg) = (0 : Int32) then (if ((g_ 50) (nI i_).toNatClampNeg) = l6 then (1 : Int32) else (0 : Int32)) else (1 : Int32)) = (1 : Int32) from ((if_pos c_2).trans (if_pos c_3))] at K_1
        exact K_1
  · have hD_ := hC_ n_ (Nat.le_refl _)
    generalize zfor (fX9_mostPairs_55 l6) n_ σ = g_ at W2_ hD_ ⊢
    refine z_iload dX9_mostPairs_55 rfl ?_
    refine z_iload_n dX9_mostPairs_57 rfl ?_
    refine z_icmp_ge (tgt := 101) dX9_mostPairs_58 (by decide) (fun c_ => ?_) (fun c_ => absurd (hD_.mpr (Nat.le_refl _)) c_)
    exact zz_sub (lv' := [some (.ref 32), some (.int l1), some (.int l2), some (.int l3), some (.int l4), some (.int l5), some (.int l6), none]) ⟨rfl, ⟨rfl, ⟨rfl, ⟨rfl, ⟨rfl, ⟨rfl, ⟨rfl, trivial⟩⟩⟩⟩⟩⟩⟩ W2_

theorem dX9_mostPairs_38 : decode cX9_mostPairs 38 = .ok (.iload 6, 2) := by decide +kernel
theorem dX9_mostPairs_40 : decode cX9_mostPairs 40 = .ok (.iload_n 3, 1) := by decide +kernel
theorem dX9_mostPairs_41 : decode cX9_mostPairs 41 = .ok (.if_icmp .ge 66, 3) := by decide +kernel
theorem dX9_mostPairs_44 : decode cX9_mostPairs 44 = .ok (.aload_n 0, 1) := by decide +kernel
theorem dX9_mostPairs_45 : decode cX9_mostPairs 45 = .ok (.getfield 63, 3) := by decide +kernel
theorem dX9_mostPairs_48 : decode cX9_mostPairs 48 = .ok (.iload 6, 2) := by decide +kernel
theorem dX9_mostPairs_50 : decode cX9_mostPairs 50 = .ok (.iconst 0, 1) := by decide +kernel
theorem dX9_mostPairs_51 : decode cX9_mostPairs 51 = .ok (.bastore, 1) := by decide +kernel
theorem dX9_mostPairs_52 : decode cX9_mostPairs 52 = .ok (.iconst 0, 1) := by decide +kernel
theorem dX9_mostPairs_53 : decode cX9_mostPairs 53 = .ok (.istore 7, 2) := by decide +kernel
theorem dX9_mostPairs_107 : decode cX9_mostPairs 107 = .ok (.iload 4, 2) := by decide +kernel
theorem dX9_mostPairs_109 : decode cX9_mostPairs 109 = .ok (.aload_n 0, 1) := by decide +kernel
theorem dX9_mostPairs_110 : decode cX9_mostPairs 110 = .ok (.iload 5, 2) := by decide +kernel
theorem dX9_mostPairs_112 : decode cX9_mostPairs 112 = .ok (.iload_n 3, 1) := by decide +kernel
theorem dX9_mostPairs_113 : decode cX9_mostPairs 113 = .ok (.invokevirtual 148, 3) := by decide +kernel
theorem dX9_mostPairs_119 : decode cX9_mostPairs 119 = .ok (.iconst 1, 1) := by decide +kernel
theorem dX9_mostPairs_120 : decode cX9_mostPairs 120 = .ok (.goto 4, 3) := by decide +kernel
theorem dX9_mostPairs_123 : decode cX9_mostPairs 123 = .ok (.iconst 0, 1) := by decide +kernel
theorem dX9_mostPairs_124 : decode cX9_mostPairs 124 = .ok (.iadd, 1) := by decide +kernel
theorem dX9_mostPairs_125 : decode cX9_mostPairs 125 = .ok (.istore 4, 2) := by decide +kernel
theorem dX9_mostPairs_127 : decode cX9_mostPairs 127 = .ok (.iinc 5 1, 3) := by decide +kernel
theorem dX9_mostPairs_130 : decode cX9_mostPairs 130 = .ok (.goto (-101), 3) := by decide +kernel
noncomputable def vX9_mostPairs_1 (l1 : Int32) (l6 : Int32) (σ : zc_N) : zc_N := (zfor (fX9_mostPairs_55 l6) ((l1).toNatClampNeg) (zu σ 49 (zu (σ 49) l6.toNatClampNeg (0 : Int32))))
noncomputable def fX9_mostPairs_38 (l1 : Int32) (i_ : Nat) (a_ : zc_N) : zc_N := (vX9_mostPairs_1 l1 (nI i_) a_)
def qX9_mostPairs_38 (l1 : Int32) (i_ : Nat) (a_ : zc_N) : Prop := (vp_in (nI i_) 12 ∧ ((∀ i55_ : Nat, i55_ ≤ ((l1).toNatClampNeg) → (l1 ≤ (nI i55_) ↔ ((l1).toNatClampNeg) ≤ i55_)) ∧ (∀ i55_ : Nat, i55_ < ((l1).toNatClampNeg) → qX9_mostPairs_55 (nI i_) i55_ (zfor (fX9_mostPairs_55 (nI i_)) i55_ (zu a_ 49 (zu (a_ 49) (nI i_).toNatClampNeg (0 : Int32)))))))
set_option maxHeartbeats 2000000 in
theorem lpX9_mostPairs_38 {G : zc_G} {Q : Option Value → zc_H → Prop} (P : zp) (σ : zc_N) (l1 : Int32) (l2 : Int32) (l3 : Int32) (l4 : Int32) (l5 : Int32) (n_ : Nat) (hC_ : ∀ i38_ : Nat, i38_ ≤ n_ → (l3 ≤ (nI i38_) ↔ n_ ≤ i38_)) (W1_ : ∀ i38_ : Nat, i38_ < n_ → qX9_mostPairs_38 l1 i38_ (zfor (fX9_mostPairs_38 l1) i38_ σ))
    (W2_ : zz G mX9_mostPairs 14 0 0 Q 107 [some (.ref 32), some (.int l1), some (.int l2), some (.int l3), some (.int l4), some (.int l5), none, none] [] (hh P (zfor (fX9_mostPairs_38 l1) n_ σ)) 0 0) :
    zz G mX9_mostPairs 14 0 0 Q 38 [some (.ref 32), some (.int l1), some (.int l2), some (.int l3), some (.int l4), some (.int l5), some (.int (nI 0)), none] [] (hh P σ) 0 0 := by
  refine zfor_nI (fun i_ a_ => zz G mX9_mostPairs 14 0 0 Q 38 [some (.ref 32), some (.int l1), some (.int l2), some (.int l3), some (.int l4), some (.int l5), some (.int i_), none] [] (hh P a_) 0 0) (fX9_mostPairs_38 l1) n_ σ (fun i_ hi_ k_ => ?_) ?_
  · have W3_ := W1_ i_ hi_
    have hD_ := hC_ i_ (Nat.le_of_lt hi_)
    generalize zfor (fX9_mostPairs_38 l1) i_ σ = g_ at k_ W3_ hD_ ⊢
    rw [fX9_mostPairs_38] at k_
    rw [qX9_mostPairs_38] at W3_
    try dsimp only at W3_
    refine z_iload dX9_mostPairs_38 rfl ?_
    refine z_iload_n dX9_mostPairs_40 rfl ?_
    refine z_icmp_ge (tgt := 107) dX9_mostPairs_41 (by decide) (fun c_ => absurd c_ (fun q_ => Nat.not_le_of_lt hi_ (hD_.mp q_))) (fun c_ => ?_)
    refine z_aloadr_n dX9_mostPairs_44 rfl ?_
    refine z_get (ci := 9) (r := (RX9, TX9, 38)) (j := 18) (v := .ref 49) dX9_mostPairs_45 (Nat.le_of_ble_eq_true rfl) (zN rfl) rfl rfl (Nat.le_of_ble_eq_true rfl) fl_X9_63 rfl ?_
    refine z_iload dX9_mostPairs_48 rfl ?_
    refine z_iconst dX9_mostPairs_50 k_iconst_0 ?_
    refine z_bast (σ' := (zu g_ 49 (zu (g_ 49) (nI i_).toNatClampNeg (0 : Int32)))) dX9_mostPairs_51 (Nat.le_of_ble_eq_true rfl) (zN rfl) rfl W3_.1 rfl rfl ?_
    refine z_iconst dX9_mostPairs_52 k_iconst_0 ?_
    refine z_istore (lv' := [some (.ref 32), some (.int l1), some (.int l2), some (.int l3), some (.int l4), some (.int l5), some (.int (nI i_)), some (.int (0 : Int32))]) dX9_mostPairs_53 (Nat.le_of_ble_eq_true rfl) rfl ?_
    refine lpX9_mostPairs_55 P (zu g_ 49 (zu (g_ 49) (nI i_).toNatClampNeg (0 : Int32))) l1 l2 l3 l4 l5 (nI i_) ((l1).toNatClampNeg) W3_.2.1 W3_.2.2 ?_
    show zz G mX9_mostPairs 14 0 0 Q 101 [some (.ref 32), some (.int l1), some (.int l2), some (.int l3), some (.int l4), some (.int l5), some (.int (nI i_)), none] [] (hh P (vX9_mostPairs_1 l1 (nI i_) g_)) 0 0
    refine z_iinc (v := ((nI i_) + (1 : Int32))) (lv' := [some (.ref 32), some (.int l1), some (.int l2), some (.int l3), some (.int l4), some (.int l5), some (.int ((nI i_) + (1 : Int32))), none]) dX9_mostPairs_101 (Nat.le_of_ble_eq_true rfl) rfl (by rw [k_iconst_1]) rfl ?_
    refine z_goto (tgt := 38) dX9_mostPairs_104 (by decide) ?_
    rw [nI_1]
    exact k_
  · have hD_ := hC_ n_ (Nat.le_refl _)
    generalize zfor (fX9_mostPairs_38 l1) n_ σ = g_ at W2_ hD_ ⊢
    refine z_iload dX9_mostPairs_38 rfl ?_
    refine z_iload_n dX9_mostPairs_40 rfl ?_
    refine z_icmp_ge (tgt := 107) dX9_mostPairs_41 (by decide) (fun c_ => ?_) (fun c_ => absurd (hD_.mpr (Nat.le_refl _)) c_)
    exact zz_sub (lv' := [some (.ref 32), some (.int l1), some (.int l2), some (.int l3), some (.int l4), some (.int l5), none, none]) ⟨rfl, ⟨rfl, ⟨rfl, ⟨rfl, ⟨rfl, ⟨rfl, trivial⟩⟩⟩⟩⟩⟩ W2_

theorem dX9_mostPairs_29 : decode cX9_mostPairs 29 = .ok (.iload 5, 2) := by decide +kernel
theorem dX9_mostPairs_31 : decode cX9_mostPairs 31 = .ok (.iload_n 2, 1) := by decide +kernel
theorem dX9_mostPairs_32 : decode cX9_mostPairs 32 = .ok (.if_icmp .ge 101, 3) := by decide +kernel
theorem dX9_mostPairs_35 : decode cX9_mostPairs 35 = .ok (.iconst 0, 1) := by decide +kernel
theorem dX9_mostPairs_36 : decode cX9_mostPairs 36 = .ok (.istore 6, 2) := by decide +kernel
theorem dX9_mostPairs_116 : decode cX9_mostPairs 116 = .ok (.ifCond .eq 7, 3) := by decide +kernel
theorem dX9_mostPairs_133 : decode cX9_mostPairs 133 = .ok (.iload 4, 2) := by decide +kernel
noncomputable def vX9_mostPairs_2 (l1 : Int32) (l3 : Int32) (l4 : Int32) (l5 : Int32) (σ : zc_N) : Int32 := (l4 + (if ((zFm 13).1 (zfor (fX9_mostPairs_38 l1) ((l3).toNatClampNeg) σ) l5 l3) = (0 : Int32) then (0 : Int32) else (1 : Int32)))
noncomputable def fX9_mostPairs_29 (l1 : Int32) (l3 : Int32) (s_ : Int32) (i_ : Nat) (a_ : Int32 × zc_N) : Int32 × zc_N := ((vX9_mostPairs_2 l1 l3 a_.1 (s_ + nI i_) a_.2), ((zFm 13).2.1 (zfor (fX9_mostPairs_38 l1) ((l3).toNatClampNeg) a_.2) (s_ + nI i_) l3))
def qX9_mostPairs_29 (l1 : Int32) (l3 : Int32) (s_ : Int32) (i_ : Nat) (a_ : Int32 × zc_N) : Prop := (((∀ i38_ : Nat, i38_ ≤ ((l3).toNatClampNeg) → (l3 ≤ (nI i38_) ↔ ((l3).toNatClampNeg) ≤ i38_)) ∧ (∀ i38_ : Nat, i38_ < ((l3).toNatClampNeg) → qX9_mostPairs_38 l1 i38_ (zfor (fX9_mostPairs_38 l1) i38_ a_.2))) ∧ (zFm 13).2.2 (zfor (fX9_mostPairs_38 l1) ((l3).toNatClampNeg) a_.2) (s_ + nI i_) l3)
set_option maxHeartbeats 2000000 in
theorem lpX9_mostPairs_29 {G : zc_G} {Q : Option Value → zc_H → Prop} (P : zp) (σ : zc_N) (l1 : Int32) (l2 : Int32) (l3 : Int32) (l4 : Int32) (s_ : Int32) (n_ : Nat) (hC_ : ∀ i29_ : Nat, i29_ ≤ n_ → (l2 ≤ (s_ + nI i29_) ↔ n_ ≤ i29_)) (W1_ : ∀ i29_ : Nat, i29_ < n_ → qX9_mostPairs_29 l1 l3 s_ i29_ (zfor (fX9_mostPairs_29 l1 l3 s_) i29_ (l4, σ)))
    (W2_ : zz G mX9_mostPairs 14 0 0 Q 133 [none, none, none, none, some (.int (zfor (fX9_mostPairs_29 l1 l3 s_) n_ (l4, σ)).1), none, none, none] [] (hh P (zfor (fX9_mostPairs_29 l1 l3 s_) n_ (l4, σ)).2) 0 0) :
    zz G mX9_mostPairs 14 0 0 Q 29 [some (.ref 32), some (.int l1), some (.int l2), some (.int l3), some (.int l4), some (.int s_), none, none] [] (hh P σ) 0 0 := by
  refine zfor_sI (fun i_ a_ => zz G mX9_mostPairs 14 0 0 Q 29 [some (.ref 32), some (.int l1), some (.int l2), some (.int l3), some (.int a_.1), some (.int i_), none, none] [] (hh P a_.2) 0 0) (fX9_mostPairs_29 l1 l3 s_) s_ n_ (l4, σ) (fun i_ hi_ k_ => ?_) ?_
  all_goals try dsimp only
  · have W3_ := W1_ i_ hi_
    have hD_ := hC_ i_ (Nat.le_of_lt hi_)
    generalize zfor (fX9_mostPairs_29 l1 l3 s_) i_ (l4, σ) = g_ at k_ W3_ hD_ ⊢
    obtain ⟨x0_, x1_⟩ := g_
    dsimp only at k_ W3_ hD_ ⊢
    rw [fX9_mostPairs_29] at k_
    rw [qX9_mostPairs_29] at W3_
    try dsimp only at W3_
    dsimp only at k_
    refine z_iload dX9_mostPairs_29 rfl ?_
    refine z_iload_n dX9_mostPairs_31 rfl ?_
    refine z_icmp_ge (tgt := 133) dX9_mostPairs_32 (by decide) (fun c_ => absurd c_ (fun q_ => Nat.not_le_of_lt hi_ (hD_.mp q_))) (fun c_ => ?_)
    refine z_iconst dX9_mostPairs_35 k_iconst_0 ?_
    refine z_istore (lv' := [some (.ref 32), some (.int l1), some (.int l2), some (.int l3), some (.int x0_), some (.int (s_ + nI i_)), some (.int (0 : Int32)), none]) dX9_mostPairs_36 (Nat.le_of_ble_eq_true rfl) rfl ?_
    refine lpX9_mostPairs_38 P x1_ l1 l2 l3 x0_ (s_ + nI i_) ((l3).toNatClampNeg) W3_.1.1 W3_.1.2 ?_
    show zz G mX9_mostPairs 14 0 0 Q 107 [some (.ref 32), some (.int l1), some (.int l2), some (.int l3), some (.int x0_), some (.int (s_ + nI i_)), none, none] [] (hh P (zfor (fX9_mostPairs_38 l1) ((l3).toNatClampNeg) x1_)) 0 0
    refine z_iload dX9_mostPairs_107 rfl ?_
    refine z_aloadr_n dX9_mostPairs_109 rfl ?_
    refine z_iload dX9_mostPairs_110 rfl ?_
    refine z_iload_n dX9_mostPairs_112 rfl ?_
    refine z_callV (ci := 9) (r := (RX9, TX9, 38)) (b := 32) (As := [.int (s_ + nI i_), .int l3]) (rest := [.int x0_]) (czFm P 13 (zfor (fX9_mostPairs_38 l1) ((l3).toNatClampNeg) x1_) (s_ + nI i_) l3 W3_.2) dX9_mostPairs_113 lk_X9_148 lv_X9_finds (Nat.le_of_ble_eq_true rfl) (zN rfl) rfl rfl rfl rfl (Nat.le_of_ble_eq_true rfl) (Nat.le_of_ble_eq_true rfl) (Nat.le_of_ble_eq_true rfl) (Nat.le_of_ble_eq_true rfl) (fun r_ h_ e_ => ?_)
    obtain ⟨e1_, e2_⟩ := e_
    subst e1_
    subst e2_
    show zz G mX9_mostPairs 14 0 0 Q 116 [some (.ref 32), some (.int l1), some (.int l2), some (.int l3), some (.int x0_), some (.int (s_ + nI i_)), none, none] [.int ((zFm 13).1 (zfor (fX9_mostPairs_38 l1) ((l3).toNatClampNeg) x1_) (s_ + nI i_) l3), .int x0_] (hh P ((zFm 13).2.1 (zfor (fX9_mostPairs_38 l1) ((l3).toNatClampNeg) x1_) (s_ + nI i_) l3)) 0 0
    have K_1 : zz G mX9_mostPairs 14 0 0 Q 124 [some (.ref 32), some (.int l1), some (.int l2), some (.int l3), none, some (.int (s_ + nI i_)), none, none] [.int (if ((zFm 13).1 (zfor (fX9_mostPairs_38 l1) ((l3).toNatClampNeg) x1_) (s_ + nI i_) l3) = (0 : Int32) then (0 : Int32) else (1 : Int32)), .int x0_] (hh P ((zFm 13).2.1 (zfor (fX9_mostPairs_38 l1) ((l3).toNatClampNeg) x1_) (s_ + nI i_) l3)) 0 0 := by
      refine z_iadd (v := (x0_ + (if ((zFm 13).1 (zfor (fX9_mostPairs_38 l1) ((l3).toNatClampNeg) x1_) (s_ + nI i_) l3) = (0 : Int32) then (0 : Int32) else (1 : Int32)))) dX9_mostPairs_124 rfl ?_
      refine z_istore (lv' := [some (.ref 32), some (.int l1), some (.int l2), some (.int l3), some (.int (vX9_mostPairs_2 l1 l3 x0_ (s_ + nI i_) x1_)), some (.int (s_ + nI i_)), none, none]) dX9_mostPairs_125 (Nat.le_of_ble_eq_true rfl) rfl ?_
      refine z_iinc (v := ((s_ + nI i_) + (1 : Int32))) (lv' := [some (.ref 32), some (.int l1), some (.int l2), some (.int l3), some (.int (vX9_mostPairs_2 l1 l3 x0_ (s_ + nI i_) x1_)), some (.int ((s_ + nI i_) + (1 : Int32))), none, none]) dX9_mostPairs_127 (Nat.le_of_ble_eq_true rfl) rfl (by rw [k_iconst_1]) rfl ?_
      refine z_goto (tgt := 29) dX9_mostPairs_130 (by decide) ?_
      rw [nS_1]
      exact k_
    refine z_if_eq (tgt := 123) dX9_mostPairs_116 (by decide) (fun c_2 => ?_) (fun c_2 => ?_)
    · refine z_iconst dX9_mostPairs_123 k_iconst_0 ?_
      refine zz_sub (lv' := [some (.ref 32), some (.int l1), some (.int l2), some (.int l3), none, some (.int (s_ + nI i_)), none, none]) ⟨rfl, ⟨rfl, ⟨rfl, ⟨rfl, ⟨rfl, trivial⟩⟩⟩⟩⟩ ?_
      rw [show (if ((zFm 13).1 (zfor (fX9_mostPairs_38 l1) ((l3).toNatClampNeg) x1_) (s_ + nI i_) l3) = (0 : Int32) then (0 : Int32) else (1 : Int32)) = (0 : Int32) from (if_pos c_2)] at K_1
      exact K_1
    · refine z_iconst dX9_mostPairs_119 k_iconst_1 ?_
      refine z_goto (tgt := 124) dX9_mostPairs_120 (by decide) ?_
      refine zz_sub (lv' := [some (.ref 32), some (.int l1), some (.int l2), some (.int l3), none, some (.int (s_ + nI i_)), none, none]) ⟨rfl, ⟨rfl, ⟨rfl, ⟨rfl, ⟨rfl, trivial⟩⟩⟩⟩⟩ ?_
      rw [show (if ((zFm 13).1 (zfor (fX9_mostPairs_38 l1) ((l3).toNatClampNeg) x1_) (s_ + nI i_) l3) = (0 : Int32) then (0 : Int32) else (1 : Int32)) = (1 : Int32) from (if_neg c_2)] at K_1
      exact K_1
  · have hD_ := hC_ n_ (Nat.le_refl _)
    generalize zfor (fX9_mostPairs_29 l1 l3 s_) n_ (l4, σ) = g_ at W2_ hD_ ⊢
    obtain ⟨x0_, x1_⟩ := g_
    dsimp only at W2_ hD_ ⊢
    refine z_iload dX9_mostPairs_29 rfl ?_
    refine z_iload_n dX9_mostPairs_31 rfl ?_
    refine z_icmp_ge (tgt := 133) dX9_mostPairs_32 (by decide) (fun c_ => ?_) (fun c_ => absurd (hD_.mpr (Nat.le_refl _)) c_)
    exact zz_sub (lv' := [none, none, none, none, some (.int x0_), none, none, none]) ⟨rfl, trivial⟩ W2_

theorem dX9_mostPairs_3 : decode cX9_mostPairs 3 = .ok (.iload 4, 2) := by decide +kernel
theorem dX9_mostPairs_5 : decode cX9_mostPairs 5 = .ok (.iload_n 3, 1) := by decide +kernel
theorem dX9_mostPairs_6 : decode cX9_mostPairs 6 = .ok (.if_icmp .ge 17, 3) := by decide +kernel
theorem dX9_mostPairs_9 : decode cX9_mostPairs 9 = .ok (.aload_n 0, 1) := by decide +kernel
theorem dX9_mostPairs_10 : decode cX9_mostPairs 10 = .ok (.getfield 60, 3) := by decide +kernel
theorem dX9_mostPairs_13 : decode cX9_mostPairs 13 = .ok (.iload 4, 2) := by decide +kernel
theorem dX9_mostPairs_15 : decode cX9_mostPairs 15 = .ok (.iconst (-1), 1) := by decide +kernel
theorem dX9_mostPairs_16 : decode cX9_mostPairs 16 = .ok (.iastore, 1) := by decide +kernel
theorem dX9_mostPairs_17 : decode cX9_mostPairs 17 = .ok (.iinc 4 1, 3) := by decide +kernel
theorem dX9_mostPairs_20 : decode cX9_mostPairs 20 = .ok (.goto (-17), 3) := by decide +kernel
theorem dX9_mostPairs_23 : decode cX9_mostPairs 23 = .ok (.iconst 0, 1) := by decide +kernel
theorem dX9_mostPairs_24 : decode cX9_mostPairs 24 = .ok (.istore 4, 2) := by decide +kernel
theorem dX9_mostPairs_26 : decode cX9_mostPairs 26 = .ok (.iload_n 1, 1) := by decide +kernel
theorem dX9_mostPairs_27 : decode cX9_mostPairs 27 = .ok (.istore 5, 2) := by decide +kernel
noncomputable def fX9_mostPairs_3 (i_ : Nat) (a_ : zc_N) : zc_N := (zu a_ 48 (zu (a_ 48) (nI i_).toNatClampNeg (-1 : Int32)))
def qX9_mostPairs_3 (i_ : Nat) (a_ : zc_N) : Prop := vp_in (nI i_) 12
set_option maxHeartbeats 2000000 in
theorem lpX9_mostPairs_3 {G : zc_G} {Q : Option Value → zc_H → Prop} (P : zp) (σ : zc_N) (l1 : Int32) (l2 : Int32) (l3 : Int32) (n_ : Nat) (hC_ : ∀ i3_ : Nat, i3_ ≤ n_ → (l3 ≤ (nI i3_) ↔ n_ ≤ i3_)) (W1_ : ∀ i3_ : Nat, i3_ < n_ → qX9_mostPairs_3 i3_ (zfor fX9_mostPairs_3 i3_ σ))
    (W2_ : zz G mX9_mostPairs 14 0 0 Q 23 [some (.ref 32), some (.int l1), some (.int l2), some (.int l3), none, none, none, none] [] (hh P (zfor fX9_mostPairs_3 n_ σ)) 0 0) :
    zz G mX9_mostPairs 14 0 0 Q 3 [some (.ref 32), some (.int l1), some (.int l2), some (.int l3), some (.int (nI 0)), none, none, none] [] (hh P σ) 0 0 := by
  refine zfor_nI (fun i_ a_ => zz G mX9_mostPairs 14 0 0 Q 3 [some (.ref 32), some (.int l1), some (.int l2), some (.int l3), some (.int i_), none, none, none] [] (hh P a_) 0 0) fX9_mostPairs_3 n_ σ (fun i_ hi_ k_ => ?_) ?_
  · have W3_ := W1_ i_ hi_
    have hD_ := hC_ i_ (Nat.le_of_lt hi_)
    generalize zfor fX9_mostPairs_3 i_ σ = g_ at k_ W3_ hD_ ⊢
    rw [fX9_mostPairs_3] at k_
    rw [qX9_mostPairs_3] at W3_
    try dsimp only at W3_
    refine z_iload dX9_mostPairs_3 rfl ?_
    refine z_iload_n dX9_mostPairs_5 rfl ?_
    refine z_icmp_ge (tgt := 23) dX9_mostPairs_6 (by decide) (fun c_ => absurd c_ (fun q_ => Nat.not_le_of_lt hi_ (hD_.mp q_))) (fun c_ => ?_)
    refine z_aloadr_n dX9_mostPairs_9 rfl ?_
    refine z_get (ci := 9) (r := (RX9, TX9, 38)) (j := 17) (v := .ref 48) dX9_mostPairs_10 (Nat.le_of_ble_eq_true rfl) (zN rfl) rfl rfl (Nat.le_of_ble_eq_true rfl) fl_X9_60 rfl ?_
    refine z_iload dX9_mostPairs_13 rfl ?_
    refine z_iconst dX9_mostPairs_15 k_iconst_m1 ?_
    refine z_iast (σ' := (zu g_ 48 (zu (g_ 48) (nI i_).toNatClampNeg (-1 : Int32)))) dX9_mostPairs_16 (Nat.le_of_ble_eq_true rfl) (zN rfl) rfl W3_ rfl ?_
    refine z_iinc (v := ((nI i_) + (1 : Int32))) (lv' := [some (.ref 32), some (.int l1), some (.int l2), some (.int l3), some (.int ((nI i_) + (1 : Int32))), none, none, none]) dX9_mostPairs_17 (Nat.le_of_ble_eq_true rfl) rfl (by rw [k_iconst_1]) rfl ?_
    refine z_goto (tgt := 3) dX9_mostPairs_20 (by decide) ?_
    rw [nI_1]
    exact k_
  · have hD_ := hC_ n_ (Nat.le_refl _)
    generalize zfor fX9_mostPairs_3 n_ σ = g_ at W2_ hD_ ⊢
    refine z_iload dX9_mostPairs_3 rfl ?_
    refine z_iload_n dX9_mostPairs_5 rfl ?_
    refine z_icmp_ge (tgt := 23) dX9_mostPairs_6 (by decide) (fun c_ => ?_) (fun c_ => absurd (hD_.mpr (Nat.le_refl _)) c_)
    exact zz_sub (lv' := [some (.ref 32), some (.int l1), some (.int l2), some (.int l3), none, none, none, none]) ⟨rfl, ⟨rfl, ⟨rfl, ⟨rfl, trivial⟩⟩⟩⟩ W2_

theorem dX9_mostPairs_0 : decode cX9_mostPairs 0 = .ok (.iconst 0, 1) := by decide +kernel
theorem dX9_mostPairs_1 : decode cX9_mostPairs 1 = .ok (.istore 4, 2) := by decide +kernel
theorem dX9_mostPairs_135 : decode cX9_mostPairs 135 = .ok (.ireturn, 1) := by decide +kernel
noncomputable def vX9_mostPairs_3 (a1 : Int32) (a2 : Int32) (a3 : Int32) (σ : zc_N) : zc_N := (zfor (fX9_mostPairs_29 a1 a3 a1) ((a2 - a1).toNatClampNeg) ((0 : Int32), (zfor fX9_mostPairs_3 ((a3).toNatClampNeg) σ))).2
noncomputable def vX9_mostPairs_4 (a1 : Int32) (a2 : Int32) (a3 : Int32) (σ : zc_N) : Int32 := (zfor (fX9_mostPairs_29 a1 a3 a1) ((a2 - a1).toNatClampNeg) ((0 : Int32), (zfor fX9_mostPairs_3 ((a3).toNatClampNeg) σ))).1
def pX9_mostPairs (σ : zc_N) (a1 : Int32) (a2 : Int32) (a3 : Int32) : Prop := (((∀ i3_ : Nat, i3_ ≤ ((a3).toNatClampNeg) → (a3 ≤ (nI i3_) ↔ ((a3).toNatClampNeg) ≤ i3_)) ∧ (∀ i3_ : Nat, i3_ < ((a3).toNatClampNeg) → qX9_mostPairs_3 i3_ (zfor fX9_mostPairs_3 i3_ σ))) ∧ ((∀ i29_ : Nat, i29_ ≤ ((a2 - a1).toNatClampNeg) → (a2 ≤ (a1 + nI i29_) ↔ ((a2 - a1).toNatClampNeg) ≤ i29_)) ∧ (∀ i29_ : Nat, i29_ < ((a2 - a1).toNatClampNeg) → qX9_mostPairs_29 a1 a3 a1 i29_ (zfor (fX9_mostPairs_29 a1 a3 a1) i29_ ((0 : Int32), (zfor fX9_mostPairs_3 ((a3).toNatClampNeg) σ))))))
noncomputable def rX9_mostPairs (σ : zc_N) (a1 : Int32) (a2 : Int32) (a3 : Int32) : Int32 := (vX9_mostPairs_4 a1 a2 a3 σ)
noncomputable def sX9_mostPairs (σ : zc_N) (a1 : Int32) (a2 : Int32) (a3 : Int32) : zc_N := (vX9_mostPairs_3 a1 a2 a3 σ)
set_option maxHeartbeats 1000000 in
theorem ctX9_mostPairs (P : zp) (σ : zc_N) (a1 : Int32) (a2 : Int32) (a3 : Int32) (W_ : (pX9_mostPairs σ a1 a2 a3)) : sp mX9_mostPairs 14 0 0 [.ref 32, .int a1, .int a2, .int a3] (hh P σ) (fun r_ h_ => r_ = some (.int (rX9_mostPairs σ a1 a2 a3)) ∧ h_ = hh P (sX9_mostPairs σ a1 a2 a3)) := by
  refine sp_of (lv := [some (.ref 32), some (.int a1), some (.int a2), some (.int a3), none, none, none, none]) (by decide) (zcats_ok _ rfl) (Nat.le_of_ble_eq_true rfl) (zlv_ok _ 4 rfl) (fun G => ?_)
  generalize hQ_ : (fun (r_ : Option Value) (h_ : zc_H) => r_ = some (.int (rX9_mostPairs σ a1 a2 a3)) ∧ h_ = hh P (sX9_mostPairs σ a1 a2 a3)) = Q_
  unfold pX9_mostPairs at W_
  refine z_iconst dX9_mostPairs_0 k_iconst_0 ?_
  refine z_istore (lv' := [some (.ref 32), some (.int a1), some (.int a2), some (.int a3), some (.int (0 : Int32)), none, none, none]) dX9_mostPairs_1 (Nat.le_of_ble_eq_true rfl) rfl ?_
  refine lpX9_mostPairs_3 P σ a1 a2 a3 ((a3).toNatClampNeg) W_.1.1 W_.1.2 ?_
  show zz G mX9_mostPairs 14 0 0 Q_ 23 [some (.ref 32), some (.int a1), some (.int a2), some (.int a3), none, none, none, none] [] (hh P (zfor fX9_mostPairs_3 ((a3).toNatClampNeg) σ)) 0 0
  refine z_iconst dX9_mostPairs_23 k_iconst_0 ?_
  refine z_istore (lv' := [some (.ref 32), some (.int a1), some (.int a2), some (.int a3), some (.int (0 : Int32)), none, none, none]) dX9_mostPairs_24 (Nat.le_of_ble_eq_true rfl) rfl ?_
  refine z_iload_n dX9_mostPairs_26 rfl ?_
  refine z_istore (lv' := [some (.ref 32), some (.int a1), some (.int a2), some (.int a3), some (.int (0 : Int32)), some (.int a1), none, none]) dX9_mostPairs_27 (Nat.le_of_ble_eq_true rfl) rfl ?_
  refine lpX9_mostPairs_29 P (zfor fX9_mostPairs_3 ((a3).toNatClampNeg) σ) a1 a2 a3 (0 : Int32) a1 ((a2 - a1).toNatClampNeg) W_.2.1 W_.2.2 ?_
  show zz G mX9_mostPairs 14 0 0 Q_ 133 [none, none, none, none, some (.int (vX9_mostPairs_4 a1 a2 a3 σ)), none, none, none] [] (hh P (vX9_mostPairs_3 a1 a2 a3 σ)) 0 0
  refine z_iload dX9_mostPairs_133 rfl ?_
  exact z_ireturn dX9_mostPairs_135 rfl rfl (Nat.le_of_ble_eq_true rfl) (Nat.le_of_ble_eq_true rfl) (by rw [← hQ_]; exact ⟨(by rw [rX9_mostPairs]), (by rw [sX9_mostPairs])⟩)

theorem dX9_scoreOf_95 : decode cX9_scoreOf 95 = .ok (.iload 7, 2) := by decide +kernel
theorem dX9_scoreOf_97 : decode cX9_scoreOf 97 = .ok (.aload_n 0, 1) := by decide +kernel
theorem dX9_scoreOf_98 : decode cX9_scoreOf 98 = .ok (.getfield 23, 3) := by decide +kernel
theorem dX9_scoreOf_101 : decode cX9_scoreOf 101 = .ok (.iload_n 2, 1) := by decide +kernel
theorem dX9_scoreOf_102 : decode cX9_scoreOf 102 = .ok (.iaload, 1) := by decide +kernel
theorem dX9_scoreOf_103 : decode cX9_scoreOf 103 = .ok (.if_icmp .ge 54, 3) := by decide +kernel
theorem dX9_scoreOf_106 : decode cX9_scoreOf 106 = .ok (.iload 6, 2) := by decide +kernel
theorem dX9_scoreOf_108 : decode cX9_scoreOf 108 = .ok (.aload_n 0, 1) := by decide +kernel
theorem dX9_scoreOf_109 : decode cX9_scoreOf 109 = .ok (.getfield 26, 3) := by decide +kernel
theorem dX9_scoreOf_112 : decode cX9_scoreOf 112 = .ok (.bipush 12, 2) := by decide +kernel
theorem dX9_scoreOf_114 : decode cX9_scoreOf 114 = .ok (.iload_n 2, 1) := by decide +kernel
theorem dX9_scoreOf_115 : decode cX9_scoreOf 115 = .ok (.imul, 1) := by decide +kernel
theorem dX9_scoreOf_116 : decode cX9_scoreOf 116 = .ok (.iload 7, 2) := by decide +kernel
theorem dX9_scoreOf_118 : decode cX9_scoreOf 118 = .ok (.iadd, 1) := by decide +kernel
theorem dX9_scoreOf_119 : decode cX9_scoreOf 119 = .ok (.iaload, 1) := by decide +kernel
theorem dX9_scoreOf_120 : decode cX9_scoreOf 120 = .ok (.aload_n 0, 1) := by decide +kernel
theorem dX9_scoreOf_121 : decode cX9_scoreOf 121 = .ok (.getfield 29, 3) := by decide +kernel
theorem dX9_scoreOf_124 : decode cX9_scoreOf 124 = .ok (.bipush 12, 2) := by decide +kernel
theorem dX9_scoreOf_126 : decode cX9_scoreOf 126 = .ok (.iload_n 2, 1) := by decide +kernel
theorem dX9_scoreOf_127 : decode cX9_scoreOf 127 = .ok (.imul, 1) := by decide +kernel
theorem dX9_scoreOf_128 : decode cX9_scoreOf 128 = .ok (.iload 7, 2) := by decide +kernel
theorem dX9_scoreOf_130 : decode cX9_scoreOf 130 = .ok (.iadd, 1) := by decide +kernel
theorem dX9_scoreOf_131 : decode cX9_scoreOf 131 = .ok (.iaload, 1) := by decide +kernel
theorem dX9_scoreOf_132 : decode cX9_scoreOf 132 = .ok (.aload_n 0, 1) := by decide +kernel
theorem dX9_scoreOf_133 : decode cX9_scoreOf 133 = .ok (.getfield 54, 3) := by decide +kernel
theorem dX9_scoreOf_136 : decode cX9_scoreOf 136 = .ok (.iconst 0, 1) := by decide +kernel
theorem dX9_scoreOf_137 : decode cX9_scoreOf 137 = .ok (.invokestatic 161, 3) := by decide +kernel
theorem dX9_scoreOf_140 : decode cX9_scoreOf 140 = .ok (.ifCond .eq 7, 3) := by decide +kernel
theorem dX9_scoreOf_143 : decode cX9_scoreOf 143 = .ok (.iconst 1, 1) := by decide +kernel
theorem dX9_scoreOf_144 : decode cX9_scoreOf 144 = .ok (.goto 4, 3) := by decide +kernel
theorem dX9_scoreOf_147 : decode cX9_scoreOf 147 = .ok (.iconst 0, 1) := by decide +kernel
theorem dX9_scoreOf_148 : decode cX9_scoreOf 148 = .ok (.iadd, 1) := by decide +kernel
theorem dX9_scoreOf_149 : decode cX9_scoreOf 149 = .ok (.istore 6, 2) := by decide +kernel
theorem dX9_scoreOf_151 : decode cX9_scoreOf 151 = .ok (.iinc 7 1, 3) := by decide +kernel
theorem dX9_scoreOf_154 : decode cX9_scoreOf 154 = .ok (.goto (-59), 3) := by decide +kernel
theorem dX9_scoreOf_157 : decode cX9_scoreOf 157 = .ok (.aload_n 0, 1) := by decide +kernel
theorem dX9_scoreOf_158 : decode cX9_scoreOf 158 = .ok (.iload 6, 2) := by decide +kernel
theorem dX9_scoreOf_160 : decode cX9_scoreOf 160 = .ok (.iconst 2, 1) := by decide +kernel
theorem dX9_scoreOf_161 : decode cX9_scoreOf 161 = .ok (.aload_n 0, 1) := by decide +kernel
theorem dX9_scoreOf_162 : decode cX9_scoreOf 162 = .ok (.getfield 158, 3) := by decide +kernel
theorem dX9_scoreOf_165 : decode cX9_scoreOf 165 = .ok (.imul, 1) := by decide +kernel
theorem dX9_scoreOf_166 : decode cX9_scoreOf 166 = .ok (.isub, 1) := by decide +kernel
theorem dX9_scoreOf_170 : decode cX9_scoreOf 170 = .ok (.iload 6, 2) := by decide +kernel
theorem dX9_scoreOf_172 : decode cX9_scoreOf 172 = .ok (.iconst 2, 1) := by decide +kernel
theorem dX9_scoreOf_173 : decode cX9_scoreOf 173 = .ok (.aload_n 0, 1) := by decide +kernel
theorem dX9_scoreOf_174 : decode cX9_scoreOf 174 = .ok (.getfield 158, 3) := by decide +kernel
theorem dX9_scoreOf_177 : decode cX9_scoreOf 177 = .ok (.imul, 1) := by decide +kernel
theorem dX9_scoreOf_178 : decode cX9_scoreOf 178 = .ok (.isub, 1) := by decide +kernel
theorem dX9_scoreOf_179 : decode cX9_scoreOf 179 = .ok (.goto 4, 3) := by decide +kernel
theorem dX9_scoreOf_182 : decode cX9_scoreOf 182 = .ok (.iconst 0, 1) := by decide +kernel
theorem dX9_scoreOf_183 : decode cX9_scoreOf 183 = .ok (.putfield 165, 3) := by decide +kernel
theorem dX9_scoreOf_186 : decode cX9_scoreOf 186 = .ok (.bipush 10, 2) := by decide +kernel
theorem dX9_scoreOf_188 : decode cX9_scoreOf 188 = .ok (.aload_n 0, 1) := by decide +kernel
theorem dX9_scoreOf_189 : decode cX9_scoreOf 189 = .ok (.getfield 158, 3) := by decide +kernel
theorem dX9_scoreOf_192 : decode cX9_scoreOf 192 = .ok (.imul, 1) := by decide +kernel
theorem dX9_scoreOf_193 : decode cX9_scoreOf 193 = .ok (.iconst 3, 1) := by decide +kernel
theorem dX9_scoreOf_194 : decode cX9_scoreOf 194 = .ok (.aload_n 0, 1) := by decide +kernel
theorem dX9_scoreOf_195 : decode cX9_scoreOf 195 = .ok (.getfield 165, 3) := by decide +kernel
theorem dX9_scoreOf_198 : decode cX9_scoreOf 198 = .ok (.imul, 1) := by decide +kernel
theorem dX9_scoreOf_199 : decode cX9_scoreOf 199 = .ok (.isub, 1) := by decide +kernel
noncomputable def vX9_scoreOf_1 (l2 : Int32) (l6 : Int32) (l7 : Int32) (σ : zc_N) : Int32 := (l6 + (if (rX9_liesIn_l σ ((σ 38) (((12 : Int32) * l2) + l7).toNatClampNeg) ((σ 39) (((12 : Int32) * l2) + l7).toNatClampNeg) (0 : Int32)) = (0 : Int32) then (0 : Int32) else (1 : Int32)))
noncomputable def fX9_scoreOf_95 (σ : zc_N) (l2 : Int32) (i_ : Nat) (a_ : Int32) : Int32 := (vX9_scoreOf_1 l2 a_ (nI i_) σ)
def qX9_scoreOf_95 (σ : zc_N) (l2 : Int32) (i_ : Nat) (a_ : Int32) : Prop := (vp_in (((12 : Int32) * l2) + (nI i_)) 288 ∧ (vp_in (((12 : Int32) * l2) + (nI i_)) 288 ∧ (pX9_liesIn_l σ ((σ 38) (((12 : Int32) * l2) + (nI i_)).toNatClampNeg) ((σ 39) (((12 : Int32) * l2) + (nI i_)).toNatClampNeg) (0 : Int32))))
def uX9_scoreOf_95 (l2 : Int32) (i_ : Nat) (a_ : Int32) : Prop := vp_in l2 24
set_option maxHeartbeats 2000000 in
theorem lpX9_scoreOf_95 {G : zc_G} {Q : Option Value → zc_H → Prop} (P : zp) (σ : zc_N) (l2 : Int32) (l6 : Int32) (n_ : Nat) (hC_ : ∀ i95_ : Nat, i95_ ≤ n_ → (((σ 37) l2.toNatClampNeg) ≤ (nI i95_) ↔ n_ ≤ i95_)) (W0_ : ∀ i95_ : Nat, i95_ ≤ n_ → uX9_scoreOf_95 l2 i95_ (zfor (fX9_scoreOf_95 σ l2) i95_ l6)) (W1_ : ∀ i95_ : Nat, i95_ < n_ → qX9_scoreOf_95 σ l2 i95_ (zfor (fX9_scoreOf_95 σ l2) i95_ l6))
    (W2_ : zz G mX9_scoreOf 15 0 0 Q 157 [some (.ref 32), none, none, none, none, none, some (.int (zfor (fX9_scoreOf_95 σ l2) n_ l6)), none] [] (hh P σ) 0 0) :
    zz G mX9_scoreOf 15 0 0 Q 95 [some (.ref 32), none, some (.int l2), none, none, none, some (.int l6), some (.int (nI 0))] [] (hh P σ) 0 0 := by
  refine zfor_nI (fun i_ a_ => zz G mX9_scoreOf 15 0 0 Q 95 [some (.ref 32), none, some (.int l2), none, none, none, some (.int a_), some (.int i_)] [] (hh P σ) 0 0) (fX9_scoreOf_95 σ l2) n_ l6 (fun i_ hi_ k_ => ?_) ?_
  · have Wa_ := W0_ i_ (Nat.le_of_lt hi_)
    have W3_ := W1_ i_ hi_
    have hD_ := hC_ i_ (Nat.le_of_lt hi_)
    generalize zfor (fX9_scoreOf_95 σ l2) i_ l6 = g_ at k_ W3_ hD_ Wa_ ⊢
    rw [fX9_scoreOf_95] at k_
    rw [qX9_scoreOf_95] at W3_
    try dsimp only at W3_
    rw [uX9_scoreOf_95] at Wa_
    try dsimp only at Wa_
    refine z_iload dX9_scoreOf_95 rfl ?_
    refine z_aloadr_n dX9_scoreOf_97 rfl ?_
    refine z_get (ci := 9) (r := (RX9, TX9, 38)) (j := 4) (v := .ref 37) dX9_scoreOf_98 (Nat.le_of_ble_eq_true rfl) (zN rfl) rfl rfl (Nat.le_of_ble_eq_true rfl) fl_X9_23 rfl ?_
    refine z_iload_n dX9_scoreOf_101 rfl ?_
    refine z_iald (v := ((σ 37) l2.toNatClampNeg)) dX9_scoreOf_102 (zN rfl) rfl Wa_ rfl ?_
    refine z_icmp_ge (tgt := 157) dX9_scoreOf_103 (by decide) (fun c_ => absurd c_ (fun q_ => Nat.not_le_of_lt hi_ (hD_.mp q_))) (fun c_ => ?_)
    refine z_iload dX9_scoreOf_106 rfl ?_
    refine z_aloadr_n dX9_scoreOf_108 rfl ?_
    refine z_get (ci := 9) (r := (RX9, TX9, 38)) (j := 5) (v := .ref 38) dX9_scoreOf_109 (Nat.le_of_ble_eq_true rfl) (zN rfl) rfl rfl (Nat.le_of_ble_eq_true rfl) fl_X9_26 rfl ?_
    refine z_bipush dX9_scoreOf_112 k_bipush_12 ?_
    refine z_iload_n dX9_scoreOf_114 rfl ?_
    refine z_imul (v := ((12 : Int32) * l2)) dX9_scoreOf_115 rfl ?_
    refine z_iload dX9_scoreOf_116 rfl ?_
    refine z_iadd (v := (((12 : Int32) * l2) + (nI i_))) dX9_scoreOf_118 rfl ?_
    refine z_iald (v := ((σ 38) (((12 : Int32) * l2) + (nI i_)).toNatClampNeg)) dX9_scoreOf_119 (zN rfl) rfl W3_.1 rfl ?_
    refine z_aloadr_n dX9_scoreOf_120 rfl ?_
    refine z_get (ci := 9) (r := (RX9, TX9, 38)) (j := 6) (v := .ref 39) dX9_scoreOf_121 (Nat.le_of_ble_eq_true rfl) (zN rfl) rfl rfl (Nat.le_of_ble_eq_true rfl) fl_X9_29 rfl ?_
    refine z_bipush dX9_scoreOf_124 k_bipush_12 ?_
    refine z_iload_n dX9_scoreOf_126 rfl ?_
    refine z_imul (v := ((12 : Int32) * l2)) dX9_scoreOf_127 rfl ?_
    refine z_iload dX9_scoreOf_128 rfl ?_
    refine z_iadd (v := (((12 : Int32) * l2) + (nI i_))) dX9_scoreOf_130 rfl ?_
    refine z_iald (v := ((σ 39) (((12 : Int32) * l2) + (nI i_)).toNatClampNeg)) dX9_scoreOf_131 (zN rfl) rfl W3_.2.1 rfl ?_
    refine z_aloadr_n dX9_scoreOf_132 rfl ?_
    refine z_get (ci := 9) (r := (RX9, TX9, 38)) (j := 15) (v := .ref 46) dX9_scoreOf_133 (Nat.le_of_ble_eq_true rfl) (zN rfl) rfl rfl (Nat.le_of_ble_eq_true rfl) fl_X9_54 rfl ?_
    refine z_iconst dX9_scoreOf_136 k_iconst_0 ?_
    refine z_callS (As := [.int ((σ 38) (((12 : Int32) * l2) + (nI i_)).toNatClampNeg), .int ((σ 39) (((12 : Int32) * l2) + (nI i_)).toNatClampNeg), .ref 46, .int (0 : Int32)]) (rest := [.int g_]) (ctX9_liesIn_l P σ ((σ 38) (((12 : Int32) * l2) + (nI i_)).toNatClampNeg) ((σ 39) (((12 : Int32) * l2) + (nI i_)).toNatClampNeg) (0 : Int32) W3_.2.2) dX9_scoreOf_137 lk_X9_161 ls_X9_liesIn rfl (Nat.le_of_ble_eq_true rfl) (Nat.le_of_ble_eq_true rfl) (Nat.le_of_ble_eq_true rfl) (Nat.le_of_ble_eq_true rfl) (fun r_ h_ e_ => ?_)
    obtain ⟨e1_, e2_⟩ := e_
    subst e1_
    subst e2_
    show zz G mX9_scoreOf 15 0 0 Q 140 [some (.ref 32), none, some (.int l2), none, none, none, some (.int g_), some (.int (nI i_))] [.int (rX9_liesIn_l σ ((σ 38) (((12 : Int32) * l2) + (nI i_)).toNatClampNeg) ((σ 39) (((12 : Int32) * l2) + (nI i_)).toNatClampNeg) (0 : Int32)), .int g_] (hh P σ) 0 0
    have K_1 : zz G mX9_scoreOf 15 0 0 Q 148 [some (.ref 32), none, some (.int l2), none, none, none, none, some (.int (nI i_))] [.int (if (rX9_liesIn_l σ ((σ 38) (((12 : Int32) * l2) + (nI i_)).toNatClampNeg) ((σ 39) (((12 : Int32) * l2) + (nI i_)).toNatClampNeg) (0 : Int32)) = (0 : Int32) then (0 : Int32) else (1 : Int32)), .int g_] (hh P σ) 0 0 := by
      refine z_iadd (v := (g_ + (if (rX9_liesIn_l σ ((σ 38) (((12 : Int32) * l2) + (nI i_)).toNatClampNeg) ((σ 39) (((12 : Int32) * l2) + (nI i_)).toNatClampNeg) (0 : Int32)) = (0 : Int32) then (0 : Int32) else (1 : Int32)))) dX9_scoreOf_148 rfl ?_
      refine z_istore (lv' := [some (.ref 32), none, some (.int l2), none, none, none, some (.int (vX9_scoreOf_1 l2 g_ (nI i_) σ)), some (.int (nI i_))]) dX9_scoreOf_149 (Nat.le_of_ble_eq_true rfl) rfl ?_
      refine z_iinc (v := ((nI i_) + (1 : Int32))) (lv' := [some (.ref 32), none, some (.int l2), none, none, none, some (.int (vX9_scoreOf_1 l2 g_ (nI i_) σ)), some (.int ((nI i_) + (1 : Int32)))]) dX9_scoreOf_151 (Nat.le_of_ble_eq_true rfl) rfl (by rw [k_iconst_1]) rfl ?_
      refine z_goto (tgt := 95) dX9_scoreOf_154 (by decide) ?_
      rw [nI_1]
      exact k_
    refine z_if_eq (tgt := 147) dX9_scoreOf_140 (by decide) (fun c_3 => ?_) (fun c_3 => ?_)
    · refine z_iconst dX9_scoreOf_147 k_iconst_0 ?_
      refine zz_sub (lv' := [some (.ref 32), none, some (.int l2), none, none, none, none, some (.int (nI i_))]) ⟨rfl, ⟨rfl, ⟨rfl, trivial⟩⟩⟩ ?_
      rw [show (if (rX9_liesIn_l σ ((σ 38) (((12 : Int32) * l2) + (nI i_)).toNatClampNeg) ((σ 39) (((12 : Int32) * l2) + (nI i_)).toNatClampNeg) (0 : Int32)) = (0 : Int32) then (0 : Int32) else (1 : Int32)) = (0 : Int32) from (if_pos c_3)] at K_1
      exact K_1
    · refine z_iconst dX9_scoreOf_143 k_iconst_1 ?_
      refine z_goto (tgt := 148) dX9_scoreOf_144 (by decide) ?_
      refine zz_sub (lv' := [some (.ref 32), none, some (.int l2), none, none, none, none, some (.int (nI i_))]) ⟨rfl, ⟨rfl, ⟨rfl, trivial⟩⟩⟩ ?_
      rw [show (if (rX9_liesIn_l σ ((σ 38) (((12 : Int32) * l2) + (nI i_)).toNatClampNeg) ((σ 39) (((12 : Int32) * l2) + (nI i_)).toNatClampNeg) (0 : Int32)) = (0 : Int32) then (0 : Int32) else (1 : Int32)) = (1 : Int32) from (if_neg c_3)] at K_1
      exact K_1
  · have hD_ := hC_ n_ (Nat.le_refl _)
    have Wa_ := W0_ n_ (Nat.le_refl _)
    generalize zfor (fX9_scoreOf_95 σ l2) n_ l6 = g_ at W2_ hD_ Wa_ ⊢
    rw [uX9_scoreOf_95] at Wa_
    try dsimp only at Wa_
    refine z_iload dX9_scoreOf_95 rfl ?_
    refine z_aloadr_n dX9_scoreOf_97 rfl ?_
    refine z_get (ci := 9) (r := (RX9, TX9, 38)) (j := 4) (v := .ref 37) dX9_scoreOf_98 (Nat.le_of_ble_eq_true rfl) (zN rfl) rfl rfl (Nat.le_of_ble_eq_true rfl) fl_X9_23 rfl ?_
    refine z_iload_n dX9_scoreOf_101 rfl ?_
    refine z_iald (v := ((σ 37) l2.toNatClampNeg)) dX9_scoreOf_102 (zN rfl) rfl Wa_ rfl ?_
    refine z_icmp_ge (tgt := 157) dX9_scoreOf_103 (by decide) (fun c_ => ?_) (fun c_ => absurd (hD_.mpr (Nat.le_refl _)) c_)
    exact zz_sub (lv' := [some (.ref 32), none, none, none, none, none, some (.int g_), none]) ⟨rfl, ⟨rfl, trivial⟩⟩ W2_

theorem dX9_scoreOf_38 : decode cX9_scoreOf 38 = .ok (.iload 7, 2) := by decide +kernel
theorem dX9_scoreOf_40 : decode cX9_scoreOf 40 = .ok (.aload_n 0, 1) := by decide +kernel
theorem dX9_scoreOf_41 : decode cX9_scoreOf 41 = .ok (.getfield 23, 3) := by decide +kernel
theorem dX9_scoreOf_44 : decode cX9_scoreOf 44 = .ok (.iload_n 1, 1) := by decide +kernel
theorem dX9_scoreOf_45 : decode cX9_scoreOf 45 = .ok (.iaload, 1) := by decide +kernel
theorem dX9_scoreOf_46 : decode cX9_scoreOf 46 = .ok (.if_icmp .ge 46, 3) := by decide +kernel
theorem dX9_scoreOf_49 : decode cX9_scoreOf 49 = .ok (.iload 6, 2) := by decide +kernel
theorem dX9_scoreOf_51 : decode cX9_scoreOf 51 = .ok (.aload_n 0, 1) := by decide +kernel
theorem dX9_scoreOf_52 : decode cX9_scoreOf 52 = .ok (.getfield 48, 3) := by decide +kernel
theorem dX9_scoreOf_55 : decode cX9_scoreOf 55 = .ok (.iload 7, 2) := by decide +kernel
theorem dX9_scoreOf_57 : decode cX9_scoreOf 57 = .ok (.iaload, 1) := by decide +kernel
theorem dX9_scoreOf_58 : decode cX9_scoreOf 58 = .ok (.aload_n 0, 1) := by decide +kernel
theorem dX9_scoreOf_59 : decode cX9_scoreOf 59 = .ok (.getfield 51, 3) := by decide +kernel
theorem dX9_scoreOf_62 : decode cX9_scoreOf 62 = .ok (.iload 7, 2) := by decide +kernel
theorem dX9_scoreOf_64 : decode cX9_scoreOf 64 = .ok (.iaload, 1) := by decide +kernel
theorem dX9_scoreOf_65 : decode cX9_scoreOf 65 = .ok (.aload_n 0, 1) := by decide +kernel
theorem dX9_scoreOf_66 : decode cX9_scoreOf 66 = .ok (.getfield 35, 3) := by decide +kernel
theorem dX9_scoreOf_69 : decode cX9_scoreOf 69 = .ok (.iconst 4, 1) := by decide +kernel
theorem dX9_scoreOf_70 : decode cX9_scoreOf 70 = .ok (.iload_n 2, 1) := by decide +kernel
theorem dX9_scoreOf_71 : decode cX9_scoreOf 71 = .ok (.imul, 1) := by decide +kernel
theorem dX9_scoreOf_72 : decode cX9_scoreOf 72 = .ok (.invokestatic 161, 3) := by decide +kernel
theorem dX9_scoreOf_75 : decode cX9_scoreOf 75 = .ok (.ifCond .eq 7, 3) := by decide +kernel
theorem dX9_scoreOf_78 : decode cX9_scoreOf 78 = .ok (.iconst 1, 1) := by decide +kernel
theorem dX9_scoreOf_79 : decode cX9_scoreOf 79 = .ok (.goto 4, 3) := by decide +kernel
theorem dX9_scoreOf_82 : decode cX9_scoreOf 82 = .ok (.iconst 0, 1) := by decide +kernel
theorem dX9_scoreOf_83 : decode cX9_scoreOf 83 = .ok (.iadd, 1) := by decide +kernel
theorem dX9_scoreOf_84 : decode cX9_scoreOf 84 = .ok (.istore 6, 2) := by decide +kernel
theorem dX9_scoreOf_86 : decode cX9_scoreOf 86 = .ok (.iinc 7 1, 3) := by decide +kernel
theorem dX9_scoreOf_89 : decode cX9_scoreOf 89 = .ok (.goto (-51), 3) := by decide +kernel
theorem dX9_scoreOf_92 : decode cX9_scoreOf 92 = .ok (.iconst 0, 1) := by decide +kernel
theorem dX9_scoreOf_93 : decode cX9_scoreOf 93 = .ok (.istore 7, 2) := by decide +kernel
noncomputable def vX9_scoreOf_2 (l2 : Int32) (l6 : Int32) (l7 : Int32) (σ : zc_N) : Int32 := (l6 + (if (rX9_liesIn_s σ ((σ 44) l7.toNatClampNeg) ((σ 45) l7.toNatClampNeg) ((4 : Int32) * l2)) = (0 : Int32) then (0 : Int32) else (1 : Int32)))
noncomputable def fX9_scoreOf_38 (σ : zc_N) (l2 : Int32) (i_ : Nat) (a_ : Int32) : Int32 := (vX9_scoreOf_2 l2 a_ (nI i_) σ)
def qX9_scoreOf_38 (σ : zc_N) (l2 : Int32) (i_ : Nat) (a_ : Int32) : Prop := (vp_in (nI i_) 12 ∧ (vp_in (nI i_) 12 ∧ (pX9_liesIn_s σ ((σ 44) (nI i_).toNatClampNeg) ((σ 45) (nI i_).toNatClampNeg) ((4 : Int32) * l2))))
def uX9_scoreOf_38 (l1 : Int32) (i_ : Nat) (a_ : Int32) : Prop := vp_in l1 24
set_option maxHeartbeats 2000000 in
theorem lpX9_scoreOf_38 {G : zc_G} {Q : Option Value → zc_H → Prop} (P : zp) (σ : zc_N) (l1 : Int32) (l2 : Int32) (l6 : Int32) (n_ : Nat) (hC_ : ∀ i38_ : Nat, i38_ ≤ n_ → (((σ 37) l1.toNatClampNeg) ≤ (nI i38_) ↔ n_ ≤ i38_)) (W0_ : ∀ i38_ : Nat, i38_ ≤ n_ → uX9_scoreOf_38 l1 i38_ (zfor (fX9_scoreOf_38 σ l2) i38_ l6)) (W1_ : ∀ i38_ : Nat, i38_ < n_ → qX9_scoreOf_38 σ l2 i38_ (zfor (fX9_scoreOf_38 σ l2) i38_ l6))
    (W2_ : zz G mX9_scoreOf 15 0 0 Q 92 [some (.ref 32), none, some (.int l2), none, none, none, some (.int (zfor (fX9_scoreOf_38 σ l2) n_ l6)), none] [] (hh P σ) 0 0) :
    zz G mX9_scoreOf 15 0 0 Q 38 [some (.ref 32), some (.int l1), some (.int l2), none, none, none, some (.int l6), some (.int (nI 0))] [] (hh P σ) 0 0 := by
  refine zfor_nI (fun i_ a_ => zz G mX9_scoreOf 15 0 0 Q 38 [some (.ref 32), some (.int l1), some (.int l2), none, none, none, some (.int a_), some (.int i_)] [] (hh P σ) 0 0) (fX9_scoreOf_38 σ l2) n_ l6 (fun i_ hi_ k_ => ?_) ?_
  · have Wa_ := W0_ i_ (Nat.le_of_lt hi_)
    have W3_ := W1_ i_ hi_
    have hD_ := hC_ i_ (Nat.le_of_lt hi_)
    generalize zfor (fX9_scoreOf_38 σ l2) i_ l6 = g_ at k_ W3_ hD_ Wa_ ⊢
    rw [fX9_scoreOf_38] at k_
    rw [qX9_scoreOf_38] at W3_
    try dsimp only at W3_
    rw [uX9_scoreOf_38] at Wa_
    try dsimp only at Wa_
    refine z_iload dX9_scoreOf_38 rfl ?_
    refine z_aloadr_n dX9_scoreOf_40 rfl ?_
    refine z_get (ci := 9) (r := (RX9, TX9, 38)) (j := 4) (v := .ref 37) dX9_scoreOf_41 (Nat.le_of_ble_eq_true rfl) (zN rfl) rfl rfl (Nat.le_of_ble_eq_true rfl) fl_X9_23 rfl ?_
    refine z_iload_n dX9_scoreOf_44 rfl ?_
    refine z_iald (v := ((σ 37) l1.toNatClampNeg)) dX9_scoreOf_45 (zN rfl) rfl Wa_ rfl ?_
    refine z_icmp_ge (tgt := 92) dX9_scoreOf_46 (by decide) (fun c_ => absurd c_ (fun q_ => Nat.not_le_of_lt hi_ (hD_.mp q_))) (fun c_ => ?_)
    refine z_iload dX9_scoreOf_49 rfl ?_
    refine z_aloadr_n dX9_scoreOf_51 rfl ?_
    refine z_get (ci := 9) (r := (RX9, TX9, 38)) (j := 13) (v := .ref 44) dX9_scoreOf_52 (Nat.le_of_ble_eq_true rfl) (zN rfl) rfl rfl (Nat.le_of_ble_eq_true rfl) fl_X9_48 rfl ?_
    refine z_iload dX9_scoreOf_55 rfl ?_
    refine z_iald (v := ((σ 44) (nI i_).toNatClampNeg)) dX9_scoreOf_57 (zN rfl) rfl W3_.1 rfl ?_
    refine z_aloadr_n dX9_scoreOf_58 rfl ?_
    refine z_get (ci := 9) (r := (RX9, TX9, 38)) (j := 14) (v := .ref 45) dX9_scoreOf_59 (Nat.le_of_ble_eq_true rfl) (zN rfl) rfl rfl (Nat.le_of_ble_eq_true rfl) fl_X9_51 rfl ?_
    refine z_iload dX9_scoreOf_62 rfl ?_
    refine z_iald (v := ((σ 45) (nI i_).toNatClampNeg)) dX9_scoreOf_64 (zN rfl) rfl W3_.2.1 rfl ?_
    refine z_aloadr_n dX9_scoreOf_65 rfl ?_
    refine z_get (ci := 9) (r := (RX9, TX9, 38)) (j := 8) (v := .ref 41) dX9_scoreOf_66 (Nat.le_of_ble_eq_true rfl) (zN rfl) rfl rfl (Nat.le_of_ble_eq_true rfl) fl_X9_35 rfl ?_
    refine z_iconst dX9_scoreOf_69 k_iconst_4 ?_
    refine z_iload_n dX9_scoreOf_70 rfl ?_
    refine z_imul (v := ((4 : Int32) * l2)) dX9_scoreOf_71 rfl ?_
    refine z_callS (As := [.int ((σ 44) (nI i_).toNatClampNeg), .int ((σ 45) (nI i_).toNatClampNeg), .ref 41, .int ((4 : Int32) * l2)]) (rest := [.int g_]) (ctX9_liesIn_s P σ ((σ 44) (nI i_).toNatClampNeg) ((σ 45) (nI i_).toNatClampNeg) ((4 : Int32) * l2) W3_.2.2) dX9_scoreOf_72 lk_X9_161 ls_X9_liesIn rfl (Nat.le_of_ble_eq_true rfl) (Nat.le_of_ble_eq_true rfl) (Nat.le_of_ble_eq_true rfl) (Nat.le_of_ble_eq_true rfl) (fun r_ h_ e_ => ?_)
    obtain ⟨e1_, e2_⟩ := e_
    subst e1_
    subst e2_
    show zz G mX9_scoreOf 15 0 0 Q 75 [some (.ref 32), some (.int l1), some (.int l2), none, none, none, some (.int g_), some (.int (nI i_))] [.int (rX9_liesIn_s σ ((σ 44) (nI i_).toNatClampNeg) ((σ 45) (nI i_).toNatClampNeg) ((4 : Int32) * l2)), .int g_] (hh P σ) 0 0
    have K_1 : zz G mX9_scoreOf 15 0 0 Q 83 [some (.ref 32), some (.int l1), some (.int l2), none, none, none, none, some (.int (nI i_))] [.int (if (rX9_liesIn_s σ ((σ 44) (nI i_).toNatClampNeg) ((σ 45) (nI i_).toNatClampNeg) ((4 : Int32) * l2)) = (0 : Int32) then (0 : Int32) else (1 : Int32)), .int g_] (hh P σ) 0 0 := by
      refine z_iadd (v := (g_ + (if (rX9_liesIn_s σ ((σ 44) (nI i_).toNatClampNeg) ((σ 45) (nI i_).toNatClampNeg) ((4 : Int32) * l2)) = (0 : Int32) then (0 : Int32) else (1 : Int32)))) dX9_scoreOf_83 rfl ?_
      refine z_istore (lv' := [some (.ref 32), some (.int l1), some (.int l2), none, none, none, some (.int (vX9_scoreOf_2 l2 g_ (nI i_) σ)), some (.int (nI i_))]) dX9_scoreOf_84 (Nat.le_of_ble_eq_true rfl) rfl ?_
      refine z_iinc (v := ((nI i_) + (1 : Int32))) (lv' := [some (.ref 32), some (.int l1), some (.int l2), none, none, none, some (.int (vX9_scoreOf_2 l2 g_ (nI i_) σ)), some (.int ((nI i_) + (1 : Int32)))]) dX9_scoreOf_86 (Nat.le_of_ble_eq_true rfl) rfl (by rw [k_iconst_1]) rfl ?_
      refine z_goto (tgt := 38) dX9_scoreOf_89 (by decide) ?_
      rw [nI_1]
      exact k_
    refine z_if_eq (tgt := 82) dX9_scoreOf_75 (by decide) (fun c_3 => ?_) (fun c_3 => ?_)
    · refine z_iconst dX9_scoreOf_82 k_iconst_0 ?_
      refine zz_sub (lv' := [some (.ref 32), some (.int l1), some (.int l2), none, none, none, none, some (.int (nI i_))]) ⟨rfl, ⟨rfl, ⟨rfl, ⟨rfl, trivial⟩⟩⟩⟩ ?_
      rw [show (if (rX9_liesIn_s σ ((σ 44) (nI i_).toNatClampNeg) ((σ 45) (nI i_).toNatClampNeg) ((4 : Int32) * l2)) = (0 : Int32) then (0 : Int32) else (1 : Int32)) = (0 : Int32) from (if_pos c_3)] at K_1
      exact K_1
    · refine z_iconst dX9_scoreOf_78 k_iconst_1 ?_
      refine z_goto (tgt := 83) dX9_scoreOf_79 (by decide) ?_
      refine zz_sub (lv' := [some (.ref 32), some (.int l1), some (.int l2), none, none, none, none, some (.int (nI i_))]) ⟨rfl, ⟨rfl, ⟨rfl, ⟨rfl, trivial⟩⟩⟩⟩ ?_
      rw [show (if (rX9_liesIn_s σ ((σ 44) (nI i_).toNatClampNeg) ((σ 45) (nI i_).toNatClampNeg) ((4 : Int32) * l2)) = (0 : Int32) then (0 : Int32) else (1 : Int32)) = (1 : Int32) from (if_neg c_3)] at K_1
      exact K_1
  · have hD_ := hC_ n_ (Nat.le_refl _)
    have Wa_ := W0_ n_ (Nat.le_refl _)
    generalize zfor (fX9_scoreOf_38 σ l2) n_ l6 = g_ at W2_ hD_ Wa_ ⊢
    rw [uX9_scoreOf_38] at Wa_
    try dsimp only at Wa_
    refine z_iload dX9_scoreOf_38 rfl ?_
    refine z_aloadr_n dX9_scoreOf_40 rfl ?_
    refine z_get (ci := 9) (r := (RX9, TX9, 38)) (j := 4) (v := .ref 37) dX9_scoreOf_41 (Nat.le_of_ble_eq_true rfl) (zN rfl) rfl rfl (Nat.le_of_ble_eq_true rfl) fl_X9_23 rfl ?_
    refine z_iload_n dX9_scoreOf_44 rfl ?_
    refine z_iald (v := ((σ 37) l1.toNatClampNeg)) dX9_scoreOf_45 (zN rfl) rfl Wa_ rfl ?_
    refine z_icmp_ge (tgt := 92) dX9_scoreOf_46 (by decide) (fun c_ => ?_) (fun c_ => absurd (hD_.mpr (Nat.le_refl _)) c_)
    exact zz_sub (lv' := [some (.ref 32), none, some (.int l2), none, none, none, some (.int g_), none]) ⟨rfl, ⟨rfl, ⟨rfl, trivial⟩⟩⟩ W2_

theorem dX9_scoreOf_0 : decode cX9_scoreOf 0 = .ok (.aload_n 0, 1) := by decide +kernel
theorem dX9_scoreOf_1 : decode cX9_scoreOf 1 = .ok (.iload_n 1, 1) := by decide +kernel
theorem dX9_scoreOf_2 : decode cX9_scoreOf 2 = .ok (.iload_n 2, 1) := by decide +kernel
theorem dX9_scoreOf_3 : decode cX9_scoreOf 3 = .ok (.iload_n 3, 1) := by decide +kernel
theorem dX9_scoreOf_4 : decode cX9_scoreOf 4 = .ok (.iload 4, 2) := by decide +kernel
theorem dX9_scoreOf_6 : decode cX9_scoreOf 6 = .ok (.iload 5, 2) := by decide +kernel
theorem dX9_scoreOf_8 : decode cX9_scoreOf 8 = .ok (.invokevirtual 151, 3) := by decide +kernel
theorem dX9_scoreOf_11 : decode cX9_scoreOf 11 = .ok (.aload_n 0, 1) := by decide +kernel
theorem dX9_scoreOf_12 : decode cX9_scoreOf 12 = .ok (.aload_n 0, 1) := by decide +kernel
theorem dX9_scoreOf_13 : decode cX9_scoreOf 13 = .ok (.iconst 0, 1) := by decide +kernel
theorem dX9_scoreOf_14 : decode cX9_scoreOf 14 = .ok (.aload_n 0, 1) := by decide +kernel
theorem dX9_scoreOf_15 : decode cX9_scoreOf 15 = .ok (.getfield 23, 3) := by decide +kernel
theorem dX9_scoreOf_18 : decode cX9_scoreOf 18 = .ok (.iload_n 1, 1) := by decide +kernel
theorem dX9_scoreOf_19 : decode cX9_scoreOf 19 = .ok (.iaload, 1) := by decide +kernel
theorem dX9_scoreOf_20 : decode cX9_scoreOf 20 = .ok (.aload_n 0, 1) := by decide +kernel
theorem dX9_scoreOf_21 : decode cX9_scoreOf 21 = .ok (.getfield 23, 3) := by decide +kernel
theorem dX9_scoreOf_24 : decode cX9_scoreOf 24 = .ok (.iload_n 2, 1) := by decide +kernel
theorem dX9_scoreOf_25 : decode cX9_scoreOf 25 = .ok (.iaload, 1) := by decide +kernel
theorem dX9_scoreOf_26 : decode cX9_scoreOf 26 = .ok (.invokevirtual 155, 3) := by decide +kernel
theorem dX9_scoreOf_29 : decode cX9_scoreOf 29 = .ok (.putfield 158, 3) := by decide +kernel
theorem dX9_scoreOf_32 : decode cX9_scoreOf 32 = .ok (.iconst 0, 1) := by decide +kernel
theorem dX9_scoreOf_33 : decode cX9_scoreOf 33 = .ok (.istore 6, 2) := by decide +kernel
theorem dX9_scoreOf_35 : decode cX9_scoreOf 35 = .ok (.iconst 0, 1) := by decide +kernel
theorem dX9_scoreOf_36 : decode cX9_scoreOf 36 = .ok (.istore 7, 2) := by decide +kernel
theorem dX9_scoreOf_167 : decode cX9_scoreOf 167 = .ok (.ifCond .le 15, 3) := by decide +kernel
theorem dX9_scoreOf_200 : decode cX9_scoreOf 200 = .ok (.ireturn, 1) := by decide +kernel
noncomputable def vX9_scoreOf_3 (a1 : Int32) (a2 : Int32) (a3 : Int32) (a4 : Int32) (a5 : Int32) (σ : zc_N) : zc_N := (sX9_mostPairs (sX9_layOut σ a1 a2 a3 a4 a5) (0 : Int32) (((sX9_layOut σ a1 a2 a3 a4 a5) 37) a1.toNatClampNeg) (((sX9_layOut σ a1 a2 a3 a4 a5) 37) a2.toNatClampNeg))
noncomputable def vX9_scoreOf_4 (a1 : Int32) (a2 : Int32) (a3 : Int32) (a4 : Int32) (a5 : Int32) (σ : zc_N) : Int32 := (zfor (fX9_scoreOf_38 (zu (vX9_scoreOf_3 a1 a2 a3 a4 a5 σ) 32 (zu ((vX9_scoreOf_3 a1 a2 a3 a4 a5 σ) 32) 20 (rX9_mostPairs (sX9_layOut σ a1 a2 a3 a4 a5) (0 : Int32) (((sX9_layOut σ a1 a2 a3 a4 a5) 37) a1.toNatClampNeg) (((sX9_layOut σ a1 a2 a3 a4 a5) 37) a2.toNatClampNeg)))) a2) (((((zu (vX9_scoreOf_3 a1 a2 a3 a4 a5 σ) 32 (zu ((vX9_scoreOf_3 a1 a2 a3 a4 a5 σ) 32) 20 (rX9_mostPairs (sX9_layOut σ a1 a2 a3 a4 a5) (0 : Int32) (((sX9_layOut σ a1 a2 a3 a4 a5) 37) a1.toNatClampNeg) (((sX9_layOut σ a1 a2 a3 a4 a5) 37) a2.toNatClampNeg)))) 37) a1.toNatClampNeg)).toNatClampNeg) (0 : Int32))
noncomputable def vX9_scoreOf_5 (a1 : Int32) (a2 : Int32) (a3 : Int32) (a4 : Int32) (a5 : Int32) (σ : zc_N) : Int32 := (zfor (fX9_scoreOf_95 (zu (vX9_scoreOf_3 a1 a2 a3 a4 a5 σ) 32 (zu ((vX9_scoreOf_3 a1 a2 a3 a4 a5 σ) 32) 20 (rX9_mostPairs (sX9_layOut σ a1 a2 a3 a4 a5) (0 : Int32) (((sX9_layOut σ a1 a2 a3 a4 a5) 37) a1.toNatClampNeg) (((sX9_layOut σ a1 a2 a3 a4 a5) 37) a2.toNatClampNeg)))) a2) (((((zu (vX9_scoreOf_3 a1 a2 a3 a4 a5 σ) 32 (zu ((vX9_scoreOf_3 a1 a2 a3 a4 a5 σ) 32) 20 (rX9_mostPairs (sX9_layOut σ a1 a2 a3 a4 a5) (0 : Int32) (((sX9_layOut σ a1 a2 a3 a4 a5) 37) a1.toNatClampNeg) (((sX9_layOut σ a1 a2 a3 a4 a5) 37) a2.toNatClampNeg)))) 37) a2.toNatClampNeg)).toNatClampNeg) (vX9_scoreOf_4 a1 a2 a3 a4 a5 σ))
noncomputable def vX9_scoreOf_6 (a1 : Int32) (a2 : Int32) (a3 : Int32) (a4 : Int32) (a5 : Int32) (σ : zc_N) : zc_N := (zu (vX9_scoreOf_3 a1 a2 a3 a4 a5 σ) 32 (zu (zu ((vX9_scoreOf_3 a1 a2 a3 a4 a5 σ) 32) 20 (rX9_mostPairs (sX9_layOut σ a1 a2 a3 a4 a5) (0 : Int32) (((sX9_layOut σ a1 a2 a3 a4 a5) 37) a1.toNatClampNeg) (((sX9_layOut σ a1 a2 a3 a4 a5) 37) a2.toNatClampNeg))) 21 (if ((vX9_scoreOf_5 a1 a2 a3 a4 a5 σ) - ((2 : Int32) * ((zu ((vX9_scoreOf_3 a1 a2 a3 a4 a5 σ) 32) 20 (rX9_mostPairs (sX9_layOut σ a1 a2 a3 a4 a5) (0 : Int32) (((sX9_layOut σ a1 a2 a3 a4 a5) 37) a1.toNatClampNeg) (((sX9_layOut σ a1 a2 a3 a4 a5) 37) a2.toNatClampNeg))) 20))) ≤ (0 : Int32) then (0 : Int32) else ((vX9_scoreOf_5 a1 a2 a3 a4 a5 σ) - ((2 : Int32) * ((zu ((vX9_scoreOf_3 a1 a2 a3 a4 a5 σ) 32) 20 (rX9_mostPairs (sX9_layOut σ a1 a2 a3 a4 a5) (0 : Int32) (((sX9_layOut σ a1 a2 a3 a4 a5) 37) a1.toNatClampNeg) (((sX9_layOut σ a1 a2 a3 a4 a5) 37) a2.toNatClampNeg))) 20))))))
def pX9_scoreOf (σ : zc_N) (a1 : Int32) (a2 : Int32) (a3 : Int32) (a4 : Int32) (a5 : Int32) : Prop := ((pX9_layOut σ a1 a2 a3 a4 a5) ∧ (vp_in a1 24 ∧ (vp_in a2 24 ∧ ((pX9_mostPairs (sX9_layOut σ a1 a2 a3 a4 a5) (0 : Int32) (((sX9_layOut σ a1 a2 a3 a4 a5) 37) a1.toNatClampNeg) (((sX9_layOut σ a1 a2 a3 a4 a5) 37) a2.toNatClampNeg)) ∧ (((∀ i38_ : Nat, i38_ ≤ (((((zu (vX9_scoreOf_3 a1 a2 a3 a4 a5 σ) 32 (zu ((vX9_scoreOf_3 a1 a2 a3 a4 a5 σ) 32) 20 (rX9_mostPairs (sX9_layOut σ a1 a2 a3 a4 a5) (0 : Int32) (((sX9_layOut σ a1 a2 a3 a4 a5) 37) a1.toNatClampNeg) (((sX9_layOut σ a1 a2 a3 a4 a5) 37) a2.toNatClampNeg)))) 37) a1.toNatClampNeg)).toNatClampNeg) → ((((zu (vX9_scoreOf_3 a1 a2 a3 a4 a5 σ) 32 (zu ((vX9_scoreOf_3 a1 a2 a3 a4 a5 σ) 32) 20 (rX9_mostPairs (sX9_layOut σ a1 a2 a3 a4 a5) (0 : Int32) (((sX9_layOut σ a1 a2 a3 a4 a5) 37) a1.toNatClampNeg) (((sX9_layOut σ a1 a2 a3 a4 a5) 37) a2.toNatClampNeg)))) 37) a1.toNatClampNeg) ≤ (nI i38_) ↔ (((((zu (vX9_scoreOf_3 a1 a2 a3 a4 a5 σ) 32 (zu ((vX9_scoreOf_3 a1 a2 a3 a4 a5 σ) 32) 20 (rX9_mostPairs (sX9_layOut σ a1 a2 a3 a4 a5) (0 : Int32) (((sX9_layOut σ a1 a2 a3 a4 a5) 37) a1.toNatClampNeg) (((sX9_layOut σ a1 a2 a3 a4 a5) 37) a2.toNatClampNeg)))) 37) a1.toNatClampNeg)).toNatClampNeg) ≤ i38_)) ∧ ((∀ i38_ : Nat, i38_ ≤ (((((zu (vX9_scoreOf_3 a1 a2 a3 a4 a5 σ) 32 (zu ((vX9_scoreOf_3 a1 a2 a3 a4 a5 σ) 32) 20 (rX9_mostPairs (sX9_layOut σ a1 a2 a3 a4 a5) (0 : Int32) (((sX9_layOut σ a1 a2 a3 a4 a5) 37) a1.toNatClampNeg) (((sX9_layOut σ a1 a2 a3 a4 a5) 37) a2.toNatClampNeg)))) 37) a1.toNatClampNeg)).toNatClampNeg) → uX9_scoreOf_38 a1 i38_ (zfor (fX9_scoreOf_38 (zu (vX9_scoreOf_3 a1 a2 a3 a4 a5 σ) 32 (zu ((vX9_scoreOf_3 a1 a2 a3 a4 a5 σ) 32) 20 (rX9_mostPairs (sX9_layOut σ a1 a2 a3 a4 a5) (0 : Int32) (((sX9_layOut σ a1 a2 a3 a4 a5) 37) a1.toNatClampNeg) (((sX9_layOut σ a1 a2 a3 a4 a5) 37) a2.toNatClampNeg)))) a2) i38_ (0 : Int32))) ∧ (∀ i38_ : Nat, i38_ < (((((zu (vX9_scoreOf_3 a1 a2 a3 a4 a5 σ) 32 (zu ((vX9_scoreOf_3 a1 a2 a3 a4 a5 σ) 32) 20 (rX9_mostPairs (sX9_layOut σ a1 a2 a3 a4 a5) (0 : Int32) (((sX9_layOut σ a1 a2 a3 a4 a5) 37) a1.toNatClampNeg) (((sX9_layOut σ a1 a2 a3 a4 a5) 37) a2.toNatClampNeg)))) 37) a1.toNatClampNeg)).toNatClampNeg) → qX9_scoreOf_38 (zu (vX9_scoreOf_3 a1 a2 a3 a4 a5 σ) 32 (zu ((vX9_scoreOf_3 a1 a2 a3 a4 a5 σ) 32) 20 (rX9_mostPairs (sX9_layOut σ a1 a2 a3 a4 a5) (0 : Int32) (((sX9_layOut σ a1 a2 a3 a4 a5) 37) a1.toNatClampNeg) (((sX9_layOut σ a1 a2 a3 a4 a5) 37) a2.toNatClampNeg)))) a2 i38_ (zfor (fX9_scoreOf_38 (zu (vX9_scoreOf_3 a1 a2 a3 a4 a5 σ) 32 (zu ((vX9_scoreOf_3 a1 a2 a3 a4 a5 σ) 32) 20 (rX9_mostPairs (sX9_layOut σ a1 a2 a3 a4 a5) (0 : Int32) (((sX9_layOut σ a1 a2 a3 a4 a5) 37) a1.toNatClampNeg) (((sX9_layOut σ a1 a2 a3 a4 a5) 37) a2.toNatClampNeg)))) a2) i38_ (0 : Int32))))) ∧ ((∀ i95_ : Nat, i95_ ≤ (((((zu (vX9_scoreOf_3 a1 a2 a3 a4 a5 σ) 32 (zu ((vX9_scoreOf_3 a1 a2 a3 a4 a5 σ) 32) 20 (rX9_mostPairs (sX9_layOut σ a1 a2 a3 a4 a5) (0 : Int32) (((sX9_layOut σ a1 a2 a3 a4 a5) 37) a1.toNatClampNeg) (((sX9_layOut σ a1 a2 a3 a4 a5) 37) a2.toNatClampNeg)))) 37) a2.toNatClampNeg)).toNatClampNeg) → ((((zu (vX9_scoreOf_3 a1 a2 a3 a4 a5 σ) 32 (zu ((vX9_scoreOf_3 a1 a2 a3 a4 a5 σ) 32) 20 (rX9_mostPairs (sX9_layOut σ a1 a2 a3 a4 a5) (0 : Int32) (((sX9_layOut σ a1 a2 a3 a4 a5) 37) a1.toNatClampNeg) (((sX9_layOut σ a1 a2 a3 a4 a5) 37) a2.toNatClampNeg)))) 37) a2.toNatClampNeg) ≤ (nI i95_) ↔ (((((zu (vX9_scoreOf_3 a1 a2 a3 a4 a5 σ) 32 (zu ((vX9_scoreOf_3 a1 a2 a3 a4 a5 σ) 32) 20 (rX9_mostPairs (sX9_layOut σ a1 a2 a3 a4 a5) (0 : Int32) (((sX9_layOut σ a1 a2 a3 a4 a5) 37) a1.toNatClampNeg) (((sX9_layOut σ a1 a2 a3 a4 a5) 37) a2.toNatClampNeg)))) 37) a2.toNatClampNeg)).toNatClampNeg) ≤ i95_)) ∧ ((∀ i95_ : Nat, i95_ ≤ (((((zu (vX9_scoreOf_3 a1 a2 a3 a4 a5 σ) 32 (zu ((vX9_scoreOf_3 a1 a2 a3 a4 a5 σ) 32) 20 (rX9_mostPairs (sX9_layOut σ a1 a2 a3 a4 a5) (0 : Int32) (((sX9_layOut σ a1 a2 a3 a4 a5) 37) a1.toNatClampNeg) (((sX9_layOut σ a1 a2 a3 a4 a5) 37) a2.toNatClampNeg)))) 37) a2.toNatClampNeg)).toNatClampNeg) → uX9_scoreOf_95 a2 i95_ (zfor (fX9_scoreOf_95 (zu (vX9_scoreOf_3 a1 a2 a3 a4 a5 σ) 32 (zu ((vX9_scoreOf_3 a1 a2 a3 a4 a5 σ) 32) 20 (rX9_mostPairs (sX9_layOut σ a1 a2 a3 a4 a5) (0 : Int32) (((sX9_layOut σ a1 a2 a3 a4 a5) 37) a1.toNatClampNeg) (((sX9_layOut σ a1 a2 a3 a4 a5) 37) a2.toNatClampNeg)))) a2) i95_ (vX9_scoreOf_4 a1 a2 a3 a4 a5 σ))) ∧ (∀ i95_ : Nat, i95_ < (((((zu (vX9_scoreOf_3 a1 a2 a3 a4 a5 σ) 32 (zu ((vX9_scoreOf_3 a1 a2 a3 a4 a5 σ) 32) 20 (rX9_mostPairs (sX9_layOut σ a1 a2 a3 a4 a5) (0 : Int32) (((sX9_layOut σ a1 a2 a3 a4 a5) 37) a1.toNatClampNeg) (((sX9_layOut σ a1 a2 a3 a4 a5) 37) a2.toNatClampNeg)))) 37) a2.toNatClampNeg)).toNatClampNeg) → qX9_scoreOf_95 (zu (vX9_scoreOf_3 a1 a2 a3 a4 a5 σ) 32 (zu ((vX9_scoreOf_3 a1 a2 a3 a4 a5 σ) 32) 20 (rX9_mostPairs (sX9_layOut σ a1 a2 a3 a4 a5) (0 : Int32) (((sX9_layOut σ a1 a2 a3 a4 a5) 37) a1.toNatClampNeg) (((sX9_layOut σ a1 a2 a3 a4 a5) 37) a2.toNatClampNeg)))) a2 i95_ (zfor (fX9_scoreOf_95 (zu (vX9_scoreOf_3 a1 a2 a3 a4 a5 σ) 32 (zu ((vX9_scoreOf_3 a1 a2 a3 a4 a5 σ) 32) 20 (rX9_mostPairs (sX9_layOut σ a1 a2 a3 a4 a5) (0 : Int32) (((sX9_layOut σ a1 a2 a3 a4 a5) 37) a1.toNatClampNeg) (((sX9_layOut σ a1 a2 a3 a4 a5) 37) a2.toNatClampNeg)))) a2) i95_ (vX9_scoreOf_4 a1 a2 a3 a4 a5 σ))))))))))
noncomputable def rX9_scoreOf (σ : zc_N) (a1 : Int32) (a2 : Int32) (a3 : Int32) (a4 : Int32) (a5 : Int32) : Int32 := (((10 : Int32) * (((vX9_scoreOf_6 a1 a2 a3 a4 a5 σ) 32) 20)) - ((3 : Int32) * (((vX9_scoreOf_6 a1 a2 a3 a4 a5 σ) 32) 21)))
noncomputable def sX9_scoreOf (σ : zc_N) (a1 : Int32) (a2 : Int32) (a3 : Int32) (a4 : Int32) (a5 : Int32) : zc_N := (vX9_scoreOf_6 a1 a2 a3 a4 a5 σ)
set_option maxHeartbeats 1000000 in
theorem ctX9_scoreOf (P : zp) (σ : zc_N) (a1 : Int32) (a2 : Int32) (a3 : Int32) (a4 : Int32) (a5 : Int32) (W_ : (pX9_scoreOf σ a1 a2 a3 a4 a5)) : sp mX9_scoreOf 15 0 0 [.ref 32, .int a1, .int a2, .int a3, .int a4, .int a5] (hh P σ) (fun r_ h_ => r_ = some (.int (rX9_scoreOf σ a1 a2 a3 a4 a5)) ∧ h_ = hh P (sX9_scoreOf σ a1 a2 a3 a4 a5)) := by
  refine sp_of (lv := [some (.ref 32), some (.int a1), some (.int a2), some (.int a3), some (.int a4), some (.int a5), none, none]) (by decide) (zcats_ok _ rfl) (Nat.le_of_ble_eq_true rfl) (zlv_ok _ 2 rfl) (fun G => ?_)
  generalize hQ_ : (fun (r_ : Option Value) (h_ : zc_H) => r_ = some (.int (rX9_scoreOf σ a1 a2 a3 a4 a5)) ∧ h_ = hh P (sX9_scoreOf σ a1 a2 a3 a4 a5)) = Q_
  unfold pX9_scoreOf at W_
  refine z_aloadr_n dX9_scoreOf_0 rfl ?_
  refine z_iload_n dX9_scoreOf_1 rfl ?_
  refine z_iload_n dX9_scoreOf_2 rfl ?_
  refine z_iload_n dX9_scoreOf_3 rfl ?_
  refine z_iload dX9_scoreOf_4 rfl ?_
  refine z_iload dX9_scoreOf_6 rfl ?_
  refine z_callV (ci := 9) (r := (RX9, TX9, 38)) (b := 32) (As := [.int a1, .int a2, .int a3, .int a4, .int a5]) (rest := []) (ctX9_layOut P σ a1 a2 a3 a4 a5 W_.1) dX9_scoreOf_8 lk_X9_151 lv_X9_layOut (Nat.le_of_ble_eq_true rfl) (zN rfl) rfl rfl rfl rfl (Nat.le_of_ble_eq_true rfl) (Nat.le_of_ble_eq_true rfl) (Nat.le_of_ble_eq_true rfl) (Nat.le_of_ble_eq_true rfl) (fun r_ h_ e_ => ?_)
  obtain ⟨e1_, e2_⟩ := e_
  subst e1_
  subst e2_
  show zz G mX9_scoreOf 15 0 0 Q_ 11 [some (.ref 32), some (.int a1), some (.int a2), some (.int a3), some (.int a4), some (.int a5), none, none] [] (hh P (sX9_layOut σ a1 a2 a3 a4 a5)) 0 0
  refine z_aloadr_n dX9_scoreOf_11 rfl ?_
  refine z_aloadr_n dX9_scoreOf_12 rfl ?_
  refine z_iconst dX9_scoreOf_13 k_iconst_0 ?_
  refine z_aloadr_n dX9_scoreOf_14 rfl ?_
  refine z_get (ci := 9) (r := (RX9, TX9, 38)) (j := 4) (v := .ref 37) dX9_scoreOf_15 (Nat.le_of_ble_eq_true rfl) (zN rfl) rfl rfl (Nat.le_of_ble_eq_true rfl) fl_X9_23 rfl ?_
  refine z_iload_n dX9_scoreOf_18 rfl ?_
  refine z_iald (v := (((sX9_layOut σ a1 a2 a3 a4 a5) 37) a1.toNatClampNeg)) dX9_scoreOf_19 (zN rfl) rfl W_.2.1 rfl ?_
  refine z_aloadr_n dX9_scoreOf_20 rfl ?_
  refine z_get (ci := 9) (r := (RX9, TX9, 38)) (j := 4) (v := .ref 37) dX9_scoreOf_21 (Nat.le_of_ble_eq_true rfl) (zN rfl) rfl rfl (Nat.le_of_ble_eq_true rfl) fl_X9_23 rfl ?_
  refine z_iload_n dX9_scoreOf_24 rfl ?_
  refine z_iald (v := (((sX9_layOut σ a1 a2 a3 a4 a5) 37) a2.toNatClampNeg)) dX9_scoreOf_25 (zN rfl) rfl W_.2.2.1 rfl ?_
  refine z_callV (ci := 9) (r := (RX9, TX9, 38)) (b := 32) (As := [.int (0 : Int32), .int (((sX9_layOut σ a1 a2 a3 a4 a5) 37) a1.toNatClampNeg), .int (((sX9_layOut σ a1 a2 a3 a4 a5) 37) a2.toNatClampNeg)]) (rest := [.ref 32]) (ctX9_mostPairs P (sX9_layOut σ a1 a2 a3 a4 a5) (0 : Int32) (((sX9_layOut σ a1 a2 a3 a4 a5) 37) a1.toNatClampNeg) (((sX9_layOut σ a1 a2 a3 a4 a5) 37) a2.toNatClampNeg) W_.2.2.2.1) dX9_scoreOf_26 lk_X9_155 lv_X9_mostPairs (Nat.le_of_ble_eq_true rfl) (zN rfl) rfl rfl rfl rfl (Nat.le_of_ble_eq_true rfl) (Nat.le_of_ble_eq_true rfl) (Nat.le_of_ble_eq_true rfl) (Nat.le_of_ble_eq_true rfl) (fun r_ h_ e_ => ?_)
  obtain ⟨e1_, e2_⟩ := e_
  subst e1_
  subst e2_
  show zz G mX9_scoreOf 15 0 0 Q_ 29 [some (.ref 32), some (.int a1), some (.int a2), some (.int a3), some (.int a4), some (.int a5), none, none] [.int (rX9_mostPairs (sX9_layOut σ a1 a2 a3 a4 a5) (0 : Int32) (((sX9_layOut σ a1 a2 a3 a4 a5) 37) a1.toNatClampNeg) (((sX9_layOut σ a1 a2 a3 a4 a5) 37) a2.toNatClampNeg)), .ref 32] (hh P (vX9_scoreOf_3 a1 a2 a3 a4 a5 σ)) 0 0
  refine z_put (ci := 9) (r := (RX9, TX9, 38)) (j := 20) (σ' := (zu (vX9_scoreOf_3 a1 a2 a3 a4 a5 σ) 32 (zu ((vX9_scoreOf_3 a1 a2 a3 a4 a5 σ) 32) 20 (rX9_mostPairs (sX9_layOut σ a1 a2 a3 a4 a5) (0 : Int32) (((sX9_layOut σ a1 a2 a3 a4 a5) 37) a1.toNatClampNeg) (((sX9_layOut σ a1 a2 a3 a4 a5) 37) a2.toNatClampNeg))))) dX9_scoreOf_29 (Nat.le_of_ble_eq_true rfl) (zN rfl) rfl rfl (Nat.le_of_ble_eq_true rfl) fl_X9_158 rfl rfl rfl rfl rfl ?_
  refine z_iconst dX9_scoreOf_32 k_iconst_0 ?_
  refine z_istore (lv' := [some (.ref 32), some (.int a1), some (.int a2), some (.int a3), some (.int a4), some (.int a5), some (.int (0 : Int32)), none]) dX9_scoreOf_33 (Nat.le_of_ble_eq_true rfl) rfl ?_
  refine z_iconst dX9_scoreOf_35 k_iconst_0 ?_
  refine z_istore (lv' := [some (.ref 32), some (.int a1), some (.int a2), some (.int a3), some (.int a4), some (.int a5), some (.int (0 : Int32)), some (.int (0 : Int32))]) dX9_scoreOf_36 (Nat.le_of_ble_eq_true rfl) rfl ?_
  refine zz_sub (lv' := [some (.ref 32), some (.int a1), some (.int a2), none, none, none, some (.int (0 : Int32)), some (.int (0 : Int32))]) ⟨rfl, ⟨rfl, ⟨rfl, ⟨rfl, ⟨rfl, trivial⟩⟩⟩⟩⟩ ?_
  refine lpX9_scoreOf_38 P (zu (vX9_scoreOf_3 a1 a2 a3 a4 a5 σ) 32 (zu ((vX9_scoreOf_3 a1 a2 a3 a4 a5 σ) 32) 20 (rX9_mostPairs (sX9_layOut σ a1 a2 a3 a4 a5) (0 : Int32) (((sX9_layOut σ a1 a2 a3 a4 a5) 37) a1.toNatClampNeg) (((sX9_layOut σ a1 a2 a3 a4 a5) 37) a2.toNatClampNeg)))) a1 a2 (0 : Int32) (((((zu (vX9_scoreOf_3 a1 a2 a3 a4 a5 σ) 32 (zu ((vX9_scoreOf_3 a1 a2 a3 a4 a5 σ) 32) 20 (rX9_mostPairs (sX9_layOut σ a1 a2 a3 a4 a5) (0 : Int32) (((sX9_layOut σ a1 a2 a3 a4 a5) 37) a1.toNatClampNeg) (((sX9_layOut σ a1 a2 a3 a4 a5) 37) a2.toNatClampNeg)))) 37) a1.toNatClampNeg)).toNatClampNeg) W_.2.2.2.2.1.1 W_.2.2.2.2.1.2.1 W_.2.2.2.2.1.2.2 ?_
  show zz G mX9_scoreOf 15 0 0 Q_ 92 [some (.ref 32), none, some (.int a2), none, none, none, some (.int (vX9_scoreOf_4 a1 a2 a3 a4 a5 σ)), none] [] (hh P (zu (vX9_scoreOf_3 a1 a2 a3 a4 a5 σ) 32 (zu ((vX9_scoreOf_3 a1 a2 a3 a4 a5 σ) 32) 20 (rX9_mostPairs (sX9_layOut σ a1 a2 a3 a4 a5) (0 : Int32) (((sX9_layOut σ a1 a2 a3 a4 a5) 37) a1.toNatClampNeg) (((sX9_layOut σ a1 a2 a3 a4 a5) 37) a2.toNatClampNeg))))) 0 0
  refine z_iconst dX9_scoreOf_92 k_iconst_0 ?_
  refine z_istore (lv' := [some (.ref 32), none, some (.int a2), none, none, none, some (.int (vX9_scoreOf_4 a1 a2 a3 a4 a5 σ)), some (.int (0 : Int32))]) dX9_scoreOf_93 (Nat.le_of_ble_eq_true rfl) rfl ?_
  refine lpX9_scoreOf_95 P (zu (vX9_scoreOf_3 a1 a2 a3 a4 a5 σ) 32 (zu ((vX9_scoreOf_3 a1 a2 a3 a4 a5 σ) 32) 20 (rX9_mostPairs (sX9_layOut σ a1 a2 a3 a4 a5) (0 : Int32) (((sX9_layOut σ a1 a2 a3 a4 a5) 37) a1.toNatClampNeg) (((sX9_layOut σ a1 a2 a3 a4 a5) 37) a2.toNatClampNeg)))) a2 (vX9_scoreOf_4 a1 a2 a3 a4 a5 σ) (((((zu (vX9_scoreOf_3 a1 a2 a3 a4 a5 σ) 32 (zu ((vX9_scoreOf_3 a1 a2 a3 a4 a5 σ) 32) 20 (rX9_mostPairs (sX9_layOut σ a1 a2 a3 a4 a5) (0 : Int32) (((sX9_layOut σ a1 a2 a3 a4 a5) 37) a1.toNatClampNeg) (((sX9_layOut σ a1 a2 a3 a4 a5) 37) a2.toNatClampNeg)))) 37) a2.toNatClampNeg)).toNatClampNeg) W_.2.2.2.2.2.1 W_.2.2.2.2.2.2.1 W_.2.2.2.2.2.2.2 ?_
  show zz G mX9_scoreOf 15 0 0 Q_ 157 [some (.ref 32), none, none, none, none, none, some (.int (vX9_scoreOf_5 a1 a2 a3 a4 a5 σ)), none] [] (hh P (zu (vX9_scoreOf_3 a1 a2 a3 a4 a5 σ) 32 (zu ((vX9_scoreOf_3 a1 a2 a3 a4 a5 σ) 32) 20 (rX9_mostPairs (sX9_layOut σ a1 a2 a3 a4 a5) (0 : Int32) (((sX9_layOut σ a1 a2 a3 a4 a5) 37) a1.toNatClampNeg) (((sX9_layOut σ a1 a2 a3 a4 a5) 37) a2.toNatClampNeg))))) 0 0
  refine z_aloadr_n dX9_scoreOf_157 rfl ?_
  refine z_iload dX9_scoreOf_158 rfl ?_
  refine z_iconst dX9_scoreOf_160 k_iconst_2 ?_
  refine z_aloadr_n dX9_scoreOf_161 rfl ?_
  refine z_get (ci := 9) (r := (RX9, TX9, 38)) (j := 20) (v := .int ((zu ((vX9_scoreOf_3 a1 a2 a3 a4 a5 σ) 32) 20 (rX9_mostPairs (sX9_layOut σ a1 a2 a3 a4 a5) (0 : Int32) (((sX9_layOut σ a1 a2 a3 a4 a5) 37) a1.toNatClampNeg) (((sX9_layOut σ a1 a2 a3 a4 a5) 37) a2.toNatClampNeg))) 20)) dX9_scoreOf_162 (Nat.le_of_ble_eq_true rfl) (zN rfl) rfl rfl (Nat.le_of_ble_eq_true rfl) fl_X9_158 (congrArg Value.int (congrFun (zu_self _ _ _) _)) ?_
  refine z_imul (v := ((2 : Int32) * ((zu ((vX9_scoreOf_3 a1 a2 a3 a4 a5 σ) 32) 20 (rX9_mostPairs (sX9_layOut σ a1 a2 a3 a4 a5) (0 : Int32) (((sX9_layOut σ a1 a2 a3 a4 a5) 37) a1.toNatClampNeg) (((sX9_layOut σ a1 a2 a3 a4 a5) 37) a2.toNatClampNeg))) 20))) dX9_scoreOf_165 rfl ?_
  refine z_isub (v := ((vX9_scoreOf_5 a1 a2 a3 a4 a5 σ) - ((2 : Int32) * ((zu ((vX9_scoreOf_3 a1 a2 a3 a4 a5 σ) 32) 20 (rX9_mostPairs (sX9_layOut σ a1 a2 a3 a4 a5) (0 : Int32) (((sX9_layOut σ a1 a2 a3 a4 a5) 37) a1.toNatClampNeg) (((sX9_layOut σ a1 a2 a3 a4 a5) 37) a2.toNatClampNeg))) 20)))) dX9_scoreOf_166 rfl ?_
  have K_1 : zz G mX9_scoreOf 15 0 0 Q_ 183 [some (.ref 32), none, none, none, none, none, none, none] [.int (if ((vX9_scoreOf_5 a1 a2 a3 a4 a5 σ) - ((2 : Int32) * ((zu ((vX9_scoreOf_3 a1 a2 a3 a4 a5 σ) 32) 20 (rX9_mostPairs (sX9_layOut σ a1 a2 a3 a4 a5) (0 : Int32) (((sX9_layOut σ a1 a2 a3 a4 a5) 37) a1.toNatClampNeg) (((sX9_layOut σ a1 a2 a3 a4 a5) 37) a2.toNatClampNeg))) 20))) ≤ (0 : Int32) then (0 : Int32) else ((vX9_scoreOf_5 a1 a2 a3 a4 a5 σ) - ((2 : Int32) * ((zu ((vX9_scoreOf_3 a1 a2 a3 a4 a5 σ) 32) 20 (rX9_mostPairs (sX9_layOut σ a1 a2 a3 a4 a5) (0 : Int32) (((sX9_layOut σ a1 a2 a3 a4 a5) 37) a1.toNatClampNeg) (((sX9_layOut σ a1 a2 a3 a4 a5) 37) a2.toNatClampNeg))) 20)))), .ref 32] (hh P (zu (vX9_scoreOf_3 a1 a2 a3 a4 a5 σ) 32 (zu ((vX9_scoreOf_3 a1 a2 a3 a4 a5 σ) 32) 20 (rX9_mostPairs (sX9_layOut σ a1 a2 a3 a4 a5) (0 : Int32) (((sX9_layOut σ a1 a2 a3 a4 a5) 37) a1.toNatClampNeg) (((sX9_layOut σ a1 a2 a3 a4 a5) 37) a2.toNatClampNeg))))) 0 0 := by
    refine z_put (ci := 9) (r := (RX9, TX9, 38)) (j := 21) (σ' := (zu (vX9_scoreOf_3 a1 a2 a3 a4 a5 σ) 32 (zu (zu ((vX9_scoreOf_3 a1 a2 a3 a4 a5 σ) 32) 20 (rX9_mostPairs (sX9_layOut σ a1 a2 a3 a4 a5) (0 : Int32) (((sX9_layOut σ a1 a2 a3 a4 a5) 37) a1.toNatClampNeg) (((sX9_layOut σ a1 a2 a3 a4 a5) 37) a2.toNatClampNeg))) 21 (if ((vX9_scoreOf_5 a1 a2 a3 a4 a5 σ) - ((2 : Int32) * ((zu ((vX9_scoreOf_3 a1 a2 a3 a4 a5 σ) 32) 20 (rX9_mostPairs (sX9_layOut σ a1 a2 a3 a4 a5) (0 : Int32) (((sX9_layOut σ a1 a2 a3 a4 a5) 37) a1.toNatClampNeg) (((sX9_layOut σ a1 a2 a3 a4 a5) 37) a2.toNatClampNeg))) 20))) ≤ (0 : Int32) then (0 : Int32) else ((vX9_scoreOf_5 a1 a2 a3 a4 a5 σ) - ((2 : Int32) * ((zu ((vX9_scoreOf_3 a1 a2 a3 a4 a5 σ) 32) 20 (rX9_mostPairs (sX9_layOut σ a1 a2 a3 a4 a5) (0 : Int32) (((sX9_layOut σ a1 a2 a3 a4 a5) 37) a1.toNatClampNeg) (((sX9_layOut σ a1 a2 a3 a4 a5) 37) a2.toNatClampNeg))) 20))))))) dX9_scoreOf_183 (Nat.le_of_ble_eq_true rfl) (zN rfl) rfl rfl (Nat.le_of_ble_eq_true rfl) fl_X9_165 rfl rfl rfl rfl ((congrArg (fun g_ => zu _ _ (zu g_ _ _)) (zu_self _ _ _)).trans (zu_zu _ _ _ _)) ?_
    show zz G mX9_scoreOf 15 0 0 Q_ 186 [some (.ref 32), none, none, none, none, none, none, none] [] (hh P (vX9_scoreOf_6 a1 a2 a3 a4 a5 σ)) 0 0
    refine z_bipush dX9_scoreOf_186 k_bipush_10 ?_
    refine z_aloadr_n dX9_scoreOf_188 rfl ?_
    refine z_get (ci := 9) (r := (RX9, TX9, 38)) (j := 20) (v := .int (((vX9_scoreOf_6 a1 a2 a3 a4 a5 σ) 32) 20)) dX9_scoreOf_189 (Nat.le_of_ble_eq_true rfl) (zN rfl) rfl rfl (Nat.le_of_ble_eq_true rfl) fl_X9_158 rfl ?_
    refine z_imul (v := ((10 : Int32) * (((vX9_scoreOf_6 a1 a2 a3 a4 a5 σ) 32) 20))) dX9_scoreOf_192 rfl ?_
    refine z_iconst dX9_scoreOf_193 k_iconst_3 ?_
    refine z_aloadr_n dX9_scoreOf_194 rfl ?_
    refine z_get (ci := 9) (r := (RX9, TX9, 38)) (j := 21) (v := .int (((vX9_scoreOf_6 a1 a2 a3 a4 a5 σ) 32) 21)) dX9_scoreOf_195 (Nat.le_of_ble_eq_true rfl) (zN rfl) rfl rfl (Nat.le_of_ble_eq_true rfl) fl_X9_165 rfl ?_
    refine z_imul (v := ((3 : Int32) * (((vX9_scoreOf_6 a1 a2 a3 a4 a5 σ) 32) 21))) dX9_scoreOf_198 rfl ?_
    refine z_isub (v := (((10 : Int32) * (((vX9_scoreOf_6 a1 a2 a3 a4 a5 σ) 32) 20)) - ((3 : Int32) * (((vX9_scoreOf_6 a1 a2 a3 a4 a5 σ) 32) 21)))) dX9_scoreOf_199 rfl ?_
    exact z_ireturn dX9_scoreOf_200 rfl rfl (Nat.le_of_ble_eq_true rfl) (Nat.le_of_ble_eq_true rfl) (by rw [← hQ_]; exact ⟨(by rw [rX9_scoreOf]), (by rw [sX9_scoreOf])⟩)
  refine z_if_le (tgt := 182) dX9_scoreOf_167 (by decide) (fun c_1 => ?_) (fun c_1 => ?_)
  · refine z_iconst dX9_scoreOf_182 k_iconst_0 ?_
    refine zz_sub (lv' := [some (.ref 32), none, none, none, none, none, none, none]) ⟨rfl, trivial⟩ ?_
    rw [show (if ((vX9_scoreOf_5 a1 a2 a3 a4 a5 σ) - ((2 : Int32) * ((zu ((vX9_scoreOf_3 a1 a2 a3 a4 a5 σ) 32) 20 (rX9_mostPairs (sX9_layOut σ a1 a2 a3 a4 a5) (0 : Int32) (((sX9_layOut σ a1 a2 a3 a4 a5) 37) a1.toNatClampNeg) (((sX9_layOut σ a1 a2 a3 a4 a5) 37) a2.toNatClampNeg))) 20))) ≤ (0 : Int32) then (0 : Int32) else ((vX9_scoreOf_5 a1 a2 a3 a4 a5 σ) - ((2 : Int32) * ((zu ((vX9_scoreOf_3 a1 a2 a3 a4 a5 σ) 32) 20 (rX9_mostPairs (sX9_layOut σ a1 a2 a3 a4 a5) (0 : Int32) (((sX9_layOut σ a1 a2 a3 a4 a5) 37) a1.toNatClampNeg) (((sX9_layOut σ a1 a2 a3 a4 a5) 37) a2.toNatClampNeg))) 20)))) = (0 : Int32) from (if_pos c_1)] at K_1
    exact K_1
  · refine z_iload dX9_scoreOf_170 rfl ?_
    refine z_iconst dX9_scoreOf_172 k_iconst_2 ?_
    refine z_aloadr_n dX9_scoreOf_173 rfl ?_
    refine z_get (ci := 9) (r := (RX9, TX9, 38)) (j := 20) (v := .int ((zu ((vX9_scoreOf_3 a1 a2 a3 a4 a5 σ) 32) 20 (rX9_mostPairs (sX9_layOut σ a1 a2 a3 a4 a5) (0 : Int32) (((sX9_layOut σ a1 a2 a3 a4 a5) 37) a1.toNatClampNeg) (((sX9_layOut σ a1 a2 a3 a4 a5) 37) a2.toNatClampNeg))) 20)) dX9_scoreOf_174 (Nat.le_of_ble_eq_true rfl) (zN rfl) rfl rfl (Nat.le_of_ble_eq_true rfl) fl_X9_158 (congrArg Value.int (congrFun (zu_self _ _ _) _)) ?_
    refine z_imul (v := ((2 : Int32) * ((zu ((vX9_scoreOf_3 a1 a2 a3 a4 a5 σ) 32) 20 (rX9_mostPairs (sX9_layOut σ a1 a2 a3 a4 a5) (0 : Int32) (((sX9_layOut σ a1 a2 a3 a4 a5) 37) a1.toNatClampNeg) (((sX9_layOut σ a1 a2 a3 a4 a5) 37) a2.toNatClampNeg))) 20))) dX9_scoreOf_177 rfl ?_
    refine z_isub (v := ((vX9_scoreOf_5 a1 a2 a3 a4 a5 σ) - ((2 : Int32) * ((zu ((vX9_scoreOf_3 a1 a2 a3 a4 a5 σ) 32) 20 (rX9_mostPairs (sX9_layOut σ a1 a2 a3 a4 a5) (0 : Int32) (((sX9_layOut σ a1 a2 a3 a4 a5) 37) a1.toNatClampNeg) (((sX9_layOut σ a1 a2 a3 a4 a5) 37) a2.toNatClampNeg))) 20)))) dX9_scoreOf_178 rfl ?_
    refine z_goto (tgt := 183) dX9_scoreOf_179 (by decide) ?_
    refine zz_sub (lv' := [some (.ref 32), none, none, none, none, none, none, none]) ⟨rfl, trivial⟩ ?_
    rw [show (if ((vX9_scoreOf_5 a1 a2 a3 a4 a5 σ) - ((2 : Int32) * ((zu ((vX9_scoreOf_3 a1 a2 a3 a4 a5 σ) 32) 20 (rX9_mostPairs (sX9_layOut σ a1 a2 a3 a4 a5) (0 : Int32) (((sX9_layOut σ a1 a2 a3 a4 a5) 37) a1.toNatClampNeg) (((sX9_layOut σ a1 a2 a3 a4 a5) 37) a2.toNatClampNeg))) 20))) ≤ (0 : Int32) then (0 : Int32) else ((vX9_scoreOf_5 a1 a2 a3 a4 a5 σ) - ((2 : Int32) * ((zu ((vX9_scoreOf_3 a1 a2 a3 a4 a5 σ) 32) 20 (rX9_mostPairs (sX9_layOut σ a1 a2 a3 a4 a5) (0 : Int32) (((sX9_layOut σ a1 a2 a3 a4 a5) 37) a1.toNatClampNeg) (((sX9_layOut σ a1 a2 a3 a4 a5) 37) a2.toNatClampNeg))) 20)))) = ((vX9_scoreOf_5 a1 a2 a3 a4 a5 σ) - ((2 : Int32) * ((zu ((vX9_scoreOf_3 a1 a2 a3 a4 a5 σ) 32) 20 (rX9_mostPairs (sX9_layOut σ a1 a2 a3 a4 a5) (0 : Int32) (((sX9_layOut σ a1 a2 a3 a4 a5) 37) a1.toNatClampNeg) (((sX9_layOut σ a1 a2 a3 a4 a5) 37) a2.toNatClampNeg))) 20))) from (if_neg c_1)] at K_1
    exact K_1

theorem dX9_offer_0 : decode cX9_offer 0 = .ok (.aload_n 0, 1) := by decide +kernel
theorem dX9_offer_1 : decode cX9_offer 1 = .ok (.iload_n 1, 1) := by decide +kernel
theorem dX9_offer_2 : decode cX9_offer 2 = .ok (.iload_n 2, 1) := by decide +kernel
theorem dX9_offer_3 : decode cX9_offer 3 = .ok (.iload_n 3, 1) := by decide +kernel
theorem dX9_offer_4 : decode cX9_offer 4 = .ok (.iload 4, 2) := by decide +kernel
theorem dX9_offer_6 : decode cX9_offer 6 = .ok (.iload 5, 2) := by decide +kernel
theorem dX9_offer_8 : decode cX9_offer 8 = .ok (.invokevirtual 187, 3) := by decide +kernel
theorem dX9_offer_11 : decode cX9_offer 11 = .ok (.istore 6, 2) := by decide +kernel
theorem dX9_offer_13 : decode cX9_offer 13 = .ok (.iload_n 3, 1) := by decide +kernel
theorem dX9_offer_14 : decode cX9_offer 14 = .ok (.aload_n 0, 1) := by decide +kernel
theorem dX9_offer_15 : decode cX9_offer 15 = .ok (.getfield 175, 3) := by decide +kernel
theorem dX9_offer_18 : decode cX9_offer 18 = .ok (.if_icmp .lt 38, 3) := by decide +kernel
theorem dX9_offer_21 : decode cX9_offer 21 = .ok (.iload_n 3, 1) := by decide +kernel
theorem dX9_offer_22 : decode cX9_offer 22 = .ok (.aload_n 0, 1) := by decide +kernel
theorem dX9_offer_23 : decode cX9_offer 23 = .ok (.getfield 175, 3) := by decide +kernel
theorem dX9_offer_26 : decode cX9_offer 26 = .ok (.if_icmp .ne 34, 3) := by decide +kernel
theorem dX9_offer_29 : decode cX9_offer 29 = .ok (.iload 5, 2) := by decide +kernel
theorem dX9_offer_31 : decode cX9_offer 31 = .ok (.aload_n 0, 1) := by decide +kernel
theorem dX9_offer_32 : decode cX9_offer 32 = .ok (.getfield 181, 3) := by decide +kernel
theorem dX9_offer_35 : decode cX9_offer 35 = .ok (.if_icmp .lt 21, 3) := by decide +kernel
theorem dX9_offer_38 : decode cX9_offer 38 = .ok (.iload 5, 2) := by decide +kernel
theorem dX9_offer_40 : decode cX9_offer 40 = .ok (.aload_n 0, 1) := by decide +kernel
theorem dX9_offer_41 : decode cX9_offer 41 = .ok (.getfield 181, 3) := by decide +kernel
theorem dX9_offer_44 : decode cX9_offer 44 = .ok (.if_icmp .ne 16, 3) := by decide +kernel
theorem dX9_offer_47 : decode cX9_offer 47 = .ok (.iload 4, 2) := by decide +kernel
theorem dX9_offer_49 : decode cX9_offer 49 = .ok (.aload_n 0, 1) := by decide +kernel
theorem dX9_offer_50 : decode cX9_offer 50 = .ok (.getfield 178, 3) := by decide +kernel
theorem dX9_offer_53 : decode cX9_offer 53 = .ok (.if_icmp .ge 7, 3) := by decide +kernel
theorem dX9_offer_56 : decode cX9_offer 56 = .ok (.iconst 1, 1) := by decide +kernel
theorem dX9_offer_57 : decode cX9_offer 57 = .ok (.goto 4, 3) := by decide +kernel
theorem dX9_offer_60 : decode cX9_offer 60 = .ok (.iconst 0, 1) := by decide +kernel
theorem dX9_offer_61 : decode cX9_offer 61 = .ok (.istore 7, 2) := by decide +kernel
theorem dX9_offer_63 : decode cX9_offer 63 = .ok (.aload_n 0, 1) := by decide +kernel
theorem dX9_offer_64 : decode cX9_offer 64 = .ok (.getfield 168, 3) := by decide +kernel
theorem dX9_offer_67 : decode cX9_offer 67 = .ok (.ifCond .eq 26, 3) := by decide +kernel
theorem dX9_offer_70 : decode cX9_offer 70 = .ok (.iload 6, 2) := by decide +kernel
theorem dX9_offer_72 : decode cX9_offer 72 = .ok (.aload_n 0, 1) := by decide +kernel
theorem dX9_offer_73 : decode cX9_offer 73 = .ok (.getfield 172, 3) := by decide +kernel
theorem dX9_offer_76 : decode cX9_offer 76 = .ok (.if_icmp .gt 17, 3) := by decide +kernel
theorem dX9_offer_79 : decode cX9_offer 79 = .ok (.iload 6, 2) := by decide +kernel
theorem dX9_offer_81 : decode cX9_offer 81 = .ok (.aload_n 0, 1) := by decide +kernel
theorem dX9_offer_82 : decode cX9_offer 82 = .ok (.getfield 172, 3) := by decide +kernel
theorem dX9_offer_85 : decode cX9_offer 85 = .ok (.if_icmp .ne 36, 3) := by decide +kernel
theorem dX9_offer_88 : decode cX9_offer 88 = .ok (.iload 7, 2) := by decide +kernel
theorem dX9_offer_90 : decode cX9_offer 90 = .ok (.ifCond .eq 31, 3) := by decide +kernel
theorem dX9_offer_93 : decode cX9_offer 93 = .ok (.aload_n 0, 1) := by decide +kernel
theorem dX9_offer_94 : decode cX9_offer 94 = .ok (.iconst 1, 1) := by decide +kernel
theorem dX9_offer_95 : decode cX9_offer 95 = .ok (.putfield 168, 3) := by decide +kernel
theorem dX9_offer_98 : decode cX9_offer 98 = .ok (.aload_n 0, 1) := by decide +kernel
theorem dX9_offer_99 : decode cX9_offer 99 = .ok (.iload 6, 2) := by decide +kernel
theorem dX9_offer_101 : decode cX9_offer 101 = .ok (.putfield 172, 3) := by decide +kernel
theorem dX9_offer_104 : decode cX9_offer 104 = .ok (.aload_n 0, 1) := by decide +kernel
theorem dX9_offer_105 : decode cX9_offer 105 = .ok (.iload_n 3, 1) := by decide +kernel
theorem dX9_offer_106 : decode cX9_offer 106 = .ok (.putfield 175, 3) := by decide +kernel
theorem dX9_offer_109 : decode cX9_offer 109 = .ok (.aload_n 0, 1) := by decide +kernel
theorem dX9_offer_110 : decode cX9_offer 110 = .ok (.iload 4, 2) := by decide +kernel
theorem dX9_offer_112 : decode cX9_offer 112 = .ok (.putfield 178, 3) := by decide +kernel
theorem dX9_offer_115 : decode cX9_offer 115 = .ok (.aload_n 0, 1) := by decide +kernel
theorem dX9_offer_116 : decode cX9_offer 116 = .ok (.iload 5, 2) := by decide +kernel
theorem dX9_offer_118 : decode cX9_offer 118 = .ok (.putfield 181, 3) := by decide +kernel
theorem dX9_offer_121 : decode cX9_offer 121 = .ok (.return_, 1) := by decide +kernel
def pX9_offer (σ : zc_N) (a1 : Int32) (a2 : Int32) (a3 : Int32) (a4 : Int32) (a5 : Int32) : Prop := (pX9_scoreOf σ a1 a2 a3 a4 a5)
noncomputable def sX9_offer (σ : zc_N) (a1 : Int32) (a2 : Int32) (a3 : Int32) (a4 : Int32) (a5 : Int32) : zc_N := (if (((sX9_scoreOf σ a1 a2 a3 a4 a5) 32) 26) = (0 : Int32) then (zu (sX9_scoreOf σ a1 a2 a3 a4 a5) 32 (zu (zu (zu (zu (zu ((sX9_scoreOf σ a1 a2 a3 a4 a5) 32) 26 (1 : Int32)) 25 (rX9_scoreOf σ a1 a2 a3 a4 a5)) 22 a3) 23 a4) 24 a5)) else (if (((sX9_scoreOf σ a1 a2 a3 a4 a5) 32) 25) < (rX9_scoreOf σ a1 a2 a3 a4 a5) then (zu (sX9_scoreOf σ a1 a2 a3 a4 a5) 32 (zu (zu (zu (zu (zu ((sX9_scoreOf σ a1 a2 a3 a4 a5) 32) 26 (1 : Int32)) 25 (rX9_scoreOf σ a1 a2 a3 a4 a5)) 22 a3) 23 a4) 24 a5)) else (if (rX9_scoreOf σ a1 a2 a3 a4 a5) = (((sX9_scoreOf σ a1 a2 a3 a4 a5) 32) 25) then (if (if a3 < (((sX9_scoreOf σ a1 a2 a3 a4 a5) 32) 22) then (1 : Int32) else (if a3 = (((sX9_scoreOf σ a1 a2 a3 a4 a5) 32) 22) then (if a5 < (((sX9_scoreOf σ a1 a2 a3 a4 a5) 32) 24) then (1 : Int32) else (if a5 = (((sX9_scoreOf σ a1 a2 a3 a4 a5) 32) 24) then (if (((sX9_scoreOf σ a1 a2 a3 a4 a5) 32) 23) ≤ a4 then (0 : Int32) else (1 : Int32)) else (0 : Int32))) else (0 : Int32))) = (0 : Int32) then (sX9_scoreOf σ a1 a2 a3 a4 a5) else (zu (sX9_scoreOf σ a1 a2 a3 a4 a5) 32 (zu (zu (zu (zu (zu ((sX9_scoreOf σ a1 a2 a3 a4 a5) 32) 26 (1 : Int32)) 25 (rX9_scoreOf σ a1 a2 a3 a4 a5)) 22 a3) 23 a4) 24 a5))) else (sX9_scoreOf σ a1 a2 a3 a4 a5))))
set_option maxHeartbeats 1000000 in
theorem ctX9_offer (P : zp) (σ : zc_N) (a1 : Int32) (a2 : Int32) (a3 : Int32) (a4 : Int32) (a5 : Int32) (W_ : (pX9_offer σ a1 a2 a3 a4 a5)) : sp mX9_offer 16 0 0 [.ref 32, .int a1, .int a2, .int a3, .int a4, .int a5] (hh P σ) (fun r_ h_ => r_ = none ∧ h_ = hh P (sX9_offer σ a1 a2 a3 a4 a5)) := by
  refine sp_of (lv := [some (.ref 32), some (.int a1), some (.int a2), some (.int a3), some (.int a4), some (.int a5), none, none]) (by decide) (zcats_ok _ rfl) (Nat.le_of_ble_eq_true rfl) (zlv_ok _ 2 rfl) (fun G => ?_)
  generalize hQ_ : (fun (r_ : Option Value) (h_ : zc_H) => r_ = none ∧ h_ = hh P (sX9_offer σ a1 a2 a3 a4 a5)) = Q_
  unfold pX9_offer at W_
  refine z_aloadr_n dX9_offer_0 rfl ?_
  refine z_iload_n dX9_offer_1 rfl ?_
  refine z_iload_n dX9_offer_2 rfl ?_
  refine z_iload_n dX9_offer_3 rfl ?_
  refine z_iload dX9_offer_4 rfl ?_
  refine z_iload dX9_offer_6 rfl ?_
  refine z_callV (ci := 9) (r := (RX9, TX9, 38)) (b := 32) (As := [.int a1, .int a2, .int a3, .int a4, .int a5]) (rest := []) (ctX9_scoreOf P σ a1 a2 a3 a4 a5 W_) dX9_offer_8 lk_X9_187 lv_X9_scoreOf (Nat.le_of_ble_eq_true rfl) (zN rfl) rfl rfl rfl rfl (Nat.le_of_ble_eq_true rfl) (Nat.le_of_ble_eq_true rfl) (Nat.le_of_ble_eq_true rfl) (Nat.le_of_ble_eq_true rfl) (fun r_ h_ e_ => ?_)
  obtain ⟨e1_, e2_⟩ := e_
  subst e1_
  subst e2_
  show zz G mX9_offer 16 0 0 Q_ 11 [some (.ref 32), some (.int a1), some (.int a2), some (.int a3), some (.int a4), some (.int a5), none, none] [.int (rX9_scoreOf σ a1 a2 a3 a4 a5)] (hh P (sX9_scoreOf σ a1 a2 a3 a4 a5)) 0 0
  refine z_istore (lv' := [some (.ref 32), some (.int a1), some (.int a2), some (.int a3), some (.int a4), some (.int a5), some (.int (rX9_scoreOf σ a1 a2 a3 a4 a5)), none]) dX9_offer_11 (Nat.le_of_ble_eq_true rfl) rfl ?_
  refine z_iload_n dX9_offer_13 rfl ?_
  refine z_aloadr_n dX9_offer_14 rfl ?_
  refine z_get (ci := 9) (r := (RX9, TX9, 38)) (j := 22) (v := .int (((sX9_scoreOf σ a1 a2 a3 a4 a5) 32) 22)) dX9_offer_15 (Nat.le_of_ble_eq_true rfl) (zN rfl) rfl rfl (Nat.le_of_ble_eq_true rfl) fl_X9_175 rfl ?_
  have K_1 : zz G mX9_offer 16 0 0 Q_ 61 [some (.ref 32), none, none, some (.int a3), some (.int a4), some (.int a5), some (.int (rX9_scoreOf σ a1 a2 a3 a4 a5)), none] [.int (if a3 < (((sX9_scoreOf σ a1 a2 a3 a4 a5) 32) 22) then (1 : Int32) else (if a3 = (((sX9_scoreOf σ a1 a2 a3 a4 a5) 32) 22) then (if a5 < (((sX9_scoreOf σ a1 a2 a3 a4 a5) 32) 24) then (1 : Int32) else (if a5 = (((sX9_scoreOf σ a1 a2 a3 a4 a5) 32) 24) then (if (((sX9_scoreOf σ a1 a2 a3 a4 a5) 32) 23) ≤ a4 then (0 : Int32) else (1 : Int32)) else (0 : Int32))) else (0 : Int32)))] (hh P (sX9_scoreOf σ a1 a2 a3 a4 a5)) 0 0 := by
    refine z_istore (lv' := [some (.ref 32), none, none, some (.int a3), some (.int a4), some (.int a5), some (.int (rX9_scoreOf σ a1 a2 a3 a4 a5)), some (.int (if a3 < (((sX9_scoreOf σ a1 a2 a3 a4 a5) 32) 22) then (1 : Int32) else (if a3 = (((sX9_scoreOf σ a1 a2 a3 a4 a5) 32) 22) then (if a5 < (((sX9_scoreOf σ a1 a2 a3 a4 a5) 32) 24) then (1 : Int32) else (if a5 = (((sX9_scoreOf σ a1 a2 a3 a4 a5) 32) 24) then (if (((sX9_scoreOf σ a1 a2 a3 a4 a5) 32) 23) ≤ a4 then (0 : Int32) else (1 : Int32)) else (0 : Int32))) else (0 : Int32))))]) dX9_offer_61 (Nat.le_of_ble_eq_true rfl) rfl ?_
    refine z_aloadr_n dX9_offer_63 rfl ?_
    refine z_get (ci := 9) (r := (RX9, TX9, 38)) (j := 26) (v := .int (((sX9_scoreOf σ a1 a2 a3 a4 a5) 32) 26)) dX9_offer_64 (Nat.le_of_ble_eq_true rfl) (zN rfl) rfl rfl (Nat.le_of_ble_eq_true rfl) fl_X9_168 rfl ?_
    refine z_if_eq (tgt := 93) dX9_offer_67 (by decide) (fun c_6 => ?_) (fun c_6 => ?_)
    · refine z_aloadr_n dX9_offer_93 rfl ?_
      refine z_iconst dX9_offer_94 k_iconst_1 ?_
      refine z_put (ci := 9) (r := (RX9, TX9, 38)) (j := 26) (σ' := (zu (sX9_scoreOf σ a1 a2 a3 a4 a5) 32 (zu ((sX9_scoreOf σ a1 a2 a3 a4 a5) 32) 26 (1 : Int32)))) dX9_offer_95 (Nat.le_of_ble_eq_true rfl) (zN rfl) rfl rfl (Nat.le_of_ble_eq_true rfl) fl_X9_168 rfl rfl rfl rfl rfl ?_
      refine z_aloadr_n dX9_offer_98 rfl ?_
      refine z_iload dX9_offer_99 rfl ?_
      refine z_put (ci := 9) (r := (RX9, TX9, 38)) (j := 25) (σ' := (zu (sX9_scoreOf σ a1 a2 a3 a4 a5) 32 (zu (zu ((sX9_scoreOf σ a1 a2 a3 a4 a5) 32) 26 (1 : Int32)) 25 (rX9_scoreOf σ a1 a2 a3 a4 a5)))) dX9_offer_101 (Nat.le_of_ble_eq_true rfl) (zN rfl) rfl rfl (Nat.le_of_ble_eq_true rfl) fl_X9_172 rfl rfl rfl rfl ((congrArg (fun g_ => zu _ _ (zu g_ _ _)) (zu_self _ _ _)).trans (zu_zu _ _ _ _)) ?_
      refine z_aloadr_n dX9_offer_104 rfl ?_
      refine z_iload_n dX9_offer_105 rfl ?_
      refine z_put (ci := 9) (r := (RX9, TX9, 38)) (j := 22) (σ' := (zu (sX9_scoreOf σ a1 a2 a3 a4 a5) 32 (zu (zu (zu ((sX9_scoreOf σ a1 a2 a3 a4 a5) 32) 26 (1 : Int32)) 25 (rX9_scoreOf σ a1 a2 a3 a4 a5)) 22 a3))) dX9_offer_106 (Nat.le_of_ble_eq_true rfl) (zN rfl) rfl rfl (Nat.le_of_ble_eq_true rfl) fl_X9_175 rfl rfl rfl rfl ((congrArg (fun g_ => zu _ _ (zu g_ _ _)) (zu_self _ _ _)).trans (zu_zu _ _ _ _)) ?_
      refine z_aloadr_n dX9_offer_109 rfl ?_
      refine z_iload dX9_offer_110 rfl ?_
      refine z_put (ci := 9) (r := (RX9, TX9, 38)) (j := 23) (σ' := (zu (sX9_scoreOf σ a1 a2 a3 a4 a5) 32 (zu (zu (zu (zu ((sX9_scoreOf σ a1 a2 a3 a4 a5) 32) 26 (1 : Int32)) 25 (rX9_scoreOf σ a1 a2 a3 a4 a5)) 22 a3) 23 a4))) dX9_offer_112 (Nat.le_of_ble_eq_true rfl) (zN rfl) rfl rfl (Nat.le_of_ble_eq_true rfl) fl_X9_178 rfl rfl rfl rfl ((congrArg (fun g_ => zu _ _ (zu g_ _ _)) (zu_self _ _ _)).trans (zu_zu _ _ _ _)) ?_
      refine z_aloadr_n dX9_offer_115 rfl ?_
      refine z_iload dX9_offer_116 rfl ?_
      refine z_put (ci := 9) (r := (RX9, TX9, 38)) (j := 24) (σ' := (zu (sX9_scoreOf σ a1 a2 a3 a4 a5) 32 (zu (zu (zu (zu (zu ((sX9_scoreOf σ a1 a2 a3 a4 a5) 32) 26 (1 : Int32)) 25 (rX9_scoreOf σ a1 a2 a3 a4 a5)) 22 a3) 23 a4) 24 a5))) dX9_offer_118 (Nat.le_of_ble_eq_true rfl) (zN rfl) rfl rfl (Nat.le_of_ble_eq_true rfl) fl_X9_181 rfl rfl rfl rfl ((congrArg (fun g_ => zu _ _ (zu g_ _ _)) (zu_self _ _ _)).trans (zu_zu _ _ _ _)) ?_
      exact z_return dX9_offer_121 rfl (Nat.le_of_ble_eq_true rfl) (Nat.le_of_ble_eq_true rfl) (by rw [← hQ_]; exact ⟨rfl, (by rw [sX9_offer]; try simp only [if_pos c_6])⟩)
    · refine z_iload dX9_offer_70 rfl ?_
      refine z_aloadr_n dX9_offer_72 rfl ?_
      refine z_get (ci := 9) (r := (RX9, TX9, 38)) (j := 25) (v := .int (((sX9_scoreOf σ a1 a2 a3 a4 a5) 32) 25)) dX9_offer_73 (Nat.le_of_ble_eq_true rfl) (zN rfl) rfl rfl (Nat.le_of_ble_eq_true rfl) fl_X9_172 rfl ?_
      refine z_icmp_gt (tgt := 93) dX9_offer_76 (by decide) (fun c_7 => ?_) (fun c_7 => ?_)
      · refine z_aloadr_n dX9_offer_93 rfl ?_
        refine z_iconst dX9_offer_94 k_iconst_1 ?_
        refine z_put (ci := 9) (r := (RX9, TX9, 38)) (j := 26) (σ' := (zu (sX9_scoreOf σ a1 a2 a3 a4 a5) 32 (zu ((sX9_scoreOf σ a1 a2 a3 a4 a5) 32) 26 (1 : Int32)))) dX9_offer_95 (Nat.le_of_ble_eq_true rfl) (zN rfl) rfl rfl (Nat.le_of_ble_eq_true rfl) fl_X9_168 rfl rfl rfl rfl rfl ?_
        refine z_aloadr_n dX9_offer_98 rfl ?_
        refine z_iload dX9_offer_99 rfl ?_
        refine z_put (ci := 9) (r := (RX9, TX9, 38)) (j := 25) (σ' := (zu (sX9_scoreOf σ a1 a2 a3 a4 a5) 32 (zu (zu ((sX9_scoreOf σ a1 a2 a3 a4 a5) 32) 26 (1 : Int32)) 25 (rX9_scoreOf σ a1 a2 a3 a4 a5)))) dX9_offer_101 (Nat.le_of_ble_eq_true rfl) (zN rfl) rfl rfl (Nat.le_of_ble_eq_true rfl) fl_X9_172 rfl rfl rfl rfl ((congrArg (fun g_ => zu _ _ (zu g_ _ _)) (zu_self _ _ _)).trans (zu_zu _ _ _ _)) ?_
        refine z_aloadr_n dX9_offer_104 rfl ?_
        refine z_iload_n dX9_offer_105 rfl ?_
        refine z_put (ci := 9) (r := (RX9, TX9, 38)) (j := 22) (σ' := (zu (sX9_scoreOf σ a1 a2 a3 a4 a5) 32 (zu (zu (zu ((sX9_scoreOf σ a1 a2 a3 a4 a5) 32) 26 (1 : Int32)) 25 (rX9_scoreOf σ a1 a2 a3 a4 a5)) 22 a3))) dX9_offer_106 (Nat.le_of_ble_eq_true rfl) (zN rfl) rfl rfl (Nat.le_of_ble_eq_true rfl) fl_X9_175 rfl rfl rfl rfl ((congrArg (fun g_ => zu _ _ (zu g_ _ _)) (zu_self _ _ _)).trans (zu_zu _ _ _ _)) ?_
        refine z_aloadr_n dX9_offer_109 rfl ?_
        refine z_iload dX9_offer_110 rfl ?_
        refine z_put (ci := 9) (r := (RX9, TX9, 38)) (j := 23) (σ' := (zu (sX9_scoreOf σ a1 a2 a3 a4 a5) 32 (zu (zu (zu (zu ((sX9_scoreOf σ a1 a2 a3 a4 a5) 32) 26 (1 : Int32)) 25 (rX9_scoreOf σ a1 a2 a3 a4 a5)) 22 a3) 23 a4))) dX9_offer_112 (Nat.le_of_ble_eq_true rfl) (zN rfl) rfl rfl (Nat.le_of_ble_eq_true rfl) fl_X9_178 rfl rfl rfl rfl ((congrArg (fun g_ => zu _ _ (zu g_ _ _)) (zu_self _ _ _)).trans (zu_zu _ _ _ _)) ?_
        refine z_aloadr_n dX9_offer_115 rfl ?_
        refine z_iload dX9_offer_116 rfl ?_
        refine z_put (ci := 9) (r := (RX9, TX9, 38)) (j := 24) (σ' := (zu (sX9_scoreOf σ a1 a2 a3 a4 a5) 32 (zu (zu (zu (zu (zu ((sX9_scoreOf σ a1 a2 a3 a4 a5) 32) 26 (1 : Int32)) 25 (rX9_scoreOf σ a1 a2 a3 a4 a5)) 22 a3) 23 a4) 24 a5))) dX9_offer_118 (Nat.le_of_ble_eq_true rfl) (zN rfl) rfl rfl (Nat.le_of_ble_eq_true rfl) fl_X9_181 rfl rfl rfl rfl ((congrArg (fun g_ => zu _ _ (zu g_ _ _)) (zu_self _ _ _)).trans (zu_zu _ _ _ _)) ?_
        exact z_return dX9_offer_121 rfl (Nat.le_of_ble_eq_true rfl) (Nat.le_of_ble_eq_true rfl) (by rw [← hQ_]; exact ⟨rfl, (by rw [sX9_offer]; try simp only [if_neg c_6, if_pos c_7])⟩)
      · refine z_iload dX9_offer_79 rfl ?_
        refine z_aloadr_n dX9_offer_81 rfl ?_
        refine z_get (ci := 9) (r := (RX9, TX9, 38)) (j := 25) (v := .int (((sX9_scoreOf σ a1 a2 a3 a4 a5) 32) 25)) dX9_offer_82 (Nat.le_of_ble_eq_true rfl) (zN rfl) rfl rfl (Nat.le_of_ble_eq_true rfl) fl_X9_172 rfl ?_
        refine z_icmp_ne (tgt := 121) dX9_offer_85 (by decide) (fun c_8 => ?_) (fun c_8 => ?_)
        · exact z_return dX9_offer_121 rfl (Nat.le_of_ble_eq_true rfl) (Nat.le_of_ble_eq_true rfl) (by rw [← hQ_]; exact ⟨rfl, (by rw [sX9_offer]; try simp only [if_neg c_6, if_neg c_7, if_neg c_8])⟩)
        · refine z_iload dX9_offer_88 rfl ?_
          refine z_if_eq (tgt := 121) dX9_offer_90 (by decide) (fun c_9 => ?_) (fun c_9 => ?_)
          · exact z_return dX9_offer_121 rfl (Nat.le_of_ble_eq_true rfl) (Nat.le_of_ble_eq_true rfl) (by rw [← hQ_]; exact ⟨rfl, (by rw [sX9_offer]; try simp only [if_neg c_6, if_neg c_7, if_pos c_8, if_pos c_9])⟩)
          · refine z_aloadr_n dX9_offer_93 rfl ?_
            refine z_iconst dX9_offer_94 k_iconst_1 ?_
            refine z_put (ci := 9) (r := (RX9, TX9, 38)) (j := 26) (σ' := (zu (sX9_scoreOf σ a1 a2 a3 a4 a5) 32 (zu ((sX9_scoreOf σ a1 a2 a3 a4 a5) 32) 26 (1 : Int32)))) dX9_offer_95 (Nat.le_of_ble_eq_true rfl) (zN rfl) rfl rfl (Nat.le_of_ble_eq_true rfl) fl_X9_168 rfl rfl rfl rfl rfl ?_
            refine z_aloadr_n dX9_offer_98 rfl ?_
            refine z_iload dX9_offer_99 rfl ?_
            refine z_put (ci := 9) (r := (RX9, TX9, 38)) (j := 25) (σ' := (zu (sX9_scoreOf σ a1 a2 a3 a4 a5) 32 (zu (zu ((sX9_scoreOf σ a1 a2 a3 a4 a5) 32) 26 (1 : Int32)) 25 (rX9_scoreOf σ a1 a2 a3 a4 a5)))) dX9_offer_101 (Nat.le_of_ble_eq_true rfl) (zN rfl) rfl rfl (Nat.le_of_ble_eq_true rfl) fl_X9_172 rfl rfl rfl rfl ((congrArg (fun g_ => zu _ _ (zu g_ _ _)) (zu_self _ _ _)).trans (zu_zu _ _ _ _)) ?_
            refine z_aloadr_n dX9_offer_104 rfl ?_
            refine z_iload_n dX9_offer_105 rfl ?_
            refine z_put (ci := 9) (r := (RX9, TX9, 38)) (j := 22) (σ' := (zu (sX9_scoreOf σ a1 a2 a3 a4 a5) 32 (zu (zu (zu ((sX9_scoreOf σ a1 a2 a3 a4 a5) 32) 26 (1 : Int32)) 25 (rX9_scoreOf σ a1 a2 a3 a4 a5)) 22 a3))) dX9_offer_106 (Nat.le_of_ble_eq_true rfl) (zN rfl) rfl rfl (Nat.le_of_ble_eq_true rfl) fl_X9_175 rfl rfl rfl rfl ((congrArg (fun g_ => zu _ _ (zu g_ _ _)) (zu_self _ _ _)).trans (zu_zu _ _ _ _)) ?_
            refine z_aloadr_n dX9_offer_109 rfl ?_
            refine z_iload dX9_offer_110 rfl ?_
            refine z_put (ci := 9) (r := (RX9, TX9, 38)) (j := 23) (σ' := (zu (sX9_scoreOf σ a1 a2 a3 a4 a5) 32 (zu (zu (zu (zu ((sX9_scoreOf σ a1 a2 a3 a4 a5) 32) 26 (1 : Int32)) 25 (rX9_scoreOf σ a1 a2 a3 a4 a5)) 22 a3) 23 a4))) dX9_offer_112 (Nat.le_of_ble_eq_true rfl) (zN rfl) rfl rfl (Nat.le_of_ble_eq_true rfl) fl_X9_178 rfl rfl rfl rfl ((congrArg (fun g_ => zu _ _ (zu g_ _ _)) (zu_self _ _ _)).trans (zu_zu _ _ _ _)) ?_
            refine z_aloadr_n dX9_offer_115 rfl ?_
            refine z_iload dX9_offer_116 rfl ?_
            refine z_put (ci := 9) (r := (RX9, TX9, 38)) (j := 24) (σ' := (zu (sX9_scoreOf σ a1 a2 a3 a4 a5) 32 (zu (zu (zu (zu (zu ((sX9_scoreOf σ a1 a2 a3 a4 a5) 32) 26 (1 : Int32)) 25 (rX9_scoreOf σ a1 a2 a3 a4 a5)) 22 a3) 23 a4) 24 a5))) dX9_offer_118 (Nat.le_of_ble_eq_true rfl) (zN rfl) rfl rfl (Nat.le_of_ble_eq_true rfl) fl_X9_181 rfl rfl rfl rfl ((congrArg (fun g_ => zu _ _ (zu g_ _ _)) (zu_self _ _ _)).trans (zu_zu _ _ _ _)) ?_
            exact z_return dX9_offer_121 rfl (Nat.le_of_ble_eq_true rfl) (Nat.le_of_ble_eq_true rfl) (by rw [← hQ_]; exact ⟨rfl, (by rw [sX9_offer]; try simp only [if_neg c_6, if_neg c_7, if_pos c_8, if_neg c_9])⟩)
  refine z_icmp_lt (tgt := 56) dX9_offer_18 (by decide) (fun c_1 => ?_) (fun c_1 => ?_)
  · refine z_iconst dX9_offer_56 k_iconst_1 ?_
    refine z_goto (tgt := 61) dX9_offer_57 (by decide) ?_
    refine zz_sub (lv' := [some (.ref 32), none, none, some (.int a3), some (.int a4), some (.int a5), some (.int (rX9_scoreOf σ a1 a2 a3 a4 a5)), none]) ⟨rfl, ⟨rfl, ⟨rfl, ⟨rfl, ⟨rfl, trivial⟩⟩⟩⟩⟩ ?_
    rw [show (if a3 < (((sX9_scoreOf σ a1 a2 a3 a4 a5) 32) 22) then (1 : Int32) else (if a3 = (((sX9_scoreOf σ a1 a2 a3 a4 a5) 32) 22) then (if a5 < (((sX9_scoreOf σ a1 a2 a3 a4 a5) 32) 24) then (1 : Int32) else (if a5 = (((sX9_scoreOf σ a1 a2 a3 a4 a5) 32) 24) then (if (((sX9_scoreOf σ a1 a2 a3 a4 a5) 32) 23) ≤ a4 then (0 : Int32) else (1 : Int32)) else (0 : Int32))) else (0 : Int32))) = (1 : Int32) from (if_pos c_1)] at K_1
    exact K_1
  · refine z_iload_n dX9_offer_21 rfl ?_
    refine z_aloadr_n dX9_offer_22 rfl ?_
    refine z_get (ci := 9) (r := (RX9, TX9, 38)) (j := 22) (v := .int (((sX9_scoreOf σ a1 a2 a3 a4 a5) 32) 22)) dX9_offer_23 (Nat.le_of_ble_eq_true rfl) (zN rfl) rfl rfl (Nat.le_of_ble_eq_true rfl) fl_X9_175 rfl ?_
    refine z_icmp_ne (tgt := 60) dX9_offer_26 (by decide) (fun c_2 => ?_) (fun c_2 => ?_)
    · refine z_iconst dX9_offer_60 k_iconst_0 ?_
      refine zz_sub (lv' := [some (.ref 32), none, none, some (.int a3), some (.int a4), some (.int a5), some (.int (rX9_scoreOf σ a1 a2 a3 a4 a5)), none]) ⟨rfl, ⟨rfl, ⟨rfl, ⟨rfl, ⟨rfl, trivial⟩⟩⟩⟩⟩ ?_
      rw [show (if a3 < (((sX9_scoreOf σ a1 a2 a3 a4 a5) 32) 22) then (1 : Int32) else (if a3 = (((sX9_scoreOf σ a1 a2 a3 a4 a5) 32) 22) then (if a5 < (((sX9_scoreOf σ a1 a2 a3 a4 a5) 32) 24) then (1 : Int32) else (if a5 = (((sX9_scoreOf σ a1 a2 a3 a4 a5) 32) 24) then (if (((sX9_scoreOf σ a1 a2 a3 a4 a5) 32) 23) ≤ a4 then (0 : Int32) else (1 : Int32)) else (0 : Int32))) else (0 : Int32))) = (0 : Int32) from ((if_neg c_1).trans (if_neg c_2))] at K_1
      exact K_1
    · refine z_iload dX9_offer_29 rfl ?_
      refine z_aloadr_n dX9_offer_31 rfl ?_
      refine z_get (ci := 9) (r := (RX9, TX9, 38)) (j := 24) (v := .int (((sX9_scoreOf σ a1 a2 a3 a4 a5) 32) 24)) dX9_offer_32 (Nat.le_of_ble_eq_true rfl) (zN rfl) rfl rfl (Nat.le_of_ble_eq_true rfl) fl_X9_181 rfl ?_
      refine z_icmp_lt (tgt := 56) dX9_offer_35 (by decide) (fun c_3 => ?_) (fun c_3 => ?_)
      · refine z_iconst dX9_offer_56 k_iconst_1 ?_
        refine z_goto (tgt := 61) dX9_offer_57 (by decide) ?_
        refine zz_sub (lv' := [some (.ref 32), none, none, some (.int a3), some (.int a4), some (.int a5), some (.int (rX9_scoreOf σ a1 a2 a3 a4 a5)), none]) ⟨rfl, ⟨rfl, ⟨rfl, ⟨rfl, ⟨rfl, trivial⟩⟩⟩⟩⟩ ?_
        rw [show (if a3 < (((sX9_scoreOf σ a1 a2 a3 a4 a5) 32) 22) then (1 : Int32) else (if a3 = (((sX9_scoreOf σ a1 a2 a3 a4 a5) 32) 22) then (if a5 < (((sX9_scoreOf σ a1 a2 a3 a4 a5) 32) 24) then (1 : Int32) else (if a5 = (((sX9_scoreOf σ a1 a2 a3 a4 a5) 32) 24) then (if (((sX9_scoreOf σ a1 a2 a3 a4 a5) 32) 23) ≤ a4 then (0 : Int32) else (1 : Int32)) else (0 : Int32))) else (0 : Int32))) = (1 : Int32) from ((if_neg c_1).trans ((if_pos c_2).trans (if_pos c_3)))] at K_1
        exact K_1
      · refine z_iload dX9_offer_38 rfl ?_
        refine z_aloadr_n dX9_offer_40 rfl ?_
        refine z_get (ci := 9) (r := (RX9, TX9, 38)) (j := 24) (v := .int (((sX9_scoreOf σ a1 a2 a3 a4 a5) 32) 24)) dX9_offer_41 (Nat.le_of_ble_eq_true rfl) (zN rfl) rfl rfl (Nat.le_of_ble_eq_true rfl) fl_X9_181 rfl ?_
        refine z_icmp_ne (tgt := 60) dX9_offer_44 (by decide) (fun c_4 => ?_) (fun c_4 => ?_)
        · refine z_iconst dX9_offer_60 k_iconst_0 ?_
          refine zz_sub (lv' := [some (.ref 32), none, none, some (.int a3), some (.int a4), some (.int a5), some (.int (rX9_scoreOf σ a1 a2 a3 a4 a5)), none]) ⟨rfl, ⟨rfl, ⟨rfl, ⟨rfl, ⟨rfl, trivial⟩⟩⟩⟩⟩ ?_
          rw [show (if a3 < (((sX9_scoreOf σ a1 a2 a3 a4 a5) 32) 22) then (1 : Int32) else (if a3 = (((sX9_scoreOf σ a1 a2 a3 a4 a5) 32) 22) then (if a5 < (((sX9_scoreOf σ a1 a2 a3 a4 a5) 32) 24) then (1 : Int32) else (if a5 = (((sX9_scoreOf σ a1 a2 a3 a4 a5) 32) 24) then (if (((sX9_scoreOf σ a1 a2 a3 a4 a5) 32) 23) ≤ a4 then (0 : Int32) else (1 : Int32)) else (0 : Int32))) else (0 : Int32))) = (0 : Int32) from ((if_neg c_1).trans ((if_pos c_2).trans ((if_neg c_3).trans (if_neg c_4))))] at K_1
          exact K_1
        · refine z_iload dX9_offer_47 rfl ?_
          refine z_aloadr_n dX9_offer_49 rfl ?_
          refine z_get (ci := 9) (r := (RX9, TX9, 38)) (j := 23) (v := .int (((sX9_scoreOf σ a1 a2 a3 a4 a5) 32) 23)) dX9_offer_50 (Nat.le_of_ble_eq_true rfl) (zN rfl) rfl rfl (Nat.le_of_ble_eq_true rfl) fl_X9_178 rfl ?_
          refine z_icmp_ge (tgt := 60) dX9_offer_53 (by decide) (fun c_5 => ?_) (fun c_5 => ?_)
          · refine z_iconst dX9_offer_60 k_iconst_0 ?_
            refine zz_sub (lv' := [some (.ref 32), none, none, some (.int a3), some (.int a4), some (.int a5), some (.int (rX9_scoreOf σ a1 a2 a3 a4 a5)), none]) ⟨rfl, ⟨rfl, ⟨rfl, ⟨rfl, ⟨rfl, trivial⟩⟩⟩⟩⟩ ?_
            rw [show (if a3 < (((sX9_scoreOf σ a1 a2 a3 a4 a5) 32) 22) then (1 : Int32) else (if a3 = (((sX9_scoreOf σ a1 a2 a3 a4 a5) 32) 22) then (if a5 < (((sX9_scoreOf σ a1 a2 a3 a4 a5) 32) 24) then (1 : Int32) else (if a5 = (((sX9_scoreOf σ a1 a2 a3 a4 a5) 32) 24) then (if (((sX9_scoreOf σ a1 a2 a3 a4 a5) 32) 23) ≤ a4 then (0 : Int32) else (1 : Int32)) else (0 : Int32))) else (0 : Int32))) = (0 : Int32) from ((if_neg c_1).trans ((if_pos c_2).trans ((if_neg c_3).trans ((if_pos c_4).trans (if_pos c_5)))))] at K_1
            exact K_1
          · refine z_iconst dX9_offer_56 k_iconst_1 ?_
            refine z_goto (tgt := 61) dX9_offer_57 (by decide) ?_
            refine zz_sub (lv' := [some (.ref 32), none, none, some (.int a3), some (.int a4), some (.int a5), some (.int (rX9_scoreOf σ a1 a2 a3 a4 a5)), none]) ⟨rfl, ⟨rfl, ⟨rfl, ⟨rfl, ⟨rfl, trivial⟩⟩⟩⟩⟩ ?_
            rw [show (if a3 < (((sX9_scoreOf σ a1 a2 a3 a4 a5) 32) 22) then (1 : Int32) else (if a3 = (((sX9_scoreOf σ a1 a2 a3 a4 a5) 32) 22) then (if a5 < (((sX9_scoreOf σ a1 a2 a3 a4 a5) 32) 24) then (1 : Int32) else (if a5 = (((sX9_scoreOf σ a1 a2 a3 a4 a5) 32) 24) then (if (((sX9_scoreOf σ a1 a2 a3 a4 a5) 32) 23) ≤ a4 then (0 : Int32) else (1 : Int32)) else (0 : Int32))) else (0 : Int32))) = (1 : Int32) from ((if_neg c_1).trans ((if_pos c_2).trans ((if_neg c_3).trans ((if_pos c_4).trans (if_neg c_5)))))] at K_1
            exact K_1
