/-! ===== printed by wip/whole/p22.py: the rest of the reference ===== -/
theorem z_tab4 {x : Int32} (h0 : ¬ x = 0) (h1 : ¬ x = 1) (h2 : ¬ x = 2) (h3 : ¬ x = 3) : x.toInt < 0 ∨ 3 < x.toInt := by
  have e0 : x.toInt ≠ 0 := z_nz h0
  have e1 : x.toInt ≠ 1 := z_nz h1
  have e2 : x.toInt ≠ 2 := z_nz h2
  have e3 : x.toInt ≠ 3 := z_nz h3
  omega

theorem dX9_findFirst_52 : decode cX9_findFirst 52 = .ok (.iload 8, 2) := by decide +kernel
theorem dX9_findFirst_54 : decode cX9_findFirst 54 = .ok (.iload 4, 2) := by decide +kernel
theorem dX9_findFirst_56 : decode cX9_findFirst 56 = .ok (.if_icmp .ge 33, 3) := by decide +kernel
theorem dX9_findFirst_59 : decode cX9_findFirst 59 = .ok (.iload 7, 2) := by decide +kernel
theorem dX9_findFirst_61 : decode cX9_findFirst 61 = .ok (.ifCond .eq 19, 3) := by decide +kernel
theorem dX9_findFirst_64 : decode cX9_findFirst 64 = .ok (.aload_n 0, 1) := by decide +kernel
theorem dX9_findFirst_65 : decode cX9_findFirst 65 = .ok (.getfield 66, 3) := by decide +kernel
theorem dX9_findFirst_68 : decode cX9_findFirst 68 = .ok (.iload 8, 2) := by decide +kernel
theorem dX9_findFirst_70 : decode cX9_findFirst 70 = .ok (.iaload, 1) := by decide +kernel
theorem dX9_findFirst_71 : decode cX9_findFirst 71 = .ok (.iload 6, 2) := by decide +kernel
theorem dX9_findFirst_73 : decode cX9_findFirst 73 = .ok (.if_icmp .eq 7, 3) := by decide +kernel
theorem dX9_findFirst_76 : decode cX9_findFirst 76 = .ok (.iconst 1, 1) := by decide +kernel
theorem dX9_findFirst_77 : decode cX9_findFirst 77 = .ok (.goto 4, 3) := by decide +kernel
theorem dX9_findFirst_80 : decode cX9_findFirst 80 = .ok (.iconst 0, 1) := by decide +kernel
theorem dX9_findFirst_81 : decode cX9_findFirst 81 = .ok (.istore 7, 2) := by decide +kernel
theorem dX9_findFirst_83 : decode cX9_findFirst 83 = .ok (.iinc 8 1, 3) := by decide +kernel
theorem dX9_findFirst_86 : decode cX9_findFirst 86 = .ok (.goto (-34), 3) := by decide +kernel
theorem dX9_findFirst_89 : decode cX9_findFirst 89 = .ok (.aload_n 0, 1) := by decide +kernel
theorem dX9_findFirst_90 : decode cX9_findFirst 90 = .ok (.getfield 66, 3) := by decide +kernel
theorem dX9_findFirst_93 : decode cX9_findFirst 93 = .ok (.iload 4, 2) := by decide +kernel
theorem dX9_findFirst_95 : decode cX9_findFirst 95 = .ok (.iload 6, 2) := by decide +kernel
theorem dX9_findFirst_97 : decode cX9_findFirst 97 = .ok (.iastore, 1) := by decide +kernel
theorem dX9_findFirst_98 : decode cX9_findFirst 98 = .ok (.iload 7, 2) := by decide +kernel
theorem dX9_findFirst_103 : decode cX9_findFirst 103 = .ok (.aload_n 0, 1) := by decide +kernel
theorem dX9_findFirst_104 : decode cX9_findFirst 104 = .ok (.iload 4, 2) := by decide +kernel
theorem dX9_findFirst_106 : decode cX9_findFirst 106 = .ok (.iconst 1, 1) := by decide +kernel
theorem dX9_findFirst_107 : decode cX9_findFirst 107 = .ok (.iadd, 1) := by decide +kernel
theorem dX9_findFirst_108 : decode cX9_findFirst 108 = .ok (.iload_n 1, 1) := by decide +kernel
theorem dX9_findFirst_109 : decode cX9_findFirst 109 = .ok (.iload_n 2, 1) := by decide +kernel
theorem dX9_findFirst_110 : decode cX9_findFirst 110 = .ok (.invokevirtual 155, 3) := by decide +kernel
theorem dX9_findFirst_113 : decode cX9_findFirst 113 = .ok (.iload_n 3, 1) := by decide +kernel
theorem dX9_findFirst_114 : decode cX9_findFirst 114 = .ok (.iconst 1, 1) := by decide +kernel
theorem dX9_findFirst_115 : decode cX9_findFirst 115 = .ok (.isub, 1) := by decide +kernel
theorem dX9_findFirst_119 : decode cX9_findFirst 119 = .ok (.iload 6, 2) := by decide +kernel
theorem dX9_findFirst_121 : decode cX9_findFirst 121 = .ok (.istore 5, 2) := by decide +kernel
theorem dX9_findFirst_123 : decode cX9_findFirst 123 = .ok (.iinc 6 1, 3) := by decide +kernel
theorem dX9_findFirst_126 : decode cX9_findFirst 126 = .ok (.goto (-103), 3) := by decide +kernel
noncomputable def fX9_findFirst_52 (σ : zc_N) (l6 : Int32) (i_ : Nat) (a_ : Int32) : Int32 := (if a_ = (0 : Int32) then (0 : Int32) else (if ((σ 50) (nI i_).toNatClampNeg) = l6 then (0 : Int32) else (1 : Int32)))
def qX9_findFirst_52 (i_ : Nat) (a_ : Int32) : Prop := ((a_ = (0 : Int32) → True) ∧ (¬ a_ = (0 : Int32) → vp_in (nI i_) 12))
set_option maxHeartbeats 2000000 in
theorem lpX9_findFirst_52 {G : zc_G} {Q : Option Value → zc_H → Prop} (P : zp) (σ : zc_N) (l1 : Int32) (l2 : Int32) (l3 : Int32) (l4 : Int32) (l5 : Int32) (l6 : Int32) (l7 : Int32) (n_ : Nat) (hC_ : ∀ i52_ : Nat, i52_ ≤ n_ → (l4 ≤ (nI i52_) ↔ n_ ≤ i52_)) (W1_ : ∀ i52_ : Nat, i52_ < n_ → qX9_findFirst_52 i52_ (zfor (fX9_findFirst_52 σ l6) i52_ l7))
    (W2_ : zz G mX9_findFirst 15 0 0 Q 89 [some (.ref 32), some (.int l1), some (.int l2), some (.int l3), some (.int l4), some (.int l5), some (.int l6), some (.int (zfor (fX9_findFirst_52 σ l6) n_ l7)), none] [] (hh P σ) 0 0) :
    zz G mX9_findFirst 15 0 0 Q 52 [some (.ref 32), some (.int l1), some (.int l2), some (.int l3), some (.int l4), some (.int l5), some (.int l6), some (.int l7), some (.int (nI 0))] [] (hh P σ) 0 0 := by
  refine zfor_nI (fun i_ a_ => zz G mX9_findFirst 15 0 0 Q 52 [some (.ref 32), some (.int l1), some (.int l2), some (.int l3), some (.int l4), some (.int l5), some (.int l6), some (.int a_), some (.int i_)] [] (hh P σ) 0 0) (fX9_findFirst_52 σ l6) n_ l7 (fun i_ hi_ k_ => ?_) ?_
  · have W3_ := W1_ i_ hi_
    have hD_ := hC_ i_ (Nat.le_of_lt hi_)
    generalize zfor (fX9_findFirst_52 σ l6) i_ l7 = g_ at k_ W3_ hD_ ⊢
    rw [fX9_findFirst_52] at k_
    rw [qX9_findFirst_52] at W3_
    try dsimp only at W3_
    refine z_iload dX9_findFirst_52 rfl ?_
    refine z_iload dX9_findFirst_54 rfl ?_
    refine z_icmp_ge (tgt := 89) dX9_findFirst_56 (by decide) (fun c_ => absurd c_ (fun q_ => Nat.not_le_of_lt hi_ (hD_.mp q_))) (fun c_ => ?_)
    refine z_iload dX9_findFirst_59 rfl ?_
    have K_1 : zz G mX9_findFirst 15 0 0 Q 81 [some (.ref 32), some (.int l1), some (.int l2), some (.int l3), some (.int l4), some (.int l5), some (.int l6), none, some (.int (nI i_))] [.int (if g_ = (0 : Int32) then (0 : Int32) else (if ((σ 50) (nI i_).toNatClampNeg) = l6 then (0 : Int32) else (1 : Int32)))] (hh P σ) 0 0 := by
      refine z_istore (lv' := [some (.ref 32), some (.int l1), some (.int l2), some (.int l3), some (.int l4), some (.int l5), some (.int l6), some (.int (if g_ = (0 : Int32) then (0 : Int32) else (if ((σ 50) (nI i_).toNatClampNeg) = l6 then (0 : Int32) else (1 : Int32)))), some (.int (nI i_))]) dX9_findFirst_81 (Nat.le_of_ble_eq_true rfl) rfl ?_
      refine z_iinc (v := ((nI i_) + (1 : Int32))) (lv' := [some (.ref 32), some (.int l1), some (.int l2), some (.int l3), some (.int l4), some (.int l5), some (.int l6), some (.int (if g_ = (0 : Int32) then (0 : Int32) else (if ((σ 50) (nI i_).toNatClampNeg) = l6 then (0 : Int32) else (1 : Int32)))), some (.int ((nI i_) + (1 : Int32)))]) dX9_findFirst_83 (Nat.le_of_ble_eq_true rfl) rfl (by rw [k_iconst_1]) rfl ?_
      refine z_goto (tgt := 52) dX9_findFirst_86 (by decide) ?_
      rw [nI_1]
      exact k_
    refine z_if_eq (tgt := 80) dX9_findFirst_61 (by decide) (fun c_4 => ?_) (fun c_4 => ?_)
    · refine z_iconst dX9_findFirst_80 k_iconst_0 ?_
      refine zz_sub (lv' := [some (.ref 32), some (.int l1), some (.int l2), some (.int l3), some (.int l4), some (.int l5), some (.int l6), none, some (.int (nI i_))]) ⟨rfl, ⟨rfl, ⟨rfl, ⟨rfl, ⟨rfl, ⟨rfl, ⟨rfl, ⟨rfl, trivial⟩⟩⟩⟩⟩⟩⟩⟩ ?_
      rw [show (if g_ = (0 : Int32) then (0 : Int32) else (if ((σ 50) (nI i_).toNatClampNeg) = l6 then (0 : Int32) else (1 : Int32))) = (0 : Int32) from (if_pos c_4)] at K_1
      exact K_1
    · refine z_aloadr_n dX9_findFirst_64 rfl ?_
      refine z_get (ci := 9) (r := (RX9, TX9, 38)) (j := 19) (v := .ref 50) dX9_findFirst_65 (Nat.le_of_ble_eq_true rfl) (zN rfl) rfl rfl (Nat.le_of_ble_eq_true rfl) fl_X9_66 rfl ?_
      refine z_iload dX9_findFirst_68 rfl ?_
      refine z_iald (v := ((σ 50) (nI i_).toNatClampNeg)) dX9_findFirst_70 (zN rfl) rfl (W3_.2 c_4) rfl ?_
      refine z_iload dX9_findFirst_71 rfl ?_
      refine z_icmp_eq (tgt := 80) dX9_findFirst_73 (by decide) (fun c_5 => ?_) (fun c_5 => ?_)
      · refine z_iconst dX9_findFirst_80 k_iconst_0 ?_
        refine zz_sub (lv' := [some (.ref 32), some (.int l1), some (.int l2), some (.int l3), some (.int l4), some (.int l5), some (.int l6), none, some (.int (nI i_))]) ⟨rfl, ⟨rfl, ⟨rfl, ⟨rfl, ⟨rfl, ⟨rfl, ⟨rfl, ⟨rfl, trivial⟩⟩⟩⟩⟩⟩⟩⟩ ?_
        rw [show (if g_ = (0 : Int32) then (0 : Int32) else (if ((σ 50) (nI i_).toNatClampNeg) = l6 then (0 : Int32) else (1 : Int32))) = (0 : Int32) from ((if_neg c_4).trans (if_pos c_5))] at K_1
        exact K_1
      · refine z_iconst dX9_findFirst_76 k_iconst_1 ?_
        refine z_goto (tgt := 81) dX9_findFirst_77 (by decide) ?_
        refine zz_sub (lv' := [some (.ref 32), some (.int l1), some (.int l2), some (.int l3), some (.int l4), some (.int l5), some (.int l6), none, some (.int (nI i_))]) ⟨rfl, ⟨rfl, ⟨rfl, ⟨rfl, ⟨rfl, ⟨rfl, ⟨rfl, ⟨rfl, trivial⟩⟩⟩⟩⟩⟩⟩⟩ ?_
        rw [show (if g_ = (0 : Int32) then (0 : Int32) else (if ((σ 50) (nI i_).toNatClampNeg) = l6 then (0 : Int32) else (1 : Int32))) = (1 : Int32) from ((if_neg c_4).trans (if_neg c_5))] at K_1
        exact K_1
  · have hD_ := hC_ n_ (Nat.le_refl _)
    generalize zfor (fX9_findFirst_52 σ l6) n_ l7 = g_ at W2_ hD_ ⊢
    refine z_iload dX9_findFirst_52 rfl ?_
    refine z_iload dX9_findFirst_54 rfl ?_
    refine z_icmp_ge (tgt := 89) dX9_findFirst_56 (by decide) (fun c_ => ?_) (fun c_ => absurd (hD_.mpr (Nat.le_refl _)) c_)
    exact zz_sub (lv' := [some (.ref 32), some (.int l1), some (.int l2), some (.int l3), some (.int l4), some (.int l5), some (.int l6), some (.int g_), none]) ⟨rfl, ⟨rfl, ⟨rfl, ⟨rfl, ⟨rfl, ⟨rfl, ⟨rfl, ⟨rfl, trivial⟩⟩⟩⟩⟩⟩⟩⟩ W2_

theorem dX9_findFirst_23 : decode cX9_findFirst 23 = .ok (.iload 6, 2) := by decide +kernel
theorem dX9_findFirst_25 : decode cX9_findFirst 25 = .ok (.iload_n 2, 1) := by decide +kernel
theorem dX9_findFirst_26 : decode cX9_findFirst 26 = .ok (.if_icmp .ge 103, 3) := by decide +kernel
theorem dX9_findFirst_29 : decode cX9_findFirst 29 = .ok (.iload 5, 2) := by decide +kernel
theorem dX9_findFirst_31 : decode cX9_findFirst 31 = .ok (.ifCond .ge 98, 3) := by decide +kernel
theorem dX9_findFirst_34 : decode cX9_findFirst 34 = .ok (.aload_n 0, 1) := by decide +kernel
theorem dX9_findFirst_35 : decode cX9_findFirst 35 = .ok (.getfield 57, 3) := by decide +kernel
theorem dX9_findFirst_38 : decode cX9_findFirst 38 = .ok (.bipush 12, 2) := by decide +kernel
theorem dX9_findFirst_40 : decode cX9_findFirst 40 = .ok (.iload 4, 2) := by decide +kernel
theorem dX9_findFirst_42 : decode cX9_findFirst 42 = .ok (.imul, 1) := by decide +kernel
theorem dX9_findFirst_43 : decode cX9_findFirst 43 = .ok (.iload 6, 2) := by decide +kernel
theorem dX9_findFirst_45 : decode cX9_findFirst 45 = .ok (.iadd, 1) := by decide +kernel
theorem dX9_findFirst_46 : decode cX9_findFirst 46 = .ok (.baload, 1) := by decide +kernel
theorem dX9_findFirst_47 : decode cX9_findFirst 47 = .ok (.istore 7, 2) := by decide +kernel
theorem dX9_findFirst_49 : decode cX9_findFirst 49 = .ok (.iconst 0, 1) := by decide +kernel
theorem dX9_findFirst_50 : decode cX9_findFirst 50 = .ok (.istore 8, 2) := by decide +kernel
theorem dX9_findFirst_100 : decode cX9_findFirst 100 = .ok (.ifCond .eq 23, 3) := by decide +kernel
theorem dX9_findFirst_116 : decode cX9_findFirst 116 = .ok (.if_icmp .ne 7, 3) := by decide +kernel
theorem dX9_findFirst_129 : decode cX9_findFirst 129 = .ok (.aload_n 0, 1) := by decide +kernel
theorem dX9_findFirst_130 : decode cX9_findFirst 130 = .ok (.getfield 66, 3) := by decide +kernel
theorem dX9_findFirst_133 : decode cX9_findFirst 133 = .ok (.iload 4, 2) := by decide +kernel
theorem dX9_findFirst_135 : decode cX9_findFirst 135 = .ok (.iload 5, 2) := by decide +kernel
theorem dX9_findFirst_137 : decode cX9_findFirst 137 = .ok (.iastore, 1) := by decide +kernel
theorem dX9_findFirst_138 : decode cX9_findFirst 138 = .ok (.iload_n 3, 1) := by decide +kernel
theorem dX9_findFirst_139 : decode cX9_findFirst 139 = .ok (.iload 5, 2) := by decide +kernel
theorem dX9_findFirst_144 : decode cX9_findFirst 144 = .ok (.iconst 1, 1) := by decide +kernel
theorem dX9_findFirst_145 : decode cX9_findFirst 145 = .ok (.goto 4, 3) := by decide +kernel
theorem dX9_findFirst_148 : decode cX9_findFirst 148 = .ok (.iconst 0, 1) := by decide +kernel
theorem dX9_findFirst_149 : decode cX9_findFirst 149 = .ok (.isub, 1) := by decide +kernel
theorem dX9_findFirst_150 : decode cX9_findFirst 150 = .ok (.istore_n 3, 1) := by decide +kernel
theorem dX9_findFirst_151 : decode cX9_findFirst 151 = .ok (.aload_n 0, 1) := by decide +kernel
theorem dX9_findFirst_152 : decode cX9_findFirst 152 = .ok (.getfield 69, 3) := by decide +kernel
theorem dX9_findFirst_155 : decode cX9_findFirst 155 = .ok (.iload 4, 2) := by decide +kernel
theorem dX9_findFirst_157 : decode cX9_findFirst 157 = .ok (.iload 5, 2) := by decide +kernel
theorem dX9_findFirst_159 : decode cX9_findFirst 159 = .ok (.iastore, 1) := by decide +kernel
theorem dX9_findFirst_160 : decode cX9_findFirst 160 = .ok (.iinc 4 1, 3) := by decide +kernel
theorem dX9_findFirst_163 : decode cX9_findFirst 163 = .ok (.goto (-152), 3) := by decide +kernel
noncomputable def fX9_findFirst_23 (l1 : Int32) (l2 : Int32) (l3 : Int32) (l4 : Int32) (a_ : Int32 × Int32 × zc_N) : Int32 × Int32 × zc_N := ((if (zfor (fX9_findFirst_52 a_.2.2 a_.2.1) ((l4).toNatClampNeg) ((a_.2.2 47) (((12 : Int32) * l4) + a_.2.1).toNatClampNeg)) = (0 : Int32) then a_.1 else (if (rX9_mostPairs (zu a_.2.2 50 (zu (a_.2.2 50) l4.toNatClampNeg a_.2.1)) (l4 + (1 : Int32)) l1 l2) = (l3 - (1 : Int32)) then a_.2.1 else a_.1)), (a_.2.1 + (1 : Int32)), (if (zfor (fX9_findFirst_52 a_.2.2 a_.2.1) ((l4).toNatClampNeg) ((a_.2.2 47) (((12 : Int32) * l4) + a_.2.1).toNatClampNeg)) = (0 : Int32) then (zu a_.2.2 50 (zu (a_.2.2 50) l4.toNatClampNeg a_.2.1)) else (sX9_mostPairs (zu a_.2.2 50 (zu (a_.2.2 50) l4.toNatClampNeg a_.2.1)) (l4 + (1 : Int32)) l1 l2)))
def eX9_findFirst_23 (l2 : Int32) (l4 : Int32) (a_ : Int32 × Int32 × zc_N) : Prop := ((l2 ≤ a_.2.1 ∧ True) ∨ (¬ l2 ≤ a_.2.1 ∧ (((0 : Int32) ≤ a_.1 ∧ True) ∨ (¬ (0 : Int32) ≤ a_.1 ∧ (((zfor (fX9_findFirst_52 a_.2.2 a_.2.1) ((l4).toNatClampNeg) ((a_.2.2 47) (((12 : Int32) * l4) + a_.2.1).toNatClampNeg)) = (0 : Int32) ∧ False) ∨ (¬ (zfor (fX9_findFirst_52 a_.2.2 a_.2.1) ((l4).toNatClampNeg) ((a_.2.2 47) (((12 : Int32) * l4) + a_.2.1).toNatClampNeg)) = (0 : Int32) ∧ False))))))
def qX9_findFirst_23 (l1 : Int32) (l2 : Int32) (l4 : Int32) (a_ : Int32 × Int32 × zc_N) : Prop := ((l2 ≤ a_.2.1 → (vp_in l4 12 ∧ vp_in l4 12)) ∧ (¬ l2 ≤ a_.2.1 → (((0 : Int32) ≤ a_.1 → (vp_in l4 12 ∧ vp_in l4 12)) ∧ (¬ (0 : Int32) ≤ a_.1 → (vp_in (((12 : Int32) * l4) + a_.2.1) 144 ∧ (((∀ i52_ : Nat, i52_ ≤ ((l4).toNatClampNeg) → (l4 ≤ (nI i52_) ↔ ((l4).toNatClampNeg) ≤ i52_)) ∧ (∀ i52_ : Nat, i52_ < ((l4).toNatClampNeg) → qX9_findFirst_52 i52_ (zfor (fX9_findFirst_52 a_.2.2 a_.2.1) i52_ ((a_.2.2 47) (((12 : Int32) * l4) + a_.2.1).toNatClampNeg)))) ∧ (vp_in l4 12 ∧ (((zfor (fX9_findFirst_52 a_.2.2 a_.2.1) ((l4).toNatClampNeg) ((a_.2.2 47) (((12 : Int32) * l4) + a_.2.1).toNatClampNeg)) = (0 : Int32) → True) ∧ (¬ (zfor (fX9_findFirst_52 a_.2.2 a_.2.1) ((l4).toNatClampNeg) ((a_.2.2 47) (((12 : Int32) * l4) + a_.2.1).toNatClampNeg)) = (0 : Int32) → (pX9_mostPairs (zu a_.2.2 50 (zu (a_.2.2 50) l4.toNatClampNeg a_.2.1)) (l4 + (1 : Int32)) l1 l2))))))))))
noncomputable def wX9_findFirst_23 (l1 : Int32) (l2 : Int32) (l3 : Int32) (l4 : Int32) (a_ : Int32 × Int32 × zc_N) : Int32 × Int32 × zc_N := zit (fX9_findFirst_23 l1 l2 l3 l4) (zwn (fun n_ => (eX9_findFirst_23 l2 l4) (zit (fX9_findFirst_23 l1 l2 l3 l4) n_ a_))) a_
set_option maxHeartbeats 2000000 in
theorem whX9_findFirst_23 {G : zc_G} {Q : Option Value → zc_H → Prop} (P : zp) (σ : zc_N) (l1 : Int32) (l2 : Int32) (l3 : Int32) (l4 : Int32) (l5 : Int32) (l6 : Int32)
    (hT_ : ∃ n_ : Nat, (eX9_findFirst_23 l2 l4) (zit (fX9_findFirst_23 l1 l2 l3 l4) n_ (l5, l6, σ))) (W1_ : ∀ i23_ : Nat, i23_ < (zwn (fun n_ => (eX9_findFirst_23 l2 l4) (zit (fX9_findFirst_23 l1 l2 l3 l4) n_ (l5, l6, σ)))) → qX9_findFirst_23 l1 l2 l4 (zit (fX9_findFirst_23 l1 l2 l3 l4) i23_ (l5, l6, σ)))
    (W2_ : (eX9_findFirst_23 l2 l4) (wX9_findFirst_23 l1 l2 l3 l4 (l5, l6, σ)) → zz G mX9_findFirst 15 0 0 Q 23 [some (.ref 32), some (.int l1), some (.int l2), some (.int l3), some (.int l4), some (.int (wX9_findFirst_23 l1 l2 l3 l4 (l5, l6, σ)).1), some (.int (wX9_findFirst_23 l1 l2 l3 l4 (l5, l6, σ)).2.1), none, none] [] (hh P (wX9_findFirst_23 l1 l2 l3 l4 (l5, l6, σ)).2.2) 0 0) :
    zz G mX9_findFirst 15 0 0 Q 23 [some (.ref 32), some (.int l1), some (.int l2), some (.int l3), some (.int l4), some (.int l5), some (.int l6), none, none] [] (hh P σ) 0 0 := by
  unfold wX9_findFirst_23 at W2_
  have hs_ := zwn_spec hT_
  refine zit_Z (fun a_ => zz G mX9_findFirst 15 0 0 Q 23 [some (.ref 32), some (.int l1), some (.int l2), some (.int l3), some (.int l4), some (.int a_.1), some (.int a_.2.1), none, none] [] (hh P a_.2.2) 0 0) (fX9_findFirst_23 l1 l2 l3 l4) (zwn (fun n_ => (eX9_findFirst_23 l2 l4) (zit (fX9_findFirst_23 l1 l2 l3 l4) n_ (l5, l6, σ)))) (l5, l6, σ) (fun i_ hi_ k_ => ?_) (W2_ hs_.1)
  have hn_ := hs_.2 i_ hi_
  have W3_ := W1_ i_ hi_
  generalize zit (fX9_findFirst_23 l1 l2 l3 l4) i_ (l5, l6, σ) = g_ at k_ hn_ W3_ ⊢
  obtain ⟨x0_, x1_, x2_⟩ := g_
  try dsimp only at k_ hn_ W3_ ⊢
  rw [fX9_findFirst_23] at k_
  rw [eX9_findFirst_23] at hn_
  try dsimp only at k_ hn_
  rw [qX9_findFirst_23] at W3_
  try dsimp only at W3_
  refine z_iload dX9_findFirst_23 rfl ?_
  refine z_iload_n dX9_findFirst_25 rfl ?_
  refine z_icmp_ge (tgt := 129) dX9_findFirst_26 (by decide) (fun c_1 => ?_) (fun c_1 => ?_)
  · exact absurd (Or.inl ⟨c_1, trivial⟩) hn_
  · refine z_iload dX9_findFirst_29 rfl ?_
    refine z_if_ge (tgt := 129) dX9_findFirst_31 (by decide) (fun c_3 => ?_) (fun c_3 => ?_)
    · exact absurd (Or.inr ⟨c_1, (Or.inl ⟨c_3, trivial⟩)⟩) hn_
    · refine z_aloadr_n dX9_findFirst_34 rfl ?_
      refine z_get (ci := 9) (r := (RX9, TX9, 38)) (j := 16) (v := .ref 47) dX9_findFirst_35 (Nat.le_of_ble_eq_true rfl) (zN rfl) rfl rfl (Nat.le_of_ble_eq_true rfl) fl_X9_57 rfl ?_
      refine z_bipush dX9_findFirst_38 k_bipush_12 ?_
      refine z_iload dX9_findFirst_40 rfl ?_
      refine z_imul (v := ((12 : Int32) * l4)) dX9_findFirst_42 rfl ?_
      refine z_iload dX9_findFirst_43 rfl ?_
      refine z_iadd (v := (((12 : Int32) * l4) + x1_)) dX9_findFirst_45 rfl ?_
      refine z_bald (v := ((x2_ 47) (((12 : Int32) * l4) + x1_).toNatClampNeg)) dX9_findFirst_46 (Nat.le_of_ble_eq_true rfl) (zN rfl) rfl (((W3_.2 c_1).2 c_3).1) rfl ?_
      refine z_istore (lv' := [some (.ref 32), some (.int l1), some (.int l2), some (.int l3), some (.int l4), some (.int x0_), some (.int x1_), some (.int ((x2_ 47) (((12 : Int32) * l4) + x1_).toNatClampNeg)), none]) dX9_findFirst_47 (Nat.le_of_ble_eq_true rfl) rfl ?_
      refine z_iconst dX9_findFirst_49 k_iconst_0 ?_
      refine z_istore (lv' := [some (.ref 32), some (.int l1), some (.int l2), some (.int l3), some (.int l4), some (.int x0_), some (.int x1_), some (.int ((x2_ 47) (((12 : Int32) * l4) + x1_).toNatClampNeg)), some (.int (0 : Int32))]) dX9_findFirst_50 (Nat.le_of_ble_eq_true rfl) rfl ?_
      refine lpX9_findFirst_52 P x2_ l1 l2 l3 l4 x0_ x1_ ((x2_ 47) (((12 : Int32) * l4) + x1_).toNatClampNeg) ((l4).toNatClampNeg) (((W3_.2 c_1).2 c_3).2.1).1 (((W3_.2 c_1).2 c_3).2.1).2 ?_
      show zz G mX9_findFirst 15 0 0 Q 89 [some (.ref 32), some (.int l1), some (.int l2), some (.int l3), some (.int l4), some (.int x0_), some (.int x1_), some (.int (zfor (fX9_findFirst_52 x2_ x1_) ((l4).toNatClampNeg) ((x2_ 47) (((12 : Int32) * l4) + x1_).toNatClampNeg))), none] [] (hh P x2_) 0 0
      refine z_aloadr_n dX9_findFirst_89 rfl ?_
      refine z_get (ci := 9) (r := (RX9, TX9, 38)) (j := 19) (v := .ref 50) dX9_findFirst_90 (Nat.le_of_ble_eq_true rfl) (zN rfl) rfl rfl (Nat.le_of_ble_eq_true rfl) fl_X9_66 rfl ?_
      refine z_iload dX9_findFirst_93 rfl ?_
      refine z_iload dX9_findFirst_95 rfl ?_
      refine z_iast (σ' := (zu x2_ 50 (zu (x2_ 50) l4.toNatClampNeg x1_))) dX9_findFirst_97 (Nat.le_of_ble_eq_true rfl) (zN rfl) rfl (((W3_.2 c_1).2 c_3).2.2.1) rfl ?_
      refine z_iload dX9_findFirst_98 rfl ?_
      refine z_if_eq (tgt := 123) dX9_findFirst_100 (by decide) (fun c_5 => ?_) (fun c_5 => ?_)
      · refine z_iinc (v := (x1_ + (1 : Int32))) (lv' := [some (.ref 32), some (.int l1), some (.int l2), some (.int l3), some (.int l4), some (.int x0_), some (.int (x1_ + (1 : Int32))), some (.int (zfor (fX9_findFirst_52 x2_ x1_) ((l4).toNatClampNeg) ((x2_ 47) (((12 : Int32) * l4) + x1_).toNatClampNeg))), none]) dX9_findFirst_123 (Nat.le_of_ble_eq_true rfl) rfl (by rw [k_iconst_1]) rfl ?_
        refine z_goto (tgt := 23) dX9_findFirst_126 (by decide) ?_
        refine zz_sub (lv' := [some (.ref 32), some (.int l1), some (.int l2), some (.int l3), some (.int l4), some (.int x0_), some (.int (x1_ + (1 : Int32))), none, none]) ⟨rfl, ⟨rfl, ⟨rfl, ⟨rfl, ⟨rfl, ⟨rfl, ⟨rfl, trivial⟩⟩⟩⟩⟩⟩⟩ ?_
        simpa only [if_neg c_1, if_neg c_3, if_pos c_5] using k_
      · refine z_aloadr_n dX9_findFirst_103 rfl ?_
        refine z_iload dX9_findFirst_104 rfl ?_
        refine z_iconst dX9_findFirst_106 k_iconst_1 ?_
        refine z_iadd (v := (l4 + (1 : Int32))) dX9_findFirst_107 rfl ?_
        refine z_iload_n dX9_findFirst_108 rfl ?_
        refine z_iload_n dX9_findFirst_109 rfl ?_
        refine z_callV (ci := 9) (r := (RX9, TX9, 38)) (b := 32) (As := [.int (l4 + (1 : Int32)), .int l1, .int l2]) (rest := []) (ctX9_mostPairs P (zu x2_ 50 (zu (x2_ 50) l4.toNatClampNeg x1_)) (l4 + (1 : Int32)) l1 l2 (((W3_.2 c_1).2 c_3).2.2.2.2 c_5)) dX9_findFirst_110 lk_X9_155 lv_X9_mostPairs (Nat.le_of_ble_eq_true rfl) (zN rfl) rfl rfl rfl rfl (Nat.le_of_ble_eq_true rfl) (Nat.le_of_ble_eq_true rfl) (Nat.le_of_ble_eq_true rfl) (Nat.le_of_ble_eq_true rfl) (fun r_ h_ e_ => ?_)
        obtain ⟨e1_, e2_⟩ := e_
        subst e1_
        subst e2_
        show zz G mX9_findFirst 15 0 0 Q 113 [some (.ref 32), some (.int l1), some (.int l2), some (.int l3), some (.int l4), some (.int x0_), some (.int x1_), some (.int (zfor (fX9_findFirst_52 x2_ x1_) ((l4).toNatClampNeg) ((x2_ 47) (((12 : Int32) * l4) + x1_).toNatClampNeg))), none] [.int (rX9_mostPairs (zu x2_ 50 (zu (x2_ 50) l4.toNatClampNeg x1_)) (l4 + (1 : Int32)) l1 l2)] (hh P (sX9_mostPairs (zu x2_ 50 (zu (x2_ 50) l4.toNatClampNeg x1_)) (l4 + (1 : Int32)) l1 l2)) 0 0
        refine z_iload_n dX9_findFirst_113 rfl ?_
        refine z_iconst dX9_findFirst_114 k_iconst_1 ?_
        refine z_isub (v := (l3 - (1 : Int32))) dX9_findFirst_115 rfl ?_
        have K_1 : zz G mX9_findFirst 15 0 0 Q 123 [some (.ref 32), some (.int l1), some (.int l2), some (.int l3), some (.int l4), some (.int (if (rX9_mostPairs (zu x2_ 50 (zu (x2_ 50) l4.toNatClampNeg x1_)) (l4 + (1 : Int32)) l1 l2) = (l3 - (1 : Int32)) then x1_ else x0_)), some (.int x1_), none, none] [] (hh P (sX9_mostPairs (zu x2_ 50 (zu (x2_ 50) l4.toNatClampNeg x1_)) (l4 + (1 : Int32)) l1 l2)) 0 0 := by
          refine z_iinc (v := (x1_ + (1 : Int32))) (lv' := [some (.ref 32), some (.int l1), some (.int l2), some (.int l3), some (.int l4), some (.int (if (rX9_mostPairs (zu x2_ 50 (zu (x2_ 50) l4.toNatClampNeg x1_)) (l4 + (1 : Int32)) l1 l2) = (l3 - (1 : Int32)) then x1_ else x0_)), some (.int (x1_ + (1 : Int32))), none, none]) dX9_findFirst_123 (Nat.le_of_ble_eq_true rfl) rfl (by rw [k_iconst_1]) rfl ?_
          refine z_goto (tgt := 23) dX9_findFirst_126 (by decide) ?_
          simpa only [if_neg c_1, if_neg c_3, if_neg c_5] using k_
        refine z_icmp_ne (tgt := 123) dX9_findFirst_116 (by decide) (fun c_6 => ?_) (fun c_6 => ?_)
        · refine zz_sub (lv' := [some (.ref 32), some (.int l1), some (.int l2), some (.int l3), some (.int l4), some (.int x0_), some (.int x1_), none, none]) ⟨rfl, ⟨rfl, ⟨rfl, ⟨rfl, ⟨rfl, ⟨rfl, ⟨rfl, trivial⟩⟩⟩⟩⟩⟩⟩ ?_
          rw [show (if (rX9_mostPairs (zu x2_ 50 (zu (x2_ 50) l4.toNatClampNeg x1_)) (l4 + (1 : Int32)) l1 l2) = (l3 - (1 : Int32)) then x1_ else x0_) = x0_ from (if_neg c_6)] at K_1
          exact K_1
        · refine z_iload dX9_findFirst_119 rfl ?_
          refine z_istore (lv' := [some (.ref 32), some (.int l1), some (.int l2), some (.int l3), some (.int l4), some (.int x1_), some (.int x1_), some (.int (zfor (fX9_findFirst_52 x2_ x1_) ((l4).toNatClampNeg) ((x2_ 47) (((12 : Int32) * l4) + x1_).toNatClampNeg))), none]) dX9_findFirst_121 (Nat.le_of_ble_eq_true rfl) rfl ?_
          refine zz_sub (lv' := [some (.ref 32), some (.int l1), some (.int l2), some (.int l3), some (.int l4), some (.int x1_), some (.int x1_), none, none]) ⟨rfl, ⟨rfl, ⟨rfl, ⟨rfl, ⟨rfl, ⟨rfl, ⟨rfl, trivial⟩⟩⟩⟩⟩⟩⟩ ?_
          rw [show (if (rX9_mostPairs (zu x2_ 50 (zu (x2_ 50) l4.toNatClampNeg x1_)) (l4 + (1 : Int32)) l1 l2) = (l3 - (1 : Int32)) then x1_ else x0_) = x1_ from (if_pos c_6)] at K_1
          exact K_1

theorem dX9_findFirst_11 : decode cX9_findFirst 11 = .ok (.iload 4, 2) := by decide +kernel
theorem dX9_findFirst_13 : decode cX9_findFirst 13 = .ok (.iload_n 1, 1) := by decide +kernel
theorem dX9_findFirst_14 : decode cX9_findFirst 14 = .ok (.if_icmp .ge 152, 3) := by decide +kernel
theorem dX9_findFirst_17 : decode cX9_findFirst 17 = .ok (.iconst (-1), 1) := by decide +kernel
theorem dX9_findFirst_18 : decode cX9_findFirst 18 = .ok (.istore 5, 2) := by decide +kernel
theorem dX9_findFirst_20 : decode cX9_findFirst 20 = .ok (.iconst 0, 1) := by decide +kernel
theorem dX9_findFirst_21 : decode cX9_findFirst 21 = .ok (.istore 6, 2) := by decide +kernel
theorem dX9_findFirst_141 : decode cX9_findFirst 141 = .ok (.ifCond .lt 7, 3) := by decide +kernel
noncomputable def vX9_findFirst_1 (l1 : Int32) (l2 : Int32) (l3 : Int32) (l4 : Int32) (σ : zc_N) : Int32 := (l3 - (if (wX9_findFirst_23 l1 l2 l3 l4 ((-1 : Int32), (0 : Int32), σ)).1 < (0 : Int32) then (0 : Int32) else (1 : Int32)))
noncomputable def vX9_findFirst_2 (l1 : Int32) (l2 : Int32) (l3 : Int32) (l4 : Int32) (σ : zc_N) : Int32 := (l3 - (if (wX9_findFirst_23 l1 l2 l3 l4 ((-1 : Int32), (0 : Int32), σ)).1 < (0 : Int32) then (0 : Int32) else (1 : Int32)))
noncomputable def vX9_findFirst_3 (l1 : Int32) (l2 : Int32) (l3 : Int32) (l4 : Int32) (σ : zc_N) : Int32 := (((wX9_findFirst_23 l1 l2 l3 l4 ((-1 : Int32), (0 : Int32), σ)).2.2 47) (((12 : Int32) * l4) + (wX9_findFirst_23 l1 l2 l3 l4 ((-1 : Int32), (0 : Int32), σ)).2.1).toNatClampNeg)
noncomputable def vX9_findFirst_4 (l1 : Int32) (l2 : Int32) (l3 : Int32) (l4 : Int32) (σ : zc_N) : Int32 := (zfor (fX9_findFirst_52 ((wX9_findFirst_23 l1 l2 l3 l4 ((-1 : Int32), (0 : Int32), σ)).2.2) ((wX9_findFirst_23 l1 l2 l3 l4 ((-1 : Int32), (0 : Int32), σ)).2.1)) ((l4).toNatClampNeg) (vX9_findFirst_3 l1 l2 l3 l4 σ))
noncomputable def vX9_findFirst_5 (l1 : Int32) (l2 : Int32) (l3 : Int32) (l4 : Int32) (σ : zc_N) : zc_N := (sX9_mostPairs (zu (wX9_findFirst_23 l1 l2 l3 l4 ((-1 : Int32), (0 : Int32), σ)).2.2 50 (zu ((wX9_findFirst_23 l1 l2 l3 l4 ((-1 : Int32), (0 : Int32), σ)).2.2 50) l4.toNatClampNeg ((wX9_findFirst_23 l1 l2 l3 l4 ((-1 : Int32), (0 : Int32), σ)).2.1))) (l4 + (1 : Int32)) l1 l2)
noncomputable def fX9_findFirst_11 (l1 : Int32) (l2 : Int32) (i_ : Nat) (a_ : Int32 × zc_N) : Int32 × zc_N := ((if l2 ≤ (wX9_findFirst_23 l1 l2 a_.1 (nI i_) ((-1 : Int32), (0 : Int32), a_.2)).2.1 then (vX9_findFirst_1 l1 l2 a_.1 (nI i_) a_.2) else (vX9_findFirst_2 l1 l2 a_.1 (nI i_) a_.2)), (zu (zu (wX9_findFirst_23 l1 l2 a_.1 (nI i_) ((-1 : Int32), (0 : Int32), a_.2)).2.2 50 (zu ((wX9_findFirst_23 l1 l2 a_.1 (nI i_) ((-1 : Int32), (0 : Int32), a_.2)).2.2 50) (nI i_).toNatClampNeg ((wX9_findFirst_23 l1 l2 a_.1 (nI i_) ((-1 : Int32), (0 : Int32), a_.2)).1))) 51 (zu ((wX9_findFirst_23 l1 l2 a_.1 (nI i_) ((-1 : Int32), (0 : Int32), a_.2)).2.2 51) (nI i_).toNatClampNeg ((wX9_findFirst_23 l1 l2 a_.1 (nI i_) ((-1 : Int32), (0 : Int32), a_.2)).1))))
def qX9_findFirst_11 (l1 : Int32) (l2 : Int32) (i_ : Nat) (a_ : Int32 × zc_N) : Prop := (((∃ n_ : Nat, (eX9_findFirst_23 l2 (nI i_)) (zit (fX9_findFirst_23 l1 l2 a_.1 (nI i_)) n_ ((-1 : Int32), (0 : Int32), a_.2))) ∧ (∀ i23_ : Nat, i23_ < (zwn (fun n_ => (eX9_findFirst_23 l2 (nI i_)) (zit (fX9_findFirst_23 l1 l2 a_.1 (nI i_)) n_ ((-1 : Int32), (0 : Int32), a_.2)))) → qX9_findFirst_23 l1 l2 (nI i_) (zit (fX9_findFirst_23 l1 l2 a_.1 (nI i_)) i23_ ((-1 : Int32), (0 : Int32), a_.2)))) ∧ ((l2 ≤ (wX9_findFirst_23 l1 l2 a_.1 (nI i_) ((-1 : Int32), (0 : Int32), a_.2)).2.1 → (vp_in (nI i_) 12 ∧ vp_in (nI i_) 12)) ∧ (¬ l2 ≤ (wX9_findFirst_23 l1 l2 a_.1 (nI i_) ((-1 : Int32), (0 : Int32), a_.2)).2.1 → (((0 : Int32) ≤ (wX9_findFirst_23 l1 l2 a_.1 (nI i_) ((-1 : Int32), (0 : Int32), a_.2)).1 → (vp_in (nI i_) 12 ∧ vp_in (nI i_) 12)) ∧ (¬ (0 : Int32) ≤ (wX9_findFirst_23 l1 l2 a_.1 (nI i_) ((-1 : Int32), (0 : Int32), a_.2)).1 → (vp_in (((12 : Int32) * (nI i_)) + (wX9_findFirst_23 l1 l2 a_.1 (nI i_) ((-1 : Int32), (0 : Int32), a_.2)).2.1) 144 ∧ (((∀ i52_ : Nat, i52_ ≤ (((nI i_)).toNatClampNeg) → ((nI i_) ≤ (nI i52_) ↔ (((nI i_)).toNatClampNeg) ≤ i52_)) ∧ (∀ i52_ : Nat, i52_ < (((nI i_)).toNatClampNeg) → qX9_findFirst_52 i52_ (zfor (fX9_findFirst_52 ((wX9_findFirst_23 l1 l2 a_.1 (nI i_) ((-1 : Int32), (0 : Int32), a_.2)).2.2) ((wX9_findFirst_23 l1 l2 a_.1 (nI i_) ((-1 : Int32), (0 : Int32), a_.2)).2.1)) i52_ (vX9_findFirst_3 l1 l2 a_.1 (nI i_) a_.2)))) ∧ (vp_in (nI i_) 12 ∧ (((vX9_findFirst_4 l1 l2 a_.1 (nI i_) a_.2) = (0 : Int32) → True) ∧ (¬ (vX9_findFirst_4 l1 l2 a_.1 (nI i_) a_.2) = (0 : Int32) → (pX9_mostPairs (zu (wX9_findFirst_23 l1 l2 a_.1 (nI i_) ((-1 : Int32), (0 : Int32), a_.2)).2.2 50 (zu ((wX9_findFirst_23 l1 l2 a_.1 (nI i_) ((-1 : Int32), (0 : Int32), a_.2)).2.2 50) (nI i_).toNatClampNeg ((wX9_findFirst_23 l1 l2 a_.1 (nI i_) ((-1 : Int32), (0 : Int32), a_.2)).2.1))) ((nI i_) + (1 : Int32)) l1 l2)))))))))))
set_option maxHeartbeats 2000000 in
theorem lpX9_findFirst_11 {G : zc_G} {Q : Option Value → zc_H → Prop} (P : zp) (σ : zc_N) (l1 : Int32) (l2 : Int32) (l3 : Int32) (n_ : Nat) (hC_ : ∀ i11_ : Nat, i11_ ≤ n_ → (l1 ≤ (nI i11_) ↔ n_ ≤ i11_)) (W1_ : ∀ i11_ : Nat, i11_ < n_ → qX9_findFirst_11 l1 l2 i11_ (zfor (fX9_findFirst_11 l1 l2) i11_ (l3, σ)))
    (W2_ : zz G mX9_findFirst 15 0 0 Q 166 [none, none, none, none, none, none, none, none, none] [] (hh P (zfor (fX9_findFirst_11 l1 l2) n_ (l3, σ)).2) 0 0) :
    zz G mX9_findFirst 15 0 0 Q 11 [some (.ref 32), some (.int l1), some (.int l2), some (.int l3), some (.int (nI 0)), none, none, none, none] [] (hh P σ) 0 0 := by
  refine zfor_nI (fun i_ a_ => zz G mX9_findFirst 15 0 0 Q 11 [some (.ref 32), some (.int l1), some (.int l2), some (.int a_.1), some (.int i_), none, none, none, none] [] (hh P a_.2) 0 0) (fX9_findFirst_11 l1 l2) n_ (l3, σ) (fun i_ hi_ k_ => ?_) ?_
  all_goals try dsimp only
  · have W3_ := W1_ i_ hi_
    have hD_ := hC_ i_ (Nat.le_of_lt hi_)
    generalize zfor (fX9_findFirst_11 l1 l2) i_ (l3, σ) = g_ at k_ W3_ hD_ ⊢
    obtain ⟨x0_, x1_⟩ := g_
    dsimp only at k_ W3_ hD_ ⊢
    rw [fX9_findFirst_11] at k_
    rw [qX9_findFirst_11] at W3_
    try dsimp only at W3_
    dsimp only at k_
    refine z_iload dX9_findFirst_11 rfl ?_
    refine z_iload_n dX9_findFirst_13 rfl ?_
    refine z_icmp_ge (tgt := 166) dX9_findFirst_14 (by decide) (fun c_ => absurd c_ (fun q_ => Nat.not_le_of_lt hi_ (hD_.mp q_))) (fun c_ => ?_)
    refine z_iconst dX9_findFirst_17 k_iconst_m1 ?_
    refine z_istore (lv' := [some (.ref 32), some (.int l1), some (.int l2), some (.int x0_), some (.int (nI i_)), some (.int (-1 : Int32)), none, none, none]) dX9_findFirst_18 (Nat.le_of_ble_eq_true rfl) rfl ?_
    refine z_iconst dX9_findFirst_20 k_iconst_0 ?_
    refine z_istore (lv' := [some (.ref 32), some (.int l1), some (.int l2), some (.int x0_), some (.int (nI i_)), some (.int (-1 : Int32)), some (.int (0 : Int32)), none, none]) dX9_findFirst_21 (Nat.le_of_ble_eq_true rfl) rfl ?_
    refine whX9_findFirst_23 P x1_ l1 l2 x0_ (nI i_) (-1 : Int32) (0 : Int32) W3_.1.1 W3_.1.2 (fun hX23_ => ?_)
    rw [eX9_findFirst_23] at hX23_
    try dsimp only at hX23_
    show zz G mX9_findFirst 15 0 0 Q 23 [some (.ref 32), some (.int l1), some (.int l2), some (.int x0_), some (.int (nI i_)), some (.int (wX9_findFirst_23 l1 l2 x0_ (nI i_) ((-1 : Int32), (0 : Int32), x1_)).1), some (.int (wX9_findFirst_23 l1 l2 x0_ (nI i_) ((-1 : Int32), (0 : Int32), x1_)).2.1), none, none] [] (hh P (wX9_findFirst_23 l1 l2 x0_ (nI i_) ((-1 : Int32), (0 : Int32), x1_)).2.2) 0 0
    refine z_iload dX9_findFirst_23 rfl ?_
    refine z_iload_n dX9_findFirst_25 rfl ?_
    refine z_icmp_ge (tgt := 129) dX9_findFirst_26 (by decide) (fun c_2 => ?_) (fun c_2 => ?_)
    · refine z_aloadr_n dX9_findFirst_129 rfl ?_
      refine z_get (ci := 9) (r := (RX9, TX9, 38)) (j := 19) (v := .ref 50) dX9_findFirst_130 (Nat.le_of_ble_eq_true rfl) (zN rfl) rfl rfl (Nat.le_of_ble_eq_true rfl) fl_X9_66 rfl ?_
      refine z_iload dX9_findFirst_133 rfl ?_
      refine z_iload dX9_findFirst_135 rfl ?_
      refine z_iast (σ' := (zu (wX9_findFirst_23 l1 l2 x0_ (nI i_) ((-1 : Int32), (0 : Int32), x1_)).2.2 50 (zu ((wX9_findFirst_23 l1 l2 x0_ (nI i_) ((-1 : Int32), (0 : Int32), x1_)).2.2 50) (nI i_).toNatClampNeg ((wX9_findFirst_23 l1 l2 x0_ (nI i_) ((-1 : Int32), (0 : Int32), x1_)).1)))) dX9_findFirst_137 (Nat.le_of_ble_eq_true rfl) (zN rfl) rfl ((W3_.2.1 c_2).1) rfl ?_
      refine z_iload_n dX9_findFirst_138 rfl ?_
      refine z_iload dX9_findFirst_139 rfl ?_
      have K_1 : zz G mX9_findFirst 15 0 0 Q 149 [some (.ref 32), some (.int l1), some (.int l2), none, some (.int (nI i_)), some (.int (wX9_findFirst_23 l1 l2 x0_ (nI i_) ((-1 : Int32), (0 : Int32), x1_)).1), none, none, none] [.int (if (wX9_findFirst_23 l1 l2 x0_ (nI i_) ((-1 : Int32), (0 : Int32), x1_)).1 < (0 : Int32) then (0 : Int32) else (1 : Int32)), .int x0_] (hh P (zu (wX9_findFirst_23 l1 l2 x0_ (nI i_) ((-1 : Int32), (0 : Int32), x1_)).2.2 50 (zu ((wX9_findFirst_23 l1 l2 x0_ (nI i_) ((-1 : Int32), (0 : Int32), x1_)).2.2 50) (nI i_).toNatClampNeg ((wX9_findFirst_23 l1 l2 x0_ (nI i_) ((-1 : Int32), (0 : Int32), x1_)).1)))) 0 0 := by
        refine z_isub (v := (x0_ - (if (wX9_findFirst_23 l1 l2 x0_ (nI i_) ((-1 : Int32), (0 : Int32), x1_)).1 < (0 : Int32) then (0 : Int32) else (1 : Int32)))) dX9_findFirst_149 rfl ?_
        refine z_istore_n (lv' := [some (.ref 32), some (.int l1), some (.int l2), some (.int (vX9_findFirst_1 l1 l2 x0_ (nI i_) x1_)), some (.int (nI i_)), some (.int (wX9_findFirst_23 l1 l2 x0_ (nI i_) ((-1 : Int32), (0 : Int32), x1_)).1), none, none, none]) dX9_findFirst_150 (Nat.le_of_ble_eq_true rfl) rfl ?_
        refine z_aloadr_n dX9_findFirst_151 rfl ?_
        refine z_get (ci := 9) (r := (RX9, TX9, 38)) (j := 27) (v := .ref 51) dX9_findFirst_152 (Nat.le_of_ble_eq_true rfl) (zN rfl) rfl rfl (Nat.le_of_ble_eq_true rfl) fl_X9_69 rfl ?_
        refine z_iload dX9_findFirst_155 rfl ?_
        refine z_iload dX9_findFirst_157 rfl ?_
        refine z_iast (σ' := (zu (zu (wX9_findFirst_23 l1 l2 x0_ (nI i_) ((-1 : Int32), (0 : Int32), x1_)).2.2 50 (zu ((wX9_findFirst_23 l1 l2 x0_ (nI i_) ((-1 : Int32), (0 : Int32), x1_)).2.2 50) (nI i_).toNatClampNeg ((wX9_findFirst_23 l1 l2 x0_ (nI i_) ((-1 : Int32), (0 : Int32), x1_)).1))) 51 (zu ((wX9_findFirst_23 l1 l2 x0_ (nI i_) ((-1 : Int32), (0 : Int32), x1_)).2.2 51) (nI i_).toNatClampNeg ((wX9_findFirst_23 l1 l2 x0_ (nI i_) ((-1 : Int32), (0 : Int32), x1_)).1)))) dX9_findFirst_159 (Nat.le_of_ble_eq_true rfl) (zN rfl) rfl ((W3_.2.1 c_2).2) (congrArg (fun g_ => zu _ _ (zu g_ _ _)) (zu_ne _ _ (by decide))) ?_
        refine z_iinc (v := ((nI i_) + (1 : Int32))) (lv' := [some (.ref 32), some (.int l1), some (.int l2), some (.int (vX9_findFirst_1 l1 l2 x0_ (nI i_) x1_)), some (.int ((nI i_) + (1 : Int32))), some (.int (wX9_findFirst_23 l1 l2 x0_ (nI i_) ((-1 : Int32), (0 : Int32), x1_)).1), none, none, none]) dX9_findFirst_160 (Nat.le_of_ble_eq_true rfl) rfl (by rw [k_iconst_1]) rfl ?_
        refine z_goto (tgt := 11) dX9_findFirst_163 (by decide) ?_
        refine zz_sub (lv' := [some (.ref 32), some (.int l1), some (.int l2), some (.int (vX9_findFirst_1 l1 l2 x0_ (nI i_) x1_)), some (.int ((nI i_) + (1 : Int32))), none, none, none, none]) ⟨rfl, ⟨rfl, ⟨rfl, ⟨rfl, ⟨rfl, trivial⟩⟩⟩⟩⟩ ?_
        rw [nI_1]
        simpa only [if_pos c_2] using k_
      refine z_if_lt (tgt := 148) dX9_findFirst_141 (by decide) (fun c_3 => ?_) (fun c_3 => ?_)
      · refine z_iconst dX9_findFirst_148 k_iconst_0 ?_
        refine zz_sub (lv' := [some (.ref 32), some (.int l1), some (.int l2), none, some (.int (nI i_)), some (.int (wX9_findFirst_23 l1 l2 x0_ (nI i_) ((-1 : Int32), (0 : Int32), x1_)).1), none, none, none]) ⟨rfl, ⟨rfl, ⟨rfl, ⟨rfl, ⟨rfl, trivial⟩⟩⟩⟩⟩ ?_
        rw [show (if (wX9_findFirst_23 l1 l2 x0_ (nI i_) ((-1 : Int32), (0 : Int32), x1_)).1 < (0 : Int32) then (0 : Int32) else (1 : Int32)) = (0 : Int32) from (if_pos c_3)] at K_1
        exact K_1
      · refine z_iconst dX9_findFirst_144 k_iconst_1 ?_
        refine z_goto (tgt := 149) dX9_findFirst_145 (by decide) ?_
        refine zz_sub (lv' := [some (.ref 32), some (.int l1), some (.int l2), none, some (.int (nI i_)), some (.int (wX9_findFirst_23 l1 l2 x0_ (nI i_) ((-1 : Int32), (0 : Int32), x1_)).1), none, none, none]) ⟨rfl, ⟨rfl, ⟨rfl, ⟨rfl, ⟨rfl, trivial⟩⟩⟩⟩⟩ ?_
        rw [show (if (wX9_findFirst_23 l1 l2 x0_ (nI i_) ((-1 : Int32), (0 : Int32), x1_)).1 < (0 : Int32) then (0 : Int32) else (1 : Int32)) = (1 : Int32) from (if_neg c_3)] at K_1
        exact K_1
    · refine z_iload dX9_findFirst_29 rfl ?_
      refine z_if_ge (tgt := 129) dX9_findFirst_31 (by decide) (fun c_4 => ?_) (fun c_4 => ?_)
      · refine z_aloadr_n dX9_findFirst_129 rfl ?_
        refine z_get (ci := 9) (r := (RX9, TX9, 38)) (j := 19) (v := .ref 50) dX9_findFirst_130 (Nat.le_of_ble_eq_true rfl) (zN rfl) rfl rfl (Nat.le_of_ble_eq_true rfl) fl_X9_66 rfl ?_
        refine z_iload dX9_findFirst_133 rfl ?_
        refine z_iload dX9_findFirst_135 rfl ?_
        refine z_iast (σ' := (zu (wX9_findFirst_23 l1 l2 x0_ (nI i_) ((-1 : Int32), (0 : Int32), x1_)).2.2 50 (zu ((wX9_findFirst_23 l1 l2 x0_ (nI i_) ((-1 : Int32), (0 : Int32), x1_)).2.2 50) (nI i_).toNatClampNeg ((wX9_findFirst_23 l1 l2 x0_ (nI i_) ((-1 : Int32), (0 : Int32), x1_)).1)))) dX9_findFirst_137 (Nat.le_of_ble_eq_true rfl) (zN rfl) rfl (((W3_.2.2 c_2).1 c_4).1) rfl ?_
        refine z_iload_n dX9_findFirst_138 rfl ?_
        refine z_iload dX9_findFirst_139 rfl ?_
        have K_2 : zz G mX9_findFirst 15 0 0 Q 149 [some (.ref 32), some (.int l1), some (.int l2), none, some (.int (nI i_)), some (.int (wX9_findFirst_23 l1 l2 x0_ (nI i_) ((-1 : Int32), (0 : Int32), x1_)).1), none, none, none] [.int (if (wX9_findFirst_23 l1 l2 x0_ (nI i_) ((-1 : Int32), (0 : Int32), x1_)).1 < (0 : Int32) then (0 : Int32) else (1 : Int32)), .int x0_] (hh P (zu (wX9_findFirst_23 l1 l2 x0_ (nI i_) ((-1 : Int32), (0 : Int32), x1_)).2.2 50 (zu ((wX9_findFirst_23 l1 l2 x0_ (nI i_) ((-1 : Int32), (0 : Int32), x1_)).2.2 50) (nI i_).toNatClampNeg ((wX9_findFirst_23 l1 l2 x0_ (nI i_) ((-1 : Int32), (0 : Int32), x1_)).1)))) 0 0 := by
          refine z_isub (v := (x0_ - (if (wX9_findFirst_23 l1 l2 x0_ (nI i_) ((-1 : Int32), (0 : Int32), x1_)).1 < (0 : Int32) then (0 : Int32) else (1 : Int32)))) dX9_findFirst_149 rfl ?_
          refine z_istore_n (lv' := [some (.ref 32), some (.int l1), some (.int l2), some (.int (vX9_findFirst_2 l1 l2 x0_ (nI i_) x1_)), some (.int (nI i_)), some (.int (wX9_findFirst_23 l1 l2 x0_ (nI i_) ((-1 : Int32), (0 : Int32), x1_)).1), none, none, none]) dX9_findFirst_150 (Nat.le_of_ble_eq_true rfl) rfl ?_
          refine z_aloadr_n dX9_findFirst_151 rfl ?_
          refine z_get (ci := 9) (r := (RX9, TX9, 38)) (j := 27) (v := .ref 51) dX9_findFirst_152 (Nat.le_of_ble_eq_true rfl) (zN rfl) rfl rfl (Nat.le_of_ble_eq_true rfl) fl_X9_69 rfl ?_
          refine z_iload dX9_findFirst_155 rfl ?_
          refine z_iload dX9_findFirst_157 rfl ?_
          refine z_iast (σ' := (zu (zu (wX9_findFirst_23 l1 l2 x0_ (nI i_) ((-1 : Int32), (0 : Int32), x1_)).2.2 50 (zu ((wX9_findFirst_23 l1 l2 x0_ (nI i_) ((-1 : Int32), (0 : Int32), x1_)).2.2 50) (nI i_).toNatClampNeg ((wX9_findFirst_23 l1 l2 x0_ (nI i_) ((-1 : Int32), (0 : Int32), x1_)).1))) 51 (zu ((wX9_findFirst_23 l1 l2 x0_ (nI i_) ((-1 : Int32), (0 : Int32), x1_)).2.2 51) (nI i_).toNatClampNeg ((wX9_findFirst_23 l1 l2 x0_ (nI i_) ((-1 : Int32), (0 : Int32), x1_)).1)))) dX9_findFirst_159 (Nat.le_of_ble_eq_true rfl) (zN rfl) rfl (((W3_.2.2 c_2).1 c_4).2) (congrArg (fun g_ => zu _ _ (zu g_ _ _)) (zu_ne _ _ (by decide))) ?_
          refine z_iinc (v := ((nI i_) + (1 : Int32))) (lv' := [some (.ref 32), some (.int l1), some (.int l2), some (.int (vX9_findFirst_2 l1 l2 x0_ (nI i_) x1_)), some (.int ((nI i_) + (1 : Int32))), some (.int (wX9_findFirst_23 l1 l2 x0_ (nI i_) ((-1 : Int32), (0 : Int32), x1_)).1), none, none, none]) dX9_findFirst_160 (Nat.le_of_ble_eq_true rfl) rfl (by rw [k_iconst_1]) rfl ?_
          refine z_goto (tgt := 11) dX9_findFirst_163 (by decide) ?_
          refine zz_sub (lv' := [some (.ref 32), some (.int l1), some (.int l2), some (.int (vX9_findFirst_2 l1 l2 x0_ (nI i_) x1_)), some (.int ((nI i_) + (1 : Int32))), none, none, none, none]) ⟨rfl, ⟨rfl, ⟨rfl, ⟨rfl, ⟨rfl, trivial⟩⟩⟩⟩⟩ ?_
          rw [nI_1]
          simpa only [if_neg c_2, if_pos c_4] using k_
        refine z_if_lt (tgt := 148) dX9_findFirst_141 (by decide) (fun c_5 => ?_) (fun c_5 => ?_)
        · refine z_iconst dX9_findFirst_148 k_iconst_0 ?_
          refine zz_sub (lv' := [some (.ref 32), some (.int l1), some (.int l2), none, some (.int (nI i_)), some (.int (wX9_findFirst_23 l1 l2 x0_ (nI i_) ((-1 : Int32), (0 : Int32), x1_)).1), none, none, none]) ⟨rfl, ⟨rfl, ⟨rfl, ⟨rfl, ⟨rfl, trivial⟩⟩⟩⟩⟩ ?_
          rw [show (if (wX9_findFirst_23 l1 l2 x0_ (nI i_) ((-1 : Int32), (0 : Int32), x1_)).1 < (0 : Int32) then (0 : Int32) else (1 : Int32)) = (0 : Int32) from (if_pos c_5)] at K_2
          exact K_2
        · refine z_iconst dX9_findFirst_144 k_iconst_1 ?_
          refine z_goto (tgt := 149) dX9_findFirst_145 (by decide) ?_
          refine zz_sub (lv' := [some (.ref 32), some (.int l1), some (.int l2), none, some (.int (nI i_)), some (.int (wX9_findFirst_23 l1 l2 x0_ (nI i_) ((-1 : Int32), (0 : Int32), x1_)).1), none, none, none]) ⟨rfl, ⟨rfl, ⟨rfl, ⟨rfl, ⟨rfl, trivial⟩⟩⟩⟩⟩ ?_
          rw [show (if (wX9_findFirst_23 l1 l2 x0_ (nI i_) ((-1 : Int32), (0 : Int32), x1_)).1 < (0 : Int32) then (0 : Int32) else (1 : Int32)) = (1 : Int32) from (if_neg c_5)] at K_2
          exact K_2
      · refine z_aloadr_n dX9_findFirst_34 rfl ?_
        refine z_get (ci := 9) (r := (RX9, TX9, 38)) (j := 16) (v := .ref 47) dX9_findFirst_35 (Nat.le_of_ble_eq_true rfl) (zN rfl) rfl rfl (Nat.le_of_ble_eq_true rfl) fl_X9_57 rfl ?_
        refine z_bipush dX9_findFirst_38 k_bipush_12 ?_
        refine z_iload dX9_findFirst_40 rfl ?_
        refine z_imul (v := ((12 : Int32) * (nI i_))) dX9_findFirst_42 rfl ?_
        refine z_iload dX9_findFirst_43 rfl ?_
        refine z_iadd (v := (((12 : Int32) * (nI i_)) + (wX9_findFirst_23 l1 l2 x0_ (nI i_) ((-1 : Int32), (0 : Int32), x1_)).2.1)) dX9_findFirst_45 rfl ?_
        refine z_bald (v := (((wX9_findFirst_23 l1 l2 x0_ (nI i_) ((-1 : Int32), (0 : Int32), x1_)).2.2 47) (((12 : Int32) * (nI i_)) + (wX9_findFirst_23 l1 l2 x0_ (nI i_) ((-1 : Int32), (0 : Int32), x1_)).2.1).toNatClampNeg)) dX9_findFirst_46 (Nat.le_of_ble_eq_true rfl) (zN rfl) rfl (((W3_.2.2 c_2).2 c_4).1) rfl ?_
        refine z_istore (lv' := [some (.ref 32), some (.int l1), some (.int l2), some (.int x0_), some (.int (nI i_)), some (.int (wX9_findFirst_23 l1 l2 x0_ (nI i_) ((-1 : Int32), (0 : Int32), x1_)).1), some (.int (wX9_findFirst_23 l1 l2 x0_ (nI i_) ((-1 : Int32), (0 : Int32), x1_)).2.1), some (.int (vX9_findFirst_3 l1 l2 x0_ (nI i_) x1_)), none]) dX9_findFirst_47 (Nat.le_of_ble_eq_true rfl) rfl ?_
        refine z_iconst dX9_findFirst_49 k_iconst_0 ?_
        refine z_istore (lv' := [some (.ref 32), some (.int l1), some (.int l2), some (.int x0_), some (.int (nI i_)), some (.int (wX9_findFirst_23 l1 l2 x0_ (nI i_) ((-1 : Int32), (0 : Int32), x1_)).1), some (.int (wX9_findFirst_23 l1 l2 x0_ (nI i_) ((-1 : Int32), (0 : Int32), x1_)).2.1), some (.int (vX9_findFirst_3 l1 l2 x0_ (nI i_) x1_)), some (.int (0 : Int32))]) dX9_findFirst_50 (Nat.le_of_ble_eq_true rfl) rfl ?_
        refine lpX9_findFirst_52 P ((wX9_findFirst_23 l1 l2 x0_ (nI i_) ((-1 : Int32), (0 : Int32), x1_)).2.2) l1 l2 x0_ (nI i_) ((wX9_findFirst_23 l1 l2 x0_ (nI i_) ((-1 : Int32), (0 : Int32), x1_)).1) ((wX9_findFirst_23 l1 l2 x0_ (nI i_) ((-1 : Int32), (0 : Int32), x1_)).2.1) (vX9_findFirst_3 l1 l2 x0_ (nI i_) x1_) (((nI i_)).toNatClampNeg) (((W3_.2.2 c_2).2 c_4).2.1).1 (((W3_.2.2 c_2).2 c_4).2.1).2 ?_
        show zz G mX9_findFirst 15 0 0 Q 89 [some (.ref 32), some (.int l1), some (.int l2), some (.int x0_), some (.int (nI i_)), some (.int (wX9_findFirst_23 l1 l2 x0_ (nI i_) ((-1 : Int32), (0 : Int32), x1_)).1), some (.int (wX9_findFirst_23 l1 l2 x0_ (nI i_) ((-1 : Int32), (0 : Int32), x1_)).2.1), some (.int (vX9_findFirst_4 l1 l2 x0_ (nI i_) x1_)), none] [] (hh P (wX9_findFirst_23 l1 l2 x0_ (nI i_) ((-1 : Int32), (0 : Int32), x1_)).2.2) 0 0
        refine z_aloadr_n dX9_findFirst_89 rfl ?_
        refine z_get (ci := 9) (r := (RX9, TX9, 38)) (j := 19) (v := .ref 50) dX9_findFirst_90 (Nat.le_of_ble_eq_true rfl) (zN rfl) rfl rfl (Nat.le_of_ble_eq_true rfl) fl_X9_66 rfl ?_
        refine z_iload dX9_findFirst_93 rfl ?_
        refine z_iload dX9_findFirst_95 rfl ?_
        refine z_iast (σ' := (zu (wX9_findFirst_23 l1 l2 x0_ (nI i_) ((-1 : Int32), (0 : Int32), x1_)).2.2 50 (zu ((wX9_findFirst_23 l1 l2 x0_ (nI i_) ((-1 : Int32), (0 : Int32), x1_)).2.2 50) (nI i_).toNatClampNeg ((wX9_findFirst_23 l1 l2 x0_ (nI i_) ((-1 : Int32), (0 : Int32), x1_)).2.1)))) dX9_findFirst_97 (Nat.le_of_ble_eq_true rfl) (zN rfl) rfl (((W3_.2.2 c_2).2 c_4).2.2.1) rfl ?_
        refine z_iload dX9_findFirst_98 rfl ?_
        refine z_if_eq (tgt := 123) dX9_findFirst_100 (by decide) (fun c_6 => ?_) (fun c_6 => ?_)
        · refine z_iinc (v := ((wX9_findFirst_23 l1 l2 x0_ (nI i_) ((-1 : Int32), (0 : Int32), x1_)).2.1 + (1 : Int32))) (lv' := [some (.ref 32), some (.int l1), some (.int l2), some (.int x0_), some (.int (nI i_)), some (.int (wX9_findFirst_23 l1 l2 x0_ (nI i_) ((-1 : Int32), (0 : Int32), x1_)).1), some (.int ((wX9_findFirst_23 l1 l2 x0_ (nI i_) ((-1 : Int32), (0 : Int32), x1_)).2.1 + (1 : Int32))), some (.int (vX9_findFirst_4 l1 l2 x0_ (nI i_) x1_)), none]) dX9_findFirst_123 (Nat.le_of_ble_eq_true rfl) rfl (by rw [k_iconst_1]) rfl ?_
          refine z_goto (tgt := 23) dX9_findFirst_126 (by decide) ?_
          exact (ex_l (ex_r (ex_r hX23_ c_2) c_4) c_6).elim
        · refine z_aloadr_n dX9_findFirst_103 rfl ?_
          refine z_iload dX9_findFirst_104 rfl ?_
          refine z_iconst dX9_findFirst_106 k_iconst_1 ?_
          refine z_iadd (v := ((nI i_) + (1 : Int32))) dX9_findFirst_107 rfl ?_
          refine z_iload_n dX9_findFirst_108 rfl ?_
          refine z_iload_n dX9_findFirst_109 rfl ?_
          refine z_callV (ci := 9) (r := (RX9, TX9, 38)) (b := 32) (As := [.int ((nI i_) + (1 : Int32)), .int l1, .int l2]) (rest := []) (ctX9_mostPairs P (zu (wX9_findFirst_23 l1 l2 x0_ (nI i_) ((-1 : Int32), (0 : Int32), x1_)).2.2 50 (zu ((wX9_findFirst_23 l1 l2 x0_ (nI i_) ((-1 : Int32), (0 : Int32), x1_)).2.2 50) (nI i_).toNatClampNeg ((wX9_findFirst_23 l1 l2 x0_ (nI i_) ((-1 : Int32), (0 : Int32), x1_)).2.1))) ((nI i_) + (1 : Int32)) l1 l2 (((W3_.2.2 c_2).2 c_4).2.2.2.2 c_6)) dX9_findFirst_110 lk_X9_155 lv_X9_mostPairs (Nat.le_of_ble_eq_true rfl) (zN rfl) rfl rfl rfl rfl (Nat.le_of_ble_eq_true rfl) (Nat.le_of_ble_eq_true rfl) (Nat.le_of_ble_eq_true rfl) (Nat.le_of_ble_eq_true rfl) (fun r_ h_ e_ => ?_)
          obtain ⟨e1_, e2_⟩ := e_
          subst e1_
          subst e2_
          show zz G mX9_findFirst 15 0 0 Q 113 [some (.ref 32), some (.int l1), some (.int l2), some (.int x0_), some (.int (nI i_)), some (.int (wX9_findFirst_23 l1 l2 x0_ (nI i_) ((-1 : Int32), (0 : Int32), x1_)).1), some (.int (wX9_findFirst_23 l1 l2 x0_ (nI i_) ((-1 : Int32), (0 : Int32), x1_)).2.1), some (.int (vX9_findFirst_4 l1 l2 x0_ (nI i_) x1_)), none] [.int (rX9_mostPairs (zu (wX9_findFirst_23 l1 l2 x0_ (nI i_) ((-1 : Int32), (0 : Int32), x1_)).2.2 50 (zu ((wX9_findFirst_23 l1 l2 x0_ (nI i_) ((-1 : Int32), (0 : Int32), x1_)).2.2 50) (nI i_).toNatClampNeg ((wX9_findFirst_23 l1 l2 x0_ (nI i_) ((-1 : Int32), (0 : Int32), x1_)).2.1))) ((nI i_) + (1 : Int32)) l1 l2)] (hh P (vX9_findFirst_5 l1 l2 x0_ (nI i_) x1_)) 0 0
          refine z_iload_n dX9_findFirst_113 rfl ?_
          refine z_iconst dX9_findFirst_114 k_iconst_1 ?_
          refine z_isub (v := (x0_ - (1 : Int32))) dX9_findFirst_115 rfl ?_
          have K_3 : zz G mX9_findFirst 15 0 0 Q 123 [some (.ref 32), some (.int l1), some (.int l2), some (.int x0_), some (.int (nI i_)), some (.int (if (rX9_mostPairs (zu (wX9_findFirst_23 l1 l2 x0_ (nI i_) ((-1 : Int32), (0 : Int32), x1_)).2.2 50 (zu ((wX9_findFirst_23 l1 l2 x0_ (nI i_) ((-1 : Int32), (0 : Int32), x1_)).2.2 50) (nI i_).toNatClampNeg ((wX9_findFirst_23 l1 l2 x0_ (nI i_) ((-1 : Int32), (0 : Int32), x1_)).2.1))) ((nI i_) + (1 : Int32)) l1 l2) = (x0_ - (1 : Int32)) then (wX9_findFirst_23 l1 l2 x0_ (nI i_) ((-1 : Int32), (0 : Int32), x1_)).2.1 else (wX9_findFirst_23 l1 l2 x0_ (nI i_) ((-1 : Int32), (0 : Int32), x1_)).1)), some (.int (wX9_findFirst_23 l1 l2 x0_ (nI i_) ((-1 : Int32), (0 : Int32), x1_)).2.1), none, none] [] (hh P (vX9_findFirst_5 l1 l2 x0_ (nI i_) x1_)) 0 0 := by
            refine z_iinc (v := ((wX9_findFirst_23 l1 l2 x0_ (nI i_) ((-1 : Int32), (0 : Int32), x1_)).2.1 + (1 : Int32))) (lv' := [some (.ref 32), some (.int l1), some (.int l2), some (.int x0_), some (.int (nI i_)), some (.int (if (rX9_mostPairs (zu (wX9_findFirst_23 l1 l2 x0_ (nI i_) ((-1 : Int32), (0 : Int32), x1_)).2.2 50 (zu ((wX9_findFirst_23 l1 l2 x0_ (nI i_) ((-1 : Int32), (0 : Int32), x1_)).2.2 50) (nI i_).toNatClampNeg ((wX9_findFirst_23 l1 l2 x0_ (nI i_) ((-1 : Int32), (0 : Int32), x1_)).2.1))) ((nI i_) + (1 : Int32)) l1 l2) = (x0_ - (1 : Int32)) then (wX9_findFirst_23 l1 l2 x0_ (nI i_) ((-1 : Int32), (0 : Int32), x1_)).2.1 else (wX9_findFirst_23 l1 l2 x0_ (nI i_) ((-1 : Int32), (0 : Int32), x1_)).1)), some (.int ((wX9_findFirst_23 l1 l2 x0_ (nI i_) ((-1 : Int32), (0 : Int32), x1_)).2.1 + (1 : Int32))), none, none]) dX9_findFirst_123 (Nat.le_of_ble_eq_true rfl) rfl (by rw [k_iconst_1]) rfl ?_
            refine z_goto (tgt := 23) dX9_findFirst_126 (by decide) ?_
            exact (ex_r (ex_r (ex_r hX23_ c_2) c_4) c_6).elim
          refine z_icmp_ne (tgt := 123) dX9_findFirst_116 (by decide) (fun c_7 => ?_) (fun c_7 => ?_)
          · refine zz_sub (lv' := [some (.ref 32), some (.int l1), some (.int l2), some (.int x0_), some (.int (nI i_)), some (.int (wX9_findFirst_23 l1 l2 x0_ (nI i_) ((-1 : Int32), (0 : Int32), x1_)).1), some (.int (wX9_findFirst_23 l1 l2 x0_ (nI i_) ((-1 : Int32), (0 : Int32), x1_)).2.1), none, none]) ⟨rfl, ⟨rfl, ⟨rfl, ⟨rfl, ⟨rfl, ⟨rfl, ⟨rfl, trivial⟩⟩⟩⟩⟩⟩⟩ ?_
            rw [show (if (rX9_mostPairs (zu (wX9_findFirst_23 l1 l2 x0_ (nI i_) ((-1 : Int32), (0 : Int32), x1_)).2.2 50 (zu ((wX9_findFirst_23 l1 l2 x0_ (nI i_) ((-1 : Int32), (0 : Int32), x1_)).2.2 50) (nI i_).toNatClampNeg ((wX9_findFirst_23 l1 l2 x0_ (nI i_) ((-1 : Int32), (0 : Int32), x1_)).2.1))) ((nI i_) + (1 : Int32)) l1 l2) = (x0_ - (1 : Int32)) then (wX9_findFirst_23 l1 l2 x0_ (nI i_) ((-1 : Int32), (0 : Int32), x1_)).2.1 else (wX9_findFirst_23 l1 l2 x0_ (nI i_) ((-1 : Int32), (0 : Int32), x1_)).1) = (wX9_findFirst_23 l1 l2 x0_ (nI i_) ((-1 : Int32), (0 : Int32), x1_)).1 from (if_neg c_7)] at K_3
            exact K_3
          · refine z_iload dX9_findFirst_119 rfl ?_
            refine z_istore (lv' := [some (.ref 32), some (.int l1), some (.int l2), some (.int x0_), some (.int (nI i_)), some (.int (wX9_findFirst_23 l1 l2 x0_ (nI i_) ((-1 : Int32), (0 : Int32), x1_)).2.1), some (.int (wX9_findFirst_23 l1 l2 x0_ (nI i_) ((-1 : Int32), (0 : Int32), x1_)).2.1), some (.int (vX9_findFirst_4 l1 l2 x0_ (nI i_) x1_)), none]) dX9_findFirst_121 (Nat.le_of_ble_eq_true rfl) rfl ?_
            refine zz_sub (lv' := [some (.ref 32), some (.int l1), some (.int l2), some (.int x0_), some (.int (nI i_)), some (.int (wX9_findFirst_23 l1 l2 x0_ (nI i_) ((-1 : Int32), (0 : Int32), x1_)).2.1), some (.int (wX9_findFirst_23 l1 l2 x0_ (nI i_) ((-1 : Int32), (0 : Int32), x1_)).2.1), none, none]) ⟨rfl, ⟨rfl, ⟨rfl, ⟨rfl, ⟨rfl, ⟨rfl, ⟨rfl, trivial⟩⟩⟩⟩⟩⟩⟩ ?_
            rw [show (if (rX9_mostPairs (zu (wX9_findFirst_23 l1 l2 x0_ (nI i_) ((-1 : Int32), (0 : Int32), x1_)).2.2 50 (zu ((wX9_findFirst_23 l1 l2 x0_ (nI i_) ((-1 : Int32), (0 : Int32), x1_)).2.2 50) (nI i_).toNatClampNeg ((wX9_findFirst_23 l1 l2 x0_ (nI i_) ((-1 : Int32), (0 : Int32), x1_)).2.1))) ((nI i_) + (1 : Int32)) l1 l2) = (x0_ - (1 : Int32)) then (wX9_findFirst_23 l1 l2 x0_ (nI i_) ((-1 : Int32), (0 : Int32), x1_)).2.1 else (wX9_findFirst_23 l1 l2 x0_ (nI i_) ((-1 : Int32), (0 : Int32), x1_)).1) = (wX9_findFirst_23 l1 l2 x0_ (nI i_) ((-1 : Int32), (0 : Int32), x1_)).2.1 from (if_pos c_7)] at K_3
            exact K_3
  · have hD_ := hC_ n_ (Nat.le_refl _)
    generalize zfor (fX9_findFirst_11 l1 l2) n_ (l3, σ) = g_ at W2_ hD_ ⊢
    obtain ⟨x0_, x1_⟩ := g_
    dsimp only at W2_ hD_ ⊢
    refine z_iload dX9_findFirst_11 rfl ?_
    refine z_iload_n dX9_findFirst_13 rfl ?_
    refine z_icmp_ge (tgt := 166) dX9_findFirst_14 (by decide) (fun c_ => ?_) (fun c_ => absurd (hD_.mpr (Nat.le_refl _)) c_)
    exact zz_sub (lv' := [none, none, none, none, none, none, none, none, none]) trivial W2_

theorem dX9_findFirst_0 : decode cX9_findFirst 0 = .ok (.aload_n 0, 1) := by decide +kernel
theorem dX9_findFirst_1 : decode cX9_findFirst 1 = .ok (.iconst 0, 1) := by decide +kernel
theorem dX9_findFirst_2 : decode cX9_findFirst 2 = .ok (.iload_n 1, 1) := by decide +kernel
theorem dX9_findFirst_3 : decode cX9_findFirst 3 = .ok (.iload_n 2, 1) := by decide +kernel
theorem dX9_findFirst_4 : decode cX9_findFirst 4 = .ok (.invokevirtual 155, 3) := by decide +kernel
theorem dX9_findFirst_7 : decode cX9_findFirst 7 = .ok (.istore_n 3, 1) := by decide +kernel
theorem dX9_findFirst_8 : decode cX9_findFirst 8 = .ok (.iconst 0, 1) := by decide +kernel
theorem dX9_findFirst_9 : decode cX9_findFirst 9 = .ok (.istore 4, 2) := by decide +kernel
theorem dX9_findFirst_166 : decode cX9_findFirst 166 = .ok (.return_, 1) := by decide +kernel
noncomputable def vX9_findFirst_6 (a1 : Int32) (a2 : Int32) (σ : zc_N) : zc_N := (zfor (fX9_findFirst_11 a1 a2) ((a1).toNatClampNeg) ((rX9_mostPairs σ (0 : Int32) a1 a2), (sX9_mostPairs σ (0 : Int32) a1 a2))).2
def pX9_findFirst (σ : zc_N) (a1 : Int32) (a2 : Int32) : Prop := ((pX9_mostPairs σ (0 : Int32) a1 a2) ∧ ((∀ i11_ : Nat, i11_ ≤ ((a1).toNatClampNeg) → (a1 ≤ (nI i11_) ↔ ((a1).toNatClampNeg) ≤ i11_)) ∧ (∀ i11_ : Nat, i11_ < ((a1).toNatClampNeg) → qX9_findFirst_11 a1 a2 i11_ (zfor (fX9_findFirst_11 a1 a2) i11_ ((rX9_mostPairs σ (0 : Int32) a1 a2), (sX9_mostPairs σ (0 : Int32) a1 a2))))))
noncomputable def sX9_findFirst (σ : zc_N) (a1 : Int32) (a2 : Int32) : zc_N := (vX9_findFirst_6 a1 a2 σ)
set_option maxHeartbeats 1000000 in
theorem ctX9_findFirst (P : zp) (σ : zc_N) (a1 : Int32) (a2 : Int32) (W_ : (pX9_findFirst σ a1 a2)) : sp mX9_findFirst 15 0 0 [.ref 32, .int a1, .int a2] (hh P σ) (fun r_ h_ => r_ = none ∧ h_ = hh P (sX9_findFirst σ a1 a2)) := by
  refine sp_of (lv := [some (.ref 32), some (.int a1), some (.int a2), none, none, none, none, none, none]) (by decide) (zcats_ok _ rfl) (Nat.le_of_ble_eq_true rfl) (zlv_ok _ 6 rfl) (fun G => ?_)
  generalize hQ_ : (fun (r_ : Option Value) (h_ : zc_H) => r_ = none ∧ h_ = hh P (sX9_findFirst σ a1 a2)) = Q_
  unfold pX9_findFirst at W_
  refine z_aloadr_n dX9_findFirst_0 rfl ?_
  refine z_iconst dX9_findFirst_1 k_iconst_0 ?_
  refine z_iload_n dX9_findFirst_2 rfl ?_
  refine z_iload_n dX9_findFirst_3 rfl ?_
  refine z_callV (ci := 9) (r := (RX9, TX9, 38)) (b := 32) (As := [.int (0 : Int32), .int a1, .int a2]) (rest := []) (ctX9_mostPairs P σ (0 : Int32) a1 a2 W_.1) dX9_findFirst_4 lk_X9_155 lv_X9_mostPairs (Nat.le_of_ble_eq_true rfl) (zN rfl) rfl rfl rfl rfl (Nat.le_of_ble_eq_true rfl) (Nat.le_of_ble_eq_true rfl) (Nat.le_of_ble_eq_true rfl) (Nat.le_of_ble_eq_true rfl) (fun r_ h_ e_ => ?_)
  obtain ⟨e1_, e2_⟩ := e_
  subst e1_
  subst e2_
  show zz G mX9_findFirst 15 0 0 Q_ 7 [some (.ref 32), some (.int a1), some (.int a2), none, none, none, none, none, none] [.int (rX9_mostPairs σ (0 : Int32) a1 a2)] (hh P (sX9_mostPairs σ (0 : Int32) a1 a2)) 0 0
  refine z_istore_n (lv' := [some (.ref 32), some (.int a1), some (.int a2), some (.int (rX9_mostPairs σ (0 : Int32) a1 a2)), none, none, none, none, none]) dX9_findFirst_7 (Nat.le_of_ble_eq_true rfl) rfl ?_
  refine z_iconst dX9_findFirst_8 k_iconst_0 ?_
  refine z_istore (lv' := [some (.ref 32), some (.int a1), some (.int a2), some (.int (rX9_mostPairs σ (0 : Int32) a1 a2)), some (.int (0 : Int32)), none, none, none, none]) dX9_findFirst_9 (Nat.le_of_ble_eq_true rfl) rfl ?_
  refine lpX9_findFirst_11 P (sX9_mostPairs σ (0 : Int32) a1 a2) a1 a2 (rX9_mostPairs σ (0 : Int32) a1 a2) ((a1).toNatClampNeg) W_.2.1 W_.2.2 ?_
  show zz G mX9_findFirst 15 0 0 Q_ 166 [none, none, none, none, none, none, none, none, none] [] (hh P (vX9_findFirst_6 a1 a2 σ)) 0 0
  exact z_return dX9_findFirst_166 rfl (Nat.le_of_ble_eq_true rfl) (Nat.le_of_ble_eq_true rfl) (by rw [← hQ_]; exact ⟨rfl, (by rw [sX9_findFirst])⟩)

theorem dX9_matchOf_49 : decode cX9_matchOf 49 = .ok (.iload 5, 2) := by decide +kernel
theorem dX9_matchOf_51 : decode cX9_matchOf 51 = .ok (.aload_n 0, 1) := by decide +kernel
theorem dX9_matchOf_52 : decode cX9_matchOf 52 = .ok (.getfield 23, 3) := by decide +kernel
theorem dX9_matchOf_55 : decode cX9_matchOf 55 = .ok (.iload_n 2, 1) := by decide +kernel
theorem dX9_matchOf_56 : decode cX9_matchOf 56 = .ok (.iaload, 1) := by decide +kernel
theorem dX9_matchOf_57 : decode cX9_matchOf 57 = .ok (.if_icmp .ge 103, 3) := by decide +kernel
theorem dX9_matchOf_60 : decode cX9_matchOf 60 = .ok (.bipush 12, 2) := by decide +kernel
theorem dX9_matchOf_62 : decode cX9_matchOf 62 = .ok (.iload_n 1, 1) := by decide +kernel
theorem dX9_matchOf_63 : decode cX9_matchOf 63 = .ok (.imul, 1) := by decide +kernel
theorem dX9_matchOf_64 : decode cX9_matchOf 64 = .ok (.iload 4, 2) := by decide +kernel
theorem dX9_matchOf_66 : decode cX9_matchOf 66 = .ok (.iadd, 1) := by decide +kernel
theorem dX9_matchOf_67 : decode cX9_matchOf 67 = .ok (.istore 6, 2) := by decide +kernel
theorem dX9_matchOf_69 : decode cX9_matchOf 69 = .ok (.bipush 12, 2) := by decide +kernel
theorem dX9_matchOf_71 : decode cX9_matchOf 71 = .ok (.iload_n 2, 1) := by decide +kernel
theorem dX9_matchOf_72 : decode cX9_matchOf 72 = .ok (.imul, 1) := by decide +kernel
theorem dX9_matchOf_73 : decode cX9_matchOf 73 = .ok (.iload 5, 2) := by decide +kernel
theorem dX9_matchOf_75 : decode cX9_matchOf 75 = .ok (.iadd, 1) := by decide +kernel
theorem dX9_matchOf_76 : decode cX9_matchOf 76 = .ok (.istore 7, 2) := by decide +kernel
theorem dX9_matchOf_78 : decode cX9_matchOf 78 = .ok (.aload_n 0, 1) := by decide +kernel
theorem dX9_matchOf_79 : decode cX9_matchOf 79 = .ok (.getfield 32, 3) := by decide +kernel
theorem dX9_matchOf_82 : decode cX9_matchOf 82 = .ok (.iload 6, 2) := by decide +kernel
theorem dX9_matchOf_84 : decode cX9_matchOf 84 = .ok (.iaload, 1) := by decide +kernel
theorem dX9_matchOf_85 : decode cX9_matchOf 85 = .ok (.aload_n 0, 1) := by decide +kernel
theorem dX9_matchOf_86 : decode cX9_matchOf 86 = .ok (.getfield 32, 3) := by decide +kernel
theorem dX9_matchOf_89 : decode cX9_matchOf 89 = .ok (.iload 7, 2) := by decide +kernel
theorem dX9_matchOf_91 : decode cX9_matchOf 91 = .ok (.iaload, 1) := by decide +kernel
theorem dX9_matchOf_92 : decode cX9_matchOf 92 = .ok (.if_icmp .ne 62, 3) := by decide +kernel
theorem dX9_matchOf_95 : decode cX9_matchOf 95 = .ok (.aload_n 0, 1) := by decide +kernel
theorem dX9_matchOf_96 : decode cX9_matchOf 96 = .ok (.iload_n 1, 1) := by decide +kernel
theorem dX9_matchOf_97 : decode cX9_matchOf 97 = .ok (.iload_n 2, 1) := by decide +kernel
theorem dX9_matchOf_98 : decode cX9_matchOf 98 = .ok (.iload_n 3, 1) := by decide +kernel
theorem dX9_matchOf_99 : decode cX9_matchOf 99 = .ok (.aload_n 0, 1) := by decide +kernel
theorem dX9_matchOf_100 : decode cX9_matchOf 100 = .ok (.getfield 26, 3) := by decide +kernel
theorem dX9_matchOf_103 : decode cX9_matchOf 103 = .ok (.iload 7, 2) := by decide +kernel
theorem dX9_matchOf_105 : decode cX9_matchOf 105 = .ok (.iaload, 1) := by decide +kernel
theorem dX9_matchOf_106 : decode cX9_matchOf 106 = .ok (.aload_n 0, 1) := by decide +kernel
theorem dX9_matchOf_107 : decode cX9_matchOf 107 = .ok (.getfield 26, 3) := by decide +kernel
theorem dX9_matchOf_110 : decode cX9_matchOf 110 = .ok (.iload 6, 2) := by decide +kernel
theorem dX9_matchOf_112 : decode cX9_matchOf 112 = .ok (.iaload, 1) := by decide +kernel
theorem dX9_matchOf_113 : decode cX9_matchOf 113 = .ok (.aload_n 0, 1) := by decide +kernel
theorem dX9_matchOf_114 : decode cX9_matchOf 114 = .ok (.getfield 29, 3) := by decide +kernel
theorem dX9_matchOf_117 : decode cX9_matchOf 117 = .ok (.iload 6, 2) := by decide +kernel
theorem dX9_matchOf_119 : decode cX9_matchOf 119 = .ok (.iaload, 1) := by decide +kernel
theorem dX9_matchOf_120 : decode cX9_matchOf 120 = .ok (.iload_n 3, 1) := by decide +kernel
theorem dX9_matchOf_121 : decode cX9_matchOf 121 = .ok (.invokestatic 141, 3) := by decide +kernel
theorem dX9_matchOf_124 : decode cX9_matchOf 124 = .ok (.isub, 1) := by decide +kernel
theorem dX9_matchOf_125 : decode cX9_matchOf 125 = .ok (.aload_n 0, 1) := by decide +kernel
theorem dX9_matchOf_126 : decode cX9_matchOf 126 = .ok (.getfield 29, 3) := by decide +kernel
theorem dX9_matchOf_129 : decode cX9_matchOf 129 = .ok (.iload 7, 2) := by decide +kernel
theorem dX9_matchOf_131 : decode cX9_matchOf 131 = .ok (.iaload, 1) := by decide +kernel
theorem dX9_matchOf_132 : decode cX9_matchOf 132 = .ok (.aload_n 0, 1) := by decide +kernel
theorem dX9_matchOf_133 : decode cX9_matchOf 133 = .ok (.getfield 26, 3) := by decide +kernel
theorem dX9_matchOf_136 : decode cX9_matchOf 136 = .ok (.iload 6, 2) := by decide +kernel
theorem dX9_matchOf_138 : decode cX9_matchOf 138 = .ok (.iaload, 1) := by decide +kernel
theorem dX9_matchOf_139 : decode cX9_matchOf 139 = .ok (.aload_n 0, 1) := by decide +kernel
theorem dX9_matchOf_140 : decode cX9_matchOf 140 = .ok (.getfield 29, 3) := by decide +kernel
theorem dX9_matchOf_143 : decode cX9_matchOf 143 = .ok (.iload 6, 2) := by decide +kernel
theorem dX9_matchOf_145 : decode cX9_matchOf 145 = .ok (.iaload, 1) := by decide +kernel
theorem dX9_matchOf_146 : decode cX9_matchOf 146 = .ok (.iload_n 3, 1) := by decide +kernel
theorem dX9_matchOf_147 : decode cX9_matchOf 147 = .ok (.invokestatic 145, 3) := by decide +kernel
theorem dX9_matchOf_150 : decode cX9_matchOf 150 = .ok (.isub, 1) := by decide +kernel
theorem dX9_matchOf_151 : decode cX9_matchOf 151 = .ok (.invokevirtual 184, 3) := by decide +kernel
theorem dX9_matchOf_154 : decode cX9_matchOf 154 = .ok (.iinc 5 1, 3) := by decide +kernel
theorem dX9_matchOf_157 : decode cX9_matchOf 157 = .ok (.goto (-108), 3) := by decide +kernel
theorem dX9_matchOf_160 : decode cX9_matchOf 160 = .ok (.iinc 4 1, 3) := by decide +kernel
theorem dX9_matchOf_163 : decode cX9_matchOf 163 = .ok (.goto (-128), 3) := by decide +kernel
noncomputable def vX9_matchOf_1 (l1 : Int32) (l2 : Int32) (l3 : Int32) (l4 : Int32) (l5 : Int32) (σ : zc_N) : zc_N := (sX9_offer σ l1 l2 l3 (((σ 38) (((12 : Int32) * l2) + l5).toNatClampNeg) - (rX9_turnedX ((σ 38) (((12 : Int32) * l1) + l4).toNatClampNeg) ((σ 39) (((12 : Int32) * l1) + l4).toNatClampNeg) l3)) (((σ 39) (((12 : Int32) * l2) + l5).toNatClampNeg) - (rX9_turnedY ((σ 38) (((12 : Int32) * l1) + l4).toNatClampNeg) ((σ 39) (((12 : Int32) * l1) + l4).toNatClampNeg) l3)))
noncomputable def fX9_matchOf_49 (l1 : Int32) (l2 : Int32) (l3 : Int32) (l4 : Int32) (i_ : Nat) (a_ : zc_N) : zc_N := (if ((a_ 40) (((12 : Int32) * l1) + l4).toNatClampNeg) = ((a_ 40) (((12 : Int32) * l2) + (nI i_)).toNatClampNeg) then (vX9_matchOf_1 l1 l2 l3 l4 (nI i_) a_) else a_)
def qX9_matchOf_49 (l1 : Int32) (l2 : Int32) (l3 : Int32) (l4 : Int32) (i_ : Nat) (a_ : zc_N) : Prop := (vp_in (((12 : Int32) * l1) + l4) 288 ∧ (vp_in (((12 : Int32) * l2) + (nI i_)) 288 ∧ ((((a_ 40) (((12 : Int32) * l1) + l4).toNatClampNeg) = ((a_ 40) (((12 : Int32) * l2) + (nI i_)).toNatClampNeg) → (vp_in (((12 : Int32) * l2) + (nI i_)) 288 ∧ (vp_in (((12 : Int32) * l1) + l4) 288 ∧ (vp_in (((12 : Int32) * l1) + l4) 288 ∧ (vp_in (((12 : Int32) * l2) + (nI i_)) 288 ∧ (vp_in (((12 : Int32) * l1) + l4) 288 ∧ (vp_in (((12 : Int32) * l1) + l4) 288 ∧ (pX9_offer a_ l1 l2 l3 (((a_ 38) (((12 : Int32) * l2) + (nI i_)).toNatClampNeg) - (rX9_turnedX ((a_ 38) (((12 : Int32) * l1) + l4).toNatClampNeg) ((a_ 39) (((12 : Int32) * l1) + l4).toNatClampNeg) l3)) (((a_ 39) (((12 : Int32) * l2) + (nI i_)).toNatClampNeg) - (rX9_turnedY ((a_ 38) (((12 : Int32) * l1) + l4).toNatClampNeg) ((a_ 39) (((12 : Int32) * l1) + l4).toNatClampNeg) l3)))))))))) ∧ (¬ ((a_ 40) (((12 : Int32) * l1) + l4).toNatClampNeg) = ((a_ 40) (((12 : Int32) * l2) + (nI i_)).toNatClampNeg) → True))))
def uX9_matchOf_49 (l2 : Int32) (i_ : Nat) (a_ : zc_N) : Prop := vp_in l2 24
set_option maxHeartbeats 2000000 in
theorem lpX9_matchOf_49 {G : zc_G} {Q : Option Value → zc_H → Prop} (P : zp) (σ : zc_N) (l1 : Int32) (l2 : Int32) (l3 : Int32) (l4 : Int32) (n_ : Nat) (hC_ : ∀ i49_ : Nat, i49_ ≤ n_ → ((((zfor (fX9_matchOf_49 l1 l2 l3 l4) i49_ σ) 37) l2.toNatClampNeg) ≤ (nI i49_) ↔ n_ ≤ i49_)) (W0_ : ∀ i49_ : Nat, i49_ ≤ n_ → uX9_matchOf_49 l2 i49_ (zfor (fX9_matchOf_49 l1 l2 l3 l4) i49_ σ)) (W1_ : ∀ i49_ : Nat, i49_ < n_ → qX9_matchOf_49 l1 l2 l3 l4 i49_ (zfor (fX9_matchOf_49 l1 l2 l3 l4) i49_ σ))
    (W2_ : zz G mX9_matchOf 17 0 0 Q 160 [some (.ref 32), some (.int l1), some (.int l2), some (.int l3), some (.int l4), none, none, none] [] (hh P (zfor (fX9_matchOf_49 l1 l2 l3 l4) n_ σ)) 0 0) :
    zz G mX9_matchOf 17 0 0 Q 49 [some (.ref 32), some (.int l1), some (.int l2), some (.int l3), some (.int l4), some (.int (nI 0)), none, none] [] (hh P σ) 0 0 := by
  refine zfor_nI (fun i_ a_ => zz G mX9_matchOf 17 0 0 Q 49 [some (.ref 32), some (.int l1), some (.int l2), some (.int l3), some (.int l4), some (.int i_), none, none] [] (hh P a_) 0 0) (fX9_matchOf_49 l1 l2 l3 l4) n_ σ (fun i_ hi_ k_ => ?_) ?_
  · have Wa_ := W0_ i_ (Nat.le_of_lt hi_)
    have W3_ := W1_ i_ hi_
    have hD_ := hC_ i_ (Nat.le_of_lt hi_)
    generalize zfor (fX9_matchOf_49 l1 l2 l3 l4) i_ σ = g_ at k_ W3_ hD_ Wa_ ⊢
    rw [fX9_matchOf_49] at k_
    rw [qX9_matchOf_49] at W3_
    try dsimp only at W3_
    rw [uX9_matchOf_49] at Wa_
    try dsimp only at Wa_
    refine z_iload dX9_matchOf_49 rfl ?_
    refine z_aloadr_n dX9_matchOf_51 rfl ?_
    refine z_get (ci := 9) (r := (RX9, TX9, 38)) (j := 4) (v := .ref 37) dX9_matchOf_52 (Nat.le_of_ble_eq_true rfl) (zN rfl) rfl rfl (Nat.le_of_ble_eq_true rfl) fl_X9_23 rfl ?_
    refine z_iload_n dX9_matchOf_55 rfl ?_
    refine z_iald (v := ((g_ 37) l2.toNatClampNeg)) dX9_matchOf_56 (zN rfl) rfl Wa_ rfl ?_
    refine z_icmp_ge (tgt := 160) dX9_matchOf_57 (by decide) (fun c_ => absurd c_ (fun q_ => Nat.not_le_of_lt hi_ (hD_.mp q_))) (fun c_ => ?_)
    refine z_bipush dX9_matchOf_60 k_bipush_12 ?_
    refine z_iload_n dX9_matchOf_62 rfl ?_
    refine z_imul (v := ((12 : Int32) * l1)) dX9_matchOf_63 rfl ?_
    refine z_iload dX9_matchOf_64 rfl ?_
    refine z_iadd (v := (((12 : Int32) * l1) + l4)) dX9_matchOf_66 rfl ?_
    refine z_istore (lv' := [some (.ref 32), some (.int l1), some (.int l2), some (.int l3), some (.int l4), some (.int (nI i_)), some (.int (((12 : Int32) * l1) + l4)), none]) dX9_matchOf_67 (Nat.le_of_ble_eq_true rfl) rfl ?_
    refine z_bipush dX9_matchOf_69 k_bipush_12 ?_
    refine z_iload_n dX9_matchOf_71 rfl ?_
    refine z_imul (v := ((12 : Int32) * l2)) dX9_matchOf_72 rfl ?_
    refine z_iload dX9_matchOf_73 rfl ?_
    refine z_iadd (v := (((12 : Int32) * l2) + (nI i_))) dX9_matchOf_75 rfl ?_
    refine z_istore (lv' := [some (.ref 32), some (.int l1), some (.int l2), some (.int l3), some (.int l4), some (.int (nI i_)), some (.int (((12 : Int32) * l1) + l4)), some (.int (((12 : Int32) * l2) + (nI i_)))]) dX9_matchOf_76 (Nat.le_of_ble_eq_true rfl) rfl ?_
    refine z_aloadr_n dX9_matchOf_78 rfl ?_
    refine z_get (ci := 9) (r := (RX9, TX9, 38)) (j := 7) (v := .ref 40) dX9_matchOf_79 (Nat.le_of_ble_eq_true rfl) (zN rfl) rfl rfl (Nat.le_of_ble_eq_true rfl) fl_X9_32 rfl ?_
    refine z_iload dX9_matchOf_82 rfl ?_
    refine z_iald (v := ((g_ 40) (((12 : Int32) * l1) + l4).toNatClampNeg)) dX9_matchOf_84 (zN rfl) rfl W3_.1 rfl ?_
    refine z_aloadr_n dX9_matchOf_85 rfl ?_
    refine z_get (ci := 9) (r := (RX9, TX9, 38)) (j := 7) (v := .ref 40) dX9_matchOf_86 (Nat.le_of_ble_eq_true rfl) (zN rfl) rfl rfl (Nat.le_of_ble_eq_true rfl) fl_X9_32 rfl ?_
    refine z_iload dX9_matchOf_89 rfl ?_
    refine z_iald (v := ((g_ 40) (((12 : Int32) * l2) + (nI i_)).toNatClampNeg)) dX9_matchOf_91 (zN rfl) rfl W3_.2.1 rfl ?_
    refine z_icmp_ne (tgt := 154) dX9_matchOf_92 (by decide) (fun c_2 => ?_) (fun c_2 => ?_)
    · refine z_iinc (v := ((nI i_) + (1 : Int32))) (lv' := [some (.ref 32), some (.int l1), some (.int l2), some (.int l3), some (.int l4), some (.int ((nI i_) + (1 : Int32))), some (.int (((12 : Int32) * l1) + l4)), some (.int (((12 : Int32) * l2) + (nI i_)))]) dX9_matchOf_154 (Nat.le_of_ble_eq_true rfl) rfl (by rw [k_iconst_1]) rfl ?_
      refine z_goto (tgt := 49) dX9_matchOf_157 (by decide) ?_
      refine zz_sub (lv' := [some (.ref 32), some (.int l1), some (.int l2), some (.int l3), some (.int l4), some (.int ((nI i_) + (1 : Int32))), none, none]) ⟨rfl, ⟨rfl, ⟨rfl, ⟨rfl, ⟨rfl, ⟨rfl, trivial⟩⟩⟩⟩⟩⟩ ?_
      rw [nI_1]
      simpa only [if_neg c_2] using k_
    · refine z_aloadr_n dX9_matchOf_95 rfl ?_
      refine z_iload_n dX9_matchOf_96 rfl ?_
      refine z_iload_n dX9_matchOf_97 rfl ?_
      refine z_iload_n dX9_matchOf_98 rfl ?_
      refine z_aloadr_n dX9_matchOf_99 rfl ?_
      refine z_get (ci := 9) (r := (RX9, TX9, 38)) (j := 5) (v := .ref 38) dX9_matchOf_100 (Nat.le_of_ble_eq_true rfl) (zN rfl) rfl rfl (Nat.le_of_ble_eq_true rfl) fl_X9_26 rfl ?_
      refine z_iload dX9_matchOf_103 rfl ?_
      refine z_iald (v := ((g_ 38) (((12 : Int32) * l2) + (nI i_)).toNatClampNeg)) dX9_matchOf_105 (zN rfl) rfl ((W3_.2.2.1 c_2).1) rfl ?_
      refine z_aloadr_n dX9_matchOf_106 rfl ?_
      refine z_get (ci := 9) (r := (RX9, TX9, 38)) (j := 5) (v := .ref 38) dX9_matchOf_107 (Nat.le_of_ble_eq_true rfl) (zN rfl) rfl rfl (Nat.le_of_ble_eq_true rfl) fl_X9_26 rfl ?_
      refine z_iload dX9_matchOf_110 rfl ?_
      refine z_iald (v := ((g_ 38) (((12 : Int32) * l1) + l4).toNatClampNeg)) dX9_matchOf_112 (zN rfl) rfl ((W3_.2.2.1 c_2).2.1) rfl ?_
      refine z_aloadr_n dX9_matchOf_113 rfl ?_
      refine z_get (ci := 9) (r := (RX9, TX9, 38)) (j := 6) (v := .ref 39) dX9_matchOf_114 (Nat.le_of_ble_eq_true rfl) (zN rfl) rfl rfl (Nat.le_of_ble_eq_true rfl) fl_X9_29 rfl ?_
      refine z_iload dX9_matchOf_117 rfl ?_
      refine z_iald (v := ((g_ 39) (((12 : Int32) * l1) + l4).toNatClampNeg)) dX9_matchOf_119 (zN rfl) rfl ((W3_.2.2.1 c_2).2.2.1) rfl ?_
      refine z_iload_n dX9_matchOf_120 rfl ?_
      refine z_callS (As := [.int ((g_ 38) (((12 : Int32) * l1) + l4).toNatClampNeg), .int ((g_ 39) (((12 : Int32) * l1) + l4).toNatClampNeg), .int l3]) (rest := [.int ((g_ 38) (((12 : Int32) * l2) + (nI i_)).toNatClampNeg), .int l3, .int l2, .int l1, .ref 32]) (ctX9_turnedX P g_ ((g_ 38) (((12 : Int32) * l1) + l4).toNatClampNeg) ((g_ 39) (((12 : Int32) * l1) + l4).toNatClampNeg) l3) dX9_matchOf_121 lk_X9_141 ls_X9_turnedX rfl (Nat.le_of_ble_eq_true rfl) (Nat.le_of_ble_eq_true rfl) (Nat.le_of_ble_eq_true rfl) (Nat.le_of_ble_eq_true rfl) (fun r_ h_ e_ => ?_)
      obtain ⟨e1_, e2_⟩ := e_
      subst e1_
      subst e2_
      show zz G mX9_matchOf 17 0 0 Q 124 [some (.ref 32), some (.int l1), some (.int l2), some (.int l3), some (.int l4), some (.int (nI i_)), some (.int (((12 : Int32) * l1) + l4)), some (.int (((12 : Int32) * l2) + (nI i_)))] [.int (rX9_turnedX ((g_ 38) (((12 : Int32) * l1) + l4).toNatClampNeg) ((g_ 39) (((12 : Int32) * l1) + l4).toNatClampNeg) l3), .int ((g_ 38) (((12 : Int32) * l2) + (nI i_)).toNatClampNeg), .int l3, .int l2, .int l1, .ref 32] (hh P g_) 0 0
      refine z_isub (v := (((g_ 38) (((12 : Int32) * l2) + (nI i_)).toNatClampNeg) - (rX9_turnedX ((g_ 38) (((12 : Int32) * l1) + l4).toNatClampNeg) ((g_ 39) (((12 : Int32) * l1) + l4).toNatClampNeg) l3))) dX9_matchOf_124 rfl ?_
      refine z_aloadr_n dX9_matchOf_125 rfl ?_
      refine z_get (ci := 9) (r := (RX9, TX9, 38)) (j := 6) (v := .ref 39) dX9_matchOf_126 (Nat.le_of_ble_eq_true rfl) (zN rfl) rfl rfl (Nat.le_of_ble_eq_true rfl) fl_X9_29 rfl ?_
      refine z_iload dX9_matchOf_129 rfl ?_
      refine z_iald (v := ((g_ 39) (((12 : Int32) * l2) + (nI i_)).toNatClampNeg)) dX9_matchOf_131 (zN rfl) rfl ((W3_.2.2.1 c_2).2.2.2.1) rfl ?_
      refine z_aloadr_n dX9_matchOf_132 rfl ?_
      refine z_get (ci := 9) (r := (RX9, TX9, 38)) (j := 5) (v := .ref 38) dX9_matchOf_133 (Nat.le_of_ble_eq_true rfl) (zN rfl) rfl rfl (Nat.le_of_ble_eq_true rfl) fl_X9_26 rfl ?_
      refine z_iload dX9_matchOf_136 rfl ?_
      refine z_iald (v := ((g_ 38) (((12 : Int32) * l1) + l4).toNatClampNeg)) dX9_matchOf_138 (zN rfl) rfl ((W3_.2.2.1 c_2).2.2.2.2.1) rfl ?_
      refine z_aloadr_n dX9_matchOf_139 rfl ?_
      refine z_get (ci := 9) (r := (RX9, TX9, 38)) (j := 6) (v := .ref 39) dX9_matchOf_140 (Nat.le_of_ble_eq_true rfl) (zN rfl) rfl rfl (Nat.le_of_ble_eq_true rfl) fl_X9_29 rfl ?_
      refine z_iload dX9_matchOf_143 rfl ?_
      refine z_iald (v := ((g_ 39) (((12 : Int32) * l1) + l4).toNatClampNeg)) dX9_matchOf_145 (zN rfl) rfl ((W3_.2.2.1 c_2).2.2.2.2.2.1) rfl ?_
      refine z_iload_n dX9_matchOf_146 rfl ?_
      refine z_callS (As := [.int ((g_ 38) (((12 : Int32) * l1) + l4).toNatClampNeg), .int ((g_ 39) (((12 : Int32) * l1) + l4).toNatClampNeg), .int l3]) (rest := [.int ((g_ 39) (((12 : Int32) * l2) + (nI i_)).toNatClampNeg), .int (((g_ 38) (((12 : Int32) * l2) + (nI i_)).toNatClampNeg) - (rX9_turnedX ((g_ 38) (((12 : Int32) * l1) + l4).toNatClampNeg) ((g_ 39) (((12 : Int32) * l1) + l4).toNatClampNeg) l3)), .int l3, .int l2, .int l1, .ref 32]) (ctX9_turnedY P g_ ((g_ 38) (((12 : Int32) * l1) + l4).toNatClampNeg) ((g_ 39) (((12 : Int32) * l1) + l4).toNatClampNeg) l3) dX9_matchOf_147 lk_X9_145 ls_X9_turnedY rfl (Nat.le_of_ble_eq_true rfl) (Nat.le_of_ble_eq_true rfl) (Nat.le_of_ble_eq_true rfl) (Nat.le_of_ble_eq_true rfl) (fun r_ h_ e_ => ?_)
      obtain ⟨e1_, e2_⟩ := e_
      subst e1_
      subst e2_
      show zz G mX9_matchOf 17 0 0 Q 150 [some (.ref 32), some (.int l1), some (.int l2), some (.int l3), some (.int l4), some (.int (nI i_)), some (.int (((12 : Int32) * l1) + l4)), some (.int (((12 : Int32) * l2) + (nI i_)))] [.int (rX9_turnedY ((g_ 38) (((12 : Int32) * l1) + l4).toNatClampNeg) ((g_ 39) (((12 : Int32) * l1) + l4).toNatClampNeg) l3), .int ((g_ 39) (((12 : Int32) * l2) + (nI i_)).toNatClampNeg), .int (((g_ 38) (((12 : Int32) * l2) + (nI i_)).toNatClampNeg) - (rX9_turnedX ((g_ 38) (((12 : Int32) * l1) + l4).toNatClampNeg) ((g_ 39) (((12 : Int32) * l1) + l4).toNatClampNeg) l3)), .int l3, .int l2, .int l1, .ref 32] (hh P g_) 0 0
      refine z_isub (v := (((g_ 39) (((12 : Int32) * l2) + (nI i_)).toNatClampNeg) - (rX9_turnedY ((g_ 38) (((12 : Int32) * l1) + l4).toNatClampNeg) ((g_ 39) (((12 : Int32) * l1) + l4).toNatClampNeg) l3))) dX9_matchOf_150 rfl ?_
      refine z_callV (ci := 9) (r := (RX9, TX9, 38)) (b := 32) (As := [.int l1, .int l2, .int l3, .int (((g_ 38) (((12 : Int32) * l2) + (nI i_)).toNatClampNeg) - (rX9_turnedX ((g_ 38) (((12 : Int32) * l1) + l4).toNatClampNeg) ((g_ 39) (((12 : Int32) * l1) + l4).toNatClampNeg) l3)), .int (((g_ 39) (((12 : Int32) * l2) + (nI i_)).toNatClampNeg) - (rX9_turnedY ((g_ 38) (((12 : Int32) * l1) + l4).toNatClampNeg) ((g_ 39) (((12 : Int32) * l1) + l4).toNatClampNeg) l3))]) (rest := []) (ctX9_offer P g_ l1 l2 l3 (((g_ 38) (((12 : Int32) * l2) + (nI i_)).toNatClampNeg) - (rX9_turnedX ((g_ 38) (((12 : Int32) * l1) + l4).toNatClampNeg) ((g_ 39) (((12 : Int32) * l1) + l4).toNatClampNeg) l3)) (((g_ 39) (((12 : Int32) * l2) + (nI i_)).toNatClampNeg) - (rX9_turnedY ((g_ 38) (((12 : Int32) * l1) + l4).toNatClampNeg) ((g_ 39) (((12 : Int32) * l1) + l4).toNatClampNeg) l3)) ((W3_.2.2.1 c_2).2.2.2.2.2.2)) dX9_matchOf_151 lk_X9_184 lv_X9_offer (Nat.le_of_ble_eq_true rfl) (zN rfl) rfl rfl rfl rfl (Nat.le_of_ble_eq_true rfl) (Nat.le_of_ble_eq_true rfl) (Nat.le_of_ble_eq_true rfl) (Nat.le_of_ble_eq_true rfl) (fun r_ h_ e_ => ?_)
      obtain ⟨e1_, e2_⟩ := e_
      subst e1_
      subst e2_
      show zz G mX9_matchOf 17 0 0 Q 154 [some (.ref 32), some (.int l1), some (.int l2), some (.int l3), some (.int l4), some (.int (nI i_)), some (.int (((12 : Int32) * l1) + l4)), some (.int (((12 : Int32) * l2) + (nI i_)))] [] (hh P (vX9_matchOf_1 l1 l2 l3 l4 (nI i_) g_)) 0 0
      refine z_iinc (v := ((nI i_) + (1 : Int32))) (lv' := [some (.ref 32), some (.int l1), some (.int l2), some (.int l3), some (.int l4), some (.int ((nI i_) + (1 : Int32))), some (.int (((12 : Int32) * l1) + l4)), some (.int (((12 : Int32) * l2) + (nI i_)))]) dX9_matchOf_154 (Nat.le_of_ble_eq_true rfl) rfl (by rw [k_iconst_1]) rfl ?_
      refine z_goto (tgt := 49) dX9_matchOf_157 (by decide) ?_
      refine zz_sub (lv' := [some (.ref 32), some (.int l1), some (.int l2), some (.int l3), some (.int l4), some (.int ((nI i_) + (1 : Int32))), none, none]) ⟨rfl, ⟨rfl, ⟨rfl, ⟨rfl, ⟨rfl, ⟨rfl, trivial⟩⟩⟩⟩⟩⟩ ?_
      rw [nI_1]
      simpa only [if_pos c_2] using k_
  · have hD_ := hC_ n_ (Nat.le_refl _)
    have Wa_ := W0_ n_ (Nat.le_refl _)
    generalize zfor (fX9_matchOf_49 l1 l2 l3 l4) n_ σ = g_ at W2_ hD_ Wa_ ⊢
    rw [uX9_matchOf_49] at Wa_
    try dsimp only at Wa_
    refine z_iload dX9_matchOf_49 rfl ?_
    refine z_aloadr_n dX9_matchOf_51 rfl ?_
    refine z_get (ci := 9) (r := (RX9, TX9, 38)) (j := 4) (v := .ref 37) dX9_matchOf_52 (Nat.le_of_ble_eq_true rfl) (zN rfl) rfl rfl (Nat.le_of_ble_eq_true rfl) fl_X9_23 rfl ?_
    refine z_iload_n dX9_matchOf_55 rfl ?_
    refine z_iald (v := ((g_ 37) l2.toNatClampNeg)) dX9_matchOf_56 (zN rfl) rfl Wa_ rfl ?_
    refine z_icmp_ge (tgt := 160) dX9_matchOf_57 (by decide) (fun c_ => ?_) (fun c_ => absurd (hD_.mpr (Nat.le_refl _)) c_)
    exact zz_sub (lv' := [some (.ref 32), some (.int l1), some (.int l2), some (.int l3), some (.int l4), none, none, none]) ⟨rfl, ⟨rfl, ⟨rfl, ⟨rfl, ⟨rfl, trivial⟩⟩⟩⟩⟩ W2_

theorem dX9_matchOf_35 : decode cX9_matchOf 35 = .ok (.iload 4, 2) := by decide +kernel
theorem dX9_matchOf_37 : decode cX9_matchOf 37 = .ok (.aload_n 0, 1) := by decide +kernel
theorem dX9_matchOf_38 : decode cX9_matchOf 38 = .ok (.getfield 23, 3) := by decide +kernel
theorem dX9_matchOf_41 : decode cX9_matchOf 41 = .ok (.iload_n 1, 1) := by decide +kernel
theorem dX9_matchOf_42 : decode cX9_matchOf 42 = .ok (.iaload, 1) := by decide +kernel
theorem dX9_matchOf_43 : decode cX9_matchOf 43 = .ok (.if_icmp .ge 123, 3) := by decide +kernel
theorem dX9_matchOf_46 : decode cX9_matchOf 46 = .ok (.iconst 0, 1) := by decide +kernel
theorem dX9_matchOf_47 : decode cX9_matchOf 47 = .ok (.istore 5, 2) := by decide +kernel
theorem dX9_matchOf_166 : decode cX9_matchOf 166 = .ok (.iinc 3 1, 3) := by decide +kernel
theorem dX9_matchOf_169 : decode cX9_matchOf 169 = .ok (.goto (-142), 3) := by decide +kernel
noncomputable def fX9_matchOf_35 (l1 : Int32) (l2 : Int32) (l3 : Int32) (i_ : Nat) (a_ : zc_N) : zc_N := (zfor (fX9_matchOf_49 l1 l2 l3 (nI i_)) ((((a_ 37) l2.toNatClampNeg)).toNatClampNeg) a_)
def qX9_matchOf_35 (l1 : Int32) (l2 : Int32) (l3 : Int32) (i_ : Nat) (a_ : zc_N) : Prop := ((∀ i49_ : Nat, i49_ ≤ ((((a_ 37) l2.toNatClampNeg)).toNatClampNeg) → ((((zfor (fX9_matchOf_49 l1 l2 l3 (nI i_)) i49_ a_) 37) l2.toNatClampNeg) ≤ (nI i49_) ↔ ((((a_ 37) l2.toNatClampNeg)).toNatClampNeg) ≤ i49_)) ∧ ((∀ i49_ : Nat, i49_ ≤ ((((a_ 37) l2.toNatClampNeg)).toNatClampNeg) → uX9_matchOf_49 l2 i49_ (zfor (fX9_matchOf_49 l1 l2 l3 (nI i_)) i49_ a_)) ∧ (∀ i49_ : Nat, i49_ < ((((a_ 37) l2.toNatClampNeg)).toNatClampNeg) → qX9_matchOf_49 l1 l2 l3 (nI i_) i49_ (zfor (fX9_matchOf_49 l1 l2 l3 (nI i_)) i49_ a_))))
def uX9_matchOf_35 (l1 : Int32) (i_ : Nat) (a_ : zc_N) : Prop := vp_in l1 24
set_option maxHeartbeats 2000000 in
theorem lpX9_matchOf_35 {G : zc_G} {Q : Option Value → zc_H → Prop} (P : zp) (σ : zc_N) (l1 : Int32) (l2 : Int32) (l3 : Int32) (n_ : Nat) (hC_ : ∀ i35_ : Nat, i35_ ≤ n_ → ((((zfor (fX9_matchOf_35 l1 l2 l3) i35_ σ) 37) l1.toNatClampNeg) ≤ (nI i35_) ↔ n_ ≤ i35_)) (W0_ : ∀ i35_ : Nat, i35_ ≤ n_ → uX9_matchOf_35 l1 i35_ (zfor (fX9_matchOf_35 l1 l2 l3) i35_ σ)) (W1_ : ∀ i35_ : Nat, i35_ < n_ → qX9_matchOf_35 l1 l2 l3 i35_ (zfor (fX9_matchOf_35 l1 l2 l3) i35_ σ))
    (W2_ : zz G mX9_matchOf 17 0 0 Q 166 [some (.ref 32), some (.int l1), some (.int l2), some (.int l3), none, none, none, none] [] (hh P (zfor (fX9_matchOf_35 l1 l2 l3) n_ σ)) 0 0) :
    zz G mX9_matchOf 17 0 0 Q 35 [some (.ref 32), some (.int l1), some (.int l2), some (.int l3), some (.int (nI 0)), none, none, none] [] (hh P σ) 0 0 := by
  refine zfor_nI (fun i_ a_ => zz G mX9_matchOf 17 0 0 Q 35 [some (.ref 32), some (.int l1), some (.int l2), some (.int l3), some (.int i_), none, none, none] [] (hh P a_) 0 0) (fX9_matchOf_35 l1 l2 l3) n_ σ (fun i_ hi_ k_ => ?_) ?_
  · have Wa_ := W0_ i_ (Nat.le_of_lt hi_)
    have W3_ := W1_ i_ hi_
    have hD_ := hC_ i_ (Nat.le_of_lt hi_)
    generalize zfor (fX9_matchOf_35 l1 l2 l3) i_ σ = g_ at k_ W3_ hD_ Wa_ ⊢
    rw [fX9_matchOf_35] at k_
    rw [qX9_matchOf_35] at W3_
    try dsimp only at W3_
    rw [uX9_matchOf_35] at Wa_
    try dsimp only at Wa_
    refine z_iload dX9_matchOf_35 rfl ?_
    refine z_aloadr_n dX9_matchOf_37 rfl ?_
    refine z_get (ci := 9) (r := (RX9, TX9, 38)) (j := 4) (v := .ref 37) dX9_matchOf_38 (Nat.le_of_ble_eq_true rfl) (zN rfl) rfl rfl (Nat.le_of_ble_eq_true rfl) fl_X9_23 rfl ?_
    refine z_iload_n dX9_matchOf_41 rfl ?_
    refine z_iald (v := ((g_ 37) l1.toNatClampNeg)) dX9_matchOf_42 (zN rfl) rfl Wa_ rfl ?_
    refine z_icmp_ge (tgt := 166) dX9_matchOf_43 (by decide) (fun c_ => absurd c_ (fun q_ => Nat.not_le_of_lt hi_ (hD_.mp q_))) (fun c_ => ?_)
    refine z_iconst dX9_matchOf_46 k_iconst_0 ?_
    refine z_istore (lv' := [some (.ref 32), some (.int l1), some (.int l2), some (.int l3), some (.int (nI i_)), some (.int (0 : Int32)), none, none]) dX9_matchOf_47 (Nat.le_of_ble_eq_true rfl) rfl ?_
    refine lpX9_matchOf_49 P g_ l1 l2 l3 (nI i_) ((((g_ 37) l2.toNatClampNeg)).toNatClampNeg) W3_.1 W3_.2.1 W3_.2.2 ?_
    show zz G mX9_matchOf 17 0 0 Q 160 [some (.ref 32), some (.int l1), some (.int l2), some (.int l3), some (.int (nI i_)), none, none, none] [] (hh P (zfor (fX9_matchOf_49 l1 l2 l3 (nI i_)) ((((g_ 37) l2.toNatClampNeg)).toNatClampNeg) g_)) 0 0
    refine z_iinc (v := ((nI i_) + (1 : Int32))) (lv' := [some (.ref 32), some (.int l1), some (.int l2), some (.int l3), some (.int ((nI i_) + (1 : Int32))), none, none, none]) dX9_matchOf_160 (Nat.le_of_ble_eq_true rfl) rfl (by rw [k_iconst_1]) rfl ?_
    refine z_goto (tgt := 35) dX9_matchOf_163 (by decide) ?_
    rw [nI_1]
    exact k_
  · have hD_ := hC_ n_ (Nat.le_refl _)
    have Wa_ := W0_ n_ (Nat.le_refl _)
    generalize zfor (fX9_matchOf_35 l1 l2 l3) n_ σ = g_ at W2_ hD_ Wa_ ⊢
    rw [uX9_matchOf_35] at Wa_
    try dsimp only at Wa_
    refine z_iload dX9_matchOf_35 rfl ?_
    refine z_aloadr_n dX9_matchOf_37 rfl ?_
    refine z_get (ci := 9) (r := (RX9, TX9, 38)) (j := 4) (v := .ref 37) dX9_matchOf_38 (Nat.le_of_ble_eq_true rfl) (zN rfl) rfl rfl (Nat.le_of_ble_eq_true rfl) fl_X9_23 rfl ?_
    refine z_iload_n dX9_matchOf_41 rfl ?_
    refine z_iald (v := ((g_ 37) l1.toNatClampNeg)) dX9_matchOf_42 (zN rfl) rfl Wa_ rfl ?_
    refine z_icmp_ge (tgt := 166) dX9_matchOf_43 (by decide) (fun c_ => ?_) (fun c_ => absurd (hD_.mpr (Nat.le_refl _)) c_)
    exact zz_sub (lv' := [some (.ref 32), some (.int l1), some (.int l2), some (.int l3), none, none, none, none]) ⟨rfl, ⟨rfl, ⟨rfl, ⟨rfl, trivial⟩⟩⟩⟩ W2_

theorem dX9_matchOf_27 : decode cX9_matchOf 27 = .ok (.iload_n 3, 1) := by decide +kernel
theorem dX9_matchOf_28 : decode cX9_matchOf 28 = .ok (.iconst 4, 1) := by decide +kernel
theorem dX9_matchOf_29 : decode cX9_matchOf 29 = .ok (.if_icmp .ge 143, 3) := by decide +kernel
theorem dX9_matchOf_32 : decode cX9_matchOf 32 = .ok (.iconst 0, 1) := by decide +kernel
theorem dX9_matchOf_33 : decode cX9_matchOf 33 = .ok (.istore 4, 2) := by decide +kernel
theorem dX9_matchOf_172 : decode cX9_matchOf 172 = .ok (.aload_n 0, 1) := by decide +kernel
theorem dX9_matchOf_173 : decode cX9_matchOf 173 = .ok (.iconst 0, 1) := by decide +kernel
theorem dX9_matchOf_174 : decode cX9_matchOf 174 = .ok (.putfield 158, 3) := by decide +kernel
theorem dX9_matchOf_177 : decode cX9_matchOf 177 = .ok (.aload_n 0, 1) := by decide +kernel
theorem dX9_matchOf_178 : decode cX9_matchOf 178 = .ok (.iconst 0, 1) := by decide +kernel
theorem dX9_matchOf_179 : decode cX9_matchOf 179 = .ok (.putfield 165, 3) := by decide +kernel
theorem dX9_matchOf_182 : decode cX9_matchOf 182 = .ok (.iconst 0, 1) := by decide +kernel
theorem dX9_matchOf_183 : decode cX9_matchOf 183 = .ok (.istore_n 3, 1) := by decide +kernel
noncomputable def fX9_matchOf_27 (l1 : Int32) (l2 : Int32) (i_ : Nat) (a_ : zc_N) : zc_N := (zfor (fX9_matchOf_35 l1 l2 (nI i_)) ((((a_ 37) l1.toNatClampNeg)).toNatClampNeg) a_)
def qX9_matchOf_27 (l1 : Int32) (l2 : Int32) (i_ : Nat) (a_ : zc_N) : Prop := ((∀ i35_ : Nat, i35_ ≤ ((((a_ 37) l1.toNatClampNeg)).toNatClampNeg) → ((((zfor (fX9_matchOf_35 l1 l2 (nI i_)) i35_ a_) 37) l1.toNatClampNeg) ≤ (nI i35_) ↔ ((((a_ 37) l1.toNatClampNeg)).toNatClampNeg) ≤ i35_)) ∧ ((∀ i35_ : Nat, i35_ ≤ ((((a_ 37) l1.toNatClampNeg)).toNatClampNeg) → uX9_matchOf_35 l1 i35_ (zfor (fX9_matchOf_35 l1 l2 (nI i_)) i35_ a_)) ∧ (∀ i35_ : Nat, i35_ < ((((a_ 37) l1.toNatClampNeg)).toNatClampNeg) → qX9_matchOf_35 l1 l2 (nI i_) i35_ (zfor (fX9_matchOf_35 l1 l2 (nI i_)) i35_ a_))))
set_option maxHeartbeats 2000000 in
theorem lpX9_matchOf_27 {G : zc_G} {Q : Option Value → zc_H → Prop} (P : zp) (σ : zc_N) (l1 : Int32) (l2 : Int32) (W1_ : ∀ i27_ : Nat, i27_ < 4 → qX9_matchOf_27 l1 l2 i27_ (zfor (fX9_matchOf_27 l1 l2) i27_ σ))
    (W2_ : zz G mX9_matchOf 17 0 0 Q 172 [some (.ref 32), some (.int l1), some (.int l2), none, none, none, none, none] [] (hh P (zfor (fX9_matchOf_27 l1 l2) 4 σ)) 0 0) :
    zz G mX9_matchOf 17 0 0 Q 27 [some (.ref 32), some (.int l1), some (.int l2), some (.int (nI 0)), none, none, none, none] [] (hh P σ) 0 0 := by
  refine zfor_nI (fun i_ a_ => zz G mX9_matchOf 17 0 0 Q 27 [some (.ref 32), some (.int l1), some (.int l2), some (.int i_), none, none, none, none] [] (hh P a_) 0 0) (fX9_matchOf_27 l1 l2) 4 σ (fun i_ hi_ k_ => ?_) ?_
  · have W3_ := W1_ i_ hi_
    generalize zfor (fX9_matchOf_27 l1 l2) i_ σ = g_ at k_ W3_ ⊢
    rw [fX9_matchOf_27] at k_
    rw [qX9_matchOf_27] at W3_
    try dsimp only at W3_
    refine z_iload_n dX9_matchOf_27 rfl ?_
    refine z_iconst dX9_matchOf_28 k_iconst_4 ?_
    refine z_icmp_ge (tgt := 172) dX9_matchOf_29 (by decide) (fun c_ => absurd c_ (nI_ge hi_ (by decide))) (fun c_ => ?_)
    refine z_iconst dX9_matchOf_32 k_iconst_0 ?_
    refine z_istore (lv' := [some (.ref 32), some (.int l1), some (.int l2), some (.int (nI i_)), some (.int (0 : Int32)), none, none, none]) dX9_matchOf_33 (Nat.le_of_ble_eq_true rfl) rfl ?_
    refine lpX9_matchOf_35 P g_ l1 l2 (nI i_) ((((g_ 37) l1.toNatClampNeg)).toNatClampNeg) W3_.1 W3_.2.1 W3_.2.2 ?_
    show zz G mX9_matchOf 17 0 0 Q 166 [some (.ref 32), some (.int l1), some (.int l2), some (.int (nI i_)), none, none, none, none] [] (hh P (zfor (fX9_matchOf_35 l1 l2 (nI i_)) ((((g_ 37) l1.toNatClampNeg)).toNatClampNeg) g_)) 0 0
    refine z_iinc (v := ((nI i_) + (1 : Int32))) (lv' := [some (.ref 32), some (.int l1), some (.int l2), some (.int ((nI i_) + (1 : Int32))), none, none, none, none]) dX9_matchOf_166 (Nat.le_of_ble_eq_true rfl) rfl (by rw [k_iconst_1]) rfl ?_
    refine z_goto (tgt := 27) dX9_matchOf_169 (by decide) ?_
    rw [nI_1]
    exact k_
  · generalize zfor (fX9_matchOf_27 l1 l2) 4 σ = g_ at W2_ ⊢
    refine z_iload_n dX9_matchOf_27 rfl ?_
    refine z_iconst dX9_matchOf_28 k_iconst_4 ?_
    refine z_icmp_ge (tgt := 172) dX9_matchOf_29 (by decide) (fun c_ => ?_) (fun c_ => absurd (by decide) c_)
    exact zz_sub (lv' := [some (.ref 32), some (.int l1), some (.int l2), none, none, none, none, none]) ⟨rfl, ⟨rfl, ⟨rfl, trivial⟩⟩⟩ W2_

theorem dX9_matchOf_184 : decode cX9_matchOf 184 = .ok (.iload_n 3, 1) := by decide +kernel
theorem dX9_matchOf_185 : decode cX9_matchOf 185 = .ok (.aload_n 0, 1) := by decide +kernel
theorem dX9_matchOf_186 : decode cX9_matchOf 186 = .ok (.getfield 23, 3) := by decide +kernel
theorem dX9_matchOf_189 : decode cX9_matchOf 189 = .ok (.iload_n 1, 1) := by decide +kernel
theorem dX9_matchOf_190 : decode cX9_matchOf 190 = .ok (.iaload, 1) := by decide +kernel
theorem dX9_matchOf_191 : decode cX9_matchOf 191 = .ok (.if_icmp .ge 16, 3) := by decide +kernel
theorem dX9_matchOf_194 : decode cX9_matchOf 194 = .ok (.aload_n 0, 1) := by decide +kernel
theorem dX9_matchOf_195 : decode cX9_matchOf 195 = .ok (.getfield 69, 3) := by decide +kernel
theorem dX9_matchOf_198 : decode cX9_matchOf 198 = .ok (.iload_n 3, 1) := by decide +kernel
theorem dX9_matchOf_199 : decode cX9_matchOf 199 = .ok (.iconst (-1), 1) := by decide +kernel
theorem dX9_matchOf_200 : decode cX9_matchOf 200 = .ok (.iastore, 1) := by decide +kernel
theorem dX9_matchOf_201 : decode cX9_matchOf 201 = .ok (.iinc 3 1, 3) := by decide +kernel
theorem dX9_matchOf_204 : decode cX9_matchOf 204 = .ok (.goto (-20), 3) := by decide +kernel
theorem dX9_matchOf_207 : decode cX9_matchOf 207 = .ok (.aload_n 0, 1) := by decide +kernel
theorem dX9_matchOf_208 : decode cX9_matchOf 208 = .ok (.getfield 168, 3) := by decide +kernel
theorem dX9_matchOf_214 : decode cX9_matchOf 214 = .ok (.aload_n 0, 1) := by decide +kernel
theorem dX9_matchOf_215 : decode cX9_matchOf 215 = .ok (.aload_n 0, 1) := by decide +kernel
theorem dX9_matchOf_216 : decode cX9_matchOf 216 = .ok (.iload_n 1, 1) := by decide +kernel
theorem dX9_matchOf_217 : decode cX9_matchOf 217 = .ok (.iload_n 2, 1) := by decide +kernel
theorem dX9_matchOf_218 : decode cX9_matchOf 218 = .ok (.aload_n 0, 1) := by decide +kernel
theorem dX9_matchOf_219 : decode cX9_matchOf 219 = .ok (.getfield 175, 3) := by decide +kernel
theorem dX9_matchOf_222 : decode cX9_matchOf 222 = .ok (.aload_n 0, 1) := by decide +kernel
theorem dX9_matchOf_223 : decode cX9_matchOf 223 = .ok (.getfield 178, 3) := by decide +kernel
theorem dX9_matchOf_226 : decode cX9_matchOf 226 = .ok (.aload_n 0, 1) := by decide +kernel
theorem dX9_matchOf_227 : decode cX9_matchOf 227 = .ok (.getfield 181, 3) := by decide +kernel
theorem dX9_matchOf_230 : decode cX9_matchOf 230 = .ok (.invokevirtual 187, 3) := by decide +kernel
theorem dX9_matchOf_233 : decode cX9_matchOf 233 = .ok (.putfield 172, 3) := by decide +kernel
theorem dX9_matchOf_236 : decode cX9_matchOf 236 = .ok (.aload_n 0, 1) := by decide +kernel
theorem dX9_matchOf_237 : decode cX9_matchOf 237 = .ok (.aload_n 0, 1) := by decide +kernel
theorem dX9_matchOf_238 : decode cX9_matchOf 238 = .ok (.getfield 23, 3) := by decide +kernel
theorem dX9_matchOf_241 : decode cX9_matchOf 241 = .ok (.iload_n 1, 1) := by decide +kernel
theorem dX9_matchOf_242 : decode cX9_matchOf 242 = .ok (.iaload, 1) := by decide +kernel
theorem dX9_matchOf_243 : decode cX9_matchOf 243 = .ok (.aload_n 0, 1) := by decide +kernel
theorem dX9_matchOf_244 : decode cX9_matchOf 244 = .ok (.getfield 23, 3) := by decide +kernel
theorem dX9_matchOf_247 : decode cX9_matchOf 247 = .ok (.iload_n 2, 1) := by decide +kernel
theorem dX9_matchOf_248 : decode cX9_matchOf 248 = .ok (.iaload, 1) := by decide +kernel
theorem dX9_matchOf_249 : decode cX9_matchOf 249 = .ok (.invokevirtual 191, 3) := by decide +kernel
theorem dX9_matchOf_252 : decode cX9_matchOf 252 = .ok (.aload_n 0, 1) := by decide +kernel
theorem dX9_matchOf_253 : decode cX9_matchOf 253 = .ok (.getfield 172, 3) := by decide +kernel
noncomputable def vX9_matchOf_2 (l1 : Int32) (l2 : Int32) (σ : zc_N) : zc_N := (sX9_findFirst (zu (sX9_scoreOf σ l1 l2 ((σ 32) 22) ((σ 32) 23) ((σ 32) 24)) 32 (zu ((sX9_scoreOf σ l1 l2 ((σ 32) 22) ((σ 32) 23) ((σ 32) 24)) 32) 25 (rX9_scoreOf σ l1 l2 ((σ 32) 22) ((σ 32) 23) ((σ 32) 24)))) (((sX9_scoreOf σ l1 l2 ((σ 32) 22) ((σ 32) 23) ((σ 32) 24)) 37) l1.toNatClampNeg) (((sX9_scoreOf σ l1 l2 ((σ 32) 22) ((σ 32) 23) ((σ 32) 24)) 37) l2.toNatClampNeg))
noncomputable def fX9_matchOf_184 (i_ : Nat) (a_ : zc_N) : zc_N := (zu a_ 51 (zu (a_ 51) (nI i_).toNatClampNeg (-1 : Int32)))
def qX9_matchOf_184 (i_ : Nat) (a_ : zc_N) : Prop := vp_in (nI i_) 12
def uX9_matchOf_184 (l1 : Int32) (i_ : Nat) (a_ : zc_N) : Prop := vp_in l1 24
set_option maxHeartbeats 2000000 in
theorem lpX9_matchOf_184 {G : zc_G} {Q : Option Value → zc_H → Prop} (P : zp) (σ : zc_N) (l1 : Int32) (l2 : Int32) (n_ : Nat) (hC_ : ∀ i184_ : Nat, i184_ ≤ n_ → ((((zfor fX9_matchOf_184 i184_ σ) 37) l1.toNatClampNeg) ≤ (nI i184_) ↔ n_ ≤ i184_)) (W0_ : ∀ i184_ : Nat, i184_ ≤ n_ → uX9_matchOf_184 l1 i184_ (zfor fX9_matchOf_184 i184_ σ)) (W1_ : ∀ i184_ : Nat, i184_ < n_ → qX9_matchOf_184 i184_ (zfor fX9_matchOf_184 i184_ σ))
    (W2_ : zz G mX9_matchOf 17 0 0 Q 207 [some (.ref 32), some (.int l1), some (.int l2), none, none, none, none, none] [] (hh P (zfor fX9_matchOf_184 n_ σ)) 0 0) :
    zz G mX9_matchOf 17 0 0 Q 184 [some (.ref 32), some (.int l1), some (.int l2), some (.int (nI 0)), none, none, none, none] [] (hh P σ) 0 0 := by
  refine zfor_nI (fun i_ a_ => zz G mX9_matchOf 17 0 0 Q 184 [some (.ref 32), some (.int l1), some (.int l2), some (.int i_), none, none, none, none] [] (hh P a_) 0 0) fX9_matchOf_184 n_ σ (fun i_ hi_ k_ => ?_) ?_
  · have Wa_ := W0_ i_ (Nat.le_of_lt hi_)
    have W3_ := W1_ i_ hi_
    have hD_ := hC_ i_ (Nat.le_of_lt hi_)
    generalize zfor fX9_matchOf_184 i_ σ = g_ at k_ W3_ hD_ Wa_ ⊢
    rw [fX9_matchOf_184] at k_
    rw [qX9_matchOf_184] at W3_
    try dsimp only at W3_
    rw [uX9_matchOf_184] at Wa_
    try dsimp only at Wa_
    refine z_iload_n dX9_matchOf_184 rfl ?_
    refine z_aloadr_n dX9_matchOf_185 rfl ?_
    refine z_get (ci := 9) (r := (RX9, TX9, 38)) (j := 4) (v := .ref 37) dX9_matchOf_186 (Nat.le_of_ble_eq_true rfl) (zN rfl) rfl rfl (Nat.le_of_ble_eq_true rfl) fl_X9_23 rfl ?_
    refine z_iload_n dX9_matchOf_189 rfl ?_
    refine z_iald (v := ((g_ 37) l1.toNatClampNeg)) dX9_matchOf_190 (zN rfl) rfl Wa_ rfl ?_
    refine z_icmp_ge (tgt := 207) dX9_matchOf_191 (by decide) (fun c_ => absurd c_ (fun q_ => Nat.not_le_of_lt hi_ (hD_.mp q_))) (fun c_ => ?_)
    refine z_aloadr_n dX9_matchOf_194 rfl ?_
    refine z_get (ci := 9) (r := (RX9, TX9, 38)) (j := 27) (v := .ref 51) dX9_matchOf_195 (Nat.le_of_ble_eq_true rfl) (zN rfl) rfl rfl (Nat.le_of_ble_eq_true rfl) fl_X9_69 rfl ?_
    refine z_iload_n dX9_matchOf_198 rfl ?_
    refine z_iconst dX9_matchOf_199 k_iconst_m1 ?_
    refine z_iast (σ' := (zu g_ 51 (zu (g_ 51) (nI i_).toNatClampNeg (-1 : Int32)))) dX9_matchOf_200 (Nat.le_of_ble_eq_true rfl) (zN rfl) rfl W3_ rfl ?_
    refine z_iinc (v := ((nI i_) + (1 : Int32))) (lv' := [some (.ref 32), some (.int l1), some (.int l2), some (.int ((nI i_) + (1 : Int32))), none, none, none, none]) dX9_matchOf_201 (Nat.le_of_ble_eq_true rfl) rfl (by rw [k_iconst_1]) rfl ?_
    refine z_goto (tgt := 184) dX9_matchOf_204 (by decide) ?_
    rw [nI_1]
    exact k_
  · have hD_ := hC_ n_ (Nat.le_refl _)
    have Wa_ := W0_ n_ (Nat.le_refl _)
    generalize zfor fX9_matchOf_184 n_ σ = g_ at W2_ hD_ Wa_ ⊢
    rw [uX9_matchOf_184] at Wa_
    try dsimp only at Wa_
    refine z_iload_n dX9_matchOf_184 rfl ?_
    refine z_aloadr_n dX9_matchOf_185 rfl ?_
    refine z_get (ci := 9) (r := (RX9, TX9, 38)) (j := 4) (v := .ref 37) dX9_matchOf_186 (Nat.le_of_ble_eq_true rfl) (zN rfl) rfl rfl (Nat.le_of_ble_eq_true rfl) fl_X9_23 rfl ?_
    refine z_iload_n dX9_matchOf_189 rfl ?_
    refine z_iald (v := ((g_ 37) l1.toNatClampNeg)) dX9_matchOf_190 (zN rfl) rfl Wa_ rfl ?_
    refine z_icmp_ge (tgt := 207) dX9_matchOf_191 (by decide) (fun c_ => ?_) (fun c_ => absurd (hD_.mpr (Nat.le_refl _)) c_)
    exact zz_sub (lv' := [some (.ref 32), some (.int l1), some (.int l2), none, none, none, none, none]) ⟨rfl, ⟨rfl, ⟨rfl, trivial⟩⟩⟩ W2_

theorem dX9_matchOf_0 : decode cX9_matchOf 0 = .ok (.aload_n 0, 1) := by decide +kernel
theorem dX9_matchOf_1 : decode cX9_matchOf 1 = .ok (.iconst 0, 1) := by decide +kernel
theorem dX9_matchOf_2 : decode cX9_matchOf 2 = .ok (.putfield 168, 3) := by decide +kernel
theorem dX9_matchOf_5 : decode cX9_matchOf 5 = .ok (.aload_n 0, 1) := by decide +kernel
theorem dX9_matchOf_6 : decode cX9_matchOf 6 = .ok (.iconst 0, 1) := by decide +kernel
theorem dX9_matchOf_7 : decode cX9_matchOf 7 = .ok (.putfield 172, 3) := by decide +kernel
theorem dX9_matchOf_10 : decode cX9_matchOf 10 = .ok (.aload_n 0, 1) := by decide +kernel
theorem dX9_matchOf_11 : decode cX9_matchOf 11 = .ok (.iconst 0, 1) := by decide +kernel
theorem dX9_matchOf_12 : decode cX9_matchOf 12 = .ok (.putfield 175, 3) := by decide +kernel
theorem dX9_matchOf_15 : decode cX9_matchOf 15 = .ok (.aload_n 0, 1) := by decide +kernel
theorem dX9_matchOf_16 : decode cX9_matchOf 16 = .ok (.iconst 0, 1) := by decide +kernel
theorem dX9_matchOf_17 : decode cX9_matchOf 17 = .ok (.putfield 178, 3) := by decide +kernel
theorem dX9_matchOf_20 : decode cX9_matchOf 20 = .ok (.aload_n 0, 1) := by decide +kernel
theorem dX9_matchOf_21 : decode cX9_matchOf 21 = .ok (.iconst 0, 1) := by decide +kernel
theorem dX9_matchOf_22 : decode cX9_matchOf 22 = .ok (.putfield 181, 3) := by decide +kernel
theorem dX9_matchOf_25 : decode cX9_matchOf 25 = .ok (.iconst 0, 1) := by decide +kernel
theorem dX9_matchOf_26 : decode cX9_matchOf 26 = .ok (.istore_n 3, 1) := by decide +kernel
theorem dX9_matchOf_211 : decode cX9_matchOf 211 = .ok (.ifCond .eq 41, 3) := by decide +kernel
theorem dX9_matchOf_256 : decode cX9_matchOf 256 = .ok (.ireturn, 1) := by decide +kernel
noncomputable def vX9_matchOf_3 (a1 : Int32) (a2 : Int32) (σ : zc_N) : zc_N := (zfor (fX9_matchOf_27 a1 a2) 4 (zu σ 32 (zu (zu (zu (zu (zu (σ 32) 26 (0 : Int32)) 25 (0 : Int32)) 22 (0 : Int32)) 23 (0 : Int32)) 24 (0 : Int32))))
noncomputable def vX9_matchOf_4 (a1 : Int32) (a2 : Int32) (σ : zc_N) : zc_N := (zfor fX9_matchOf_184 (((((zu (vX9_matchOf_3 a1 a2 σ) 32 (zu (zu ((vX9_matchOf_3 a1 a2 σ) 32) 20 (0 : Int32)) 21 (0 : Int32))) 37) a1.toNatClampNeg)).toNatClampNeg) (zu (vX9_matchOf_3 a1 a2 σ) 32 (zu (zu ((vX9_matchOf_3 a1 a2 σ) 32) 20 (0 : Int32)) 21 (0 : Int32))))
noncomputable def vX9_matchOf_5 (a1 : Int32) (a2 : Int32) (σ : zc_N) : zc_N := (sX9_scoreOf (vX9_matchOf_4 a1 a2 σ) a1 a2 (((vX9_matchOf_4 a1 a2 σ) 32) 22) (((vX9_matchOf_4 a1 a2 σ) 32) 23) (((vX9_matchOf_4 a1 a2 σ) 32) 24))
noncomputable def vX9_matchOf_6 (a1 : Int32) (a2 : Int32) (σ : zc_N) : zc_N := (sX9_findFirst (zu (vX9_matchOf_5 a1 a2 σ) 32 (zu ((vX9_matchOf_5 a1 a2 σ) 32) 25 (rX9_scoreOf (vX9_matchOf_4 a1 a2 σ) a1 a2 (((vX9_matchOf_4 a1 a2 σ) 32) 22) (((vX9_matchOf_4 a1 a2 σ) 32) 23) (((vX9_matchOf_4 a1 a2 σ) 32) 24)))) (((vX9_matchOf_5 a1 a2 σ) 37) a1.toNatClampNeg) (((vX9_matchOf_5 a1 a2 σ) 37) a2.toNatClampNeg))
def pX9_matchOf (σ : zc_N) (a1 : Int32) (a2 : Int32) : Prop := ((∀ i27_ : Nat, i27_ < 4 → qX9_matchOf_27 a1 a2 i27_ (zfor (fX9_matchOf_27 a1 a2) i27_ (zu σ 32 (zu (zu (zu (zu (zu (σ 32) 26 (0 : Int32)) 25 (0 : Int32)) 22 (0 : Int32)) 23 (0 : Int32)) 24 (0 : Int32))))) ∧ (((∀ i184_ : Nat, i184_ ≤ (((((zu (vX9_matchOf_3 a1 a2 σ) 32 (zu (zu ((vX9_matchOf_3 a1 a2 σ) 32) 20 (0 : Int32)) 21 (0 : Int32))) 37) a1.toNatClampNeg)).toNatClampNeg) → ((((zfor fX9_matchOf_184 i184_ (zu (vX9_matchOf_3 a1 a2 σ) 32 (zu (zu ((vX9_matchOf_3 a1 a2 σ) 32) 20 (0 : Int32)) 21 (0 : Int32)))) 37) a1.toNatClampNeg) ≤ (nI i184_) ↔ (((((zu (vX9_matchOf_3 a1 a2 σ) 32 (zu (zu ((vX9_matchOf_3 a1 a2 σ) 32) 20 (0 : Int32)) 21 (0 : Int32))) 37) a1.toNatClampNeg)).toNatClampNeg) ≤ i184_)) ∧ ((∀ i184_ : Nat, i184_ ≤ (((((zu (vX9_matchOf_3 a1 a2 σ) 32 (zu (zu ((vX9_matchOf_3 a1 a2 σ) 32) 20 (0 : Int32)) 21 (0 : Int32))) 37) a1.toNatClampNeg)).toNatClampNeg) → uX9_matchOf_184 a1 i184_ (zfor fX9_matchOf_184 i184_ (zu (vX9_matchOf_3 a1 a2 σ) 32 (zu (zu ((vX9_matchOf_3 a1 a2 σ) 32) 20 (0 : Int32)) 21 (0 : Int32))))) ∧ (∀ i184_ : Nat, i184_ < (((((zu (vX9_matchOf_3 a1 a2 σ) 32 (zu (zu ((vX9_matchOf_3 a1 a2 σ) 32) 20 (0 : Int32)) 21 (0 : Int32))) 37) a1.toNatClampNeg)).toNatClampNeg) → qX9_matchOf_184 i184_ (zfor fX9_matchOf_184 i184_ (zu (vX9_matchOf_3 a1 a2 σ) 32 (zu (zu ((vX9_matchOf_3 a1 a2 σ) 32) 20 (0 : Int32)) 21 (0 : Int32))))))) ∧ (((((vX9_matchOf_4 a1 a2 σ) 32) 26) = (0 : Int32) → True) ∧ (¬ (((vX9_matchOf_4 a1 a2 σ) 32) 26) = (0 : Int32) → ((pX9_scoreOf (vX9_matchOf_4 a1 a2 σ) a1 a2 (((vX9_matchOf_4 a1 a2 σ) 32) 22) (((vX9_matchOf_4 a1 a2 σ) 32) 23) (((vX9_matchOf_4 a1 a2 σ) 32) 24)) ∧ (vp_in a1 24 ∧ (vp_in a2 24 ∧ (pX9_findFirst (zu (vX9_matchOf_5 a1 a2 σ) 32 (zu ((vX9_matchOf_5 a1 a2 σ) 32) 25 (rX9_scoreOf (vX9_matchOf_4 a1 a2 σ) a1 a2 (((vX9_matchOf_4 a1 a2 σ) 32) 22) (((vX9_matchOf_4 a1 a2 σ) 32) 23) (((vX9_matchOf_4 a1 a2 σ) 32) 24)))) (((vX9_matchOf_5 a1 a2 σ) 37) a1.toNatClampNeg) (((vX9_matchOf_5 a1 a2 σ) 37) a2.toNatClampNeg)))))))))
noncomputable def rX9_matchOf (σ : zc_N) (a1 : Int32) (a2 : Int32) : Int32 := (if (((vX9_matchOf_4 a1 a2 σ) 32) 26) = (0 : Int32) then (((vX9_matchOf_4 a1 a2 σ) 32) 25) else (((vX9_matchOf_6 a1 a2 σ) 32) 25))
noncomputable def sX9_matchOf (σ : zc_N) (a1 : Int32) (a2 : Int32) : zc_N := (if (((vX9_matchOf_4 a1 a2 σ) 32) 26) = (0 : Int32) then (vX9_matchOf_4 a1 a2 σ) else (vX9_matchOf_6 a1 a2 σ))
set_option maxHeartbeats 1000000 in
theorem ctX9_matchOf (P : zp) (σ : zc_N) (a1 : Int32) (a2 : Int32) (W_ : (pX9_matchOf σ a1 a2)) : sp mX9_matchOf 17 0 0 [.ref 32, .int a1, .int a2] (hh P σ) (fun r_ h_ => r_ = some (.int (rX9_matchOf σ a1 a2)) ∧ h_ = hh P (sX9_matchOf σ a1 a2)) := by
  refine sp_of (lv := [some (.ref 32), some (.int a1), some (.int a2), none, none, none, none, none]) (by decide) (zcats_ok _ rfl) (Nat.le_of_ble_eq_true rfl) (zlv_ok _ 5 rfl) (fun G => ?_)
  generalize hQ_ : (fun (r_ : Option Value) (h_ : zc_H) => r_ = some (.int (rX9_matchOf σ a1 a2)) ∧ h_ = hh P (sX9_matchOf σ a1 a2)) = Q_
  unfold pX9_matchOf at W_
  refine z_aloadr_n dX9_matchOf_0 rfl ?_
  refine z_iconst dX9_matchOf_1 k_iconst_0 ?_
  refine z_put (ci := 9) (r := (RX9, TX9, 38)) (j := 26) (σ' := (zu σ 32 (zu (σ 32) 26 (0 : Int32)))) dX9_matchOf_2 (Nat.le_of_ble_eq_true rfl) (zN rfl) rfl rfl (Nat.le_of_ble_eq_true rfl) fl_X9_168 rfl rfl rfl rfl rfl ?_
  refine z_aloadr_n dX9_matchOf_5 rfl ?_
  refine z_iconst dX9_matchOf_6 k_iconst_0 ?_
  refine z_put (ci := 9) (r := (RX9, TX9, 38)) (j := 25) (σ' := (zu σ 32 (zu (zu (σ 32) 26 (0 : Int32)) 25 (0 : Int32)))) dX9_matchOf_7 (Nat.le_of_ble_eq_true rfl) (zN rfl) rfl rfl (Nat.le_of_ble_eq_true rfl) fl_X9_172 rfl rfl rfl rfl ((congrArg (fun g_ => zu _ _ (zu g_ _ _)) (zu_self _ _ _)).trans (zu_zu _ _ _ _)) ?_
  refine z_aloadr_n dX9_matchOf_10 rfl ?_
  refine z_iconst dX9_matchOf_11 k_iconst_0 ?_
  refine z_put (ci := 9) (r := (RX9, TX9, 38)) (j := 22) (σ' := (zu σ 32 (zu (zu (zu (σ 32) 26 (0 : Int32)) 25 (0 : Int32)) 22 (0 : Int32)))) dX9_matchOf_12 (Nat.le_of_ble_eq_true rfl) (zN rfl) rfl rfl (Nat.le_of_ble_eq_true rfl) fl_X9_175 rfl rfl rfl rfl ((congrArg (fun g_ => zu _ _ (zu g_ _ _)) (zu_self _ _ _)).trans (zu_zu _ _ _ _)) ?_
  refine z_aloadr_n dX9_matchOf_15 rfl ?_
  refine z_iconst dX9_matchOf_16 k_iconst_0 ?_
  refine z_put (ci := 9) (r := (RX9, TX9, 38)) (j := 23) (σ' := (zu σ 32 (zu (zu (zu (zu (σ 32) 26 (0 : Int32)) 25 (0 : Int32)) 22 (0 : Int32)) 23 (0 : Int32)))) dX9_matchOf_17 (Nat.le_of_ble_eq_true rfl) (zN rfl) rfl rfl (Nat.le_of_ble_eq_true rfl) fl_X9_178 rfl rfl rfl rfl ((congrArg (fun g_ => zu _ _ (zu g_ _ _)) (zu_self _ _ _)).trans (zu_zu _ _ _ _)) ?_
  refine z_aloadr_n dX9_matchOf_20 rfl ?_
  refine z_iconst dX9_matchOf_21 k_iconst_0 ?_
  refine z_put (ci := 9) (r := (RX9, TX9, 38)) (j := 24) (σ' := (zu σ 32 (zu (zu (zu (zu (zu (σ 32) 26 (0 : Int32)) 25 (0 : Int32)) 22 (0 : Int32)) 23 (0 : Int32)) 24 (0 : Int32)))) dX9_matchOf_22 (Nat.le_of_ble_eq_true rfl) (zN rfl) rfl rfl (Nat.le_of_ble_eq_true rfl) fl_X9_181 rfl rfl rfl rfl ((congrArg (fun g_ => zu _ _ (zu g_ _ _)) (zu_self _ _ _)).trans (zu_zu _ _ _ _)) ?_
  refine z_iconst dX9_matchOf_25 k_iconst_0 ?_
  refine z_istore_n (lv' := [some (.ref 32), some (.int a1), some (.int a2), some (.int (0 : Int32)), none, none, none, none]) dX9_matchOf_26 (Nat.le_of_ble_eq_true rfl) rfl ?_
  refine lpX9_matchOf_27 P (zu σ 32 (zu (zu (zu (zu (zu (σ 32) 26 (0 : Int32)) 25 (0 : Int32)) 22 (0 : Int32)) 23 (0 : Int32)) 24 (0 : Int32))) a1 a2 W_.1 ?_
  show zz G mX9_matchOf 17 0 0 Q_ 172 [some (.ref 32), some (.int a1), some (.int a2), none, none, none, none, none] [] (hh P (vX9_matchOf_3 a1 a2 σ)) 0 0
  refine z_aloadr_n dX9_matchOf_172 rfl ?_
  refine z_iconst dX9_matchOf_173 k_iconst_0 ?_
  refine z_put (ci := 9) (r := (RX9, TX9, 38)) (j := 20) (σ' := (zu (vX9_matchOf_3 a1 a2 σ) 32 (zu ((vX9_matchOf_3 a1 a2 σ) 32) 20 (0 : Int32)))) dX9_matchOf_174 (Nat.le_of_ble_eq_true rfl) (zN rfl) rfl rfl (Nat.le_of_ble_eq_true rfl) fl_X9_158 rfl rfl rfl rfl rfl ?_
  refine z_aloadr_n dX9_matchOf_177 rfl ?_
  refine z_iconst dX9_matchOf_178 k_iconst_0 ?_
  refine z_put (ci := 9) (r := (RX9, TX9, 38)) (j := 21) (σ' := (zu (vX9_matchOf_3 a1 a2 σ) 32 (zu (zu ((vX9_matchOf_3 a1 a2 σ) 32) 20 (0 : Int32)) 21 (0 : Int32)))) dX9_matchOf_179 (Nat.le_of_ble_eq_true rfl) (zN rfl) rfl rfl (Nat.le_of_ble_eq_true rfl) fl_X9_165 rfl rfl rfl rfl ((congrArg (fun g_ => zu _ _ (zu g_ _ _)) (zu_self _ _ _)).trans (zu_zu _ _ _ _)) ?_
  refine z_iconst dX9_matchOf_182 k_iconst_0 ?_
  refine z_istore_n (lv' := [some (.ref 32), some (.int a1), some (.int a2), some (.int (0 : Int32)), none, none, none, none]) dX9_matchOf_183 (Nat.le_of_ble_eq_true rfl) rfl ?_
  refine lpX9_matchOf_184 P (zu (vX9_matchOf_3 a1 a2 σ) 32 (zu (zu ((vX9_matchOf_3 a1 a2 σ) 32) 20 (0 : Int32)) 21 (0 : Int32))) a1 a2 (((((zu (vX9_matchOf_3 a1 a2 σ) 32 (zu (zu ((vX9_matchOf_3 a1 a2 σ) 32) 20 (0 : Int32)) 21 (0 : Int32))) 37) a1.toNatClampNeg)).toNatClampNeg) W_.2.1.1 W_.2.1.2.1 W_.2.1.2.2 ?_
  show zz G mX9_matchOf 17 0 0 Q_ 207 [some (.ref 32), some (.int a1), some (.int a2), none, none, none, none, none] [] (hh P (vX9_matchOf_4 a1 a2 σ)) 0 0
  refine z_aloadr_n dX9_matchOf_207 rfl ?_
  refine z_get (ci := 9) (r := (RX9, TX9, 38)) (j := 26) (v := .int (((vX9_matchOf_4 a1 a2 σ) 32) 26)) dX9_matchOf_208 (Nat.le_of_ble_eq_true rfl) (zN rfl) rfl rfl (Nat.le_of_ble_eq_true rfl) fl_X9_168 rfl ?_
  refine z_if_eq (tgt := 252) dX9_matchOf_211 (by decide) (fun c_1 => ?_) (fun c_1 => ?_)
  · refine z_aloadr_n dX9_matchOf_252 rfl ?_
    refine z_get (ci := 9) (r := (RX9, TX9, 38)) (j := 25) (v := .int (((vX9_matchOf_4 a1 a2 σ) 32) 25)) dX9_matchOf_253 (Nat.le_of_ble_eq_true rfl) (zN rfl) rfl rfl (Nat.le_of_ble_eq_true rfl) fl_X9_172 rfl ?_
    exact z_ireturn dX9_matchOf_256 rfl rfl (Nat.le_of_ble_eq_true rfl) (Nat.le_of_ble_eq_true rfl) (by rw [← hQ_]; exact ⟨(by rw [rX9_matchOf]; try simp only [if_pos c_1]), (by rw [sX9_matchOf]; try simp only [if_pos c_1])⟩)
  · refine z_aloadr_n dX9_matchOf_214 rfl ?_
    refine z_aloadr_n dX9_matchOf_215 rfl ?_
    refine z_iload_n dX9_matchOf_216 rfl ?_
    refine z_iload_n dX9_matchOf_217 rfl ?_
    refine z_aloadr_n dX9_matchOf_218 rfl ?_
    refine z_get (ci := 9) (r := (RX9, TX9, 38)) (j := 22) (v := .int (((vX9_matchOf_4 a1 a2 σ) 32) 22)) dX9_matchOf_219 (Nat.le_of_ble_eq_true rfl) (zN rfl) rfl rfl (Nat.le_of_ble_eq_true rfl) fl_X9_175 rfl ?_
    refine z_aloadr_n dX9_matchOf_222 rfl ?_
    refine z_get (ci := 9) (r := (RX9, TX9, 38)) (j := 23) (v := .int (((vX9_matchOf_4 a1 a2 σ) 32) 23)) dX9_matchOf_223 (Nat.le_of_ble_eq_true rfl) (zN rfl) rfl rfl (Nat.le_of_ble_eq_true rfl) fl_X9_178 rfl ?_
    refine z_aloadr_n dX9_matchOf_226 rfl ?_
    refine z_get (ci := 9) (r := (RX9, TX9, 38)) (j := 24) (v := .int (((vX9_matchOf_4 a1 a2 σ) 32) 24)) dX9_matchOf_227 (Nat.le_of_ble_eq_true rfl) (zN rfl) rfl rfl (Nat.le_of_ble_eq_true rfl) fl_X9_181 rfl ?_
    refine z_callV (ci := 9) (r := (RX9, TX9, 38)) (b := 32) (As := [.int a1, .int a2, .int (((vX9_matchOf_4 a1 a2 σ) 32) 22), .int (((vX9_matchOf_4 a1 a2 σ) 32) 23), .int (((vX9_matchOf_4 a1 a2 σ) 32) 24)]) (rest := [.ref 32]) (ctX9_scoreOf P (vX9_matchOf_4 a1 a2 σ) a1 a2 (((vX9_matchOf_4 a1 a2 σ) 32) 22) (((vX9_matchOf_4 a1 a2 σ) 32) 23) (((vX9_matchOf_4 a1 a2 σ) 32) 24) ((W_.2.2.2 c_1).1)) dX9_matchOf_230 lk_X9_187 lv_X9_scoreOf (Nat.le_of_ble_eq_true rfl) (zN rfl) rfl rfl rfl rfl (Nat.le_of_ble_eq_true rfl) (Nat.le_of_ble_eq_true rfl) (Nat.le_of_ble_eq_true rfl) (Nat.le_of_ble_eq_true rfl) (fun r_ h_ e_ => ?_)
    obtain ⟨e1_, e2_⟩ := e_
    subst e1_
    subst e2_
    show zz G mX9_matchOf 17 0 0 Q_ 233 [some (.ref 32), some (.int a1), some (.int a2), none, none, none, none, none] [.int (rX9_scoreOf (vX9_matchOf_4 a1 a2 σ) a1 a2 (((vX9_matchOf_4 a1 a2 σ) 32) 22) (((vX9_matchOf_4 a1 a2 σ) 32) 23) (((vX9_matchOf_4 a1 a2 σ) 32) 24)), .ref 32] (hh P (vX9_matchOf_5 a1 a2 σ)) 0 0
    refine z_put (ci := 9) (r := (RX9, TX9, 38)) (j := 25) (σ' := (zu (vX9_matchOf_5 a1 a2 σ) 32 (zu ((vX9_matchOf_5 a1 a2 σ) 32) 25 (rX9_scoreOf (vX9_matchOf_4 a1 a2 σ) a1 a2 (((vX9_matchOf_4 a1 a2 σ) 32) 22) (((vX9_matchOf_4 a1 a2 σ) 32) 23) (((vX9_matchOf_4 a1 a2 σ) 32) 24))))) dX9_matchOf_233 (Nat.le_of_ble_eq_true rfl) (zN rfl) rfl rfl (Nat.le_of_ble_eq_true rfl) fl_X9_172 rfl rfl rfl rfl rfl ?_
    refine z_aloadr_n dX9_matchOf_236 rfl ?_
    refine z_aloadr_n dX9_matchOf_237 rfl ?_
    refine z_get (ci := 9) (r := (RX9, TX9, 38)) (j := 4) (v := .ref 37) dX9_matchOf_238 (Nat.le_of_ble_eq_true rfl) (zN rfl) rfl rfl (Nat.le_of_ble_eq_true rfl) fl_X9_23 rfl ?_
    refine z_iload_n dX9_matchOf_241 rfl ?_
    refine z_iald (v := (((vX9_matchOf_5 a1 a2 σ) 37) a1.toNatClampNeg)) dX9_matchOf_242 (zN rfl) rfl ((W_.2.2.2 c_1).2.1) (congrFun (zu_ne _ _ (by decide)) _) ?_
    refine z_aloadr_n dX9_matchOf_243 rfl ?_
    refine z_get (ci := 9) (r := (RX9, TX9, 38)) (j := 4) (v := .ref 37) dX9_matchOf_244 (Nat.le_of_ble_eq_true rfl) (zN rfl) rfl rfl (Nat.le_of_ble_eq_true rfl) fl_X9_23 rfl ?_
    refine z_iload_n dX9_matchOf_247 rfl ?_
    refine z_iald (v := (((vX9_matchOf_5 a1 a2 σ) 37) a2.toNatClampNeg)) dX9_matchOf_248 (zN rfl) rfl ((W_.2.2.2 c_1).2.2.1) (congrFun (zu_ne _ _ (by decide)) _) ?_
    refine z_callV (ci := 9) (r := (RX9, TX9, 38)) (b := 32) (As := [.int (((vX9_matchOf_5 a1 a2 σ) 37) a1.toNatClampNeg), .int (((vX9_matchOf_5 a1 a2 σ) 37) a2.toNatClampNeg)]) (rest := []) (ctX9_findFirst P (zu (vX9_matchOf_5 a1 a2 σ) 32 (zu ((vX9_matchOf_5 a1 a2 σ) 32) 25 (rX9_scoreOf (vX9_matchOf_4 a1 a2 σ) a1 a2 (((vX9_matchOf_4 a1 a2 σ) 32) 22) (((vX9_matchOf_4 a1 a2 σ) 32) 23) (((vX9_matchOf_4 a1 a2 σ) 32) 24)))) (((vX9_matchOf_5 a1 a2 σ) 37) a1.toNatClampNeg) (((vX9_matchOf_5 a1 a2 σ) 37) a2.toNatClampNeg) ((W_.2.2.2 c_1).2.2.2)) dX9_matchOf_249 lk_X9_191 lv_X9_findFirst (Nat.le_of_ble_eq_true rfl) (zN rfl) rfl rfl rfl rfl (Nat.le_of_ble_eq_true rfl) (Nat.le_of_ble_eq_true rfl) (Nat.le_of_ble_eq_true rfl) (Nat.le_of_ble_eq_true rfl) (fun r_ h_ e_ => ?_)
    obtain ⟨e1_, e2_⟩ := e_
    subst e1_
    subst e2_
    show zz G mX9_matchOf 17 0 0 Q_ 252 [some (.ref 32), some (.int a1), some (.int a2), none, none, none, none, none] [] (hh P (vX9_matchOf_6 a1 a2 σ)) 0 0
    refine z_aloadr_n dX9_matchOf_252 rfl ?_
    refine z_get (ci := 9) (r := (RX9, TX9, 38)) (j := 25) (v := .int (((vX9_matchOf_6 a1 a2 σ) 32) 25)) dX9_matchOf_253 (Nat.le_of_ble_eq_true rfl) (zN rfl) rfl rfl (Nat.le_of_ble_eq_true rfl) fl_X9_172 rfl ?_
    exact z_ireturn dX9_matchOf_256 rfl rfl (Nat.le_of_ble_eq_true rfl) (Nat.le_of_ble_eq_true rfl) (by rw [← hQ_]; exact ⟨(by rw [rX9_matchOf]; try simp only [if_neg c_1]), (by rw [sX9_matchOf]; try simp only [if_neg c_1])⟩)

theorem dX9_lay_0 : decode cX9_lay 0 = .ok (.aload_n 0, 1) := by decide +kernel
theorem dX9_lay_1 : decode cX9_lay 1 = .ok (.iload_n 1, 1) := by decide +kernel
theorem dX9_lay_2 : decode cX9_lay 2 = .ok (.invokevirtual 137, 3) := by decide +kernel
theorem dX9_lay_5 : decode cX9_lay 5 = .ok (.ifCond .eq 44, 3) := by decide +kernel
theorem dX9_lay_8 : decode cX9_lay 8 = .ok (.aload_n 0, 1) := by decide +kernel
theorem dX9_lay_9 : decode cX9_lay 9 = .ok (.iload_n 2, 1) := by decide +kernel
theorem dX9_lay_10 : decode cX9_lay 10 = .ok (.invokevirtual 137, 3) := by decide +kernel
theorem dX9_lay_13 : decode cX9_lay 13 = .ok (.ifCond .eq 36, 3) := by decide +kernel
theorem dX9_lay_16 : decode cX9_lay 16 = .ok (.iload_n 3, 1) := by decide +kernel
theorem dX9_lay_17 : decode cX9_lay 17 = .ok (.iconst 0, 1) := by decide +kernel
theorem dX9_lay_18 : decode cX9_lay 18 = .ok (.iconst 3, 1) := by decide +kernel
theorem dX9_lay_19 : decode cX9_lay 19 = .ok (.invokestatic 96, 3) := by decide +kernel
theorem dX9_lay_22 : decode cX9_lay 22 = .ok (.ifCond .eq 27, 3) := by decide +kernel
theorem dX9_lay_25 : decode cX9_lay 25 = .ok (.iload 4, 2) := by decide +kernel
theorem dX9_lay_27 : decode cX9_lay 27 = .ok (.bipush (-30), 2) := by decide +kernel
theorem dX9_lay_29 : decode cX9_lay 29 = .ok (.bipush 30, 2) := by decide +kernel
theorem dX9_lay_31 : decode cX9_lay 31 = .ok (.invokestatic 96, 3) := by decide +kernel
theorem dX9_lay_34 : decode cX9_lay 34 = .ok (.ifCond .eq 15, 3) := by decide +kernel
theorem dX9_lay_37 : decode cX9_lay 37 = .ok (.iload 5, 2) := by decide +kernel
theorem dX9_lay_39 : decode cX9_lay 39 = .ok (.bipush (-30), 2) := by decide +kernel
theorem dX9_lay_41 : decode cX9_lay 41 = .ok (.bipush 30, 2) := by decide +kernel
theorem dX9_lay_43 : decode cX9_lay 43 = .ok (.invokestatic 96, 3) := by decide +kernel
theorem dX9_lay_46 : decode cX9_lay 46 = .ok (.ifCond .ne 7, 3) := by decide +kernel
theorem dX9_lay_49 : decode cX9_lay 49 = .ok (.sipush (-1000), 3) := by decide +kernel
theorem dX9_lay_52 : decode cX9_lay 52 = .ok (.ireturn, 1) := by decide +kernel
theorem dX9_lay_53 : decode cX9_lay 53 = .ok (.aload_n 0, 1) := by decide +kernel
theorem dX9_lay_54 : decode cX9_lay 54 = .ok (.iconst 1, 1) := by decide +kernel
theorem dX9_lay_55 : decode cX9_lay 55 = .ok (.putfield 168, 3) := by decide +kernel
theorem dX9_lay_58 : decode cX9_lay 58 = .ok (.aload_n 0, 1) := by decide +kernel
theorem dX9_lay_59 : decode cX9_lay 59 = .ok (.iload_n 3, 1) := by decide +kernel
theorem dX9_lay_60 : decode cX9_lay 60 = .ok (.putfield 175, 3) := by decide +kernel
theorem dX9_lay_63 : decode cX9_lay 63 = .ok (.aload_n 0, 1) := by decide +kernel
theorem dX9_lay_64 : decode cX9_lay 64 = .ok (.iload 4, 2) := by decide +kernel
theorem dX9_lay_66 : decode cX9_lay 66 = .ok (.putfield 178, 3) := by decide +kernel
theorem dX9_lay_69 : decode cX9_lay 69 = .ok (.aload_n 0, 1) := by decide +kernel
theorem dX9_lay_70 : decode cX9_lay 70 = .ok (.iload 5, 2) := by decide +kernel
theorem dX9_lay_72 : decode cX9_lay 72 = .ok (.putfield 181, 3) := by decide +kernel
theorem dX9_lay_75 : decode cX9_lay 75 = .ok (.aload_n 0, 1) := by decide +kernel
theorem dX9_lay_76 : decode cX9_lay 76 = .ok (.aload_n 0, 1) := by decide +kernel
theorem dX9_lay_77 : decode cX9_lay 77 = .ok (.iload_n 1, 1) := by decide +kernel
theorem dX9_lay_78 : decode cX9_lay 78 = .ok (.iload_n 2, 1) := by decide +kernel
theorem dX9_lay_79 : decode cX9_lay 79 = .ok (.iload_n 3, 1) := by decide +kernel
theorem dX9_lay_80 : decode cX9_lay 80 = .ok (.iload 4, 2) := by decide +kernel
theorem dX9_lay_82 : decode cX9_lay 82 = .ok (.iload 5, 2) := by decide +kernel
theorem dX9_lay_84 : decode cX9_lay 84 = .ok (.invokevirtual 187, 3) := by decide +kernel
theorem dX9_lay_87 : decode cX9_lay 87 = .ok (.putfield 172, 3) := by decide +kernel
theorem dX9_lay_90 : decode cX9_lay 90 = .ok (.aload_n 0, 1) := by decide +kernel
theorem dX9_lay_91 : decode cX9_lay 91 = .ok (.aload_n 0, 1) := by decide +kernel
theorem dX9_lay_92 : decode cX9_lay 92 = .ok (.getfield 23, 3) := by decide +kernel
theorem dX9_lay_95 : decode cX9_lay 95 = .ok (.iload_n 1, 1) := by decide +kernel
theorem dX9_lay_96 : decode cX9_lay 96 = .ok (.iaload, 1) := by decide +kernel
theorem dX9_lay_97 : decode cX9_lay 97 = .ok (.aload_n 0, 1) := by decide +kernel
theorem dX9_lay_98 : decode cX9_lay 98 = .ok (.getfield 23, 3) := by decide +kernel
theorem dX9_lay_101 : decode cX9_lay 101 = .ok (.iload_n 2, 1) := by decide +kernel
theorem dX9_lay_102 : decode cX9_lay 102 = .ok (.iaload, 1) := by decide +kernel
theorem dX9_lay_103 : decode cX9_lay 103 = .ok (.invokevirtual 191, 3) := by decide +kernel
theorem dX9_lay_106 : decode cX9_lay 106 = .ok (.aload_n 0, 1) := by decide +kernel
theorem dX9_lay_107 : decode cX9_lay 107 = .ok (.iload_n 1, 1) := by decide +kernel
theorem dX9_lay_108 : decode cX9_lay 108 = .ok (.invokevirtual 195, 3) := by decide +kernel
theorem dX9_lay_111 : decode cX9_lay 111 = .ok (.aload_n 0, 1) := by decide +kernel
theorem dX9_lay_112 : decode cX9_lay 112 = .ok (.getfield 172, 3) := by decide +kernel
theorem dX9_lay_115 : decode cX9_lay 115 = .ok (.ireturn, 1) := by decide +kernel
noncomputable def vX9_lay_1 (a1 : Int32) (a2 : Int32) (a3 : Int32) (a4 : Int32) (a5 : Int32) (σ : zc_N) : zc_N := (sX9_scoreOf (zu σ 32 (zu (zu (zu (zu (σ 32) 26 (1 : Int32)) 22 a3) 23 a4) 24 a5)) a1 a2 a3 a4 a5)
noncomputable def vX9_lay_2 (a1 : Int32) (a2 : Int32) (a3 : Int32) (a4 : Int32) (a5 : Int32) (σ : zc_N) : zc_N := (sX9_findFirst (zu (vX9_lay_1 a1 a2 a3 a4 a5 σ) 32 (zu ((vX9_lay_1 a1 a2 a3 a4 a5 σ) 32) 25 (rX9_scoreOf (zu σ 32 (zu (zu (zu (zu (σ 32) 26 (1 : Int32)) 22 a3) 23 a4) 24 a5)) a1 a2 a3 a4 a5))) (((vX9_lay_1 a1 a2 a3 a4 a5 σ) 37) a1.toNatClampNeg) (((vX9_lay_1 a1 a2 a3 a4 a5 σ) 37) a2.toNatClampNeg))
def pX9_lay (σ : zc_N) (a1 : Int32) (a2 : Int32) (a3 : Int32) (a4 : Int32) (a5 : Int32) : Prop := (((rX9_isPrint σ a1) = (0 : Int32) → True) ∧ (¬ (rX9_isPrint σ a1) = (0 : Int32) → (((rX9_isPrint σ a2) = (0 : Int32) → True) ∧ (¬ (rX9_isPrint σ a2) = (0 : Int32) → (((rX9_within a3 (0 : Int32) (3 : Int32)) = (0 : Int32) → True) ∧ (¬ (rX9_within a3 (0 : Int32) (3 : Int32)) = (0 : Int32) → (((rX9_within a4 (-30 : Int32) (30 : Int32)) = (0 : Int32) → True) ∧ (¬ (rX9_within a4 (-30 : Int32) (30 : Int32)) = (0 : Int32) → (((rX9_within a5 (-30 : Int32) (30 : Int32)) = (0 : Int32) → True) ∧ (¬ (rX9_within a5 (-30 : Int32) (30 : Int32)) = (0 : Int32) → ((pX9_scoreOf (zu σ 32 (zu (zu (zu (zu (σ 32) 26 (1 : Int32)) 22 a3) 23 a4) 24 a5)) a1 a2 a3 a4 a5) ∧ (vp_in a1 24 ∧ (vp_in a2 24 ∧ ((pX9_findFirst (zu (vX9_lay_1 a1 a2 a3 a4 a5 σ) 32 (zu ((vX9_lay_1 a1 a2 a3 a4 a5 σ) 32) 25 (rX9_scoreOf (zu σ 32 (zu (zu (zu (zu (σ 32) 26 (1 : Int32)) 22 a3) 23 a4) 24 a5)) a1 a2 a3 a4 a5))) (((vX9_lay_1 a1 a2 a3 a4 a5 σ) 37) a1.toNatClampNeg) (((vX9_lay_1 a1 a2 a3 a4 a5 σ) 37) a2.toNatClampNeg)) ∧ (pX9_tell (vX9_lay_2 a1 a2 a3 a4 a5 σ) a1)))))))))))))))
noncomputable def rX9_lay (σ : zc_N) (a1 : Int32) (a2 : Int32) (a3 : Int32) (a4 : Int32) (a5 : Int32) : Int32 := (if (rX9_isPrint σ a1) = (0 : Int32) then (-1000 : Int32) else (if (rX9_isPrint σ a2) = (0 : Int32) then (-1000 : Int32) else (if (rX9_within a3 (0 : Int32) (3 : Int32)) = (0 : Int32) then (-1000 : Int32) else (if (rX9_within a4 (-30 : Int32) (30 : Int32)) = (0 : Int32) then (-1000 : Int32) else (if (rX9_within a5 (-30 : Int32) (30 : Int32)) = (0 : Int32) then (-1000 : Int32) else (((sX9_tell (vX9_lay_2 a1 a2 a3 a4 a5 σ) a1) 32) 25))))))
noncomputable def sX9_lay (σ : zc_N) (a1 : Int32) (a2 : Int32) (a3 : Int32) (a4 : Int32) (a5 : Int32) : zc_N := (if (rX9_isPrint σ a1) = (0 : Int32) then σ else (if (rX9_isPrint σ a2) = (0 : Int32) then σ else (if (rX9_within a3 (0 : Int32) (3 : Int32)) = (0 : Int32) then σ else (if (rX9_within a4 (-30 : Int32) (30 : Int32)) = (0 : Int32) then σ else (if (rX9_within a5 (-30 : Int32) (30 : Int32)) = (0 : Int32) then σ else (sX9_tell (vX9_lay_2 a1 a2 a3 a4 a5 σ) a1))))))
set_option maxHeartbeats 1000000 in
theorem ctX9_lay (P : zp) (σ : zc_N) (a1 : Int32) (a2 : Int32) (a3 : Int32) (a4 : Int32) (a5 : Int32) (W_ : (pX9_lay σ a1 a2 a3 a4 a5)) : sp mX9_lay 18 0 0 [.ref 32, .int a1, .int a2, .int a3, .int a4, .int a5] (hh P σ) (fun r_ h_ => r_ = some (.int (rX9_lay σ a1 a2 a3 a4 a5)) ∧ h_ = hh P (sX9_lay σ a1 a2 a3 a4 a5)) := by
  refine sp_of (lv := [some (.ref 32), some (.int a1), some (.int a2), some (.int a3), some (.int a4), some (.int a5)]) (by decide) (zcats_ok _ rfl) (Nat.le_of_ble_eq_true rfl) (zlv_ok _ 0 rfl) (fun G => ?_)
  generalize hQ_ : (fun (r_ : Option Value) (h_ : zc_H) => r_ = some (.int (rX9_lay σ a1 a2 a3 a4 a5)) ∧ h_ = hh P (sX9_lay σ a1 a2 a3 a4 a5)) = Q_
  unfold pX9_lay at W_
  refine z_aloadr_n dX9_lay_0 rfl ?_
  refine z_iload_n dX9_lay_1 rfl ?_
  refine z_callV (ci := 9) (r := (RX9, TX9, 38)) (b := 32) (As := [.int a1]) (rest := []) (ctX9_isPrint P σ a1) dX9_lay_2 lk_X9_137 lv_X9_isPrint (Nat.le_of_ble_eq_true rfl) (zN rfl) rfl rfl rfl rfl (Nat.le_of_ble_eq_true rfl) (Nat.le_of_ble_eq_true rfl) (Nat.le_of_ble_eq_true rfl) (Nat.le_of_ble_eq_true rfl) (fun r_ h_ e_ => ?_)
  obtain ⟨e1_, e2_⟩ := e_
  subst e1_
  subst e2_
  show zz G mX9_lay 18 0 0 Q_ 5 [some (.ref 32), some (.int a1), some (.int a2), some (.int a3), some (.int a4), some (.int a5)] [.int (rX9_isPrint σ a1)] (hh P σ) 0 0
  refine z_if_eq (tgt := 49) dX9_lay_5 (by decide) (fun c_1 => ?_) (fun c_1 => ?_)
  · refine z_sipush dX9_lay_49 k_sipush_m1000 ?_
    exact z_ireturn dX9_lay_52 rfl rfl (Nat.le_of_ble_eq_true rfl) (Nat.le_of_ble_eq_true rfl) (by rw [← hQ_]; exact ⟨(by rw [rX9_lay]; try simp only [if_pos c_1]), (by rw [sX9_lay]; try simp only [if_pos c_1])⟩)
  · refine z_aloadr_n dX9_lay_8 rfl ?_
    refine z_iload_n dX9_lay_9 rfl ?_
    refine z_callV (ci := 9) (r := (RX9, TX9, 38)) (b := 32) (As := [.int a2]) (rest := []) (ctX9_isPrint P σ a2) dX9_lay_10 lk_X9_137 lv_X9_isPrint (Nat.le_of_ble_eq_true rfl) (zN rfl) rfl rfl rfl rfl (Nat.le_of_ble_eq_true rfl) (Nat.le_of_ble_eq_true rfl) (Nat.le_of_ble_eq_true rfl) (Nat.le_of_ble_eq_true rfl) (fun r_ h_ e_ => ?_)
    obtain ⟨e1_, e2_⟩ := e_
    subst e1_
    subst e2_
    show zz G mX9_lay 18 0 0 Q_ 13 [some (.ref 32), some (.int a1), some (.int a2), some (.int a3), some (.int a4), some (.int a5)] [.int (rX9_isPrint σ a2)] (hh P σ) 0 0
    refine z_if_eq (tgt := 49) dX9_lay_13 (by decide) (fun c_2 => ?_) (fun c_2 => ?_)
    · refine z_sipush dX9_lay_49 k_sipush_m1000 ?_
      exact z_ireturn dX9_lay_52 rfl rfl (Nat.le_of_ble_eq_true rfl) (Nat.le_of_ble_eq_true rfl) (by rw [← hQ_]; exact ⟨(by rw [rX9_lay]; try simp only [if_neg c_1, if_pos c_2]), (by rw [sX9_lay]; try simp only [if_neg c_1, if_pos c_2])⟩)
    · refine z_iload_n dX9_lay_16 rfl ?_
      refine z_iconst dX9_lay_17 k_iconst_0 ?_
      refine z_iconst dX9_lay_18 k_iconst_3 ?_
      refine z_callS (As := [.int a3, .int (0 : Int32), .int (3 : Int32)]) (rest := []) (ctX9_within P σ a3 (0 : Int32) (3 : Int32)) dX9_lay_19 lk_X9_96 ls_X9_within rfl (Nat.le_of_ble_eq_true rfl) (Nat.le_of_ble_eq_true rfl) (Nat.le_of_ble_eq_true rfl) (Nat.le_of_ble_eq_true rfl) (fun r_ h_ e_ => ?_)
      obtain ⟨e1_, e2_⟩ := e_
      subst e1_
      subst e2_
      show zz G mX9_lay 18 0 0 Q_ 22 [some (.ref 32), some (.int a1), some (.int a2), some (.int a3), some (.int a4), some (.int a5)] [.int (rX9_within a3 (0 : Int32) (3 : Int32))] (hh P σ) 0 0
      refine z_if_eq (tgt := 49) dX9_lay_22 (by decide) (fun c_3 => ?_) (fun c_3 => ?_)
      · refine z_sipush dX9_lay_49 k_sipush_m1000 ?_
        exact z_ireturn dX9_lay_52 rfl rfl (Nat.le_of_ble_eq_true rfl) (Nat.le_of_ble_eq_true rfl) (by rw [← hQ_]; exact ⟨(by rw [rX9_lay]; try simp only [if_neg c_1, if_neg c_2, if_pos c_3]), (by rw [sX9_lay]; try simp only [if_neg c_1, if_neg c_2, if_pos c_3])⟩)
      · refine z_iload dX9_lay_25 rfl ?_
        refine z_bipush dX9_lay_27 k_bipush_m30 ?_
        refine z_bipush dX9_lay_29 k_bipush_30 ?_
        refine z_callS (As := [.int a4, .int (-30 : Int32), .int (30 : Int32)]) (rest := []) (ctX9_within P σ a4 (-30 : Int32) (30 : Int32)) dX9_lay_31 lk_X9_96 ls_X9_within rfl (Nat.le_of_ble_eq_true rfl) (Nat.le_of_ble_eq_true rfl) (Nat.le_of_ble_eq_true rfl) (Nat.le_of_ble_eq_true rfl) (fun r_ h_ e_ => ?_)
        obtain ⟨e1_, e2_⟩ := e_
        subst e1_
        subst e2_
        show zz G mX9_lay 18 0 0 Q_ 34 [some (.ref 32), some (.int a1), some (.int a2), some (.int a3), some (.int a4), some (.int a5)] [.int (rX9_within a4 (-30 : Int32) (30 : Int32))] (hh P σ) 0 0
        refine z_if_eq (tgt := 49) dX9_lay_34 (by decide) (fun c_4 => ?_) (fun c_4 => ?_)
        · refine z_sipush dX9_lay_49 k_sipush_m1000 ?_
          exact z_ireturn dX9_lay_52 rfl rfl (Nat.le_of_ble_eq_true rfl) (Nat.le_of_ble_eq_true rfl) (by rw [← hQ_]; exact ⟨(by rw [rX9_lay]; try simp only [if_neg c_1, if_neg c_2, if_neg c_3, if_pos c_4]), (by rw [sX9_lay]; try simp only [if_neg c_1, if_neg c_2, if_neg c_3, if_pos c_4])⟩)
        · refine z_iload dX9_lay_37 rfl ?_
          refine z_bipush dX9_lay_39 k_bipush_m30 ?_
          refine z_bipush dX9_lay_41 k_bipush_30 ?_
          refine z_callS (As := [.int a5, .int (-30 : Int32), .int (30 : Int32)]) (rest := []) (ctX9_within P σ a5 (-30 : Int32) (30 : Int32)) dX9_lay_43 lk_X9_96 ls_X9_within rfl (Nat.le_of_ble_eq_true rfl) (Nat.le_of_ble_eq_true rfl) (Nat.le_of_ble_eq_true rfl) (Nat.le_of_ble_eq_true rfl) (fun r_ h_ e_ => ?_)
          obtain ⟨e1_, e2_⟩ := e_
          subst e1_
          subst e2_
          show zz G mX9_lay 18 0 0 Q_ 46 [some (.ref 32), some (.int a1), some (.int a2), some (.int a3), some (.int a4), some (.int a5)] [.int (rX9_within a5 (-30 : Int32) (30 : Int32))] (hh P σ) 0 0
          refine z_if_ne (tgt := 53) dX9_lay_46 (by decide) (fun c_5 => ?_) (fun c_5 => ?_)
          · refine z_aloadr_n dX9_lay_53 rfl ?_
            refine z_iconst dX9_lay_54 k_iconst_1 ?_
            refine z_put (ci := 9) (r := (RX9, TX9, 38)) (j := 26) (σ' := (zu σ 32 (zu (σ 32) 26 (1 : Int32)))) dX9_lay_55 (Nat.le_of_ble_eq_true rfl) (zN rfl) rfl rfl (Nat.le_of_ble_eq_true rfl) fl_X9_168 rfl rfl rfl rfl rfl ?_
            refine z_aloadr_n dX9_lay_58 rfl ?_
            refine z_iload_n dX9_lay_59 rfl ?_
            refine z_put (ci := 9) (r := (RX9, TX9, 38)) (j := 22) (σ' := (zu σ 32 (zu (zu (σ 32) 26 (1 : Int32)) 22 a3))) dX9_lay_60 (Nat.le_of_ble_eq_true rfl) (zN rfl) rfl rfl (Nat.le_of_ble_eq_true rfl) fl_X9_175 rfl rfl rfl rfl ((congrArg (fun g_ => zu _ _ (zu g_ _ _)) (zu_self _ _ _)).trans (zu_zu _ _ _ _)) ?_
            refine z_aloadr_n dX9_lay_63 rfl ?_
            refine z_iload dX9_lay_64 rfl ?_
            refine z_put (ci := 9) (r := (RX9, TX9, 38)) (j := 23) (σ' := (zu σ 32 (zu (zu (zu (σ 32) 26 (1 : Int32)) 22 a3) 23 a4))) dX9_lay_66 (Nat.le_of_ble_eq_true rfl) (zN rfl) rfl rfl (Nat.le_of_ble_eq_true rfl) fl_X9_178 rfl rfl rfl rfl ((congrArg (fun g_ => zu _ _ (zu g_ _ _)) (zu_self _ _ _)).trans (zu_zu _ _ _ _)) ?_
            refine z_aloadr_n dX9_lay_69 rfl ?_
            refine z_iload dX9_lay_70 rfl ?_
            refine z_put (ci := 9) (r := (RX9, TX9, 38)) (j := 24) (σ' := (zu σ 32 (zu (zu (zu (zu (σ 32) 26 (1 : Int32)) 22 a3) 23 a4) 24 a5))) dX9_lay_72 (Nat.le_of_ble_eq_true rfl) (zN rfl) rfl rfl (Nat.le_of_ble_eq_true rfl) fl_X9_181 rfl rfl rfl rfl ((congrArg (fun g_ => zu _ _ (zu g_ _ _)) (zu_self _ _ _)).trans (zu_zu _ _ _ _)) ?_
            refine z_aloadr_n dX9_lay_75 rfl ?_
            refine z_aloadr_n dX9_lay_76 rfl ?_
            refine z_iload_n dX9_lay_77 rfl ?_
            refine z_iload_n dX9_lay_78 rfl ?_
            refine z_iload_n dX9_lay_79 rfl ?_
            refine z_iload dX9_lay_80 rfl ?_
            refine z_iload dX9_lay_82 rfl ?_
            refine z_callV (ci := 9) (r := (RX9, TX9, 38)) (b := 32) (As := [.int a1, .int a2, .int a3, .int a4, .int a5]) (rest := [.ref 32]) (ctX9_scoreOf P (zu σ 32 (zu (zu (zu (zu (σ 32) 26 (1 : Int32)) 22 a3) 23 a4) 24 a5)) a1 a2 a3 a4 a5 ((((((W_.2 c_1).2 c_2).2 c_3).2 c_4).2 c_5).1)) dX9_lay_84 lk_X9_187 lv_X9_scoreOf (Nat.le_of_ble_eq_true rfl) (zN rfl) rfl rfl rfl rfl (Nat.le_of_ble_eq_true rfl) (Nat.le_of_ble_eq_true rfl) (Nat.le_of_ble_eq_true rfl) (Nat.le_of_ble_eq_true rfl) (fun r_ h_ e_ => ?_)
            obtain ⟨e1_, e2_⟩ := e_
            subst e1_
            subst e2_
            show zz G mX9_lay 18 0 0 Q_ 87 [some (.ref 32), some (.int a1), some (.int a2), some (.int a3), some (.int a4), some (.int a5)] [.int (rX9_scoreOf (zu σ 32 (zu (zu (zu (zu (σ 32) 26 (1 : Int32)) 22 a3) 23 a4) 24 a5)) a1 a2 a3 a4 a5), .ref 32] (hh P (vX9_lay_1 a1 a2 a3 a4 a5 σ)) 0 0
            refine z_put (ci := 9) (r := (RX9, TX9, 38)) (j := 25) (σ' := (zu (vX9_lay_1 a1 a2 a3 a4 a5 σ) 32 (zu ((vX9_lay_1 a1 a2 a3 a4 a5 σ) 32) 25 (rX9_scoreOf (zu σ 32 (zu (zu (zu (zu (σ 32) 26 (1 : Int32)) 22 a3) 23 a4) 24 a5)) a1 a2 a3 a4 a5)))) dX9_lay_87 (Nat.le_of_ble_eq_true rfl) (zN rfl) rfl rfl (Nat.le_of_ble_eq_true rfl) fl_X9_172 rfl rfl rfl rfl rfl ?_
            refine z_aloadr_n dX9_lay_90 rfl ?_
            refine z_aloadr_n dX9_lay_91 rfl ?_
            refine z_get (ci := 9) (r := (RX9, TX9, 38)) (j := 4) (v := .ref 37) dX9_lay_92 (Nat.le_of_ble_eq_true rfl) (zN rfl) rfl rfl (Nat.le_of_ble_eq_true rfl) fl_X9_23 rfl ?_
            refine z_iload_n dX9_lay_95 rfl ?_
            refine z_iald (v := (((vX9_lay_1 a1 a2 a3 a4 a5 σ) 37) a1.toNatClampNeg)) dX9_lay_96 (zN rfl) rfl ((((((W_.2 c_1).2 c_2).2 c_3).2 c_4).2 c_5).2.1) (congrFun (zu_ne _ _ (by decide)) _) ?_
            refine z_aloadr_n dX9_lay_97 rfl ?_
            refine z_get (ci := 9) (r := (RX9, TX9, 38)) (j := 4) (v := .ref 37) dX9_lay_98 (Nat.le_of_ble_eq_true rfl) (zN rfl) rfl rfl (Nat.le_of_ble_eq_true rfl) fl_X9_23 rfl ?_
            refine z_iload_n dX9_lay_101 rfl ?_
            refine z_iald (v := (((vX9_lay_1 a1 a2 a3 a4 a5 σ) 37) a2.toNatClampNeg)) dX9_lay_102 (zN rfl) rfl ((((((W_.2 c_1).2 c_2).2 c_3).2 c_4).2 c_5).2.2.1) (congrFun (zu_ne _ _ (by decide)) _) ?_
            refine z_callV (ci := 9) (r := (RX9, TX9, 38)) (b := 32) (As := [.int (((vX9_lay_1 a1 a2 a3 a4 a5 σ) 37) a1.toNatClampNeg), .int (((vX9_lay_1 a1 a2 a3 a4 a5 σ) 37) a2.toNatClampNeg)]) (rest := []) (ctX9_findFirst P (zu (vX9_lay_1 a1 a2 a3 a4 a5 σ) 32 (zu ((vX9_lay_1 a1 a2 a3 a4 a5 σ) 32) 25 (rX9_scoreOf (zu σ 32 (zu (zu (zu (zu (σ 32) 26 (1 : Int32)) 22 a3) 23 a4) 24 a5)) a1 a2 a3 a4 a5))) (((vX9_lay_1 a1 a2 a3 a4 a5 σ) 37) a1.toNatClampNeg) (((vX9_lay_1 a1 a2 a3 a4 a5 σ) 37) a2.toNatClampNeg) ((((((W_.2 c_1).2 c_2).2 c_3).2 c_4).2 c_5).2.2.2.1)) dX9_lay_103 lk_X9_191 lv_X9_findFirst (Nat.le_of_ble_eq_true rfl) (zN rfl) rfl rfl rfl rfl (Nat.le_of_ble_eq_true rfl) (Nat.le_of_ble_eq_true rfl) (Nat.le_of_ble_eq_true rfl) (Nat.le_of_ble_eq_true rfl) (fun r_ h_ e_ => ?_)
            obtain ⟨e1_, e2_⟩ := e_
            subst e1_
            subst e2_
            show zz G mX9_lay 18 0 0 Q_ 106 [some (.ref 32), some (.int a1), some (.int a2), some (.int a3), some (.int a4), some (.int a5)] [] (hh P (vX9_lay_2 a1 a2 a3 a4 a5 σ)) 0 0
            refine z_aloadr_n dX9_lay_106 rfl ?_
            refine z_iload_n dX9_lay_107 rfl ?_
            refine z_callV (ci := 9) (r := (RX9, TX9, 38)) (b := 32) (As := [.int a1]) (rest := []) (ctX9_tell P (vX9_lay_2 a1 a2 a3 a4 a5 σ) a1 ((((((W_.2 c_1).2 c_2).2 c_3).2 c_4).2 c_5).2.2.2.2)) dX9_lay_108 lk_X9_195 lv_X9_tell (Nat.le_of_ble_eq_true rfl) (zN rfl) rfl rfl rfl rfl (Nat.le_of_ble_eq_true rfl) (Nat.le_of_ble_eq_true rfl) (Nat.le_of_ble_eq_true rfl) (Nat.le_of_ble_eq_true rfl) (fun r_ h_ e_ => ?_)
            obtain ⟨e1_, e2_⟩ := e_
            subst e1_
            subst e2_
            show zz G mX9_lay 18 0 0 Q_ 111 [some (.ref 32), some (.int a1), some (.int a2), some (.int a3), some (.int a4), some (.int a5)] [] (hh P (sX9_tell (vX9_lay_2 a1 a2 a3 a4 a5 σ) a1)) 0 0
            refine z_aloadr_n dX9_lay_111 rfl ?_
            refine z_get (ci := 9) (r := (RX9, TX9, 38)) (j := 25) (v := .int (((sX9_tell (vX9_lay_2 a1 a2 a3 a4 a5 σ) a1) 32) 25)) dX9_lay_112 (Nat.le_of_ble_eq_true rfl) (zN rfl) rfl rfl (Nat.le_of_ble_eq_true rfl) fl_X9_172 rfl ?_
            exact z_ireturn dX9_lay_115 rfl rfl (Nat.le_of_ble_eq_true rfl) (Nat.le_of_ble_eq_true rfl) (by rw [← hQ_]; exact ⟨(by rw [rX9_lay]; try simp only [if_neg c_1, if_neg c_2, if_neg c_3, if_neg c_4, if_neg c_5]), (by rw [sX9_lay]; try simp only [if_neg c_1, if_neg c_2, if_neg c_3, if_neg c_4, if_neg c_5])⟩)
          · refine z_sipush dX9_lay_49 k_sipush_m1000 ?_
            exact z_ireturn dX9_lay_52 rfl rfl (Nat.le_of_ble_eq_true rfl) (Nat.le_of_ble_eq_true rfl) (by rw [← hQ_]; exact ⟨(by rw [rX9_lay]; try simp only [if_neg c_1, if_neg c_2, if_neg c_3, if_neg c_4, if_pos c_5]), (by rw [sX9_lay]; try simp only [if_neg c_1, if_neg c_2, if_neg c_3, if_neg c_4, if_pos c_5])⟩)

theorem dX9_match_0 : decode cX9_match 0 = .ok (.aload_n 0, 1) := by decide +kernel
theorem dX9_match_1 : decode cX9_match 1 = .ok (.iload_n 1, 1) := by decide +kernel
theorem dX9_match_2 : decode cX9_match 2 = .ok (.invokevirtual 137, 3) := by decide +kernel
theorem dX9_match_5 : decode cX9_match 5 = .ok (.ifCond .eq 11, 3) := by decide +kernel
theorem dX9_match_8 : decode cX9_match 8 = .ok (.aload_n 0, 1) := by decide +kernel
theorem dX9_match_9 : decode cX9_match 9 = .ok (.iload_n 2, 1) := by decide +kernel
theorem dX9_match_10 : decode cX9_match 10 = .ok (.invokevirtual 137, 3) := by decide +kernel
theorem dX9_match_13 : decode cX9_match 13 = .ok (.ifCond .ne 7, 3) := by decide +kernel
theorem dX9_match_16 : decode cX9_match 16 = .ok (.sipush (-1000), 3) := by decide +kernel
theorem dX9_match_19 : decode cX9_match 19 = .ok (.ireturn, 1) := by decide +kernel
theorem dX9_match_20 : decode cX9_match 20 = .ok (.aload_n 0, 1) := by decide +kernel
theorem dX9_match_21 : decode cX9_match 21 = .ok (.iload_n 1, 1) := by decide +kernel
theorem dX9_match_22 : decode cX9_match 22 = .ok (.iload_n 2, 1) := by decide +kernel
theorem dX9_match_23 : decode cX9_match 23 = .ok (.invokevirtual 199, 3) := by decide +kernel
theorem dX9_match_26 : decode cX9_match 26 = .ok (.istore_n 3, 1) := by decide +kernel
theorem dX9_match_27 : decode cX9_match 27 = .ok (.aload_n 0, 1) := by decide +kernel
theorem dX9_match_28 : decode cX9_match 28 = .ok (.iload_n 1, 1) := by decide +kernel
theorem dX9_match_29 : decode cX9_match 29 = .ok (.invokevirtual 195, 3) := by decide +kernel
theorem dX9_match_32 : decode cX9_match 32 = .ok (.iload_n 3, 1) := by decide +kernel
theorem dX9_match_33 : decode cX9_match 33 = .ok (.ireturn, 1) := by decide +kernel
def pX9_match (σ : zc_N) (a1 : Int32) (a2 : Int32) : Prop := (((rX9_isPrint σ a1) = (0 : Int32) → True) ∧ (¬ (rX9_isPrint σ a1) = (0 : Int32) → (((rX9_isPrint σ a2) = (0 : Int32) → True) ∧ (¬ (rX9_isPrint σ a2) = (0 : Int32) → ((pX9_matchOf σ a1 a2) ∧ (pX9_tell (sX9_matchOf σ a1 a2) a1))))))
noncomputable def rX9_match (σ : zc_N) (a1 : Int32) (a2 : Int32) : Int32 := (if (rX9_isPrint σ a1) = (0 : Int32) then (-1000 : Int32) else (if (rX9_isPrint σ a2) = (0 : Int32) then (-1000 : Int32) else (rX9_matchOf σ a1 a2)))
noncomputable def sX9_match (σ : zc_N) (a1 : Int32) (a2 : Int32) : zc_N := (if (rX9_isPrint σ a1) = (0 : Int32) then σ else (if (rX9_isPrint σ a2) = (0 : Int32) then σ else (sX9_tell (sX9_matchOf σ a1 a2) a1)))
set_option maxHeartbeats 1000000 in
theorem ctX9_match (P : zp) (σ : zc_N) (a1 : Int32) (a2 : Int32) (W_ : (pX9_match σ a1 a2)) : sp mX9_match 18 0 0 [.ref 32, .int a1, .int a2] (hh P σ) (fun r_ h_ => r_ = some (.int (rX9_match σ a1 a2)) ∧ h_ = hh P (sX9_match σ a1 a2)) := by
  refine sp_of (lv := [some (.ref 32), some (.int a1), some (.int a2), none]) (by decide) (zcats_ok _ rfl) (Nat.le_of_ble_eq_true rfl) (zlv_ok _ 1 rfl) (fun G => ?_)
  generalize hQ_ : (fun (r_ : Option Value) (h_ : zc_H) => r_ = some (.int (rX9_match σ a1 a2)) ∧ h_ = hh P (sX9_match σ a1 a2)) = Q_
  unfold pX9_match at W_
  refine z_aloadr_n dX9_match_0 rfl ?_
  refine z_iload_n dX9_match_1 rfl ?_
  refine z_callV (ci := 9) (r := (RX9, TX9, 38)) (b := 32) (As := [.int a1]) (rest := []) (ctX9_isPrint P σ a1) dX9_match_2 lk_X9_137 lv_X9_isPrint (Nat.le_of_ble_eq_true rfl) (zN rfl) rfl rfl rfl rfl (Nat.le_of_ble_eq_true rfl) (Nat.le_of_ble_eq_true rfl) (Nat.le_of_ble_eq_true rfl) (Nat.le_of_ble_eq_true rfl) (fun r_ h_ e_ => ?_)
  obtain ⟨e1_, e2_⟩ := e_
  subst e1_
  subst e2_
  show zz G mX9_match 18 0 0 Q_ 5 [some (.ref 32), some (.int a1), some (.int a2), none] [.int (rX9_isPrint σ a1)] (hh P σ) 0 0
  refine z_if_eq (tgt := 16) dX9_match_5 (by decide) (fun c_1 => ?_) (fun c_1 => ?_)
  · refine z_sipush dX9_match_16 k_sipush_m1000 ?_
    exact z_ireturn dX9_match_19 rfl rfl (Nat.le_of_ble_eq_true rfl) (Nat.le_of_ble_eq_true rfl) (by rw [← hQ_]; exact ⟨(by rw [rX9_match]; try simp only [if_pos c_1]), (by rw [sX9_match]; try simp only [if_pos c_1])⟩)
  · refine z_aloadr_n dX9_match_8 rfl ?_
    refine z_iload_n dX9_match_9 rfl ?_
    refine z_callV (ci := 9) (r := (RX9, TX9, 38)) (b := 32) (As := [.int a2]) (rest := []) (ctX9_isPrint P σ a2) dX9_match_10 lk_X9_137 lv_X9_isPrint (Nat.le_of_ble_eq_true rfl) (zN rfl) rfl rfl rfl rfl (Nat.le_of_ble_eq_true rfl) (Nat.le_of_ble_eq_true rfl) (Nat.le_of_ble_eq_true rfl) (Nat.le_of_ble_eq_true rfl) (fun r_ h_ e_ => ?_)
    obtain ⟨e1_, e2_⟩ := e_
    subst e1_
    subst e2_
    show zz G mX9_match 18 0 0 Q_ 13 [some (.ref 32), some (.int a1), some (.int a2), none] [.int (rX9_isPrint σ a2)] (hh P σ) 0 0
    refine z_if_ne (tgt := 20) dX9_match_13 (by decide) (fun c_2 => ?_) (fun c_2 => ?_)
    · refine z_aloadr_n dX9_match_20 rfl ?_
      refine z_iload_n dX9_match_21 rfl ?_
      refine z_iload_n dX9_match_22 rfl ?_
      refine z_callV (ci := 9) (r := (RX9, TX9, 38)) (b := 32) (As := [.int a1, .int a2]) (rest := []) (ctX9_matchOf P σ a1 a2 (((W_.2 c_1).2 c_2).1)) dX9_match_23 lk_X9_199 lv_X9_matchOf (Nat.le_of_ble_eq_true rfl) (zN rfl) rfl rfl rfl rfl (Nat.le_of_ble_eq_true rfl) (Nat.le_of_ble_eq_true rfl) (Nat.le_of_ble_eq_true rfl) (Nat.le_of_ble_eq_true rfl) (fun r_ h_ e_ => ?_)
      obtain ⟨e1_, e2_⟩ := e_
      subst e1_
      subst e2_
      show zz G mX9_match 18 0 0 Q_ 26 [some (.ref 32), some (.int a1), some (.int a2), none] [.int (rX9_matchOf σ a1 a2)] (hh P (sX9_matchOf σ a1 a2)) 0 0
      refine z_istore_n (lv' := [some (.ref 32), some (.int a1), some (.int a2), some (.int (rX9_matchOf σ a1 a2))]) dX9_match_26 (Nat.le_of_ble_eq_true rfl) rfl ?_
      refine z_aloadr_n dX9_match_27 rfl ?_
      refine z_iload_n dX9_match_28 rfl ?_
      refine z_callV (ci := 9) (r := (RX9, TX9, 38)) (b := 32) (As := [.int a1]) (rest := []) (ctX9_tell P (sX9_matchOf σ a1 a2) a1 (((W_.2 c_1).2 c_2).2)) dX9_match_29 lk_X9_195 lv_X9_tell (Nat.le_of_ble_eq_true rfl) (zN rfl) rfl rfl rfl rfl (Nat.le_of_ble_eq_true rfl) (Nat.le_of_ble_eq_true rfl) (Nat.le_of_ble_eq_true rfl) (Nat.le_of_ble_eq_true rfl) (fun r_ h_ e_ => ?_)
      obtain ⟨e1_, e2_⟩ := e_
      subst e1_
      subst e2_
      show zz G mX9_match 18 0 0 Q_ 32 [some (.ref 32), some (.int a1), some (.int a2), some (.int (rX9_matchOf σ a1 a2))] [] (hh P (sX9_tell (sX9_matchOf σ a1 a2) a1)) 0 0
      refine z_iload_n dX9_match_32 rfl ?_
      exact z_ireturn dX9_match_33 rfl rfl (Nat.le_of_ble_eq_true rfl) (Nat.le_of_ble_eq_true rfl) (by rw [← hQ_]; exact ⟨(by rw [rX9_match]; try simp only [if_neg c_1, if_neg c_2]), (by rw [sX9_match]; try simp only [if_neg c_1, if_neg c_2])⟩)
    · refine z_sipush dX9_match_16 k_sipush_m1000 ?_
      exact z_ireturn dX9_match_19 rfl rfl (Nat.le_of_ble_eq_true rfl) (Nat.le_of_ble_eq_true rfl) (by rw [← hQ_]; exact ⟨(by rw [rX9_match]; try simp only [if_neg c_1, if_pos c_2]), (by rw [sX9_match]; try simp only [if_neg c_1, if_pos c_2])⟩)

theorem dX9_findPoints_66 : decode cX9_findPoints 66 = .ok (.iload 7, 2) := by decide +kernel
theorem dX9_findPoints_68 : decode cX9_findPoints 68 = .ok (.iload_n 3, 1) := by decide +kernel
theorem dX9_findPoints_69 : decode cX9_findPoints 69 = .ok (.iconst 1, 1) := by decide +kernel
theorem dX9_findPoints_70 : decode cX9_findPoints 70 = .ok (.iadd, 1) := by decide +kernel
theorem dX9_findPoints_71 : decode cX9_findPoints 71 = .ok (.if_icmp .gt 56, 3) := by decide +kernel
theorem dX9_findPoints_74 : decode cX9_findPoints 74 = .ok (.iload 6, 2) := by decide +kernel
theorem dX9_findPoints_76 : decode cX9_findPoints 76 = .ok (.ifCond .ne 38, 3) := by decide +kernel
theorem dX9_findPoints_79 : decode cX9_findPoints 79 = .ok (.iload 4, 2) := by decide +kernel
theorem dX9_findPoints_81 : decode cX9_findPoints 81 = .ok (.ifCond .le 37, 3) := by decide +kernel
theorem dX9_findPoints_84 : decode cX9_findPoints 84 = .ok (.iload 7, 2) := by decide +kernel
theorem dX9_findPoints_86 : decode cX9_findPoints 86 = .ok (.ifCond .lt 32, 3) := by decide +kernel
theorem dX9_findPoints_89 : decode cX9_findPoints 89 = .ok (.iload 7, 2) := by decide +kernel
theorem dX9_findPoints_91 : decode cX9_findPoints 91 = .ok (.bipush 16, 2) := by decide +kernel
theorem dX9_findPoints_93 : decode cX9_findPoints 93 = .ok (.if_icmp .ge 25, 3) := by decide +kernel
theorem dX9_findPoints_96 : decode cX9_findPoints 96 = .ok (.aload_n 0, 1) := by decide +kernel
theorem dX9_findPoints_97 : decode cX9_findPoints 97 = .ok (.getfield 16, 3) := by decide +kernel
theorem dX9_findPoints_100 : decode cX9_findPoints 100 = .ok (.bipush 16, 2) := by decide +kernel
theorem dX9_findPoints_102 : decode cX9_findPoints 102 = .ok (.iload 4, 2) := by decide +kernel
theorem dX9_findPoints_104 : decode cX9_findPoints 104 = .ok (.iconst 1, 1) := by decide +kernel
theorem dX9_findPoints_105 : decode cX9_findPoints 105 = .ok (.isub, 1) := by decide +kernel
theorem dX9_findPoints_106 : decode cX9_findPoints 106 = .ok (.imul, 1) := by decide +kernel
theorem dX9_findPoints_107 : decode cX9_findPoints 107 = .ok (.iload 7, 2) := by decide +kernel
theorem dX9_findPoints_109 : decode cX9_findPoints 109 = .ok (.iadd, 1) := by decide +kernel
theorem dX9_findPoints_110 : decode cX9_findPoints 110 = .ok (.baload, 1) := by decide +kernel
theorem dX9_findPoints_111 : decode cX9_findPoints 111 = .ok (.ifCond .eq 7, 3) := by decide +kernel
theorem dX9_findPoints_114 : decode cX9_findPoints 114 = .ok (.iconst 1, 1) := by decide +kernel
theorem dX9_findPoints_115 : decode cX9_findPoints 115 = .ok (.goto 4, 3) := by decide +kernel
theorem dX9_findPoints_118 : decode cX9_findPoints 118 = .ok (.iconst 0, 1) := by decide +kernel
theorem dX9_findPoints_119 : decode cX9_findPoints 119 = .ok (.istore 6, 2) := by decide +kernel
theorem dX9_findPoints_121 : decode cX9_findPoints 121 = .ok (.iinc 7 1, 3) := by decide +kernel
theorem dX9_findPoints_124 : decode cX9_findPoints 124 = .ok (.goto (-58), 3) := by decide +kernel
theorem dX9_findPoints_127 : decode cX9_findPoints 127 = .ok (.aload_n 0, 1) := by decide +kernel
theorem dX9_findPoints_128 : decode cX9_findPoints 128 = .ok (.getfield 16, 3) := by decide +kernel
theorem dX9_findPoints_131 : decode cX9_findPoints 131 = .ok (.iload_n 2, 1) := by decide +kernel
theorem dX9_findPoints_132 : decode cX9_findPoints 132 = .ok (.aload_n 0, 1) := by decide +kernel
theorem dX9_findPoints_133 : decode cX9_findPoints 133 = .ok (.getfield 9, 3) := by decide +kernel
theorem dX9_findPoints_136 : decode cX9_findPoints 136 = .ok (.iload_n 2, 1) := by decide +kernel
theorem dX9_findPoints_137 : decode cX9_findPoints 137 = .ok (.baload, 1) := by decide +kernel
theorem dX9_findPoints_141 : decode cX9_findPoints 141 = .ok (.iload 5, 2) := by decide +kernel
theorem dX9_findPoints_143 : decode cX9_findPoints 143 = .ok (.iconst 3, 1) := by decide +kernel
theorem dX9_findPoints_147 : decode cX9_findPoints 147 = .ok (.iload 6, 2) := by decide +kernel
theorem dX9_findPoints_152 : decode cX9_findPoints 152 = .ok (.iconst 1, 1) := by decide +kernel
theorem dX9_findPoints_153 : decode cX9_findPoints 153 = .ok (.goto 4, 3) := by decide +kernel
theorem dX9_findPoints_156 : decode cX9_findPoints 156 = .ok (.iconst 0, 1) := by decide +kernel
theorem dX9_findPoints_157 : decode cX9_findPoints 157 = .ok (.bastore, 1) := by decide +kernel
theorem dX9_findPoints_158 : decode cX9_findPoints 158 = .ok (.aload_n 0, 1) := by decide +kernel
theorem dX9_findPoints_159 : decode cX9_findPoints 159 = .ok (.getfield 19, 3) := by decide +kernel
theorem dX9_findPoints_162 : decode cX9_findPoints 162 = .ok (.iload_n 2, 1) := by decide +kernel
theorem dX9_findPoints_163 : decode cX9_findPoints 163 = .ok (.aload_n 0, 1) := by decide +kernel
theorem dX9_findPoints_164 : decode cX9_findPoints 164 = .ok (.getfield 9, 3) := by decide +kernel
theorem dX9_findPoints_167 : decode cX9_findPoints 167 = .ok (.iload_n 2, 1) := by decide +kernel
theorem dX9_findPoints_168 : decode cX9_findPoints 168 = .ok (.baload, 1) := by decide +kernel
theorem dX9_findPoints_172 : decode cX9_findPoints 172 = .ok (.iconst (-1), 1) := by decide +kernel
theorem dX9_findPoints_173 : decode cX9_findPoints 173 = .ok (.goto 36, 3) := by decide +kernel
theorem dX9_findPoints_176 : decode cX9_findPoints 176 = .ok (.iload 5, 2) := by decide +kernel
theorem dX9_findPoints_181 : decode cX9_findPoints 181 = .ok (.iconst 0, 1) := by decide +kernel
theorem dX9_findPoints_182 : decode cX9_findPoints 182 = .ok (.goto 27, 3) := by decide +kernel
theorem dX9_findPoints_185 : decode cX9_findPoints 185 = .ok (.iload 5, 2) := by decide +kernel
theorem dX9_findPoints_187 : decode cX9_findPoints 187 = .ok (.iconst 1, 1) := by decide +kernel
theorem dX9_findPoints_191 : decode cX9_findPoints 191 = .ok (.iconst 1, 1) := by decide +kernel
theorem dX9_findPoints_192 : decode cX9_findPoints 192 = .ok (.goto 17, 3) := by decide +kernel
theorem dX9_findPoints_195 : decode cX9_findPoints 195 = .ok (.aload_n 0, 1) := by decide +kernel
theorem dX9_findPoints_196 : decode cX9_findPoints 196 = .ok (.getfield 16, 3) := by decide +kernel
theorem dX9_findPoints_199 : decode cX9_findPoints 199 = .ok (.iload_n 2, 1) := by decide +kernel
theorem dX9_findPoints_200 : decode cX9_findPoints 200 = .ok (.baload, 1) := by decide +kernel
theorem dX9_findPoints_204 : decode cX9_findPoints 204 = .ok (.iconst 2, 1) := by decide +kernel
theorem dX9_findPoints_205 : decode cX9_findPoints 205 = .ok (.goto 4, 3) := by decide +kernel
theorem dX9_findPoints_208 : decode cX9_findPoints 208 = .ok (.iconst (-1), 1) := by decide +kernel
theorem dX9_findPoints_209 : decode cX9_findPoints 209 = .ok (.iastore, 1) := by decide +kernel
theorem dX9_findPoints_210 : decode cX9_findPoints 210 = .ok (.iload_n 1, 1) := by decide +kernel
theorem dX9_findPoints_211 : decode cX9_findPoints 211 = .ok (.aload_n 0, 1) := by decide +kernel
theorem dX9_findPoints_212 : decode cX9_findPoints 212 = .ok (.getfield 19, 3) := by decide +kernel
theorem dX9_findPoints_215 : decode cX9_findPoints 215 = .ok (.iload_n 2, 1) := by decide +kernel
theorem dX9_findPoints_216 : decode cX9_findPoints 216 = .ok (.iaload, 1) := by decide +kernel
theorem dX9_findPoints_220 : decode cX9_findPoints 220 = .ok (.iconst 1, 1) := by decide +kernel
theorem dX9_findPoints_221 : decode cX9_findPoints 221 = .ok (.goto 4, 3) := by decide +kernel
theorem dX9_findPoints_224 : decode cX9_findPoints 224 = .ok (.iconst 0, 1) := by decide +kernel
theorem dX9_findPoints_225 : decode cX9_findPoints 225 = .ok (.iadd, 1) := by decide +kernel
theorem dX9_findPoints_226 : decode cX9_findPoints 226 = .ok (.istore_n 1, 1) := by decide +kernel
theorem dX9_findPoints_227 : decode cX9_findPoints 227 = .ok (.iinc 2 1, 3) := by decide +kernel
theorem dX9_findPoints_230 : decode cX9_findPoints 230 = .ok (.goto (-226), 3) := by decide +kernel
noncomputable def vX9_findPoints_1 (l1 : Int32) (l2 : Int32) (l5 : Int32) (l6 : Int32) (σ : zc_N) : Int32 := (l1 + (if ((zu (σ 36) l2.toNatClampNeg (if ((σ 33) l2.toNatClampNeg) = (0 : Int32) then (-1 : Int32) else (if l5 = (0 : Int32) then (0 : Int32) else (if l5 = (1 : Int32) then (1 : Int32) else (if ((zu (σ 35) l2.toNatClampNeg (if ((σ 33) l2.toNatClampNeg) = (0 : Int32) then (0 : Int32) else (if l5 < (3 : Int32) then (0 : Int32) else (if l6 = (0 : Int32) then (1 : Int32) else (0 : Int32))))) l2.toNatClampNeg) = (0 : Int32) then (-1 : Int32) else (2 : Int32)))))) l2.toNatClampNeg) < (0 : Int32) then (0 : Int32) else (1 : Int32)))
noncomputable def fX9_findPoints_66 (σ : zc_N) (l4 : Int32) (s_ : Int32) (i_ : Nat) (a_ : Int32) : Int32 := (if a_ = (0 : Int32) then (if l4 ≤ (0 : Int32) then (0 : Int32) else (if (s_ + nI i_) < (0 : Int32) then (0 : Int32) else (if (16 : Int32) ≤ (s_ + nI i_) then (0 : Int32) else (if ((σ 35) (((16 : Int32) * (l4 - (1 : Int32))) + (s_ + nI i_)).toNatClampNeg) = (0 : Int32) then (0 : Int32) else (1 : Int32))))) else (1 : Int32))
def qX9_findPoints_66 (l4 : Int32) (s_ : Int32) (i_ : Nat) (a_ : Int32) : Prop := ((a_ = (0 : Int32) → ((l4 ≤ (0 : Int32) → True) ∧ (¬ l4 ≤ (0 : Int32) → (((s_ + nI i_) < (0 : Int32) → True) ∧ (¬ (s_ + nI i_) < (0 : Int32) → (((16 : Int32) ≤ (s_ + nI i_) → True) ∧ (¬ (16 : Int32) ≤ (s_ + nI i_) → vp_in (((16 : Int32) * (l4 - (1 : Int32))) + (s_ + nI i_)) 256))))))) ∧ (¬ a_ = (0 : Int32) → True))
set_option maxHeartbeats 2000000 in
theorem lpX9_findPoints_66 {G : zc_G} {Q : Option Value → zc_H → Prop} (P : zp) (σ : zc_N) (l1 : Int32) (l2 : Int32) (l3 : Int32) (l4 : Int32) (l5 : Int32) (l6 : Int32) (s_ : Int32) (n_ : Nat) (hC_ : ∀ i66_ : Nat, i66_ ≤ n_ → ((l3 + (1 : Int32)) < (s_ + nI i66_) ↔ n_ ≤ i66_)) (W1_ : ∀ i66_ : Nat, i66_ < n_ → qX9_findPoints_66 l4 s_ i66_ (zfor (fX9_findPoints_66 σ l4 s_) i66_ l6))
    (W2_ : zz G mX9_findPoints 2 0 0 Q 127 [some (.ref 32), some (.int l1), some (.int l2), none, none, some (.int l5), some (.int (zfor (fX9_findPoints_66 σ l4 s_) n_ l6)), none] [] (hh P σ) 0 0) :
    zz G mX9_findPoints 2 0 0 Q 66 [some (.ref 32), some (.int l1), some (.int l2), some (.int l3), some (.int l4), some (.int l5), some (.int l6), some (.int s_)] [] (hh P σ) 0 0 := by
  refine zfor_sI (fun i_ a_ => zz G mX9_findPoints 2 0 0 Q 66 [some (.ref 32), some (.int l1), some (.int l2), some (.int l3), some (.int l4), some (.int l5), some (.int a_), some (.int i_)] [] (hh P σ) 0 0) (fX9_findPoints_66 σ l4 s_) s_ n_ l6 (fun i_ hi_ k_ => ?_) ?_
  · have W3_ := W1_ i_ hi_
    have hD_ := hC_ i_ (Nat.le_of_lt hi_)
    generalize zfor (fX9_findPoints_66 σ l4 s_) i_ l6 = g_ at k_ W3_ hD_ ⊢
    rw [fX9_findPoints_66] at k_
    rw [qX9_findPoints_66] at W3_
    try dsimp only at W3_
    refine z_iload dX9_findPoints_66 rfl ?_
    refine z_iload_n dX9_findPoints_68 rfl ?_
    refine z_iconst dX9_findPoints_69 k_iconst_1 ?_
    refine z_iadd (v := (l3 + (1 : Int32))) dX9_findPoints_70 rfl ?_
    refine z_icmp_gt (tgt := 127) dX9_findPoints_71 (by decide) (fun c_ => absurd c_ (fun q_ => Nat.not_le_of_lt hi_ (hD_.mp q_))) (fun c_ => ?_)
    refine z_iload dX9_findPoints_74 rfl ?_
    have K_1 : zz G mX9_findPoints 2 0 0 Q 119 [some (.ref 32), some (.int l1), some (.int l2), some (.int l3), some (.int l4), some (.int l5), none, some (.int (s_ + nI i_))] [.int (if g_ = (0 : Int32) then (if l4 ≤ (0 : Int32) then (0 : Int32) else (if (s_ + nI i_) < (0 : Int32) then (0 : Int32) else (if (16 : Int32) ≤ (s_ + nI i_) then (0 : Int32) else (if ((σ 35) (((16 : Int32) * (l4 - (1 : Int32))) + (s_ + nI i_)).toNatClampNeg) = (0 : Int32) then (0 : Int32) else (1 : Int32))))) else (1 : Int32))] (hh P σ) 0 0 := by
      refine z_istore (lv' := [some (.ref 32), some (.int l1), some (.int l2), some (.int l3), some (.int l4), some (.int l5), some (.int (if g_ = (0 : Int32) then (if l4 ≤ (0 : Int32) then (0 : Int32) else (if (s_ + nI i_) < (0 : Int32) then (0 : Int32) else (if (16 : Int32) ≤ (s_ + nI i_) then (0 : Int32) else (if ((σ 35) (((16 : Int32) * (l4 - (1 : Int32))) + (s_ + nI i_)).toNatClampNeg) = (0 : Int32) then (0 : Int32) else (1 : Int32))))) else (1 : Int32))), some (.int (s_ + nI i_))]) dX9_findPoints_119 (Nat.le_of_ble_eq_true rfl) rfl ?_
      refine z_iinc (v := ((s_ + nI i_) + (1 : Int32))) (lv' := [some (.ref 32), some (.int l1), some (.int l2), some (.int l3), some (.int l4), some (.int l5), some (.int (if g_ = (0 : Int32) then (if l4 ≤ (0 : Int32) then (0 : Int32) else (if (s_ + nI i_) < (0 : Int32) then (0 : Int32) else (if (16 : Int32) ≤ (s_ + nI i_) then (0 : Int32) else (if ((σ 35) (((16 : Int32) * (l4 - (1 : Int32))) + (s_ + nI i_)).toNatClampNeg) = (0 : Int32) then (0 : Int32) else (1 : Int32))))) else (1 : Int32))), some (.int ((s_ + nI i_) + (1 : Int32)))]) dX9_findPoints_121 (Nat.le_of_ble_eq_true rfl) rfl (by rw [k_iconst_1]) rfl ?_
      refine z_goto (tgt := 66) dX9_findPoints_124 (by decide) ?_
      rw [nS_1]
      exact k_
    refine z_if_ne (tgt := 114) dX9_findPoints_76 (by decide) (fun c_10 => ?_) (fun c_10 => ?_)
    · refine z_iconst dX9_findPoints_114 k_iconst_1 ?_
      refine z_goto (tgt := 119) dX9_findPoints_115 (by decide) ?_
      refine zz_sub (lv' := [some (.ref 32), some (.int l1), some (.int l2), some (.int l3), some (.int l4), some (.int l5), none, some (.int (s_ + nI i_))]) ⟨rfl, ⟨rfl, ⟨rfl, ⟨rfl, ⟨rfl, ⟨rfl, ⟨rfl, trivial⟩⟩⟩⟩⟩⟩⟩ ?_
      rw [show (if g_ = (0 : Int32) then (if l4 ≤ (0 : Int32) then (0 : Int32) else (if (s_ + nI i_) < (0 : Int32) then (0 : Int32) else (if (16 : Int32) ≤ (s_ + nI i_) then (0 : Int32) else (if ((σ 35) (((16 : Int32) * (l4 - (1 : Int32))) + (s_ + nI i_)).toNatClampNeg) = (0 : Int32) then (0 : Int32) else (1 : Int32))))) else (1 : Int32)) = (1 : Int32) from (if_neg c_10)] at K_1
      exact K_1
    · refine z_iload dX9_findPoints_79 rfl ?_
      refine z_if_le (tgt := 118) dX9_findPoints_81 (by decide) (fun c_11 => ?_) (fun c_11 => ?_)
      · refine z_iconst dX9_findPoints_118 k_iconst_0 ?_
        refine zz_sub (lv' := [some (.ref 32), some (.int l1), some (.int l2), some (.int l3), some (.int l4), some (.int l5), none, some (.int (s_ + nI i_))]) ⟨rfl, ⟨rfl, ⟨rfl, ⟨rfl, ⟨rfl, ⟨rfl, ⟨rfl, trivial⟩⟩⟩⟩⟩⟩⟩ ?_
        rw [show (if g_ = (0 : Int32) then (if l4 ≤ (0 : Int32) then (0 : Int32) else (if (s_ + nI i_) < (0 : Int32) then (0 : Int32) else (if (16 : Int32) ≤ (s_ + nI i_) then (0 : Int32) else (if ((σ 35) (((16 : Int32) * (l4 - (1 : Int32))) + (s_ + nI i_)).toNatClampNeg) = (0 : Int32) then (0 : Int32) else (1 : Int32))))) else (1 : Int32)) = (0 : Int32) from ((if_pos c_10).trans (if_pos c_11))] at K_1
        exact K_1
      · refine z_iload dX9_findPoints_84 rfl ?_
        refine z_if_lt (tgt := 118) dX9_findPoints_86 (by decide) (fun c_12 => ?_) (fun c_12 => ?_)
        · refine z_iconst dX9_findPoints_118 k_iconst_0 ?_
          refine zz_sub (lv' := [some (.ref 32), some (.int l1), some (.int l2), some (.int l3), some (.int l4), some (.int l5), none, some (.int (s_ + nI i_))]) ⟨rfl, ⟨rfl, ⟨rfl, ⟨rfl, ⟨rfl, ⟨rfl, ⟨rfl, trivial⟩⟩⟩⟩⟩⟩⟩ ?_
          rw [show (if g_ = (0 : Int32) then (if l4 ≤ (0 : Int32) then (0 : Int32) else (if (s_ + nI i_) < (0 : Int32) then (0 : Int32) else (if (16 : Int32) ≤ (s_ + nI i_) then (0 : Int32) else (if ((σ 35) (((16 : Int32) * (l4 - (1 : Int32))) + (s_ + nI i_)).toNatClampNeg) = (0 : Int32) then (0 : Int32) else (1 : Int32))))) else (1 : Int32)) = (0 : Int32) from ((if_pos c_10).trans ((if_neg c_11).trans (if_pos c_12)))] at K_1
          exact K_1
        · refine z_iload dX9_findPoints_89 rfl ?_
          refine z_bipush dX9_findPoints_91 k_bipush_16 ?_
          refine z_icmp_ge (tgt := 118) dX9_findPoints_93 (by decide) (fun c_13 => ?_) (fun c_13 => ?_)
          · refine z_iconst dX9_findPoints_118 k_iconst_0 ?_
            refine zz_sub (lv' := [some (.ref 32), some (.int l1), some (.int l2), some (.int l3), some (.int l4), some (.int l5), none, some (.int (s_ + nI i_))]) ⟨rfl, ⟨rfl, ⟨rfl, ⟨rfl, ⟨rfl, ⟨rfl, ⟨rfl, trivial⟩⟩⟩⟩⟩⟩⟩ ?_
            rw [show (if g_ = (0 : Int32) then (if l4 ≤ (0 : Int32) then (0 : Int32) else (if (s_ + nI i_) < (0 : Int32) then (0 : Int32) else (if (16 : Int32) ≤ (s_ + nI i_) then (0 : Int32) else (if ((σ 35) (((16 : Int32) * (l4 - (1 : Int32))) + (s_ + nI i_)).toNatClampNeg) = (0 : Int32) then (0 : Int32) else (1 : Int32))))) else (1 : Int32)) = (0 : Int32) from ((if_pos c_10).trans ((if_neg c_11).trans ((if_neg c_12).trans (if_pos c_13))))] at K_1
            exact K_1
          · refine z_aloadr_n dX9_findPoints_96 rfl ?_
            refine z_get (ci := 9) (r := (RX9, TX9, 38)) (j := 2) (v := .ref 35) dX9_findPoints_97 (Nat.le_of_ble_eq_true rfl) (zN rfl) rfl rfl (Nat.le_of_ble_eq_true rfl) fl_X9_16 rfl ?_
            refine z_bipush dX9_findPoints_100 k_bipush_16 ?_
            refine z_iload dX9_findPoints_102 rfl ?_
            refine z_iconst dX9_findPoints_104 k_iconst_1 ?_
            refine z_isub (v := (l4 - (1 : Int32))) dX9_findPoints_105 rfl ?_
            refine z_imul (v := ((16 : Int32) * (l4 - (1 : Int32)))) dX9_findPoints_106 rfl ?_
            refine z_iload dX9_findPoints_107 rfl ?_
            refine z_iadd (v := (((16 : Int32) * (l4 - (1 : Int32))) + (s_ + nI i_))) dX9_findPoints_109 rfl ?_
            refine z_bald (v := ((σ 35) (((16 : Int32) * (l4 - (1 : Int32))) + (s_ + nI i_)).toNatClampNeg)) dX9_findPoints_110 (Nat.le_of_ble_eq_true rfl) (zN rfl) rfl ((((W3_.1 c_10).2 c_11).2 c_12).2 c_13) rfl ?_
            refine z_if_eq (tgt := 118) dX9_findPoints_111 (by decide) (fun c_14 => ?_) (fun c_14 => ?_)
            · refine z_iconst dX9_findPoints_118 k_iconst_0 ?_
              refine zz_sub (lv' := [some (.ref 32), some (.int l1), some (.int l2), some (.int l3), some (.int l4), some (.int l5), none, some (.int (s_ + nI i_))]) ⟨rfl, ⟨rfl, ⟨rfl, ⟨rfl, ⟨rfl, ⟨rfl, ⟨rfl, trivial⟩⟩⟩⟩⟩⟩⟩ ?_
              rw [show (if g_ = (0 : Int32) then (if l4 ≤ (0 : Int32) then (0 : Int32) else (if (s_ + nI i_) < (0 : Int32) then (0 : Int32) else (if (16 : Int32) ≤ (s_ + nI i_) then (0 : Int32) else (if ((σ 35) (((16 : Int32) * (l4 - (1 : Int32))) + (s_ + nI i_)).toNatClampNeg) = (0 : Int32) then (0 : Int32) else (1 : Int32))))) else (1 : Int32)) = (0 : Int32) from ((if_pos c_10).trans ((if_neg c_11).trans ((if_neg c_12).trans ((if_neg c_13).trans (if_pos c_14)))))] at K_1
              exact K_1
            · refine z_iconst dX9_findPoints_114 k_iconst_1 ?_
              refine z_goto (tgt := 119) dX9_findPoints_115 (by decide) ?_
              refine zz_sub (lv' := [some (.ref 32), some (.int l1), some (.int l2), some (.int l3), some (.int l4), some (.int l5), none, some (.int (s_ + nI i_))]) ⟨rfl, ⟨rfl, ⟨rfl, ⟨rfl, ⟨rfl, ⟨rfl, ⟨rfl, trivial⟩⟩⟩⟩⟩⟩⟩ ?_
              rw [show (if g_ = (0 : Int32) then (if l4 ≤ (0 : Int32) then (0 : Int32) else (if (s_ + nI i_) < (0 : Int32) then (0 : Int32) else (if (16 : Int32) ≤ (s_ + nI i_) then (0 : Int32) else (if ((σ 35) (((16 : Int32) * (l4 - (1 : Int32))) + (s_ + nI i_)).toNatClampNeg) = (0 : Int32) then (0 : Int32) else (1 : Int32))))) else (1 : Int32)) = (1 : Int32) from ((if_pos c_10).trans ((if_neg c_11).trans ((if_neg c_12).trans ((if_neg c_13).trans (if_neg c_14)))))] at K_1
              exact K_1
  · have hD_ := hC_ n_ (Nat.le_refl _)
    generalize zfor (fX9_findPoints_66 σ l4 s_) n_ l6 = g_ at W2_ hD_ ⊢
    refine z_iload dX9_findPoints_66 rfl ?_
    refine z_iload_n dX9_findPoints_68 rfl ?_
    refine z_iconst dX9_findPoints_69 k_iconst_1 ?_
    refine z_iadd (v := (l3 + (1 : Int32))) dX9_findPoints_70 rfl ?_
    refine z_icmp_gt (tgt := 127) dX9_findPoints_71 (by decide) (fun c_ => ?_) (fun c_ => absurd (hD_.mpr (Nat.le_refl _)) c_)
    exact zz_sub (lv' := [some (.ref 32), some (.int l1), some (.int l2), none, none, some (.int l5), some (.int g_), none]) ⟨rfl, ⟨rfl, ⟨rfl, ⟨rfl, ⟨rfl, trivial⟩⟩⟩⟩⟩ W2_

theorem dX9_findPoints_4 : decode cX9_findPoints 4 = .ok (.iload_n 2, 1) := by decide +kernel
theorem dX9_findPoints_5 : decode cX9_findPoints 5 = .ok (.sipush 256, 3) := by decide +kernel
theorem dX9_findPoints_8 : decode cX9_findPoints 8 = .ok (.if_icmp .ge 225, 3) := by decide +kernel
theorem dX9_findPoints_11 : decode cX9_findPoints 11 = .ok (.iload_n 2, 1) := by decide +kernel
theorem dX9_findPoints_12 : decode cX9_findPoints 12 = .ok (.bipush 16, 2) := by decide +kernel
theorem dX9_findPoints_14 : decode cX9_findPoints 14 = .ok (.irem, 1) := by decide +kernel
theorem dX9_findPoints_15 : decode cX9_findPoints 15 = .ok (.istore_n 3, 1) := by decide +kernel
theorem dX9_findPoints_16 : decode cX9_findPoints 16 = .ok (.iload_n 2, 1) := by decide +kernel
theorem dX9_findPoints_17 : decode cX9_findPoints 17 = .ok (.bipush 16, 2) := by decide +kernel
theorem dX9_findPoints_19 : decode cX9_findPoints 19 = .ok (.idiv, 1) := by decide +kernel
theorem dX9_findPoints_20 : decode cX9_findPoints 20 = .ok (.istore 4, 2) := by decide +kernel
theorem dX9_findPoints_22 : decode cX9_findPoints 22 = .ok (.aload_n 0, 1) := by decide +kernel
theorem dX9_findPoints_23 : decode cX9_findPoints 23 = .ok (.iload_n 3, 1) := by decide +kernel
theorem dX9_findPoints_24 : decode cX9_findPoints 24 = .ok (.iload 4, 2) := by decide +kernel
theorem dX9_findPoints_26 : decode cX9_findPoints 26 = .ok (.invokevirtual 116, 3) := by decide +kernel
theorem dX9_findPoints_29 : decode cX9_findPoints 29 = .ok (.istore 5, 2) := by decide +kernel
theorem dX9_findPoints_31 : decode cX9_findPoints 31 = .ok (.iload_n 3, 1) := by decide +kernel
theorem dX9_findPoints_32 : decode cX9_findPoints 32 = .ok (.ifCond .le 26, 3) := by decide +kernel
theorem dX9_findPoints_35 : decode cX9_findPoints 35 = .ok (.aload_n 0, 1) := by decide +kernel
theorem dX9_findPoints_36 : decode cX9_findPoints 36 = .ok (.getfield 16, 3) := by decide +kernel
theorem dX9_findPoints_39 : decode cX9_findPoints 39 = .ok (.iload_n 2, 1) := by decide +kernel
theorem dX9_findPoints_40 : decode cX9_findPoints 40 = .ok (.iload_n 3, 1) := by decide +kernel
theorem dX9_findPoints_41 : decode cX9_findPoints 41 = .ok (.ifCond .le 7, 3) := by decide +kernel
theorem dX9_findPoints_44 : decode cX9_findPoints 44 = .ok (.iconst 1, 1) := by decide +kernel
theorem dX9_findPoints_45 : decode cX9_findPoints 45 = .ok (.goto 4, 3) := by decide +kernel
theorem dX9_findPoints_48 : decode cX9_findPoints 48 = .ok (.iconst 0, 1) := by decide +kernel
theorem dX9_findPoints_49 : decode cX9_findPoints 49 = .ok (.isub, 1) := by decide +kernel
theorem dX9_findPoints_50 : decode cX9_findPoints 50 = .ok (.baload, 1) := by decide +kernel
theorem dX9_findPoints_51 : decode cX9_findPoints 51 = .ok (.ifCond .eq 7, 3) := by decide +kernel
theorem dX9_findPoints_54 : decode cX9_findPoints 54 = .ok (.iconst 1, 1) := by decide +kernel
theorem dX9_findPoints_55 : decode cX9_findPoints 55 = .ok (.goto 4, 3) := by decide +kernel
theorem dX9_findPoints_58 : decode cX9_findPoints 58 = .ok (.iconst 0, 1) := by decide +kernel
theorem dX9_findPoints_59 : decode cX9_findPoints 59 = .ok (.istore 6, 2) := by decide +kernel
theorem dX9_findPoints_61 : decode cX9_findPoints 61 = .ok (.iload_n 3, 1) := by decide +kernel
theorem dX9_findPoints_62 : decode cX9_findPoints 62 = .ok (.iconst 1, 1) := by decide +kernel
theorem dX9_findPoints_63 : decode cX9_findPoints 63 = .ok (.isub, 1) := by decide +kernel
theorem dX9_findPoints_64 : decode cX9_findPoints 64 = .ok (.istore 7, 2) := by decide +kernel
theorem dX9_findPoints_138 : decode cX9_findPoints 138 = .ok (.ifCond .eq 18, 3) := by decide +kernel
theorem dX9_findPoints_144 : decode cX9_findPoints 144 = .ok (.if_icmp .lt 12, 3) := by decide +kernel
theorem dX9_findPoints_149 : decode cX9_findPoints 149 = .ok (.ifCond .ne 7, 3) := by decide +kernel
theorem dX9_findPoints_169 : decode cX9_findPoints 169 = .ok (.ifCond .ne 7, 3) := by decide +kernel
theorem dX9_findPoints_178 : decode cX9_findPoints 178 = .ok (.ifCond .ne 7, 3) := by decide +kernel
theorem dX9_findPoints_188 : decode cX9_findPoints 188 = .ok (.if_icmp .ne 7, 3) := by decide +kernel
theorem dX9_findPoints_201 : decode cX9_findPoints 201 = .ok (.ifCond .eq 7, 3) := by decide +kernel
theorem dX9_findPoints_217 : decode cX9_findPoints 217 = .ok (.ifCond .lt 7, 3) := by decide +kernel
theorem dX9_findPoints_233 : decode cX9_findPoints 233 = .ok (.iload_n 1, 1) := by decide +kernel
noncomputable def vX9_findPoints_4 (l2 : Int32) (σ : zc_N) : Int32 := (zfor (fX9_findPoints_66 σ (l2 / (16 : Int32)) ((l2 - l2 / (16 : Int32) * (16 : Int32)) - (1 : Int32))) ((((l2 - l2 / (16 : Int32) * (16 : Int32)) + (1 : Int32)) + (1 : Int32) - ((l2 - l2 / (16 : Int32) * (16 : Int32)) - (1 : Int32))).toNatClampNeg) (if (l2 - l2 / (16 : Int32) * (16 : Int32)) ≤ (0 : Int32) then (0 : Int32) else (if ((σ 35) (l2 - (if (l2 - l2 / (16 : Int32) * (16 : Int32)) ≤ (0 : Int32) then (0 : Int32) else (1 : Int32))).toNatClampNeg) = (0 : Int32) then (0 : Int32) else (1 : Int32))))
noncomputable def vX9_findPoints_5 (l2 : Int32) (σ : zc_N) : zc_N := (zu (zu σ 35 (zu (σ 35) l2.toNatClampNeg (if ((σ 33) l2.toNatClampNeg) = (0 : Int32) then (0 : Int32) else (if (rX9_neighbours σ (l2 - l2 / (16 : Int32) * (16 : Int32)) (l2 / (16 : Int32))) < (3 : Int32) then (0 : Int32) else (if (vX9_findPoints_4 l2 σ) = (0 : Int32) then (1 : Int32) else (0 : Int32)))))) 36 (zu (σ 36) l2.toNatClampNeg (if ((σ 33) l2.toNatClampNeg) = (0 : Int32) then (-1 : Int32) else (if (rX9_neighbours σ (l2 - l2 / (16 : Int32) * (16 : Int32)) (l2 / (16 : Int32))) = (0 : Int32) then (0 : Int32) else (if (rX9_neighbours σ (l2 - l2 / (16 : Int32) * (16 : Int32)) (l2 / (16 : Int32))) = (1 : Int32) then (1 : Int32) else (if ((zu (σ 35) l2.toNatClampNeg (if ((σ 33) l2.toNatClampNeg) = (0 : Int32) then (0 : Int32) else (if (rX9_neighbours σ (l2 - l2 / (16 : Int32) * (16 : Int32)) (l2 / (16 : Int32))) < (3 : Int32) then (0 : Int32) else (if (vX9_findPoints_4 l2 σ) = (0 : Int32) then (1 : Int32) else (0 : Int32))))) l2.toNatClampNeg) = (0 : Int32) then (-1 : Int32) else (2 : Int32)))))))
noncomputable def fX9_findPoints_4 (i_ : Nat) (a_ : Int32 × zc_N) : Int32 × zc_N := ((a_.1 + (if (((vX9_findPoints_5 (nI i_) a_.2) 36) (nI i_).toNatClampNeg) < (0 : Int32) then (0 : Int32) else (1 : Int32))), (vX9_findPoints_5 (nI i_) a_.2))
def qX9_findPoints_4 (i_ : Nat) (a_ : Int32 × zc_N) : Prop := ((pX9_neighbours a_.2 ((nI i_) - (nI i_) / (16 : Int32) * (16 : Int32)) ((nI i_) / (16 : Int32))) ∧ (((((nI i_) - (nI i_) / (16 : Int32) * (16 : Int32)) ≤ (0 : Int32) → True) ∧ (¬ ((nI i_) - (nI i_) / (16 : Int32) * (16 : Int32)) ≤ (0 : Int32) → vp_in ((nI i_) - (if ((nI i_) - (nI i_) / (16 : Int32) * (16 : Int32)) ≤ (0 : Int32) then (0 : Int32) else (1 : Int32))) 256)) ∧ ((∀ i66_ : Nat, i66_ ≤ (((((nI i_) - (nI i_) / (16 : Int32) * (16 : Int32)) + (1 : Int32)) + (1 : Int32) - (((nI i_) - (nI i_) / (16 : Int32) * (16 : Int32)) - (1 : Int32))).toNatClampNeg) → ((((nI i_) - (nI i_) / (16 : Int32) * (16 : Int32)) + (1 : Int32)) < ((((nI i_) - (nI i_) / (16 : Int32) * (16 : Int32)) - (1 : Int32)) + nI i66_) ↔ (((((nI i_) - (nI i_) / (16 : Int32) * (16 : Int32)) + (1 : Int32)) + (1 : Int32) - (((nI i_) - (nI i_) / (16 : Int32) * (16 : Int32)) - (1 : Int32))).toNatClampNeg) ≤ i66_)) ∧ (∀ i66_ : Nat, i66_ < (((((nI i_) - (nI i_) / (16 : Int32) * (16 : Int32)) + (1 : Int32)) + (1 : Int32) - (((nI i_) - (nI i_) / (16 : Int32) * (16 : Int32)) - (1 : Int32))).toNatClampNeg) → qX9_findPoints_66 ((nI i_) / (16 : Int32)) (((nI i_) - (nI i_) / (16 : Int32) * (16 : Int32)) - (1 : Int32)) i66_ (zfor (fX9_findPoints_66 a_.2 ((nI i_) / (16 : Int32)) (((nI i_) - (nI i_) / (16 : Int32) * (16 : Int32)) - (1 : Int32))) i66_ (if ((nI i_) - (nI i_) / (16 : Int32) * (16 : Int32)) ≤ (0 : Int32) then (0 : Int32) else (if ((a_.2 35) ((nI i_) - (if ((nI i_) - (nI i_) / (16 : Int32) * (16 : Int32)) ≤ (0 : Int32) then (0 : Int32) else (1 : Int32))).toNatClampNeg) = (0 : Int32) then (0 : Int32) else (1 : Int32))))))))
set_option maxHeartbeats 2000000 in
theorem lpX9_findPoints_4 {G : zc_G} {Q : Option Value → zc_H → Prop} (P : zp) (σ : zc_N) (l1 : Int32) (W1_ : ∀ i4_ : Nat, i4_ < 256 → qX9_findPoints_4 i4_ (zfor fX9_findPoints_4 i4_ (l1, σ)))
    (W2_ : zz G mX9_findPoints 2 0 0 Q 233 [none, some (.int (zfor fX9_findPoints_4 256 (l1, σ)).1), none, none, none, none, none, none] [] (hh P (zfor fX9_findPoints_4 256 (l1, σ)).2) 0 0) :
    zz G mX9_findPoints 2 0 0 Q 4 [some (.ref 32), some (.int l1), some (.int (nI 0)), none, none, none, none, none] [] (hh P σ) 0 0 := by
  refine zfor_nI (fun i_ a_ => zz G mX9_findPoints 2 0 0 Q 4 [some (.ref 32), some (.int a_.1), some (.int i_), none, none, none, none, none] [] (hh P a_.2) 0 0) fX9_findPoints_4 256 (l1, σ) (fun i_ hi_ k_ => ?_) ?_
  all_goals try dsimp only
  · have W3_ := W1_ i_ hi_
    generalize zfor fX9_findPoints_4 i_ (l1, σ) = g_ at k_ W3_ ⊢
    obtain ⟨x0_, x1_⟩ := g_
    dsimp only at k_ W3_ ⊢
    rw [fX9_findPoints_4] at k_
    rw [qX9_findPoints_4] at W3_
    try dsimp only at W3_
    dsimp only at k_
    refine z_iload_n dX9_findPoints_4 rfl ?_
    refine z_sipush dX9_findPoints_5 k_sipush_256 ?_
    refine z_icmp_ge (tgt := 233) dX9_findPoints_8 (by decide) (fun c_ => absurd c_ (nI_ge hi_ (by decide))) (fun c_ => ?_)
    refine z_iload_n dX9_findPoints_11 rfl ?_
    refine z_bipush dX9_findPoints_12 k_bipush_16 ?_
    refine z_irem (v := ((nI i_) - (nI i_) / (16 : Int32) * (16 : Int32))) dX9_findPoints_14 (by decide) rfl ?_
    refine z_istore_n (lv' := [some (.ref 32), some (.int x0_), some (.int (nI i_)), some (.int ((nI i_) - (nI i_) / (16 : Int32) * (16 : Int32))), none, none, none, none]) dX9_findPoints_15 (Nat.le_of_ble_eq_true rfl) rfl ?_
    refine z_iload_n dX9_findPoints_16 rfl ?_
    refine z_bipush dX9_findPoints_17 k_bipush_16 ?_
    refine z_idiv (v := ((nI i_) / (16 : Int32))) dX9_findPoints_19 (by decide) rfl ?_
    refine z_istore (lv' := [some (.ref 32), some (.int x0_), some (.int (nI i_)), some (.int ((nI i_) - (nI i_) / (16 : Int32) * (16 : Int32))), some (.int ((nI i_) / (16 : Int32))), none, none, none]) dX9_findPoints_20 (Nat.le_of_ble_eq_true rfl) rfl ?_
    refine z_aloadr_n dX9_findPoints_22 rfl ?_
    refine z_iload_n dX9_findPoints_23 rfl ?_
    refine z_iload dX9_findPoints_24 rfl ?_
    refine z_callV (ci := 9) (r := (RX9, TX9, 38)) (b := 32) (As := [.int ((nI i_) - (nI i_) / (16 : Int32) * (16 : Int32)), .int ((nI i_) / (16 : Int32))]) (rest := []) (ctX9_neighbours P x1_ ((nI i_) - (nI i_) / (16 : Int32) * (16 : Int32)) ((nI i_) / (16 : Int32)) W3_.1) dX9_findPoints_26 lk_X9_116 lv_X9_neighbours (Nat.le_of_ble_eq_true rfl) (zN rfl) rfl rfl rfl rfl (Nat.le_of_ble_eq_true rfl) (Nat.le_of_ble_eq_true rfl) (Nat.le_of_ble_eq_true rfl) (Nat.le_of_ble_eq_true rfl) (fun r_ h_ e_ => ?_)
    obtain ⟨e1_, e2_⟩ := e_
    subst e1_
    subst e2_
    show zz G mX9_findPoints 2 0 0 Q 29 [some (.ref 32), some (.int x0_), some (.int (nI i_)), some (.int ((nI i_) - (nI i_) / (16 : Int32) * (16 : Int32))), some (.int ((nI i_) / (16 : Int32))), none, none, none] [.int (rX9_neighbours x1_ ((nI i_) - (nI i_) / (16 : Int32) * (16 : Int32)) ((nI i_) / (16 : Int32)))] (hh P x1_) 0 0
    refine z_istore (lv' := [some (.ref 32), some (.int x0_), some (.int (nI i_)), some (.int ((nI i_) - (nI i_) / (16 : Int32) * (16 : Int32))), some (.int ((nI i_) / (16 : Int32))), some (.int (rX9_neighbours x1_ ((nI i_) - (nI i_) / (16 : Int32) * (16 : Int32)) ((nI i_) / (16 : Int32)))), none, none]) dX9_findPoints_29 (Nat.le_of_ble_eq_true rfl) rfl ?_
    refine z_iload_n dX9_findPoints_31 rfl ?_
    have K_1 : zz G mX9_findPoints 2 0 0 Q 59 [some (.ref 32), some (.int x0_), some (.int (nI i_)), some (.int ((nI i_) - (nI i_) / (16 : Int32) * (16 : Int32))), some (.int ((nI i_) / (16 : Int32))), some (.int (rX9_neighbours x1_ ((nI i_) - (nI i_) / (16 : Int32) * (16 : Int32)) ((nI i_) / (16 : Int32)))), none, none] [.int (if ((nI i_) - (nI i_) / (16 : Int32) * (16 : Int32)) ≤ (0 : Int32) then (0 : Int32) else (if ((x1_ 35) ((nI i_) - (if ((nI i_) - (nI i_) / (16 : Int32) * (16 : Int32)) ≤ (0 : Int32) then (0 : Int32) else (1 : Int32))).toNatClampNeg) = (0 : Int32) then (0 : Int32) else (1 : Int32)))] (hh P x1_) 0 0 := by
      refine z_istore (lv' := [some (.ref 32), some (.int x0_), some (.int (nI i_)), some (.int ((nI i_) - (nI i_) / (16 : Int32) * (16 : Int32))), some (.int ((nI i_) / (16 : Int32))), some (.int (rX9_neighbours x1_ ((nI i_) - (nI i_) / (16 : Int32) * (16 : Int32)) ((nI i_) / (16 : Int32)))), some (.int (if ((nI i_) - (nI i_) / (16 : Int32) * (16 : Int32)) ≤ (0 : Int32) then (0 : Int32) else (if ((x1_ 35) ((nI i_) - (if ((nI i_) - (nI i_) / (16 : Int32) * (16 : Int32)) ≤ (0 : Int32) then (0 : Int32) else (1 : Int32))).toNatClampNeg) = (0 : Int32) then (0 : Int32) else (1 : Int32)))), none]) dX9_findPoints_59 (Nat.le_of_ble_eq_true rfl) rfl ?_
      refine z_iload_n dX9_findPoints_61 rfl ?_
      refine z_iconst dX9_findPoints_62 k_iconst_1 ?_
      refine z_isub (v := (((nI i_) - (nI i_) / (16 : Int32) * (16 : Int32)) - (1 : Int32))) dX9_findPoints_63 rfl ?_
      refine z_istore (lv' := [some (.ref 32), some (.int x0_), some (.int (nI i_)), some (.int ((nI i_) - (nI i_) / (16 : Int32) * (16 : Int32))), some (.int ((nI i_) / (16 : Int32))), some (.int (rX9_neighbours x1_ ((nI i_) - (nI i_) / (16 : Int32) * (16 : Int32)) ((nI i_) / (16 : Int32)))), some (.int (if ((nI i_) - (nI i_) / (16 : Int32) * (16 : Int32)) ≤ (0 : Int32) then (0 : Int32) else (if ((x1_ 35) ((nI i_) - (if ((nI i_) - (nI i_) / (16 : Int32) * (16 : Int32)) ≤ (0 : Int32) then (0 : Int32) else (1 : Int32))).toNatClampNeg) = (0 : Int32) then (0 : Int32) else (1 : Int32)))), some (.int (((nI i_) - (nI i_) / (16 : Int32) * (16 : Int32)) - (1 : Int32)))]) dX9_findPoints_64 (Nat.le_of_ble_eq_true rfl) rfl ?_
      refine lpX9_findPoints_66 P x1_ x0_ (nI i_) ((nI i_) - (nI i_) / (16 : Int32) * (16 : Int32)) ((nI i_) / (16 : Int32)) (rX9_neighbours x1_ ((nI i_) - (nI i_) / (16 : Int32) * (16 : Int32)) ((nI i_) / (16 : Int32))) (if ((nI i_) - (nI i_) / (16 : Int32) * (16 : Int32)) ≤ (0 : Int32) then (0 : Int32) else (if ((x1_ 35) ((nI i_) - (if ((nI i_) - (nI i_) / (16 : Int32) * (16 : Int32)) ≤ (0 : Int32) then (0 : Int32) else (1 : Int32))).toNatClampNeg) = (0 : Int32) then (0 : Int32) else (1 : Int32))) (((nI i_) - (nI i_) / (16 : Int32) * (16 : Int32)) - (1 : Int32)) (((((nI i_) - (nI i_) / (16 : Int32) * (16 : Int32)) + (1 : Int32)) + (1 : Int32) - (((nI i_) - (nI i_) / (16 : Int32) * (16 : Int32)) - (1 : Int32))).toNatClampNeg) W3_.2.2.1 W3_.2.2.2 ?_
      show zz G mX9_findPoints 2 0 0 Q 127 [some (.ref 32), some (.int x0_), some (.int (nI i_)), none, none, some (.int (rX9_neighbours x1_ ((nI i_) - (nI i_) / (16 : Int32) * (16 : Int32)) ((nI i_) / (16 : Int32)))), some (.int (vX9_findPoints_4 (nI i_) x1_)), none] [] (hh P x1_) 0 0
      refine z_aloadr_n dX9_findPoints_127 rfl ?_
      refine z_get (ci := 9) (r := (RX9, TX9, 38)) (j := 2) (v := .ref 35) dX9_findPoints_128 (Nat.le_of_ble_eq_true rfl) (zN rfl) rfl rfl (Nat.le_of_ble_eq_true rfl) fl_X9_16 rfl ?_
      refine z_iload_n dX9_findPoints_131 rfl ?_
      refine z_aloadr_n dX9_findPoints_132 rfl ?_
      refine z_get (ci := 9) (r := (RX9, TX9, 38)) (j := 0) (v := .ref 33) dX9_findPoints_133 (Nat.le_of_ble_eq_true rfl) (zN rfl) rfl rfl (Nat.le_of_ble_eq_true rfl) fl_X9_9 rfl ?_
      refine z_iload_n dX9_findPoints_136 rfl ?_
      refine z_bald (v := ((x1_ 33) (nI i_).toNatClampNeg)) dX9_findPoints_137 (Nat.le_of_ble_eq_true rfl) (zN rfl) rfl (vp_in_nI (Nat.lt_of_lt_of_le hi_ (Nat.le_of_ble_eq_true rfl)) (by decide)) rfl ?_
      have K_2 : zz G mX9_findPoints 2 0 0 Q 157 [some (.ref 32), some (.int x0_), some (.int (nI i_)), none, none, some (.int (rX9_neighbours x1_ ((nI i_) - (nI i_) / (16 : Int32) * (16 : Int32)) ((nI i_) / (16 : Int32)))), none, none] [.int (if ((x1_ 33) (nI i_).toNatClampNeg) = (0 : Int32) then (0 : Int32) else (if (rX9_neighbours x1_ ((nI i_) - (nI i_) / (16 : Int32) * (16 : Int32)) ((nI i_) / (16 : Int32))) < (3 : Int32) then (0 : Int32) else (if (vX9_findPoints_4 (nI i_) x1_) = (0 : Int32) then (1 : Int32) else (0 : Int32)))), .int (nI i_), .ref 35] (hh P x1_) 0 0 := by
        refine z_bast (σ' := (zu x1_ 35 (zu (x1_ 35) (nI i_).toNatClampNeg (if ((x1_ 33) (nI i_).toNatClampNeg) = (0 : Int32) then (0 : Int32) else (if (rX9_neighbours x1_ ((nI i_) - (nI i_) / (16 : Int32) * (16 : Int32)) ((nI i_) / (16 : Int32))) < (3 : Int32) then (0 : Int32) else (if (vX9_findPoints_4 (nI i_) x1_) = (0 : Int32) then (1 : Int32) else (0 : Int32))))))) dX9_findPoints_157 (Nat.le_of_ble_eq_true rfl) (zN rfl) rfl (vp_in_nI (Nat.lt_of_lt_of_le hi_ (Nat.le_of_ble_eq_true rfl)) (by decide)) (by (repeat' split) <;> rfl) rfl ?_
        refine z_aloadr_n dX9_findPoints_158 rfl ?_
        refine z_get (ci := 9) (r := (RX9, TX9, 38)) (j := 3) (v := .ref 36) dX9_findPoints_159 (Nat.le_of_ble_eq_true rfl) (zN rfl) rfl rfl (Nat.le_of_ble_eq_true rfl) fl_X9_19 rfl ?_
        refine z_iload_n dX9_findPoints_162 rfl ?_
        refine z_aloadr_n dX9_findPoints_163 rfl ?_
        refine z_get (ci := 9) (r := (RX9, TX9, 38)) (j := 0) (v := .ref 33) dX9_findPoints_164 (Nat.le_of_ble_eq_true rfl) (zN rfl) rfl rfl (Nat.le_of_ble_eq_true rfl) fl_X9_9 rfl ?_
        refine z_iload_n dX9_findPoints_167 rfl ?_
        refine z_bald (v := ((x1_ 33) (nI i_).toNatClampNeg)) dX9_findPoints_168 (Nat.le_of_ble_eq_true rfl) (zN rfl) rfl (vp_in_nI (Nat.lt_of_lt_of_le hi_ (Nat.le_of_ble_eq_true rfl)) (by decide)) (congrFun (zu_ne _ _ (by decide)) _) ?_
        have K_3 : zz G mX9_findPoints 2 0 0 Q 209 [some (.ref 32), some (.int x0_), some (.int (nI i_)), none, none, none, none, none] [.int (if ((x1_ 33) (nI i_).toNatClampNeg) = (0 : Int32) then (-1 : Int32) else (if (rX9_neighbours x1_ ((nI i_) - (nI i_) / (16 : Int32) * (16 : Int32)) ((nI i_) / (16 : Int32))) = (0 : Int32) then (0 : Int32) else (if (rX9_neighbours x1_ ((nI i_) - (nI i_) / (16 : Int32) * (16 : Int32)) ((nI i_) / (16 : Int32))) = (1 : Int32) then (1 : Int32) else (if ((zu (x1_ 35) (nI i_).toNatClampNeg (if ((x1_ 33) (nI i_).toNatClampNeg) = (0 : Int32) then (0 : Int32) else (if (rX9_neighbours x1_ ((nI i_) - (nI i_) / (16 : Int32) * (16 : Int32)) ((nI i_) / (16 : Int32))) < (3 : Int32) then (0 : Int32) else (if (vX9_findPoints_4 (nI i_) x1_) = (0 : Int32) then (1 : Int32) else (0 : Int32))))) (nI i_).toNatClampNeg) = (0 : Int32) then (-1 : Int32) else (2 : Int32))))), .int (nI i_), .ref 36] (hh P (zu x1_ 35 (zu (x1_ 35) (nI i_).toNatClampNeg (if ((x1_ 33) (nI i_).toNatClampNeg) = (0 : Int32) then (0 : Int32) else (if (rX9_neighbours x1_ ((nI i_) - (nI i_) / (16 : Int32) * (16 : Int32)) ((nI i_) / (16 : Int32))) < (3 : Int32) then (0 : Int32) else (if (vX9_findPoints_4 (nI i_) x1_) = (0 : Int32) then (1 : Int32) else (0 : Int32))))))) 0 0 := by
          refine z_iast (σ' := (zu (zu x1_ 35 (zu (x1_ 35) (nI i_).toNatClampNeg (if ((x1_ 33) (nI i_).toNatClampNeg) = (0 : Int32) then (0 : Int32) else (if (rX9_neighbours x1_ ((nI i_) - (nI i_) / (16 : Int32) * (16 : Int32)) ((nI i_) / (16 : Int32))) < (3 : Int32) then (0 : Int32) else (if (vX9_findPoints_4 (nI i_) x1_) = (0 : Int32) then (1 : Int32) else (0 : Int32)))))) 36 (zu (x1_ 36) (nI i_).toNatClampNeg (if ((x1_ 33) (nI i_).toNatClampNeg) = (0 : Int32) then (-1 : Int32) else (if (rX9_neighbours x1_ ((nI i_) - (nI i_) / (16 : Int32) * (16 : Int32)) ((nI i_) / (16 : Int32))) = (0 : Int32) then (0 : Int32) else (if (rX9_neighbours x1_ ((nI i_) - (nI i_) / (16 : Int32) * (16 : Int32)) ((nI i_) / (16 : Int32))) = (1 : Int32) then (1 : Int32) else (if ((zu (x1_ 35) (nI i_).toNatClampNeg (if ((x1_ 33) (nI i_).toNatClampNeg) = (0 : Int32) then (0 : Int32) else (if (rX9_neighbours x1_ ((nI i_) - (nI i_) / (16 : Int32) * (16 : Int32)) ((nI i_) / (16 : Int32))) < (3 : Int32) then (0 : Int32) else (if (vX9_findPoints_4 (nI i_) x1_) = (0 : Int32) then (1 : Int32) else (0 : Int32))))) (nI i_).toNatClampNeg) = (0 : Int32) then (-1 : Int32) else (2 : Int32)))))))) dX9_findPoints_209 (Nat.le_of_ble_eq_true rfl) (zN rfl) rfl (vp_in_nI (Nat.lt_of_lt_of_le hi_ (Nat.le_of_ble_eq_true rfl)) (by decide)) (congrArg (fun g_ => zu _ _ (zu g_ _ _)) (zu_ne _ _ (by decide))) ?_
          show zz G mX9_findPoints 2 0 0 Q 210 [some (.ref 32), some (.int x0_), some (.int (nI i_)), none, none, none, none, none] [] (hh P (vX9_findPoints_5 (nI i_) x1_)) 0 0
          refine z_iload_n dX9_findPoints_210 rfl ?_
          refine z_aloadr_n dX9_findPoints_211 rfl ?_
          refine z_get (ci := 9) (r := (RX9, TX9, 38)) (j := 3) (v := .ref 36) dX9_findPoints_212 (Nat.le_of_ble_eq_true rfl) (zN rfl) rfl rfl (Nat.le_of_ble_eq_true rfl) fl_X9_19 rfl ?_
          refine z_iload_n dX9_findPoints_215 rfl ?_
          refine z_iald (v := (((vX9_findPoints_5 (nI i_) x1_) 36) (nI i_).toNatClampNeg)) dX9_findPoints_216 (zN rfl) rfl (vp_in_nI (Nat.lt_of_lt_of_le hi_ (Nat.le_of_ble_eq_true rfl)) (by decide)) rfl ?_
          have K_4 : zz G mX9_findPoints 2 0 0 Q 225 [some (.ref 32), none, some (.int (nI i_)), none, none, none, none, none] [.int (if (((vX9_findPoints_5 (nI i_) x1_) 36) (nI i_).toNatClampNeg) < (0 : Int32) then (0 : Int32) else (1 : Int32)), .int x0_] (hh P (vX9_findPoints_5 (nI i_) x1_)) 0 0 := by
            refine z_iadd (v := (x0_ + (if (((vX9_findPoints_5 (nI i_) x1_) 36) (nI i_).toNatClampNeg) < (0 : Int32) then (0 : Int32) else (1 : Int32)))) dX9_findPoints_225 rfl ?_
            refine z_istore_n (lv' := [some (.ref 32), some (.int (x0_ + (if (((vX9_findPoints_5 (nI i_) x1_) 36) (nI i_).toNatClampNeg) < (0 : Int32) then (0 : Int32) else (1 : Int32)))), some (.int (nI i_)), none, none, none, none, none]) dX9_findPoints_226 (Nat.le_of_ble_eq_true rfl) rfl ?_
            refine z_iinc (v := ((nI i_) + (1 : Int32))) (lv' := [some (.ref 32), some (.int (x0_ + (if (((vX9_findPoints_5 (nI i_) x1_) 36) (nI i_).toNatClampNeg) < (0 : Int32) then (0 : Int32) else (1 : Int32)))), some (.int ((nI i_) + (1 : Int32))), none, none, none, none, none]) dX9_findPoints_227 (Nat.le_of_ble_eq_true rfl) rfl (by rw [k_iconst_1]) rfl ?_
            refine z_goto (tgt := 4) dX9_findPoints_230 (by decide) ?_
            rw [nI_1]
            exact k_
          refine z_if_lt (tgt := 224) dX9_findPoints_217 (by decide) (fun c_12 => ?_) (fun c_12 => ?_)
          · refine z_iconst dX9_findPoints_224 k_iconst_0 ?_
            refine zz_sub (lv' := [some (.ref 32), none, some (.int (nI i_)), none, none, none, none, none]) ⟨rfl, ⟨rfl, trivial⟩⟩ ?_
            rw [show (if (((vX9_findPoints_5 (nI i_) x1_) 36) (nI i_).toNatClampNeg) < (0 : Int32) then (0 : Int32) else (1 : Int32)) = (0 : Int32) from (if_pos c_12)] at K_4
            exact K_4
          · refine z_iconst dX9_findPoints_220 k_iconst_1 ?_
            refine z_goto (tgt := 225) dX9_findPoints_221 (by decide) ?_
            refine zz_sub (lv' := [some (.ref 32), none, some (.int (nI i_)), none, none, none, none, none]) ⟨rfl, ⟨rfl, trivial⟩⟩ ?_
            rw [show (if (((vX9_findPoints_5 (nI i_) x1_) 36) (nI i_).toNatClampNeg) < (0 : Int32) then (0 : Int32) else (1 : Int32)) = (1 : Int32) from (if_neg c_12)] at K_4
            exact K_4
        refine z_if_ne (tgt := 176) dX9_findPoints_169 (by decide) (fun c_8 => ?_) (fun c_8 => ?_)
        · refine z_iload dX9_findPoints_176 rfl ?_
          refine z_if_ne (tgt := 185) dX9_findPoints_178 (by decide) (fun c_9 => ?_) (fun c_9 => ?_)
          · refine z_iload dX9_findPoints_185 rfl ?_
            refine z_iconst dX9_findPoints_187 k_iconst_1 ?_
            refine z_icmp_ne (tgt := 195) dX9_findPoints_188 (by decide) (fun c_10 => ?_) (fun c_10 => ?_)
            · refine z_aloadr_n dX9_findPoints_195 rfl ?_
              refine z_get (ci := 9) (r := (RX9, TX9, 38)) (j := 2) (v := .ref 35) dX9_findPoints_196 (Nat.le_of_ble_eq_true rfl) (zN rfl) rfl rfl (Nat.le_of_ble_eq_true rfl) fl_X9_16 rfl ?_
              refine z_iload_n dX9_findPoints_199 rfl ?_
              refine z_bald (v := ((zu (x1_ 35) (nI i_).toNatClampNeg (if ((x1_ 33) (nI i_).toNatClampNeg) = (0 : Int32) then (0 : Int32) else (if (rX9_neighbours x1_ ((nI i_) - (nI i_) / (16 : Int32) * (16 : Int32)) ((nI i_) / (16 : Int32))) < (3 : Int32) then (0 : Int32) else (if (vX9_findPoints_4 (nI i_) x1_) = (0 : Int32) then (1 : Int32) else (0 : Int32))))) (nI i_).toNatClampNeg)) dX9_findPoints_200 (Nat.le_of_ble_eq_true rfl) (zN rfl) rfl (vp_in_nI (Nat.lt_of_lt_of_le hi_ (Nat.le_of_ble_eq_true rfl)) (by decide)) (congrFun (zu_self _ _ _) _) ?_
              refine z_if_eq (tgt := 208) dX9_findPoints_201 (by decide) (fun c_11 => ?_) (fun c_11 => ?_)
              · refine z_iconst dX9_findPoints_208 k_iconst_m1 ?_
                refine zz_sub (lv' := [some (.ref 32), some (.int x0_), some (.int (nI i_)), none, none, none, none, none]) ⟨rfl, ⟨rfl, ⟨rfl, trivial⟩⟩⟩ ?_
                rw [show (if ((x1_ 33) (nI i_).toNatClampNeg) = (0 : Int32) then (-1 : Int32) else (if (rX9_neighbours x1_ ((nI i_) - (nI i_) / (16 : Int32) * (16 : Int32)) ((nI i_) / (16 : Int32))) = (0 : Int32) then (0 : Int32) else (if (rX9_neighbours x1_ ((nI i_) - (nI i_) / (16 : Int32) * (16 : Int32)) ((nI i_) / (16 : Int32))) = (1 : Int32) then (1 : Int32) else (if ((zu (x1_ 35) (nI i_).toNatClampNeg (if ((x1_ 33) (nI i_).toNatClampNeg) = (0 : Int32) then (0 : Int32) else (if (rX9_neighbours x1_ ((nI i_) - (nI i_) / (16 : Int32) * (16 : Int32)) ((nI i_) / (16 : Int32))) < (3 : Int32) then (0 : Int32) else (if (vX9_findPoints_4 (nI i_) x1_) = (0 : Int32) then (1 : Int32) else (0 : Int32))))) (nI i_).toNatClampNeg) = (0 : Int32) then (-1 : Int32) else (2 : Int32))))) = (-1 : Int32) from ((if_neg c_8).trans ((if_neg c_9).trans ((if_neg c_10).trans (if_pos c_11))))] at K_3
                exact K_3
              · refine z_iconst dX9_findPoints_204 k_iconst_2 ?_
                refine z_goto (tgt := 209) dX9_findPoints_205 (by decide) ?_
                refine zz_sub (lv' := [some (.ref 32), some (.int x0_), some (.int (nI i_)), none, none, none, none, none]) ⟨rfl, ⟨rfl, ⟨rfl, trivial⟩⟩⟩ ?_
                rw [show (if ((x1_ 33) (nI i_).toNatClampNeg) = (0 : Int32) then (-1 : Int32) else (if (rX9_neighbours x1_ ((nI i_) - (nI i_) / (16 : Int32) * (16 : Int32)) ((nI i_) / (16 : Int32))) = (0 : Int32) then (0 : Int32) else (if (rX9_neighbours x1_ ((nI i_) - (nI i_) / (16 : Int32) * (16 : Int32)) ((nI i_) / (16 : Int32))) = (1 : Int32) then (1 : Int32) else (if ((zu (x1_ 35) (nI i_).toNatClampNeg (if ((x1_ 33) (nI i_).toNatClampNeg) = (0 : Int32) then (0 : Int32) else (if (rX9_neighbours x1_ ((nI i_) - (nI i_) / (16 : Int32) * (16 : Int32)) ((nI i_) / (16 : Int32))) < (3 : Int32) then (0 : Int32) else (if (vX9_findPoints_4 (nI i_) x1_) = (0 : Int32) then (1 : Int32) else (0 : Int32))))) (nI i_).toNatClampNeg) = (0 : Int32) then (-1 : Int32) else (2 : Int32))))) = (2 : Int32) from ((if_neg c_8).trans ((if_neg c_9).trans ((if_neg c_10).trans (if_neg c_11))))] at K_3
                exact K_3
            · refine z_iconst dX9_findPoints_191 k_iconst_1 ?_
              refine z_goto (tgt := 209) dX9_findPoints_192 (by decide) ?_
              refine zz_sub (lv' := [some (.ref 32), some (.int x0_), some (.int (nI i_)), none, none, none, none, none]) ⟨rfl, ⟨rfl, ⟨rfl, trivial⟩⟩⟩ ?_
              rw [show (if ((x1_ 33) (nI i_).toNatClampNeg) = (0 : Int32) then (-1 : Int32) else (if (rX9_neighbours x1_ ((nI i_) - (nI i_) / (16 : Int32) * (16 : Int32)) ((nI i_) / (16 : Int32))) = (0 : Int32) then (0 : Int32) else (if (rX9_neighbours x1_ ((nI i_) - (nI i_) / (16 : Int32) * (16 : Int32)) ((nI i_) / (16 : Int32))) = (1 : Int32) then (1 : Int32) else (if ((zu (x1_ 35) (nI i_).toNatClampNeg (if ((x1_ 33) (nI i_).toNatClampNeg) = (0 : Int32) then (0 : Int32) else (if (rX9_neighbours x1_ ((nI i_) - (nI i_) / (16 : Int32) * (16 : Int32)) ((nI i_) / (16 : Int32))) < (3 : Int32) then (0 : Int32) else (if (vX9_findPoints_4 (nI i_) x1_) = (0 : Int32) then (1 : Int32) else (0 : Int32))))) (nI i_).toNatClampNeg) = (0 : Int32) then (-1 : Int32) else (2 : Int32))))) = (1 : Int32) from ((if_neg c_8).trans ((if_neg c_9).trans (if_pos c_10)))] at K_3
              exact K_3
          · refine z_iconst dX9_findPoints_181 k_iconst_0 ?_
            refine z_goto (tgt := 209) dX9_findPoints_182 (by decide) ?_
            refine zz_sub (lv' := [some (.ref 32), some (.int x0_), some (.int (nI i_)), none, none, none, none, none]) ⟨rfl, ⟨rfl, ⟨rfl, trivial⟩⟩⟩ ?_
            rw [show (if ((x1_ 33) (nI i_).toNatClampNeg) = (0 : Int32) then (-1 : Int32) else (if (rX9_neighbours x1_ ((nI i_) - (nI i_) / (16 : Int32) * (16 : Int32)) ((nI i_) / (16 : Int32))) = (0 : Int32) then (0 : Int32) else (if (rX9_neighbours x1_ ((nI i_) - (nI i_) / (16 : Int32) * (16 : Int32)) ((nI i_) / (16 : Int32))) = (1 : Int32) then (1 : Int32) else (if ((zu (x1_ 35) (nI i_).toNatClampNeg (if ((x1_ 33) (nI i_).toNatClampNeg) = (0 : Int32) then (0 : Int32) else (if (rX9_neighbours x1_ ((nI i_) - (nI i_) / (16 : Int32) * (16 : Int32)) ((nI i_) / (16 : Int32))) < (3 : Int32) then (0 : Int32) else (if (vX9_findPoints_4 (nI i_) x1_) = (0 : Int32) then (1 : Int32) else (0 : Int32))))) (nI i_).toNatClampNeg) = (0 : Int32) then (-1 : Int32) else (2 : Int32))))) = (0 : Int32) from ((if_neg c_8).trans (if_pos c_9))] at K_3
            exact K_3
        · refine z_iconst dX9_findPoints_172 k_iconst_m1 ?_
          refine z_goto (tgt := 209) dX9_findPoints_173 (by decide) ?_
          refine zz_sub (lv' := [some (.ref 32), some (.int x0_), some (.int (nI i_)), none, none, none, none, none]) ⟨rfl, ⟨rfl, ⟨rfl, trivial⟩⟩⟩ ?_
          rw [show (if ((x1_ 33) (nI i_).toNatClampNeg) = (0 : Int32) then (-1 : Int32) else (if (rX9_neighbours x1_ ((nI i_) - (nI i_) / (16 : Int32) * (16 : Int32)) ((nI i_) / (16 : Int32))) = (0 : Int32) then (0 : Int32) else (if (rX9_neighbours x1_ ((nI i_) - (nI i_) / (16 : Int32) * (16 : Int32)) ((nI i_) / (16 : Int32))) = (1 : Int32) then (1 : Int32) else (if ((zu (x1_ 35) (nI i_).toNatClampNeg (if ((x1_ 33) (nI i_).toNatClampNeg) = (0 : Int32) then (0 : Int32) else (if (rX9_neighbours x1_ ((nI i_) - (nI i_) / (16 : Int32) * (16 : Int32)) ((nI i_) / (16 : Int32))) < (3 : Int32) then (0 : Int32) else (if (vX9_findPoints_4 (nI i_) x1_) = (0 : Int32) then (1 : Int32) else (0 : Int32))))) (nI i_).toNatClampNeg) = (0 : Int32) then (-1 : Int32) else (2 : Int32))))) = (-1 : Int32) from (if_pos c_8)] at K_3
          exact K_3
      refine z_if_eq (tgt := 156) dX9_findPoints_138 (by decide) (fun c_5 => ?_) (fun c_5 => ?_)
      · refine z_iconst dX9_findPoints_156 k_iconst_0 ?_
        refine zz_sub (lv' := [some (.ref 32), some (.int x0_), some (.int (nI i_)), none, none, some (.int (rX9_neighbours x1_ ((nI i_) - (nI i_) / (16 : Int32) * (16 : Int32)) ((nI i_) / (16 : Int32)))), none, none]) ⟨rfl, ⟨rfl, ⟨rfl, ⟨rfl, trivial⟩⟩⟩⟩ ?_
        rw [show (if ((x1_ 33) (nI i_).toNatClampNeg) = (0 : Int32) then (0 : Int32) else (if (rX9_neighbours x1_ ((nI i_) - (nI i_) / (16 : Int32) * (16 : Int32)) ((nI i_) / (16 : Int32))) < (3 : Int32) then (0 : Int32) else (if (vX9_findPoints_4 (nI i_) x1_) = (0 : Int32) then (1 : Int32) else (0 : Int32)))) = (0 : Int32) from (if_pos c_5)] at K_2
        exact K_2
      · refine z_iload dX9_findPoints_141 rfl ?_
        refine z_iconst dX9_findPoints_143 k_iconst_3 ?_
        refine z_icmp_lt (tgt := 156) dX9_findPoints_144 (by decide) (fun c_6 => ?_) (fun c_6 => ?_)
        · refine z_iconst dX9_findPoints_156 k_iconst_0 ?_
          refine zz_sub (lv' := [some (.ref 32), some (.int x0_), some (.int (nI i_)), none, none, some (.int (rX9_neighbours x1_ ((nI i_) - (nI i_) / (16 : Int32) * (16 : Int32)) ((nI i_) / (16 : Int32)))), none, none]) ⟨rfl, ⟨rfl, ⟨rfl, ⟨rfl, trivial⟩⟩⟩⟩ ?_
          rw [show (if ((x1_ 33) (nI i_).toNatClampNeg) = (0 : Int32) then (0 : Int32) else (if (rX9_neighbours x1_ ((nI i_) - (nI i_) / (16 : Int32) * (16 : Int32)) ((nI i_) / (16 : Int32))) < (3 : Int32) then (0 : Int32) else (if (vX9_findPoints_4 (nI i_) x1_) = (0 : Int32) then (1 : Int32) else (0 : Int32)))) = (0 : Int32) from ((if_neg c_5).trans (if_pos c_6))] at K_2
          exact K_2
        · refine z_iload dX9_findPoints_147 rfl ?_
          refine z_if_ne (tgt := 156) dX9_findPoints_149 (by decide) (fun c_7 => ?_) (fun c_7 => ?_)
          · refine z_iconst dX9_findPoints_156 k_iconst_0 ?_
            refine zz_sub (lv' := [some (.ref 32), some (.int x0_), some (.int (nI i_)), none, none, some (.int (rX9_neighbours x1_ ((nI i_) - (nI i_) / (16 : Int32) * (16 : Int32)) ((nI i_) / (16 : Int32)))), none, none]) ⟨rfl, ⟨rfl, ⟨rfl, ⟨rfl, trivial⟩⟩⟩⟩ ?_
            rw [show (if ((x1_ 33) (nI i_).toNatClampNeg) = (0 : Int32) then (0 : Int32) else (if (rX9_neighbours x1_ ((nI i_) - (nI i_) / (16 : Int32) * (16 : Int32)) ((nI i_) / (16 : Int32))) < (3 : Int32) then (0 : Int32) else (if (vX9_findPoints_4 (nI i_) x1_) = (0 : Int32) then (1 : Int32) else (0 : Int32)))) = (0 : Int32) from ((if_neg c_5).trans ((if_neg c_6).trans (if_neg c_7)))] at K_2
            exact K_2
          · refine z_iconst dX9_findPoints_152 k_iconst_1 ?_
            refine z_goto (tgt := 157) dX9_findPoints_153 (by decide) ?_
            refine zz_sub (lv' := [some (.ref 32), some (.int x0_), some (.int (nI i_)), none, none, some (.int (rX9_neighbours x1_ ((nI i_) - (nI i_) / (16 : Int32) * (16 : Int32)) ((nI i_) / (16 : Int32)))), none, none]) ⟨rfl, ⟨rfl, ⟨rfl, ⟨rfl, trivial⟩⟩⟩⟩ ?_
            rw [show (if ((x1_ 33) (nI i_).toNatClampNeg) = (0 : Int32) then (0 : Int32) else (if (rX9_neighbours x1_ ((nI i_) - (nI i_) / (16 : Int32) * (16 : Int32)) ((nI i_) / (16 : Int32))) < (3 : Int32) then (0 : Int32) else (if (vX9_findPoints_4 (nI i_) x1_) = (0 : Int32) then (1 : Int32) else (0 : Int32)))) = (1 : Int32) from ((if_neg c_5).trans ((if_neg c_6).trans (if_pos c_7)))] at K_2
            exact K_2
    refine z_if_le (tgt := 58) dX9_findPoints_32 (by decide) (fun c_2 => ?_) (fun c_2 => ?_)
    · refine z_iconst dX9_findPoints_58 k_iconst_0 ?_
      rw [show (if ((nI i_) - (nI i_) / (16 : Int32) * (16 : Int32)) ≤ (0 : Int32) then (0 : Int32) else (if ((x1_ 35) ((nI i_) - (if ((nI i_) - (nI i_) / (16 : Int32) * (16 : Int32)) ≤ (0 : Int32) then (0 : Int32) else (1 : Int32))).toNatClampNeg) = (0 : Int32) then (0 : Int32) else (1 : Int32))) = (0 : Int32) from (if_pos c_2)] at K_1
      exact K_1
    · refine z_aloadr_n dX9_findPoints_35 rfl ?_
      refine z_get (ci := 9) (r := (RX9, TX9, 38)) (j := 2) (v := .ref 35) dX9_findPoints_36 (Nat.le_of_ble_eq_true rfl) (zN rfl) rfl rfl (Nat.le_of_ble_eq_true rfl) fl_X9_16 rfl ?_
      refine z_iload_n dX9_findPoints_39 rfl ?_
      refine z_iload_n dX9_findPoints_40 rfl ?_
      have K_5 : zz G mX9_findPoints 2 0 0 Q 49 [some (.ref 32), some (.int x0_), some (.int (nI i_)), some (.int ((nI i_) - (nI i_) / (16 : Int32) * (16 : Int32))), some (.int ((nI i_) / (16 : Int32))), some (.int (rX9_neighbours x1_ ((nI i_) - (nI i_) / (16 : Int32) * (16 : Int32)) ((nI i_) / (16 : Int32)))), none, none] [.int (if ((nI i_) - (nI i_) / (16 : Int32) * (16 : Int32)) ≤ (0 : Int32) then (0 : Int32) else (1 : Int32)), .int (nI i_), .ref 35] (hh P x1_) 0 0 := by
        refine z_isub (v := ((nI i_) - (if ((nI i_) - (nI i_) / (16 : Int32) * (16 : Int32)) ≤ (0 : Int32) then (0 : Int32) else (1 : Int32)))) dX9_findPoints_49 rfl ?_
        refine z_bald (v := ((x1_ 35) ((nI i_) - (if ((nI i_) - (nI i_) / (16 : Int32) * (16 : Int32)) ≤ (0 : Int32) then (0 : Int32) else (1 : Int32))).toNatClampNeg)) dX9_findPoints_50 (Nat.le_of_ble_eq_true rfl) (zN rfl) rfl (W3_.2.1.2 c_2) rfl ?_
        refine z_if_eq (tgt := 58) dX9_findPoints_51 (by decide) (fun c_4 => ?_) (fun c_4 => ?_)
        · refine z_iconst dX9_findPoints_58 k_iconst_0 ?_
          rw [show (if ((nI i_) - (nI i_) / (16 : Int32) * (16 : Int32)) ≤ (0 : Int32) then (0 : Int32) else (if ((x1_ 35) ((nI i_) - (if ((nI i_) - (nI i_) / (16 : Int32) * (16 : Int32)) ≤ (0 : Int32) then (0 : Int32) else (1 : Int32))).toNatClampNeg) = (0 : Int32) then (0 : Int32) else (1 : Int32))) = (0 : Int32) from ((if_neg c_2).trans (if_pos c_4))] at K_1
          exact K_1
        · refine z_iconst dX9_findPoints_54 k_iconst_1 ?_
          refine z_goto (tgt := 59) dX9_findPoints_55 (by decide) ?_
          rw [show (if ((nI i_) - (nI i_) / (16 : Int32) * (16 : Int32)) ≤ (0 : Int32) then (0 : Int32) else (if ((x1_ 35) ((nI i_) - (if ((nI i_) - (nI i_) / (16 : Int32) * (16 : Int32)) ≤ (0 : Int32) then (0 : Int32) else (1 : Int32))).toNatClampNeg) = (0 : Int32) then (0 : Int32) else (1 : Int32))) = (1 : Int32) from ((if_neg c_2).trans (if_neg c_4))] at K_1
          exact K_1
      refine z_if_le (tgt := 48) dX9_findPoints_41 (by decide) (fun c_3 => ?_) (fun c_3 => ?_)
      · refine z_iconst dX9_findPoints_48 k_iconst_0 ?_
        rw [show (if ((nI i_) - (nI i_) / (16 : Int32) * (16 : Int32)) ≤ (0 : Int32) then (0 : Int32) else (1 : Int32)) = (0 : Int32) from (if_pos c_3)] at K_5
        exact K_5
      · refine z_iconst dX9_findPoints_44 k_iconst_1 ?_
        refine z_goto (tgt := 49) dX9_findPoints_45 (by decide) ?_
        rw [show (if ((nI i_) - (nI i_) / (16 : Int32) * (16 : Int32)) ≤ (0 : Int32) then (0 : Int32) else (1 : Int32)) = (1 : Int32) from (if_neg c_3)] at K_5
        exact K_5
  · generalize zfor fX9_findPoints_4 256 (l1, σ) = g_ at W2_ ⊢
    obtain ⟨x0_, x1_⟩ := g_
    dsimp only at W2_ ⊢
    refine z_iload_n dX9_findPoints_4 rfl ?_
    refine z_sipush dX9_findPoints_5 k_sipush_256 ?_
    refine z_icmp_ge (tgt := 233) dX9_findPoints_8 (by decide) (fun c_ => ?_) (fun c_ => absurd (by decide) c_)
    exact zz_sub (lv' := [none, some (.int x0_), none, none, none, none, none, none]) ⟨rfl, trivial⟩ W2_

theorem dX9_findPoints_0 : decode cX9_findPoints 0 = .ok (.iconst 0, 1) := by decide +kernel
theorem dX9_findPoints_1 : decode cX9_findPoints 1 = .ok (.istore_n 1, 1) := by decide +kernel
theorem dX9_findPoints_2 : decode cX9_findPoints 2 = .ok (.iconst 0, 1) := by decide +kernel
theorem dX9_findPoints_3 : decode cX9_findPoints 3 = .ok (.istore_n 2, 1) := by decide +kernel
theorem dX9_findPoints_234 : decode cX9_findPoints 234 = .ok (.ireturn, 1) := by decide +kernel
def pX9_findPoints (σ : zc_N) : Prop := (∀ i4_ : Nat, i4_ < 256 → qX9_findPoints_4 i4_ (zfor fX9_findPoints_4 i4_ ((0 : Int32), σ)))
noncomputable def rX9_findPoints (σ : zc_N) : Int32 := (zfor fX9_findPoints_4 256 ((0 : Int32), σ)).1
noncomputable def sX9_findPoints (σ : zc_N) : zc_N := (zfor fX9_findPoints_4 256 ((0 : Int32), σ)).2
set_option maxHeartbeats 1000000 in
theorem ctX9_findPoints (P : zp) (σ : zc_N) (W_ : (pX9_findPoints σ)) : sp mX9_findPoints 2 0 0 [.ref 32] (hh P σ) (fun r_ h_ => r_ = some (.int (rX9_findPoints σ)) ∧ h_ = hh P (sX9_findPoints σ)) := by
  refine sp_of (lv := [some (.ref 32), none, none, none, none, none, none, none]) (by decide) (zcats_ok _ rfl) (Nat.le_of_ble_eq_true rfl) (zlv_ok _ 7 rfl) (fun G => ?_)
  generalize hQ_ : (fun (r_ : Option Value) (h_ : zc_H) => r_ = some (.int (rX9_findPoints σ)) ∧ h_ = hh P (sX9_findPoints σ)) = Q_
  unfold pX9_findPoints at W_
  refine z_iconst dX9_findPoints_0 k_iconst_0 ?_
  refine z_istore_n (lv' := [some (.ref 32), some (.int (0 : Int32)), none, none, none, none, none, none]) dX9_findPoints_1 (Nat.le_of_ble_eq_true rfl) rfl ?_
  refine z_iconst dX9_findPoints_2 k_iconst_0 ?_
  refine z_istore_n (lv' := [some (.ref 32), some (.int (0 : Int32)), some (.int (0 : Int32)), none, none, none, none, none]) dX9_findPoints_3 (Nat.le_of_ble_eq_true rfl) rfl ?_
  refine lpX9_findPoints_4 P σ (0 : Int32) W_ ?_
  show zz G mX9_findPoints 2 0 0 Q_ 233 [none, some (.int (zfor fX9_findPoints_4 256 ((0 : Int32), σ)).1), none, none, none, none, none, none] [] (hh P (zfor fX9_findPoints_4 256 ((0 : Int32), σ)).2) 0 0
  refine z_iload_n dX9_findPoints_233 rfl ?_
  exact z_ireturn dX9_findPoints_234 rfl rfl (Nat.le_of_ble_eq_true rfl) (Nat.le_of_ble_eq_true rfl) (by rw [← hQ_]; exact ⟨(by rw [rX9_findPoints]), (by rw [sX9_findPoints])⟩)

theorem dX9_print_136 : decode cX9_print 136 = .ok (.iload 8, 2) := by decide +kernel
theorem dX9_print_138 : decode cX9_print 138 = .ok (.sipush 256, 3) := by decide +kernel
theorem dX9_print_141 : decode cX9_print 141 = .ok (.if_icmp .ge 95, 3) := by decide +kernel
theorem dX9_print_144 : decode cX9_print 144 = .ok (.aload_n 0, 1) := by decide +kernel
theorem dX9_print_145 : decode cX9_print 145 = .ok (.getfield 23, 3) := by decide +kernel
theorem dX9_print_148 : decode cX9_print 148 = .ok (.iload 6, 2) := by decide +kernel
theorem dX9_print_150 : decode cX9_print 150 = .ok (.iaload, 1) := by decide +kernel
theorem dX9_print_151 : decode cX9_print 151 = .ok (.bipush 12, 2) := by decide +kernel
theorem dX9_print_153 : decode cX9_print 153 = .ok (.if_icmp .ge 83, 3) := by decide +kernel
theorem dX9_print_156 : decode cX9_print 156 = .ok (.aload_n 0, 1) := by decide +kernel
theorem dX9_print_157 : decode cX9_print 157 = .ok (.getfield 19, 3) := by decide +kernel
theorem dX9_print_160 : decode cX9_print 160 = .ok (.iload 8, 2) := by decide +kernel
theorem dX9_print_162 : decode cX9_print 162 = .ok (.iaload, 1) := by decide +kernel
theorem dX9_print_163 : decode cX9_print 163 = .ok (.ifCond .lt 67, 3) := by decide +kernel
theorem dX9_print_166 : decode cX9_print 166 = .ok (.bipush 12, 2) := by decide +kernel
theorem dX9_print_168 : decode cX9_print 168 = .ok (.iload 6, 2) := by decide +kernel
theorem dX9_print_170 : decode cX9_print 170 = .ok (.imul, 1) := by decide +kernel
theorem dX9_print_171 : decode cX9_print 171 = .ok (.aload_n 0, 1) := by decide +kernel
theorem dX9_print_172 : decode cX9_print 172 = .ok (.getfield 23, 3) := by decide +kernel
theorem dX9_print_175 : decode cX9_print 175 = .ok (.iload 6, 2) := by decide +kernel
theorem dX9_print_177 : decode cX9_print 177 = .ok (.iaload, 1) := by decide +kernel
theorem dX9_print_178 : decode cX9_print 178 = .ok (.iadd, 1) := by decide +kernel
theorem dX9_print_179 : decode cX9_print 179 = .ok (.istore 9, 2) := by decide +kernel
theorem dX9_print_181 : decode cX9_print 181 = .ok (.aload_n 0, 1) := by decide +kernel
theorem dX9_print_182 : decode cX9_print 182 = .ok (.getfield 26, 3) := by decide +kernel
theorem dX9_print_185 : decode cX9_print 185 = .ok (.iload 9, 2) := by decide +kernel
theorem dX9_print_187 : decode cX9_print 187 = .ok (.iload 8, 2) := by decide +kernel
theorem dX9_print_189 : decode cX9_print 189 = .ok (.bipush 16, 2) := by decide +kernel
theorem dX9_print_191 : decode cX9_print 191 = .ok (.irem, 1) := by decide +kernel
theorem dX9_print_192 : decode cX9_print 192 = .ok (.iastore, 1) := by decide +kernel
theorem dX9_print_193 : decode cX9_print 193 = .ok (.aload_n 0, 1) := by decide +kernel
theorem dX9_print_194 : decode cX9_print 194 = .ok (.getfield 29, 3) := by decide +kernel
theorem dX9_print_197 : decode cX9_print 197 = .ok (.iload 9, 2) := by decide +kernel
theorem dX9_print_199 : decode cX9_print 199 = .ok (.iload 8, 2) := by decide +kernel
theorem dX9_print_201 : decode cX9_print 201 = .ok (.bipush 16, 2) := by decide +kernel
theorem dX9_print_203 : decode cX9_print 203 = .ok (.idiv, 1) := by decide +kernel
theorem dX9_print_204 : decode cX9_print 204 = .ok (.iastore, 1) := by decide +kernel
theorem dX9_print_205 : decode cX9_print 205 = .ok (.aload_n 0, 1) := by decide +kernel
theorem dX9_print_206 : decode cX9_print 206 = .ok (.getfield 32, 3) := by decide +kernel
theorem dX9_print_209 : decode cX9_print 209 = .ok (.iload 9, 2) := by decide +kernel
theorem dX9_print_211 : decode cX9_print 211 = .ok (.aload_n 0, 1) := by decide +kernel
theorem dX9_print_212 : decode cX9_print 212 = .ok (.getfield 19, 3) := by decide +kernel
theorem dX9_print_215 : decode cX9_print 215 = .ok (.iload 8, 2) := by decide +kernel
theorem dX9_print_217 : decode cX9_print 217 = .ok (.iaload, 1) := by decide +kernel
theorem dX9_print_218 : decode cX9_print 218 = .ok (.iastore, 1) := by decide +kernel
theorem dX9_print_219 : decode cX9_print 219 = .ok (.aload_n 0, 1) := by decide +kernel
theorem dX9_print_220 : decode cX9_print 220 = .ok (.getfield 23, 3) := by decide +kernel
theorem dX9_print_223 : decode cX9_print 223 = .ok (.iload 6, 2) := by decide +kernel
theorem dX9_print_225 : decode cX9_print 225 = .ok (.dup2, 1) := by decide +kernel
theorem dX9_print_226 : decode cX9_print 226 = .ok (.iaload, 1) := by decide +kernel
theorem dX9_print_227 : decode cX9_print 227 = .ok (.iconst 1, 1) := by decide +kernel
theorem dX9_print_228 : decode cX9_print 228 = .ok (.iadd, 1) := by decide +kernel
theorem dX9_print_229 : decode cX9_print 229 = .ok (.iastore, 1) := by decide +kernel
theorem dX9_print_230 : decode cX9_print 230 = .ok (.iinc 8 1, 3) := by decide +kernel
theorem dX9_print_233 : decode cX9_print 233 = .ok (.goto (-97), 3) := by decide +kernel
theorem dX9_print_236 : decode cX9_print 236 = .ok (.aload_n 0, 1) := by decide +kernel
theorem dX9_print_237 : decode cX9_print 237 = .ok (.getfield 38, 3) := by decide +kernel
theorem dX9_print_240 : decode cX9_print 240 = .ok (.iload 6, 2) := by decide +kernel
theorem dX9_print_242 : decode cX9_print 242 = .ok (.iconst (-1), 1) := by decide +kernel
theorem dX9_print_243 : decode cX9_print 243 = .ok (.iastore, 1) := by decide +kernel
theorem dX9_print_244 : decode cX9_print 244 = .ok (.aload_n 0, 1) := by decide +kernel
theorem dX9_print_245 : decode cX9_print 245 = .ok (.getfield 41, 3) := by decide +kernel
theorem dX9_print_248 : decode cX9_print 248 = .ok (.iload 6, 2) := by decide +kernel
theorem dX9_print_250 : decode cX9_print 250 = .ok (.iconst (-1), 1) := by decide +kernel
theorem dX9_print_251 : decode cX9_print 251 = .ok (.iastore, 1) := by decide +kernel
theorem dX9_print_252 : decode cX9_print 252 = .ok (.aload_n 0, 1) := by decide +kernel
theorem dX9_print_253 : decode cX9_print 253 = .ok (.dup, 1) := by decide +kernel
theorem dX9_print_254 : decode cX9_print 254 = .ok (.getfield 131, 3) := by decide +kernel
theorem dX9_print_257 : decode cX9_print 257 = .ok (.iconst 1, 1) := by decide +kernel
theorem dX9_print_258 : decode cX9_print 258 = .ok (.iadd, 1) := by decide +kernel
theorem dX9_print_259 : decode cX9_print 259 = .ok (.putfield 131, 3) := by decide +kernel
theorem dX9_print_262 : decode cX9_print 262 = .ok (.iload 6, 2) := by decide +kernel
noncomputable def fX9_print_136 (l6 : Int32) (a_ : Int32 × zc_N) : Int32 × zc_N := ((a_.1 + (1 : Int32)), (if ((a_.2 36) a_.1.toNatClampNeg) < (0 : Int32) then a_.2 else (zu (zu (zu (zu a_.2 38 (zu (a_.2 38) (((12 : Int32) * l6) + ((a_.2 37) l6.toNatClampNeg)).toNatClampNeg (a_.1 - a_.1 / (16 : Int32) * (16 : Int32)))) 39 (zu (a_.2 39) (((12 : Int32) * l6) + ((a_.2 37) l6.toNatClampNeg)).toNatClampNeg (a_.1 / (16 : Int32)))) 40 (zu (a_.2 40) (((12 : Int32) * l6) + ((a_.2 37) l6.toNatClampNeg)).toNatClampNeg ((a_.2 36) a_.1.toNatClampNeg))) 37 (zu (a_.2 37) l6.toNatClampNeg (((a_.2 37) l6.toNatClampNeg) + (1 : Int32))))))
def eX9_print_136 (l6 : Int32) (a_ : Int32 × zc_N) : Prop := (((256 : Int32) ≤ a_.1 ∧ True) ∨ (¬ (256 : Int32) ≤ a_.1 ∧ (((12 : Int32) ≤ ((a_.2 37) l6.toNatClampNeg) ∧ True) ∨ (¬ (12 : Int32) ≤ ((a_.2 37) l6.toNatClampNeg) ∧ ((((a_.2 36) a_.1.toNatClampNeg) < (0 : Int32) ∧ False) ∨ (¬ ((a_.2 36) a_.1.toNatClampNeg) < (0 : Int32) ∧ False))))))
def qX9_print_136 (l6 : Int32) (a_ : Int32 × zc_N) : Prop := (((256 : Int32) ≤ a_.1 → (vp_in l6 24 ∧ vp_in l6 24)) ∧ (¬ (256 : Int32) ≤ a_.1 → (vp_in l6 24 ∧ (((12 : Int32) ≤ ((a_.2 37) l6.toNatClampNeg) → (vp_in l6 24 ∧ vp_in l6 24)) ∧ (¬ (12 : Int32) ≤ ((a_.2 37) l6.toNatClampNeg) → (vp_in a_.1 256 ∧ ((((a_.2 36) a_.1.toNatClampNeg) < (0 : Int32) → True) ∧ (¬ ((a_.2 36) a_.1.toNatClampNeg) < (0 : Int32) → (vp_in l6 24 ∧ (vp_in (((12 : Int32) * l6) + ((a_.2 37) l6.toNatClampNeg)) 288 ∧ (vp_in (((12 : Int32) * l6) + ((a_.2 37) l6.toNatClampNeg)) 288 ∧ (vp_in a_.1 256 ∧ (vp_in (((12 : Int32) * l6) + ((a_.2 37) l6.toNatClampNeg)) 288 ∧ (vp_in l6 24 ∧ vp_in l6 24))))))))))))))
noncomputable def wX9_print_136 (l6 : Int32) (a_ : Int32 × zc_N) : Int32 × zc_N := zit (fX9_print_136 l6) (zwn (fun n_ => (eX9_print_136 l6) (zit (fX9_print_136 l6) n_ a_))) a_
set_option maxHeartbeats 2000000 in
theorem whX9_print_136 {G : zc_G} {Q : Option Value → zc_H → Prop} (P : zp) (σ : zc_N) (l6 : Int32) (l8 : Int32)
    (hT_ : ∃ n_ : Nat, (eX9_print_136 l6) (zit (fX9_print_136 l6) n_ (l8, σ))) (W1_ : ∀ i136_ : Nat, i136_ < (zwn (fun n_ => (eX9_print_136 l6) (zit (fX9_print_136 l6) n_ (l8, σ)))) → qX9_print_136 l6 (zit (fX9_print_136 l6) i136_ (l8, σ)))
    (W2_ : (eX9_print_136 l6) (wX9_print_136 l6 (l8, σ)) → zz G mX9_print 3 0 0 Q 136 [some (.ref 32), none, none, none, none, none, some (.int l6), none, some (.int (wX9_print_136 l6 (l8, σ)).1), none] [] (hh P (wX9_print_136 l6 (l8, σ)).2) 0 0) :
    zz G mX9_print 3 0 0 Q 136 [some (.ref 32), none, none, none, none, none, some (.int l6), none, some (.int l8), none] [] (hh P σ) 0 0 := by
  unfold wX9_print_136 at W2_
  have hs_ := zwn_spec hT_
  refine zit_Z (fun a_ => zz G mX9_print 3 0 0 Q 136 [some (.ref 32), none, none, none, none, none, some (.int l6), none, some (.int a_.1), none] [] (hh P a_.2) 0 0) (fX9_print_136 l6) (zwn (fun n_ => (eX9_print_136 l6) (zit (fX9_print_136 l6) n_ (l8, σ)))) (l8, σ) (fun i_ hi_ k_ => ?_) (W2_ hs_.1)
  have hn_ := hs_.2 i_ hi_
  have W3_ := W1_ i_ hi_
  generalize zit (fX9_print_136 l6) i_ (l8, σ) = g_ at k_ hn_ W3_ ⊢
  obtain ⟨x0_, x1_⟩ := g_
  try dsimp only at k_ hn_ W3_ ⊢
  rw [fX9_print_136] at k_
  rw [eX9_print_136] at hn_
  try dsimp only at k_ hn_
  rw [qX9_print_136] at W3_
  try dsimp only at W3_
  refine z_iload dX9_print_136 rfl ?_
  refine z_sipush dX9_print_138 k_sipush_256 ?_
  refine z_icmp_ge (tgt := 236) dX9_print_141 (by decide) (fun c_1 => ?_) (fun c_1 => ?_)
  · exact absurd (Or.inl ⟨c_1, trivial⟩) hn_
  · refine z_aloadr_n dX9_print_144 rfl ?_
    refine z_get (ci := 9) (r := (RX9, TX9, 38)) (j := 4) (v := .ref 37) dX9_print_145 (Nat.le_of_ble_eq_true rfl) (zN rfl) rfl rfl (Nat.le_of_ble_eq_true rfl) fl_X9_23 rfl ?_
    refine z_iload dX9_print_148 rfl ?_
    refine z_iald (v := ((x1_ 37) l6.toNatClampNeg)) dX9_print_150 (zN rfl) rfl ((W3_.2 c_1).1) rfl ?_
    refine z_bipush dX9_print_151 k_bipush_12 ?_
    refine z_icmp_ge (tgt := 236) dX9_print_153 (by decide) (fun c_2 => ?_) (fun c_2 => ?_)
    · exact absurd (Or.inr ⟨c_1, (Or.inl ⟨c_2, trivial⟩)⟩) hn_
    · refine z_aloadr_n dX9_print_156 rfl ?_
      refine z_get (ci := 9) (r := (RX9, TX9, 38)) (j := 3) (v := .ref 36) dX9_print_157 (Nat.le_of_ble_eq_true rfl) (zN rfl) rfl rfl (Nat.le_of_ble_eq_true rfl) fl_X9_19 rfl ?_
      refine z_iload dX9_print_160 rfl ?_
      refine z_iald (v := ((x1_ 36) x0_.toNatClampNeg)) dX9_print_162 (zN rfl) rfl (((W3_.2 c_1).2.2 c_2).1) rfl ?_
      refine z_if_lt (tgt := 230) dX9_print_163 (by decide) (fun c_3 => ?_) (fun c_3 => ?_)
      · refine z_iinc (v := (x0_ + (1 : Int32))) (lv' := [some (.ref 32), none, none, none, none, none, some (.int l6), none, some (.int (x0_ + (1 : Int32))), none]) dX9_print_230 (Nat.le_of_ble_eq_true rfl) rfl (by rw [k_iconst_1]) rfl ?_
        refine z_goto (tgt := 136) dX9_print_233 (by decide) ?_
        simpa only [if_neg c_1, if_neg c_2, if_pos c_3] using k_
      · refine z_bipush dX9_print_166 k_bipush_12 ?_
        refine z_iload dX9_print_168 rfl ?_
        refine z_imul (v := ((12 : Int32) * l6)) dX9_print_170 rfl ?_
        refine z_aloadr_n dX9_print_171 rfl ?_
        refine z_get (ci := 9) (r := (RX9, TX9, 38)) (j := 4) (v := .ref 37) dX9_print_172 (Nat.le_of_ble_eq_true rfl) (zN rfl) rfl rfl (Nat.le_of_ble_eq_true rfl) fl_X9_23 rfl ?_
        refine z_iload dX9_print_175 rfl ?_
        refine z_iald (v := ((x1_ 37) l6.toNatClampNeg)) dX9_print_177 (zN rfl) rfl ((((W3_.2 c_1).2.2 c_2).2.2 c_3).1) rfl ?_
        refine z_iadd (v := (((12 : Int32) * l6) + ((x1_ 37) l6.toNatClampNeg))) dX9_print_178 rfl ?_
        refine z_istore (lv' := [some (.ref 32), none, none, none, none, none, some (.int l6), none, some (.int x0_), some (.int (((12 : Int32) * l6) + ((x1_ 37) l6.toNatClampNeg)))]) dX9_print_179 (Nat.le_of_ble_eq_true rfl) rfl ?_
        refine z_aloadr_n dX9_print_181 rfl ?_
        refine z_get (ci := 9) (r := (RX9, TX9, 38)) (j := 5) (v := .ref 38) dX9_print_182 (Nat.le_of_ble_eq_true rfl) (zN rfl) rfl rfl (Nat.le_of_ble_eq_true rfl) fl_X9_26 rfl ?_
        refine z_iload dX9_print_185 rfl ?_
        refine z_iload dX9_print_187 rfl ?_
        refine z_bipush dX9_print_189 k_bipush_16 ?_
        refine z_irem (v := (x0_ - x0_ / (16 : Int32) * (16 : Int32))) dX9_print_191 (by decide) rfl ?_
        refine z_iast (σ' := (zu x1_ 38 (zu (x1_ 38) (((12 : Int32) * l6) + ((x1_ 37) l6.toNatClampNeg)).toNatClampNeg (x0_ - x0_ / (16 : Int32) * (16 : Int32))))) dX9_print_192 (Nat.le_of_ble_eq_true rfl) (zN rfl) rfl ((((W3_.2 c_1).2.2 c_2).2.2 c_3).2.1) rfl ?_
        refine z_aloadr_n dX9_print_193 rfl ?_
        refine z_get (ci := 9) (r := (RX9, TX9, 38)) (j := 6) (v := .ref 39) dX9_print_194 (Nat.le_of_ble_eq_true rfl) (zN rfl) rfl rfl (Nat.le_of_ble_eq_true rfl) fl_X9_29 rfl ?_
        refine z_iload dX9_print_197 rfl ?_
        refine z_iload dX9_print_199 rfl ?_
        refine z_bipush dX9_print_201 k_bipush_16 ?_
        refine z_idiv (v := (x0_ / (16 : Int32))) dX9_print_203 (by decide) rfl ?_
        refine z_iast (σ' := (zu (zu x1_ 38 (zu (x1_ 38) (((12 : Int32) * l6) + ((x1_ 37) l6.toNatClampNeg)).toNatClampNeg (x0_ - x0_ / (16 : Int32) * (16 : Int32)))) 39 (zu (x1_ 39) (((12 : Int32) * l6) + ((x1_ 37) l6.toNatClampNeg)).toNatClampNeg (x0_ / (16 : Int32))))) dX9_print_204 (Nat.le_of_ble_eq_true rfl) (zN rfl) rfl ((((W3_.2 c_1).2.2 c_2).2.2 c_3).2.2.1) (congrArg (fun g_ => zu _ _ (zu g_ _ _)) (zu_ne _ _ (by decide))) ?_
        refine z_aloadr_n dX9_print_205 rfl ?_
        refine z_get (ci := 9) (r := (RX9, TX9, 38)) (j := 7) (v := .ref 40) dX9_print_206 (Nat.le_of_ble_eq_true rfl) (zN rfl) rfl rfl (Nat.le_of_ble_eq_true rfl) fl_X9_32 rfl ?_
        refine z_iload dX9_print_209 rfl ?_
        refine z_aloadr_n dX9_print_211 rfl ?_
        refine z_get (ci := 9) (r := (RX9, TX9, 38)) (j := 3) (v := .ref 36) dX9_print_212 (Nat.le_of_ble_eq_true rfl) (zN rfl) rfl rfl (Nat.le_of_ble_eq_true rfl) fl_X9_19 rfl ?_
        refine z_iload dX9_print_215 rfl ?_
        refine z_iald (v := ((x1_ 36) x0_.toNatClampNeg)) dX9_print_217 (zN rfl) rfl ((((W3_.2 c_1).2.2 c_2).2.2 c_3).2.2.2.1) (congrFun ((zu_ne _ _ (by decide)).trans (zu_ne _ _ (by decide))) _) ?_
        refine z_iast (σ' := (zu (zu (zu x1_ 38 (zu (x1_ 38) (((12 : Int32) * l6) + ((x1_ 37) l6.toNatClampNeg)).toNatClampNeg (x0_ - x0_ / (16 : Int32) * (16 : Int32)))) 39 (zu (x1_ 39) (((12 : Int32) * l6) + ((x1_ 37) l6.toNatClampNeg)).toNatClampNeg (x0_ / (16 : Int32)))) 40 (zu (x1_ 40) (((12 : Int32) * l6) + ((x1_ 37) l6.toNatClampNeg)).toNatClampNeg ((x1_ 36) x0_.toNatClampNeg)))) dX9_print_218 (Nat.le_of_ble_eq_true rfl) (zN rfl) rfl ((((W3_.2 c_1).2.2 c_2).2.2 c_3).2.2.2.2.1) (congrArg (fun g_ => zu _ _ (zu g_ _ _)) ((zu_ne _ _ (by decide)).trans (zu_ne _ _ (by decide)))) ?_
        refine z_aloadr_n dX9_print_219 rfl ?_
        refine z_get (ci := 9) (r := (RX9, TX9, 38)) (j := 4) (v := .ref 37) dX9_print_220 (Nat.le_of_ble_eq_true rfl) (zN rfl) rfl rfl (Nat.le_of_ble_eq_true rfl) fl_X9_23 rfl ?_
        refine z_iload dX9_print_223 rfl ?_
        refine z_dup2 dX9_print_225 rfl rfl ?_
        refine z_iald (v := ((x1_ 37) l6.toNatClampNeg)) dX9_print_226 (zN rfl) rfl ((((W3_.2 c_1).2.2 c_2).2.2 c_3).2.2.2.2.2.1) (congrFun ((zu_ne _ _ (by decide)).trans ((zu_ne _ _ (by decide)).trans (zu_ne _ _ (by decide)))) _) ?_
        refine z_iconst dX9_print_227 k_iconst_1 ?_
        refine z_iadd (v := (((x1_ 37) l6.toNatClampNeg) + (1 : Int32))) dX9_print_228 rfl ?_
        refine z_iast (σ' := (zu (zu (zu (zu x1_ 38 (zu (x1_ 38) (((12 : Int32) * l6) + ((x1_ 37) l6.toNatClampNeg)).toNatClampNeg (x0_ - x0_ / (16 : Int32) * (16 : Int32)))) 39 (zu (x1_ 39) (((12 : Int32) * l6) + ((x1_ 37) l6.toNatClampNeg)).toNatClampNeg (x0_ / (16 : Int32)))) 40 (zu (x1_ 40) (((12 : Int32) * l6) + ((x1_ 37) l6.toNatClampNeg)).toNatClampNeg ((x1_ 36) x0_.toNatClampNeg))) 37 (zu (x1_ 37) l6.toNatClampNeg (((x1_ 37) l6.toNatClampNeg) + (1 : Int32))))) dX9_print_229 (Nat.le_of_ble_eq_true rfl) (zN rfl) rfl ((((W3_.2 c_1).2.2 c_2).2.2 c_3).2.2.2.2.2.2) (congrArg (fun g_ => zu _ _ (zu g_ _ _)) ((zu_ne _ _ (by decide)).trans ((zu_ne _ _ (by decide)).trans (zu_ne _ _ (by decide))))) ?_
        refine z_iinc (v := (x0_ + (1 : Int32))) (lv' := [some (.ref 32), none, none, none, none, none, some (.int l6), none, some (.int (x0_ + (1 : Int32))), some (.int (((12 : Int32) * l6) + ((x1_ 37) l6.toNatClampNeg)))]) dX9_print_230 (Nat.le_of_ble_eq_true rfl) rfl (by rw [k_iconst_1]) rfl ?_
        refine z_goto (tgt := 136) dX9_print_233 (by decide) ?_
        refine zz_sub (lv' := [some (.ref 32), none, none, none, none, none, some (.int l6), none, some (.int (x0_ + (1 : Int32))), none]) ⟨rfl, ⟨rfl, ⟨rfl, trivial⟩⟩⟩ ?_
        simpa only [if_neg c_1, if_neg c_2, if_neg c_3] using k_

theorem dX9_print_0 : decode cX9_print 0 = .ok (.iload_n 1, 1) := by decide +kernel
theorem dX9_print_1 : decode cX9_print 1 = .ok (.iconst 0, 1) := by decide +kernel
theorem dX9_print_2 : decode cX9_print 2 = .ok (.ldc 100, 2) := by decide +kernel
theorem dX9_print_4 : decode cX9_print 4 = .ok (.invokestatic 96, 3) := by decide +kernel
theorem dX9_print_7 : decode cX9_print 7 = .ok (.ifCond .ne 5, 3) := by decide +kernel
theorem dX9_print_10 : decode cX9_print 10 = .ok (.iconst (-1), 1) := by decide +kernel
theorem dX9_print_11 : decode cX9_print 11 = .ok (.ireturn, 1) := by decide +kernel
theorem dX9_print_12 : decode cX9_print 12 = .ok (.iload_n 1, 1) := by decide +kernel
theorem dX9_print_13 : decode cX9_print 13 = .ok (.bipush 12, 2) := by decide +kernel
theorem dX9_print_15 : decode cX9_print 15 = .ok (.ishr, 1) := by decide +kernel
theorem dX9_print_16 : decode cX9_print 16 = .ok (.istore_n 2, 1) := by decide +kernel
theorem dX9_print_17 : decode cX9_print 17 = .ok (.iload_n 1, 1) := by decide +kernel
theorem dX9_print_18 : decode cX9_print 18 = .ok (.bipush 8, 2) := by decide +kernel
theorem dX9_print_20 : decode cX9_print 20 = .ok (.ishr, 1) := by decide +kernel
theorem dX9_print_21 : decode cX9_print 21 = .ok (.bipush 15, 2) := by decide +kernel
theorem dX9_print_23 : decode cX9_print 23 = .ok (.iand, 1) := by decide +kernel
theorem dX9_print_24 : decode cX9_print 24 = .ok (.istore_n 3, 1) := by decide +kernel
theorem dX9_print_25 : decode cX9_print 25 = .ok (.iload_n 1, 1) := by decide +kernel
theorem dX9_print_26 : decode cX9_print 26 = .ok (.iconst 4, 1) := by decide +kernel
theorem dX9_print_27 : decode cX9_print 27 = .ok (.ishr, 1) := by decide +kernel
theorem dX9_print_28 : decode cX9_print 28 = .ok (.bipush 15, 2) := by decide +kernel
theorem dX9_print_30 : decode cX9_print 30 = .ok (.iand, 1) := by decide +kernel
theorem dX9_print_31 : decode cX9_print 31 = .ok (.istore 4, 2) := by decide +kernel
theorem dX9_print_33 : decode cX9_print 33 = .ok (.iload_n 1, 1) := by decide +kernel
theorem dX9_print_34 : decode cX9_print 34 = .ok (.bipush 15, 2) := by decide +kernel
theorem dX9_print_36 : decode cX9_print 36 = .ok (.iand, 1) := by decide +kernel
theorem dX9_print_37 : decode cX9_print 37 = .ok (.istore 5, 2) := by decide +kernel
theorem dX9_print_39 : decode cX9_print 39 = .ok (.iload_n 2, 1) := by decide +kernel
theorem dX9_print_40 : decode cX9_print 40 = .ok (.iload 4, 2) := by decide +kernel
theorem dX9_print_42 : decode cX9_print 42 = .ok (.if_icmp .gt 9, 3) := by decide +kernel
theorem dX9_print_45 : decode cX9_print 45 = .ok (.iload_n 3, 1) := by decide +kernel
theorem dX9_print_46 : decode cX9_print 46 = .ok (.iload 5, 2) := by decide +kernel
theorem dX9_print_48 : decode cX9_print 48 = .ok (.if_icmp .le 5, 3) := by decide +kernel
theorem dX9_print_51 : decode cX9_print 51 = .ok (.iconst (-1), 1) := by decide +kernel
theorem dX9_print_52 : decode cX9_print 52 = .ok (.ireturn, 1) := by decide +kernel
theorem dX9_print_53 : decode cX9_print 53 = .ok (.aload_n 0, 1) := by decide +kernel
theorem dX9_print_54 : decode cX9_print 54 = .ok (.getfield 131, 3) := by decide +kernel
theorem dX9_print_57 : decode cX9_print 57 = .ok (.bipush 24, 2) := by decide +kernel
theorem dX9_print_59 : decode cX9_print 59 = .ok (.if_icmp .ne 6, 3) := by decide +kernel
theorem dX9_print_62 : decode cX9_print 62 = .ok (.bipush (-2), 2) := by decide +kernel
theorem dX9_print_64 : decode cX9_print 64 = .ok (.ireturn, 1) := by decide +kernel
theorem dX9_print_65 : decode cX9_print 65 = .ok (.aload_n 0, 1) := by decide +kernel
theorem dX9_print_66 : decode cX9_print 66 = .ok (.getfield 131, 3) := by decide +kernel
theorem dX9_print_69 : decode cX9_print 69 = .ok (.istore 6, 2) := by decide +kernel
theorem dX9_print_71 : decode cX9_print 71 = .ok (.aload_n 0, 1) := by decide +kernel
theorem dX9_print_72 : decode cX9_print 72 = .ok (.getfield 35, 3) := by decide +kernel
theorem dX9_print_75 : decode cX9_print 75 = .ok (.iconst 4, 1) := by decide +kernel
theorem dX9_print_76 : decode cX9_print 76 = .ok (.iload 6, 2) := by decide +kernel
theorem dX9_print_78 : decode cX9_print 78 = .ok (.imul, 1) := by decide +kernel
theorem dX9_print_79 : decode cX9_print 79 = .ok (.iload_n 2, 1) := by decide +kernel
theorem dX9_print_80 : decode cX9_print 80 = .ok (.iastore, 1) := by decide +kernel
theorem dX9_print_81 : decode cX9_print 81 = .ok (.aload_n 0, 1) := by decide +kernel
theorem dX9_print_82 : decode cX9_print 82 = .ok (.getfield 35, 3) := by decide +kernel
theorem dX9_print_85 : decode cX9_print 85 = .ok (.iconst 4, 1) := by decide +kernel
theorem dX9_print_86 : decode cX9_print 86 = .ok (.iload 6, 2) := by decide +kernel
theorem dX9_print_88 : decode cX9_print 88 = .ok (.imul, 1) := by decide +kernel
theorem dX9_print_89 : decode cX9_print 89 = .ok (.iconst 1, 1) := by decide +kernel
theorem dX9_print_90 : decode cX9_print 90 = .ok (.iadd, 1) := by decide +kernel
theorem dX9_print_91 : decode cX9_print 91 = .ok (.iload_n 3, 1) := by decide +kernel
theorem dX9_print_92 : decode cX9_print 92 = .ok (.iastore, 1) := by decide +kernel
theorem dX9_print_93 : decode cX9_print 93 = .ok (.aload_n 0, 1) := by decide +kernel
theorem dX9_print_94 : decode cX9_print 94 = .ok (.getfield 35, 3) := by decide +kernel
theorem dX9_print_97 : decode cX9_print 97 = .ok (.iconst 4, 1) := by decide +kernel
theorem dX9_print_98 : decode cX9_print 98 = .ok (.iload 6, 2) := by decide +kernel
theorem dX9_print_100 : decode cX9_print 100 = .ok (.imul, 1) := by decide +kernel
theorem dX9_print_101 : decode cX9_print 101 = .ok (.iconst 2, 1) := by decide +kernel
theorem dX9_print_102 : decode cX9_print 102 = .ok (.iadd, 1) := by decide +kernel
theorem dX9_print_103 : decode cX9_print 103 = .ok (.iload 4, 2) := by decide +kernel
theorem dX9_print_105 : decode cX9_print 105 = .ok (.iastore, 1) := by decide +kernel
theorem dX9_print_106 : decode cX9_print 106 = .ok (.aload_n 0, 1) := by decide +kernel
theorem dX9_print_107 : decode cX9_print 107 = .ok (.getfield 35, 3) := by decide +kernel
theorem dX9_print_110 : decode cX9_print 110 = .ok (.iconst 4, 1) := by decide +kernel
theorem dX9_print_111 : decode cX9_print 111 = .ok (.iload 6, 2) := by decide +kernel
theorem dX9_print_113 : decode cX9_print 113 = .ok (.imul, 1) := by decide +kernel
theorem dX9_print_114 : decode cX9_print 114 = .ok (.iconst 3, 1) := by decide +kernel
theorem dX9_print_115 : decode cX9_print 115 = .ok (.iadd, 1) := by decide +kernel
theorem dX9_print_116 : decode cX9_print 116 = .ok (.iload 5, 2) := by decide +kernel
theorem dX9_print_118 : decode cX9_print 118 = .ok (.iastore, 1) := by decide +kernel
theorem dX9_print_119 : decode cX9_print 119 = .ok (.aload_n 0, 1) := by decide +kernel
theorem dX9_print_120 : decode cX9_print 120 = .ok (.invokevirtual 134, 3) := by decide +kernel
theorem dX9_print_123 : decode cX9_print 123 = .ok (.istore 7, 2) := by decide +kernel
theorem dX9_print_125 : decode cX9_print 125 = .ok (.aload_n 0, 1) := by decide +kernel
theorem dX9_print_126 : decode cX9_print 126 = .ok (.getfield 23, 3) := by decide +kernel
theorem dX9_print_129 : decode cX9_print 129 = .ok (.iload 6, 2) := by decide +kernel
theorem dX9_print_131 : decode cX9_print 131 = .ok (.iconst 0, 1) := by decide +kernel
theorem dX9_print_132 : decode cX9_print 132 = .ok (.iastore, 1) := by decide +kernel
theorem dX9_print_133 : decode cX9_print 133 = .ok (.iconst 0, 1) := by decide +kernel
theorem dX9_print_134 : decode cX9_print 134 = .ok (.istore 8, 2) := by decide +kernel
theorem dX9_print_264 : decode cX9_print 264 = .ok (.ireturn, 1) := by decide +kernel
noncomputable def vX9_print_1 (a1 : Int32) (σ : zc_N) : zc_N := (sX9_findPoints (zu σ 41 (zu (zu (zu (zu (σ 41) ((4 : Int32) * ((σ 32) 11)).toNatClampNeg (zshr a1 (12 : Int32))) (((4 : Int32) * ((σ 32) 11)) + (1 : Int32)).toNatClampNeg ((zshr a1 (8 : Int32)) &&& (15 : Int32))) (((4 : Int32) * ((σ 32) 11)) + (2 : Int32)).toNatClampNeg ((zshr a1 (4 : Int32)) &&& (15 : Int32))) (((4 : Int32) * ((σ 32) 11)) + (3 : Int32)).toNatClampNeg (a1 &&& (15 : Int32)))))
noncomputable def vX9_print_2 (a1 : Int32) (σ : zc_N) : Int32 := (rX9_findPoints (zu σ 41 (zu (zu (zu (zu (σ 41) ((4 : Int32) * ((σ 32) 11)).toNatClampNeg (zshr a1 (12 : Int32))) (((4 : Int32) * ((σ 32) 11)) + (1 : Int32)).toNatClampNeg ((zshr a1 (8 : Int32)) &&& (15 : Int32))) (((4 : Int32) * ((σ 32) 11)) + (2 : Int32)).toNatClampNeg ((zshr a1 (4 : Int32)) &&& (15 : Int32))) (((4 : Int32) * ((σ 32) 11)) + (3 : Int32)).toNatClampNeg (a1 &&& (15 : Int32)))))
noncomputable def vX9_print_3 (a1 : Int32) (σ : zc_N) : zc_N := (wX9_print_136 ((σ 32) 11) ((0 : Int32), (zu (vX9_print_1 a1 σ) 37 (zu ((vX9_print_1 a1 σ) 37) ((σ 32) 11).toNatClampNeg (0 : Int32))))).2
noncomputable def vX9_print_4 (a1 : Int32) (σ : zc_N) : Int32 := (wX9_print_136 ((σ 32) 11) ((0 : Int32), (zu (vX9_print_1 a1 σ) 37 (zu ((vX9_print_1 a1 σ) 37) ((σ 32) 11).toNatClampNeg (0 : Int32))))).1
noncomputable def vX9_print_5 (a1 : Int32) (σ : zc_N) : zc_N := (zu (zu (zu (zu (vX9_print_3 a1 σ) 38 (zu ((vX9_print_3 a1 σ) 38) (((12 : Int32) * ((σ 32) 11)) + (((vX9_print_3 a1 σ) 37) ((σ 32) 11).toNatClampNeg)).toNatClampNeg ((vX9_print_4 a1 σ) - (vX9_print_4 a1 σ) / (16 : Int32) * (16 : Int32)))) 39 (zu ((vX9_print_3 a1 σ) 39) (((12 : Int32) * ((σ 32) 11)) + (((vX9_print_3 a1 σ) 37) ((σ 32) 11).toNatClampNeg)).toNatClampNeg ((vX9_print_4 a1 σ) / (16 : Int32)))) 40 (zu ((vX9_print_3 a1 σ) 40) (((12 : Int32) * ((σ 32) 11)) + (((vX9_print_3 a1 σ) 37) ((σ 32) 11).toNatClampNeg)).toNatClampNeg (((vX9_print_3 a1 σ) 36) (vX9_print_4 a1 σ).toNatClampNeg))) 37 (zu ((vX9_print_3 a1 σ) 37) ((σ 32) 11).toNatClampNeg ((((vX9_print_3 a1 σ) 37) ((σ 32) 11).toNatClampNeg) + (1 : Int32))))
def pX9_print (σ : zc_N) (a1 : Int32) : Prop := (((rX9_within a1 (0 : Int32) (65535 : Int32)) = (0 : Int32) → True) ∧ (¬ (rX9_within a1 (0 : Int32) (65535 : Int32)) = (0 : Int32) → ((((zshr a1 (4 : Int32)) &&& (15 : Int32)) < (zshr a1 (12 : Int32)) → True) ∧ (¬ ((zshr a1 (4 : Int32)) &&& (15 : Int32)) < (zshr a1 (12 : Int32)) → ((((zshr a1 (8 : Int32)) &&& (15 : Int32)) ≤ (a1 &&& (15 : Int32)) → ((((σ 32) 11) = (24 : Int32) → True) ∧ (¬ ((σ 32) 11) = (24 : Int32) → (vp_in ((4 : Int32) * ((σ 32) 11)) 96 ∧ (vp_in (((4 : Int32) * ((σ 32) 11)) + (1 : Int32)) 96 ∧ (vp_in (((4 : Int32) * ((σ 32) 11)) + (2 : Int32)) 96 ∧ (vp_in (((4 : Int32) * ((σ 32) 11)) + (3 : Int32)) 96 ∧ ((pX9_findPoints (zu σ 41 (zu (zu (zu (zu (σ 41) ((4 : Int32) * ((σ 32) 11)).toNatClampNeg (zshr a1 (12 : Int32))) (((4 : Int32) * ((σ 32) 11)) + (1 : Int32)).toNatClampNeg ((zshr a1 (8 : Int32)) &&& (15 : Int32))) (((4 : Int32) * ((σ 32) 11)) + (2 : Int32)).toNatClampNeg ((zshr a1 (4 : Int32)) &&& (15 : Int32))) (((4 : Int32) * ((σ 32) 11)) + (3 : Int32)).toNatClampNeg (a1 &&& (15 : Int32))))) ∧ (vp_in ((σ 32) 11) 24 ∧ (((∃ n_ : Nat, (eX9_print_136 ((σ 32) 11)) (zit (fX9_print_136 ((σ 32) 11)) n_ ((0 : Int32), (zu (vX9_print_1 a1 σ) 37 (zu ((vX9_print_1 a1 σ) 37) ((σ 32) 11).toNatClampNeg (0 : Int32)))))) ∧ (∀ i136_ : Nat, i136_ < (zwn (fun n_ => (eX9_print_136 ((σ 32) 11)) (zit (fX9_print_136 ((σ 32) 11)) n_ ((0 : Int32), (zu (vX9_print_1 a1 σ) 37 (zu ((vX9_print_1 a1 σ) 37) ((σ 32) 11).toNatClampNeg (0 : Int32))))))) → qX9_print_136 ((σ 32) 11) (zit (fX9_print_136 ((σ 32) 11)) i136_ ((0 : Int32), (zu (vX9_print_1 a1 σ) 37 (zu ((vX9_print_1 a1 σ) 37) ((σ 32) 11).toNatClampNeg (0 : Int32))))))) ∧ (((256 : Int32) ≤ (vX9_print_4 a1 σ) → (vp_in ((σ 32) 11) 24 ∧ vp_in ((σ 32) 11) 24)) ∧ (¬ (256 : Int32) ≤ (vX9_print_4 a1 σ) → (vp_in ((σ 32) 11) 24 ∧ (((12 : Int32) ≤ (((vX9_print_3 a1 σ) 37) ((σ 32) 11).toNatClampNeg) → (vp_in ((σ 32) 11) 24 ∧ vp_in ((σ 32) 11) 24)) ∧ (¬ (12 : Int32) ≤ (((vX9_print_3 a1 σ) 37) ((σ 32) 11).toNatClampNeg) → (vp_in (vX9_print_4 a1 σ) 256 ∧ (((((vX9_print_3 a1 σ) 36) (vX9_print_4 a1 σ).toNatClampNeg) < (0 : Int32) → True) ∧ (¬ (((vX9_print_3 a1 σ) 36) (vX9_print_4 a1 σ).toNatClampNeg) < (0 : Int32) → (vp_in ((σ 32) 11) 24 ∧ (vp_in (((12 : Int32) * ((σ 32) 11)) + (((vX9_print_3 a1 σ) 37) ((σ 32) 11).toNatClampNeg)) 288 ∧ (vp_in (((12 : Int32) * ((σ 32) 11)) + (((vX9_print_3 a1 σ) 37) ((σ 32) 11).toNatClampNeg)) 288 ∧ (vp_in (vX9_print_4 a1 σ) 256 ∧ (vp_in (((12 : Int32) * ((σ 32) 11)) + (((vX9_print_3 a1 σ) 37) ((σ 32) 11).toNatClampNeg)) 288 ∧ (vp_in ((σ 32) 11) 24 ∧ vp_in ((σ 32) 11) 24)))))))))))))))))))))))) ∧ (¬ ((zshr a1 (8 : Int32)) &&& (15 : Int32)) ≤ (a1 &&& (15 : Int32)) → True))))))
noncomputable def rX9_print (σ : zc_N) (a1 : Int32) : Int32 := (if (rX9_within a1 (0 : Int32) (65535 : Int32)) = (0 : Int32) then (-1 : Int32) else (if ((zshr a1 (4 : Int32)) &&& (15 : Int32)) < (zshr a1 (12 : Int32)) then (-1 : Int32) else (if ((zshr a1 (8 : Int32)) &&& (15 : Int32)) ≤ (a1 &&& (15 : Int32)) then (if ((σ 32) 11) = (24 : Int32) then (-2 : Int32) else ((σ 32) 11)) else (-1 : Int32))))
noncomputable def sX9_print (σ : zc_N) (a1 : Int32) : zc_N := (if (rX9_within a1 (0 : Int32) (65535 : Int32)) = (0 : Int32) then σ else (if ((zshr a1 (4 : Int32)) &&& (15 : Int32)) < (zshr a1 (12 : Int32)) then σ else (if ((zshr a1 (8 : Int32)) &&& (15 : Int32)) ≤ (a1 &&& (15 : Int32)) then (if ((σ 32) 11) = (24 : Int32) then σ else (zu (zu (zu (vX9_print_3 a1 σ) 42 (zu ((vX9_print_3 a1 σ) 42) ((σ 32) 11).toNatClampNeg (-1 : Int32))) 43 (zu ((vX9_print_3 a1 σ) 43) ((σ 32) 11).toNatClampNeg (-1 : Int32))) 32 (zu ((vX9_print_3 a1 σ) 32) 11 ((((vX9_print_3 a1 σ) 32) 11) + (1 : Int32))))) else σ)))
set_option maxHeartbeats 1000000 in
theorem ctX9_print (P : zp) (σ : zc_N) (a1 : Int32) (W_ : (pX9_print σ a1)) : sp mX9_print 3 0 0 [.ref 32, .int a1] (hh P σ) (fun r_ h_ => r_ = some (.int (rX9_print σ a1)) ∧ h_ = hh P (sX9_print σ a1)) := by
  refine sp_of (lv := [some (.ref 32), some (.int a1), none, none, none, none, none, none, none, none]) (by decide) (zcats_ok _ rfl) (Nat.le_of_ble_eq_true rfl) (zlv_ok _ 8 rfl) (fun G => ?_)
  generalize hQ_ : (fun (r_ : Option Value) (h_ : zc_H) => r_ = some (.int (rX9_print σ a1)) ∧ h_ = hh P (sX9_print σ a1)) = Q_
  unfold pX9_print at W_
  refine z_iload_n dX9_print_0 rfl ?_
  refine z_iconst dX9_print_1 k_iconst_0 ?_
  refine z_ldc dX9_print_2 ck_X9_100 ?_
  refine z_callS (As := [.int a1, .int (0 : Int32), .int (65535 : Int32)]) (rest := []) (ctX9_within P σ a1 (0 : Int32) (65535 : Int32)) dX9_print_4 lk_X9_96 ls_X9_within rfl (Nat.le_of_ble_eq_true rfl) (Nat.le_of_ble_eq_true rfl) (Nat.le_of_ble_eq_true rfl) (Nat.le_of_ble_eq_true rfl) (fun r_ h_ e_ => ?_)
  obtain ⟨e1_, e2_⟩ := e_
  subst e1_
  subst e2_
  show zz G mX9_print 3 0 0 Q_ 7 [some (.ref 32), some (.int a1), none, none, none, none, none, none, none, none] [.int (rX9_within a1 (0 : Int32) (65535 : Int32))] (hh P σ) 0 0
  refine z_if_ne (tgt := 12) dX9_print_7 (by decide) (fun c_1 => ?_) (fun c_1 => ?_)
  · refine z_iload_n dX9_print_12 rfl ?_
    refine z_bipush dX9_print_13 k_bipush_12 ?_
    refine z_ishr (v := (zshr a1 (12 : Int32))) dX9_print_15 rfl ?_
    refine z_istore_n (lv' := [some (.ref 32), some (.int a1), some (.int (zshr a1 (12 : Int32))), none, none, none, none, none, none, none]) dX9_print_16 (Nat.le_of_ble_eq_true rfl) rfl ?_
    refine z_iload_n dX9_print_17 rfl ?_
    refine z_bipush dX9_print_18 k_bipush_8 ?_
    refine z_ishr (v := (zshr a1 (8 : Int32))) dX9_print_20 rfl ?_
    refine z_bipush dX9_print_21 k_bipush_15 ?_
    refine z_iand (v := ((zshr a1 (8 : Int32)) &&& (15 : Int32))) dX9_print_23 rfl ?_
    refine z_istore_n (lv' := [some (.ref 32), some (.int a1), some (.int (zshr a1 (12 : Int32))), some (.int ((zshr a1 (8 : Int32)) &&& (15 : Int32))), none, none, none, none, none, none]) dX9_print_24 (Nat.le_of_ble_eq_true rfl) rfl ?_
    refine z_iload_n dX9_print_25 rfl ?_
    refine z_iconst dX9_print_26 k_iconst_4 ?_
    refine z_ishr (v := (zshr a1 (4 : Int32))) dX9_print_27 rfl ?_
    refine z_bipush dX9_print_28 k_bipush_15 ?_
    refine z_iand (v := ((zshr a1 (4 : Int32)) &&& (15 : Int32))) dX9_print_30 rfl ?_
    refine z_istore (lv' := [some (.ref 32), some (.int a1), some (.int (zshr a1 (12 : Int32))), some (.int ((zshr a1 (8 : Int32)) &&& (15 : Int32))), some (.int ((zshr a1 (4 : Int32)) &&& (15 : Int32))), none, none, none, none, none]) dX9_print_31 (Nat.le_of_ble_eq_true rfl) rfl ?_
    refine z_iload_n dX9_print_33 rfl ?_
    refine z_bipush dX9_print_34 k_bipush_15 ?_
    refine z_iand (v := (a1 &&& (15 : Int32))) dX9_print_36 rfl ?_
    refine z_istore (lv' := [some (.ref 32), some (.int a1), some (.int (zshr a1 (12 : Int32))), some (.int ((zshr a1 (8 : Int32)) &&& (15 : Int32))), some (.int ((zshr a1 (4 : Int32)) &&& (15 : Int32))), some (.int (a1 &&& (15 : Int32))), none, none, none, none]) dX9_print_37 (Nat.le_of_ble_eq_true rfl) rfl ?_
    refine z_iload_n dX9_print_39 rfl ?_
    refine z_iload dX9_print_40 rfl ?_
    refine z_icmp_gt (tgt := 51) dX9_print_42 (by decide) (fun c_2 => ?_) (fun c_2 => ?_)
    · refine z_iconst dX9_print_51 k_iconst_m1 ?_
      exact z_ireturn dX9_print_52 rfl rfl (Nat.le_of_ble_eq_true rfl) (Nat.le_of_ble_eq_true rfl) (by rw [← hQ_]; exact ⟨(by rw [rX9_print]; try simp only [if_neg c_1, if_pos c_2]), (by rw [sX9_print]; try simp only [if_neg c_1, if_pos c_2])⟩)
    · refine z_iload_n dX9_print_45 rfl ?_
      refine z_iload dX9_print_46 rfl ?_
      refine z_icmp_le (tgt := 53) dX9_print_48 (by decide) (fun c_3 => ?_) (fun c_3 => ?_)
      · refine z_aloadr_n dX9_print_53 rfl ?_
        refine z_get (ci := 9) (r := (RX9, TX9, 38)) (j := 11) (v := .int ((σ 32) 11)) dX9_print_54 (Nat.le_of_ble_eq_true rfl) (zN rfl) rfl rfl (Nat.le_of_ble_eq_true rfl) fl_X9_131 rfl ?_
        refine z_bipush dX9_print_57 k_bipush_24 ?_
        refine z_icmp_ne (tgt := 65) dX9_print_59 (by decide) (fun c_4 => ?_) (fun c_4 => ?_)
        · refine z_aloadr_n dX9_print_65 rfl ?_
          refine z_get (ci := 9) (r := (RX9, TX9, 38)) (j := 11) (v := .int ((σ 32) 11)) dX9_print_66 (Nat.le_of_ble_eq_true rfl) (zN rfl) rfl rfl (Nat.le_of_ble_eq_true rfl) fl_X9_131 rfl ?_
          refine z_istore (lv' := [some (.ref 32), some (.int a1), some (.int (zshr a1 (12 : Int32))), some (.int ((zshr a1 (8 : Int32)) &&& (15 : Int32))), some (.int ((zshr a1 (4 : Int32)) &&& (15 : Int32))), some (.int (a1 &&& (15 : Int32))), some (.int ((σ 32) 11)), none, none, none]) dX9_print_69 (Nat.le_of_ble_eq_true rfl) rfl ?_
          refine z_aloadr_n dX9_print_71 rfl ?_
          refine z_get (ci := 9) (r := (RX9, TX9, 38)) (j := 8) (v := .ref 41) dX9_print_72 (Nat.le_of_ble_eq_true rfl) (zN rfl) rfl rfl (Nat.le_of_ble_eq_true rfl) fl_X9_35 rfl ?_
          refine z_iconst dX9_print_75 k_iconst_4 ?_
          refine z_iload dX9_print_76 rfl ?_
          refine z_imul (v := ((4 : Int32) * ((σ 32) 11))) dX9_print_78 rfl ?_
          refine z_iload_n dX9_print_79 rfl ?_
          refine z_iast (σ' := (zu σ 41 (zu (σ 41) ((4 : Int32) * ((σ 32) 11)).toNatClampNeg (zshr a1 (12 : Int32))))) dX9_print_80 (Nat.le_of_ble_eq_true rfl) (zN rfl) rfl (((((W_.2 c_1).2 c_2).1 c_3).2 c_4).1) rfl ?_
          refine z_aloadr_n dX9_print_81 rfl ?_
          refine z_get (ci := 9) (r := (RX9, TX9, 38)) (j := 8) (v := .ref 41) dX9_print_82 (Nat.le_of_ble_eq_true rfl) (zN rfl) rfl rfl (Nat.le_of_ble_eq_true rfl) fl_X9_35 rfl ?_
          refine z_iconst dX9_print_85 k_iconst_4 ?_
          refine z_iload dX9_print_86 rfl ?_
          refine z_imul (v := ((4 : Int32) * ((σ 32) 11))) dX9_print_88 rfl ?_
          refine z_iconst dX9_print_89 k_iconst_1 ?_
          refine z_iadd (v := (((4 : Int32) * ((σ 32) 11)) + (1 : Int32))) dX9_print_90 rfl ?_
          refine z_iload_n dX9_print_91 rfl ?_
          refine z_iast (σ' := (zu σ 41 (zu (zu (σ 41) ((4 : Int32) * ((σ 32) 11)).toNatClampNeg (zshr a1 (12 : Int32))) (((4 : Int32) * ((σ 32) 11)) + (1 : Int32)).toNatClampNeg ((zshr a1 (8 : Int32)) &&& (15 : Int32))))) dX9_print_92 (Nat.le_of_ble_eq_true rfl) (zN rfl) rfl (((((W_.2 c_1).2 c_2).1 c_3).2 c_4).2.1) ((congrArg (fun g_ => zu _ _ (zu g_ _ _)) (zu_self _ _ _)).trans (zu_zu _ _ _ _)) ?_
          refine z_aloadr_n dX9_print_93 rfl ?_
          refine z_get (ci := 9) (r := (RX9, TX9, 38)) (j := 8) (v := .ref 41) dX9_print_94 (Nat.le_of_ble_eq_true rfl) (zN rfl) rfl rfl (Nat.le_of_ble_eq_true rfl) fl_X9_35 rfl ?_
          refine z_iconst dX9_print_97 k_iconst_4 ?_
          refine z_iload dX9_print_98 rfl ?_
          refine z_imul (v := ((4 : Int32) * ((σ 32) 11))) dX9_print_100 rfl ?_
          refine z_iconst dX9_print_101 k_iconst_2 ?_
          refine z_iadd (v := (((4 : Int32) * ((σ 32) 11)) + (2 : Int32))) dX9_print_102 rfl ?_
          refine z_iload dX9_print_103 rfl ?_
          refine z_iast (σ' := (zu σ 41 (zu (zu (zu (σ 41) ((4 : Int32) * ((σ 32) 11)).toNatClampNeg (zshr a1 (12 : Int32))) (((4 : Int32) * ((σ 32) 11)) + (1 : Int32)).toNatClampNeg ((zshr a1 (8 : Int32)) &&& (15 : Int32))) (((4 : Int32) * ((σ 32) 11)) + (2 : Int32)).toNatClampNeg ((zshr a1 (4 : Int32)) &&& (15 : Int32))))) dX9_print_105 (Nat.le_of_ble_eq_true rfl) (zN rfl) rfl (((((W_.2 c_1).2 c_2).1 c_3).2 c_4).2.2.1) ((congrArg (fun g_ => zu _ _ (zu g_ _ _)) (zu_self _ _ _)).trans (zu_zu _ _ _ _)) ?_
          refine z_aloadr_n dX9_print_106 rfl ?_
          refine z_get (ci := 9) (r := (RX9, TX9, 38)) (j := 8) (v := .ref 41) dX9_print_107 (Nat.le_of_ble_eq_true rfl) (zN rfl) rfl rfl (Nat.le_of_ble_eq_true rfl) fl_X9_35 rfl ?_
          refine z_iconst dX9_print_110 k_iconst_4 ?_
          refine z_iload dX9_print_111 rfl ?_
          refine z_imul (v := ((4 : Int32) * ((σ 32) 11))) dX9_print_113 rfl ?_
          refine z_iconst dX9_print_114 k_iconst_3 ?_
          refine z_iadd (v := (((4 : Int32) * ((σ 32) 11)) + (3 : Int32))) dX9_print_115 rfl ?_
          refine z_iload dX9_print_116 rfl ?_
          refine z_iast (σ' := (zu σ 41 (zu (zu (zu (zu (σ 41) ((4 : Int32) * ((σ 32) 11)).toNatClampNeg (zshr a1 (12 : Int32))) (((4 : Int32) * ((σ 32) 11)) + (1 : Int32)).toNatClampNeg ((zshr a1 (8 : Int32)) &&& (15 : Int32))) (((4 : Int32) * ((σ 32) 11)) + (2 : Int32)).toNatClampNeg ((zshr a1 (4 : Int32)) &&& (15 : Int32))) (((4 : Int32) * ((σ 32) 11)) + (3 : Int32)).toNatClampNeg (a1 &&& (15 : Int32))))) dX9_print_118 (Nat.le_of_ble_eq_true rfl) (zN rfl) rfl (((((W_.2 c_1).2 c_2).1 c_3).2 c_4).2.2.2.1) ((congrArg (fun g_ => zu _ _ (zu g_ _ _)) (zu_self _ _ _)).trans (zu_zu _ _ _ _)) ?_
          refine z_aloadr_n dX9_print_119 rfl ?_
          refine z_callV (ci := 9) (r := (RX9, TX9, 38)) (b := 32) (As := []) (rest := []) (ctX9_findPoints P (zu σ 41 (zu (zu (zu (zu (σ 41) ((4 : Int32) * ((σ 32) 11)).toNatClampNeg (zshr a1 (12 : Int32))) (((4 : Int32) * ((σ 32) 11)) + (1 : Int32)).toNatClampNeg ((zshr a1 (8 : Int32)) &&& (15 : Int32))) (((4 : Int32) * ((σ 32) 11)) + (2 : Int32)).toNatClampNeg ((zshr a1 (4 : Int32)) &&& (15 : Int32))) (((4 : Int32) * ((σ 32) 11)) + (3 : Int32)).toNatClampNeg (a1 &&& (15 : Int32)))) (((((W_.2 c_1).2 c_2).1 c_3).2 c_4).2.2.2.2.1)) dX9_print_120 lk_X9_134 lv_X9_findPoints (Nat.le_of_ble_eq_true rfl) (zN rfl) rfl rfl rfl rfl (Nat.le_of_ble_eq_true rfl) (Nat.le_of_ble_eq_true rfl) (Nat.le_of_ble_eq_true rfl) (Nat.le_of_ble_eq_true rfl) (fun r_ h_ e_ => ?_)
          obtain ⟨e1_, e2_⟩ := e_
          subst e1_
          subst e2_
          show zz G mX9_print 3 0 0 Q_ 123 [some (.ref 32), some (.int a1), some (.int (zshr a1 (12 : Int32))), some (.int ((zshr a1 (8 : Int32)) &&& (15 : Int32))), some (.int ((zshr a1 (4 : Int32)) &&& (15 : Int32))), some (.int (a1 &&& (15 : Int32))), some (.int ((σ 32) 11)), none, none, none] [.int (rX9_findPoints (zu σ 41 (zu (zu (zu (zu (σ 41) ((4 : Int32) * ((σ 32) 11)).toNatClampNeg (zshr a1 (12 : Int32))) (((4 : Int32) * ((σ 32) 11)) + (1 : Int32)).toNatClampNeg ((zshr a1 (8 : Int32)) &&& (15 : Int32))) (((4 : Int32) * ((σ 32) 11)) + (2 : Int32)).toNatClampNeg ((zshr a1 (4 : Int32)) &&& (15 : Int32))) (((4 : Int32) * ((σ 32) 11)) + (3 : Int32)).toNatClampNeg (a1 &&& (15 : Int32)))))] (hh P (vX9_print_1 a1 σ)) 0 0
          refine z_istore (lv' := [some (.ref 32), some (.int a1), some (.int (zshr a1 (12 : Int32))), some (.int ((zshr a1 (8 : Int32)) &&& (15 : Int32))), some (.int ((zshr a1 (4 : Int32)) &&& (15 : Int32))), some (.int (a1 &&& (15 : Int32))), some (.int ((σ 32) 11)), some (.int (vX9_print_2 a1 σ)), none, none]) dX9_print_123 (Nat.le_of_ble_eq_true rfl) rfl ?_
          refine z_aloadr_n dX9_print_125 rfl ?_
          refine z_get (ci := 9) (r := (RX9, TX9, 38)) (j := 4) (v := .ref 37) dX9_print_126 (Nat.le_of_ble_eq_true rfl) (zN rfl) rfl rfl (Nat.le_of_ble_eq_true rfl) fl_X9_23 rfl ?_
          refine z_iload dX9_print_129 rfl ?_
          refine z_iconst dX9_print_131 k_iconst_0 ?_
          refine z_iast (σ' := (zu (vX9_print_1 a1 σ) 37 (zu ((vX9_print_1 a1 σ) 37) ((σ 32) 11).toNatClampNeg (0 : Int32)))) dX9_print_132 (Nat.le_of_ble_eq_true rfl) (zN rfl) rfl (((((W_.2 c_1).2 c_2).1 c_3).2 c_4).2.2.2.2.2.1) rfl ?_
          refine z_iconst dX9_print_133 k_iconst_0 ?_
          refine z_istore (lv' := [some (.ref 32), some (.int a1), some (.int (zshr a1 (12 : Int32))), some (.int ((zshr a1 (8 : Int32)) &&& (15 : Int32))), some (.int ((zshr a1 (4 : Int32)) &&& (15 : Int32))), some (.int (a1 &&& (15 : Int32))), some (.int ((σ 32) 11)), some (.int (vX9_print_2 a1 σ)), some (.int (0 : Int32)), none]) dX9_print_134 (Nat.le_of_ble_eq_true rfl) rfl ?_
          refine zz_sub (lv' := [some (.ref 32), none, none, none, none, none, some (.int ((σ 32) 11)), none, some (.int (0 : Int32)), none]) ⟨rfl, ⟨rfl, ⟨rfl, trivial⟩⟩⟩ ?_
          refine whX9_print_136 P (zu (vX9_print_1 a1 σ) 37 (zu ((vX9_print_1 a1 σ) 37) ((σ 32) 11).toNatClampNeg (0 : Int32))) ((σ 32) 11) (0 : Int32) (((((W_.2 c_1).2 c_2).1 c_3).2 c_4).2.2.2.2.2.2.1).1 (((((W_.2 c_1).2 c_2).1 c_3).2 c_4).2.2.2.2.2.2.1).2 (fun hX136_ => ?_)
          rw [eX9_print_136] at hX136_
          try dsimp only at hX136_
          show zz G mX9_print 3 0 0 Q_ 136 [some (.ref 32), none, none, none, none, none, some (.int ((σ 32) 11)), none, some (.int (vX9_print_4 a1 σ)), none] [] (hh P (vX9_print_3 a1 σ)) 0 0
          refine z_iload dX9_print_136 rfl ?_
          refine z_sipush dX9_print_138 k_sipush_256 ?_
          refine z_icmp_ge (tgt := 236) dX9_print_141 (by decide) (fun c_5 => ?_) (fun c_5 => ?_)
          · refine z_aloadr_n dX9_print_236 rfl ?_
            refine z_get (ci := 9) (r := (RX9, TX9, 38)) (j := 9) (v := .ref 42) dX9_print_237 (Nat.le_of_ble_eq_true rfl) (zN rfl) rfl rfl (Nat.le_of_ble_eq_true rfl) fl_X9_38 rfl ?_
            refine z_iload dX9_print_240 rfl ?_
            refine z_iconst dX9_print_242 k_iconst_m1 ?_
            refine z_iast (σ' := (zu (vX9_print_3 a1 σ) 42 (zu ((vX9_print_3 a1 σ) 42) ((σ 32) 11).toNatClampNeg (-1 : Int32)))) dX9_print_243 (Nat.le_of_ble_eq_true rfl) (zN rfl) rfl ((((((W_.2 c_1).2 c_2).1 c_3).2 c_4).2.2.2.2.2.2.2.1 c_5).1) rfl ?_
            refine z_aloadr_n dX9_print_244 rfl ?_
            refine z_get (ci := 9) (r := (RX9, TX9, 38)) (j := 10) (v := .ref 43) dX9_print_245 (Nat.le_of_ble_eq_true rfl) (zN rfl) rfl rfl (Nat.le_of_ble_eq_true rfl) fl_X9_41 rfl ?_
            refine z_iload dX9_print_248 rfl ?_
            refine z_iconst dX9_print_250 k_iconst_m1 ?_
            refine z_iast (σ' := (zu (zu (vX9_print_3 a1 σ) 42 (zu ((vX9_print_3 a1 σ) 42) ((σ 32) 11).toNatClampNeg (-1 : Int32))) 43 (zu ((vX9_print_3 a1 σ) 43) ((σ 32) 11).toNatClampNeg (-1 : Int32)))) dX9_print_251 (Nat.le_of_ble_eq_true rfl) (zN rfl) rfl ((((((W_.2 c_1).2 c_2).1 c_3).2 c_4).2.2.2.2.2.2.2.1 c_5).2) (congrArg (fun g_ => zu _ _ (zu g_ _ _)) (zu_ne _ _ (by decide))) ?_
            refine z_aloadr_n dX9_print_252 rfl ?_
            refine z_dup dX9_print_253 rfl ?_
            refine z_get (ci := 9) (r := (RX9, TX9, 38)) (j := 11) (v := .int (((vX9_print_3 a1 σ) 32) 11)) dX9_print_254 (Nat.le_of_ble_eq_true rfl) (zN rfl) rfl rfl (Nat.le_of_ble_eq_true rfl) fl_X9_131 (congrArg Value.int (congrFun ((zu_ne _ _ (by decide)).trans (zu_ne _ _ (by decide))) _)) ?_
            refine z_iconst dX9_print_257 k_iconst_1 ?_
            refine z_iadd (v := ((((vX9_print_3 a1 σ) 32) 11) + (1 : Int32))) dX9_print_258 rfl ?_
            refine z_put (ci := 9) (r := (RX9, TX9, 38)) (j := 11) (σ' := (zu (zu (zu (vX9_print_3 a1 σ) 42 (zu ((vX9_print_3 a1 σ) 42) ((σ 32) 11).toNatClampNeg (-1 : Int32))) 43 (zu ((vX9_print_3 a1 σ) 43) ((σ 32) 11).toNatClampNeg (-1 : Int32))) 32 (zu ((vX9_print_3 a1 σ) 32) 11 ((((vX9_print_3 a1 σ) 32) 11) + (1 : Int32))))) dX9_print_259 (Nat.le_of_ble_eq_true rfl) (zN rfl) rfl rfl (Nat.le_of_ble_eq_true rfl) fl_X9_131 rfl rfl rfl rfl (congrArg (fun g_ => zu _ _ (zu g_ _ _)) ((zu_ne _ _ (by decide)).trans (zu_ne _ _ (by decide)))) ?_
            refine z_iload dX9_print_262 rfl ?_
            exact z_ireturn dX9_print_264 rfl rfl (Nat.le_of_ble_eq_true rfl) (Nat.le_of_ble_eq_true rfl) (by rw [← hQ_]; exact ⟨(by rw [rX9_print]; try simp only [if_neg c_1, if_neg c_2, if_pos c_3, if_neg c_4, if_pos c_5]), (by rw [sX9_print]; try simp only [if_neg c_1, if_neg c_2, if_pos c_3, if_neg c_4, if_pos c_5])⟩)
          · refine z_aloadr_n dX9_print_144 rfl ?_
            refine z_get (ci := 9) (r := (RX9, TX9, 38)) (j := 4) (v := .ref 37) dX9_print_145 (Nat.le_of_ble_eq_true rfl) (zN rfl) rfl rfl (Nat.le_of_ble_eq_true rfl) fl_X9_23 rfl ?_
            refine z_iload dX9_print_148 rfl ?_
            refine z_iald (v := (((vX9_print_3 a1 σ) 37) ((σ 32) 11).toNatClampNeg)) dX9_print_150 (zN rfl) rfl ((((((W_.2 c_1).2 c_2).1 c_3).2 c_4).2.2.2.2.2.2.2.2 c_5).1) rfl ?_
            refine z_bipush dX9_print_151 k_bipush_12 ?_
            refine z_icmp_ge (tgt := 236) dX9_print_153 (by decide) (fun c_6 => ?_) (fun c_6 => ?_)
            · refine z_aloadr_n dX9_print_236 rfl ?_
              refine z_get (ci := 9) (r := (RX9, TX9, 38)) (j := 9) (v := .ref 42) dX9_print_237 (Nat.le_of_ble_eq_true rfl) (zN rfl) rfl rfl (Nat.le_of_ble_eq_true rfl) fl_X9_38 rfl ?_
              refine z_iload dX9_print_240 rfl ?_
              refine z_iconst dX9_print_242 k_iconst_m1 ?_
              refine z_iast (σ' := (zu (vX9_print_3 a1 σ) 42 (zu ((vX9_print_3 a1 σ) 42) ((σ 32) 11).toNatClampNeg (-1 : Int32)))) dX9_print_243 (Nat.le_of_ble_eq_true rfl) (zN rfl) rfl (((((((W_.2 c_1).2 c_2).1 c_3).2 c_4).2.2.2.2.2.2.2.2 c_5).2.1 c_6).1) rfl ?_
              refine z_aloadr_n dX9_print_244 rfl ?_
              refine z_get (ci := 9) (r := (RX9, TX9, 38)) (j := 10) (v := .ref 43) dX9_print_245 (Nat.le_of_ble_eq_true rfl) (zN rfl) rfl rfl (Nat.le_of_ble_eq_true rfl) fl_X9_41 rfl ?_
              refine z_iload dX9_print_248 rfl ?_
              refine z_iconst dX9_print_250 k_iconst_m1 ?_
              refine z_iast (σ' := (zu (zu (vX9_print_3 a1 σ) 42 (zu ((vX9_print_3 a1 σ) 42) ((σ 32) 11).toNatClampNeg (-1 : Int32))) 43 (zu ((vX9_print_3 a1 σ) 43) ((σ 32) 11).toNatClampNeg (-1 : Int32)))) dX9_print_251 (Nat.le_of_ble_eq_true rfl) (zN rfl) rfl (((((((W_.2 c_1).2 c_2).1 c_3).2 c_4).2.2.2.2.2.2.2.2 c_5).2.1 c_6).2) (congrArg (fun g_ => zu _ _ (zu g_ _ _)) (zu_ne _ _ (by decide))) ?_
              refine z_aloadr_n dX9_print_252 rfl ?_
              refine z_dup dX9_print_253 rfl ?_
              refine z_get (ci := 9) (r := (RX9, TX9, 38)) (j := 11) (v := .int (((vX9_print_3 a1 σ) 32) 11)) dX9_print_254 (Nat.le_of_ble_eq_true rfl) (zN rfl) rfl rfl (Nat.le_of_ble_eq_true rfl) fl_X9_131 (congrArg Value.int (congrFun ((zu_ne _ _ (by decide)).trans (zu_ne _ _ (by decide))) _)) ?_
              refine z_iconst dX9_print_257 k_iconst_1 ?_
              refine z_iadd (v := ((((vX9_print_3 a1 σ) 32) 11) + (1 : Int32))) dX9_print_258 rfl ?_
              refine z_put (ci := 9) (r := (RX9, TX9, 38)) (j := 11) (σ' := (zu (zu (zu (vX9_print_3 a1 σ) 42 (zu ((vX9_print_3 a1 σ) 42) ((σ 32) 11).toNatClampNeg (-1 : Int32))) 43 (zu ((vX9_print_3 a1 σ) 43) ((σ 32) 11).toNatClampNeg (-1 : Int32))) 32 (zu ((vX9_print_3 a1 σ) 32) 11 ((((vX9_print_3 a1 σ) 32) 11) + (1 : Int32))))) dX9_print_259 (Nat.le_of_ble_eq_true rfl) (zN rfl) rfl rfl (Nat.le_of_ble_eq_true rfl) fl_X9_131 rfl rfl rfl rfl (congrArg (fun g_ => zu _ _ (zu g_ _ _)) ((zu_ne _ _ (by decide)).trans (zu_ne _ _ (by decide)))) ?_
              refine z_iload dX9_print_262 rfl ?_
              exact z_ireturn dX9_print_264 rfl rfl (Nat.le_of_ble_eq_true rfl) (Nat.le_of_ble_eq_true rfl) (by rw [← hQ_]; exact ⟨(by rw [rX9_print]; try simp only [if_neg c_1, if_neg c_2, if_pos c_3, if_neg c_4, if_neg c_5, if_pos c_6]), (by rw [sX9_print]; try simp only [if_neg c_1, if_neg c_2, if_pos c_3, if_neg c_4, if_neg c_5, if_pos c_6])⟩)
            · refine z_aloadr_n dX9_print_156 rfl ?_
              refine z_get (ci := 9) (r := (RX9, TX9, 38)) (j := 3) (v := .ref 36) dX9_print_157 (Nat.le_of_ble_eq_true rfl) (zN rfl) rfl rfl (Nat.le_of_ble_eq_true rfl) fl_X9_19 rfl ?_
              refine z_iload dX9_print_160 rfl ?_
              refine z_iald (v := (((vX9_print_3 a1 σ) 36) (vX9_print_4 a1 σ).toNatClampNeg)) dX9_print_162 (zN rfl) rfl (((((((W_.2 c_1).2 c_2).1 c_3).2 c_4).2.2.2.2.2.2.2.2 c_5).2.2 c_6).1) rfl ?_
              refine z_if_lt (tgt := 230) dX9_print_163 (by decide) (fun c_7 => ?_) (fun c_7 => ?_)
              · refine z_iinc (v := ((vX9_print_4 a1 σ) + (1 : Int32))) (lv' := [some (.ref 32), none, none, none, none, none, some (.int ((σ 32) 11)), none, some (.int ((vX9_print_4 a1 σ) + (1 : Int32))), none]) dX9_print_230 (Nat.le_of_ble_eq_true rfl) rfl (by rw [k_iconst_1]) rfl ?_
                refine z_goto (tgt := 136) dX9_print_233 (by decide) ?_
                exact (ex_l (ex_r (ex_r hX136_ c_5) c_6) c_7).elim
              · refine z_bipush dX9_print_166 k_bipush_12 ?_
                refine z_iload dX9_print_168 rfl ?_
                refine z_imul (v := ((12 : Int32) * ((σ 32) 11))) dX9_print_170 rfl ?_
                refine z_aloadr_n dX9_print_171 rfl ?_
                refine z_get (ci := 9) (r := (RX9, TX9, 38)) (j := 4) (v := .ref 37) dX9_print_172 (Nat.le_of_ble_eq_true rfl) (zN rfl) rfl rfl (Nat.le_of_ble_eq_true rfl) fl_X9_23 rfl ?_
                refine z_iload dX9_print_175 rfl ?_
                refine z_iald (v := (((vX9_print_3 a1 σ) 37) ((σ 32) 11).toNatClampNeg)) dX9_print_177 (zN rfl) rfl ((((((((W_.2 c_1).2 c_2).1 c_3).2 c_4).2.2.2.2.2.2.2.2 c_5).2.2 c_6).2.2 c_7).1) rfl ?_
                refine z_iadd (v := (((12 : Int32) * ((σ 32) 11)) + (((vX9_print_3 a1 σ) 37) ((σ 32) 11).toNatClampNeg))) dX9_print_178 rfl ?_
                refine z_istore (lv' := [some (.ref 32), none, none, none, none, none, some (.int ((σ 32) 11)), none, some (.int (vX9_print_4 a1 σ)), some (.int (((12 : Int32) * ((σ 32) 11)) + (((vX9_print_3 a1 σ) 37) ((σ 32) 11).toNatClampNeg)))]) dX9_print_179 (Nat.le_of_ble_eq_true rfl) rfl ?_
                refine z_aloadr_n dX9_print_181 rfl ?_
                refine z_get (ci := 9) (r := (RX9, TX9, 38)) (j := 5) (v := .ref 38) dX9_print_182 (Nat.le_of_ble_eq_true rfl) (zN rfl) rfl rfl (Nat.le_of_ble_eq_true rfl) fl_X9_26 rfl ?_
                refine z_iload dX9_print_185 rfl ?_
                refine z_iload dX9_print_187 rfl ?_
                refine z_bipush dX9_print_189 k_bipush_16 ?_
                refine z_irem (v := ((vX9_print_4 a1 σ) - (vX9_print_4 a1 σ) / (16 : Int32) * (16 : Int32))) dX9_print_191 (by decide) rfl ?_
                refine z_iast (σ' := (zu (vX9_print_3 a1 σ) 38 (zu ((vX9_print_3 a1 σ) 38) (((12 : Int32) * ((σ 32) 11)) + (((vX9_print_3 a1 σ) 37) ((σ 32) 11).toNatClampNeg)).toNatClampNeg ((vX9_print_4 a1 σ) - (vX9_print_4 a1 σ) / (16 : Int32) * (16 : Int32))))) dX9_print_192 (Nat.le_of_ble_eq_true rfl) (zN rfl) rfl ((((((((W_.2 c_1).2 c_2).1 c_3).2 c_4).2.2.2.2.2.2.2.2 c_5).2.2 c_6).2.2 c_7).2.1) rfl ?_
                refine z_aloadr_n dX9_print_193 rfl ?_
                refine z_get (ci := 9) (r := (RX9, TX9, 38)) (j := 6) (v := .ref 39) dX9_print_194 (Nat.le_of_ble_eq_true rfl) (zN rfl) rfl rfl (Nat.le_of_ble_eq_true rfl) fl_X9_29 rfl ?_
                refine z_iload dX9_print_197 rfl ?_
                refine z_iload dX9_print_199 rfl ?_
                refine z_bipush dX9_print_201 k_bipush_16 ?_
                refine z_idiv (v := ((vX9_print_4 a1 σ) / (16 : Int32))) dX9_print_203 (by decide) rfl ?_
                refine z_iast (σ' := (zu (zu (vX9_print_3 a1 σ) 38 (zu ((vX9_print_3 a1 σ) 38) (((12 : Int32) * ((σ 32) 11)) + (((vX9_print_3 a1 σ) 37) ((σ 32) 11).toNatClampNeg)).toNatClampNeg ((vX9_print_4 a1 σ) - (vX9_print_4 a1 σ) / (16 : Int32) * (16 : Int32)))) 39 (zu ((vX9_print_3 a1 σ) 39) (((12 : Int32) * ((σ 32) 11)) + (((vX9_print_3 a1 σ) 37) ((σ 32) 11).toNatClampNeg)).toNatClampNeg ((vX9_print_4 a1 σ) / (16 : Int32))))) dX9_print_204 (Nat.le_of_ble_eq_true rfl) (zN rfl) rfl ((((((((W_.2 c_1).2 c_2).1 c_3).2 c_4).2.2.2.2.2.2.2.2 c_5).2.2 c_6).2.2 c_7).2.2.1) (congrArg (fun g_ => zu _ _ (zu g_ _ _)) (zu_ne _ _ (by decide))) ?_
                refine z_aloadr_n dX9_print_205 rfl ?_
                refine z_get (ci := 9) (r := (RX9, TX9, 38)) (j := 7) (v := .ref 40) dX9_print_206 (Nat.le_of_ble_eq_true rfl) (zN rfl) rfl rfl (Nat.le_of_ble_eq_true rfl) fl_X9_32 rfl ?_
                refine z_iload dX9_print_209 rfl ?_
                refine z_aloadr_n dX9_print_211 rfl ?_
                refine z_get (ci := 9) (r := (RX9, TX9, 38)) (j := 3) (v := .ref 36) dX9_print_212 (Nat.le_of_ble_eq_true rfl) (zN rfl) rfl rfl (Nat.le_of_ble_eq_true rfl) fl_X9_19 rfl ?_
                refine z_iload dX9_print_215 rfl ?_
                refine z_iald (v := (((vX9_print_3 a1 σ) 36) (vX9_print_4 a1 σ).toNatClampNeg)) dX9_print_217 (zN rfl) rfl ((((((((W_.2 c_1).2 c_2).1 c_3).2 c_4).2.2.2.2.2.2.2.2 c_5).2.2 c_6).2.2 c_7).2.2.2.1) (congrFun ((zu_ne _ _ (by decide)).trans (zu_ne _ _ (by decide))) _) ?_
                refine z_iast (σ' := (zu (zu (zu (vX9_print_3 a1 σ) 38 (zu ((vX9_print_3 a1 σ) 38) (((12 : Int32) * ((σ 32) 11)) + (((vX9_print_3 a1 σ) 37) ((σ 32) 11).toNatClampNeg)).toNatClampNeg ((vX9_print_4 a1 σ) - (vX9_print_4 a1 σ) / (16 : Int32) * (16 : Int32)))) 39 (zu ((vX9_print_3 a1 σ) 39) (((12 : Int32) * ((σ 32) 11)) + (((vX9_print_3 a1 σ) 37) ((σ 32) 11).toNatClampNeg)).toNatClampNeg ((vX9_print_4 a1 σ) / (16 : Int32)))) 40 (zu ((vX9_print_3 a1 σ) 40) (((12 : Int32) * ((σ 32) 11)) + (((vX9_print_3 a1 σ) 37) ((σ 32) 11).toNatClampNeg)).toNatClampNeg (((vX9_print_3 a1 σ) 36) (vX9_print_4 a1 σ).toNatClampNeg)))) dX9_print_218 (Nat.le_of_ble_eq_true rfl) (zN rfl) rfl ((((((((W_.2 c_1).2 c_2).1 c_3).2 c_4).2.2.2.2.2.2.2.2 c_5).2.2 c_6).2.2 c_7).2.2.2.2.1) (congrArg (fun g_ => zu _ _ (zu g_ _ _)) ((zu_ne _ _ (by decide)).trans (zu_ne _ _ (by decide)))) ?_
                refine z_aloadr_n dX9_print_219 rfl ?_
                refine z_get (ci := 9) (r := (RX9, TX9, 38)) (j := 4) (v := .ref 37) dX9_print_220 (Nat.le_of_ble_eq_true rfl) (zN rfl) rfl rfl (Nat.le_of_ble_eq_true rfl) fl_X9_23 rfl ?_
                refine z_iload dX9_print_223 rfl ?_
                refine z_dup2 dX9_print_225 rfl rfl ?_
                refine z_iald (v := (((vX9_print_3 a1 σ) 37) ((σ 32) 11).toNatClampNeg)) dX9_print_226 (zN rfl) rfl ((((((((W_.2 c_1).2 c_2).1 c_3).2 c_4).2.2.2.2.2.2.2.2 c_5).2.2 c_6).2.2 c_7).2.2.2.2.2.1) (congrFun ((zu_ne _ _ (by decide)).trans ((zu_ne _ _ (by decide)).trans (zu_ne _ _ (by decide)))) _) ?_
                refine z_iconst dX9_print_227 k_iconst_1 ?_
                refine z_iadd (v := ((((vX9_print_3 a1 σ) 37) ((σ 32) 11).toNatClampNeg) + (1 : Int32))) dX9_print_228 rfl ?_
                refine z_iast (σ' := (zu (zu (zu (zu (vX9_print_3 a1 σ) 38 (zu ((vX9_print_3 a1 σ) 38) (((12 : Int32) * ((σ 32) 11)) + (((vX9_print_3 a1 σ) 37) ((σ 32) 11).toNatClampNeg)).toNatClampNeg ((vX9_print_4 a1 σ) - (vX9_print_4 a1 σ) / (16 : Int32) * (16 : Int32)))) 39 (zu ((vX9_print_3 a1 σ) 39) (((12 : Int32) * ((σ 32) 11)) + (((vX9_print_3 a1 σ) 37) ((σ 32) 11).toNatClampNeg)).toNatClampNeg ((vX9_print_4 a1 σ) / (16 : Int32)))) 40 (zu ((vX9_print_3 a1 σ) 40) (((12 : Int32) * ((σ 32) 11)) + (((vX9_print_3 a1 σ) 37) ((σ 32) 11).toNatClampNeg)).toNatClampNeg (((vX9_print_3 a1 σ) 36) (vX9_print_4 a1 σ).toNatClampNeg))) 37 (zu ((vX9_print_3 a1 σ) 37) ((σ 32) 11).toNatClampNeg ((((vX9_print_3 a1 σ) 37) ((σ 32) 11).toNatClampNeg) + (1 : Int32))))) dX9_print_229 (Nat.le_of_ble_eq_true rfl) (zN rfl) rfl ((((((((W_.2 c_1).2 c_2).1 c_3).2 c_4).2.2.2.2.2.2.2.2 c_5).2.2 c_6).2.2 c_7).2.2.2.2.2.2) (congrArg (fun g_ => zu _ _ (zu g_ _ _)) ((zu_ne _ _ (by decide)).trans ((zu_ne _ _ (by decide)).trans (zu_ne _ _ (by decide))))) ?_
                show zz G mX9_print 3 0 0 Q_ 230 [some (.ref 32), none, none, none, none, none, some (.int ((σ 32) 11)), none, some (.int (vX9_print_4 a1 σ)), some (.int (((12 : Int32) * ((σ 32) 11)) + (((vX9_print_3 a1 σ) 37) ((σ 32) 11).toNatClampNeg)))] [] (hh P (vX9_print_5 a1 σ)) 0 0
                refine z_iinc (v := ((vX9_print_4 a1 σ) + (1 : Int32))) (lv' := [some (.ref 32), none, none, none, none, none, some (.int ((σ 32) 11)), none, some (.int ((vX9_print_4 a1 σ) + (1 : Int32))), some (.int (((12 : Int32) * ((σ 32) 11)) + (((vX9_print_3 a1 σ) 37) ((σ 32) 11).toNatClampNeg)))]) dX9_print_230 (Nat.le_of_ble_eq_true rfl) rfl (by rw [k_iconst_1]) rfl ?_
                refine z_goto (tgt := 136) dX9_print_233 (by decide) ?_
                exact (ex_r (ex_r (ex_r hX136_ c_5) c_6) c_7).elim
        · refine z_bipush dX9_print_62 k_bipush_m2 ?_
          exact z_ireturn dX9_print_64 rfl rfl (Nat.le_of_ble_eq_true rfl) (Nat.le_of_ble_eq_true rfl) (by rw [← hQ_]; exact ⟨(by rw [rX9_print]; try simp only [if_neg c_1, if_neg c_2, if_pos c_3, if_pos c_4]), (by rw [sX9_print]; try simp only [if_neg c_1, if_neg c_2, if_pos c_3, if_pos c_4])⟩)
      · refine z_iconst dX9_print_51 k_iconst_m1 ?_
        exact z_ireturn dX9_print_52 rfl rfl (Nat.le_of_ble_eq_true rfl) (Nat.le_of_ble_eq_true rfl) (by rw [← hQ_]; exact ⟨(by rw [rX9_print]; try simp only [if_neg c_1, if_neg c_2, if_neg c_3]), (by rw [sX9_print]; try simp only [if_neg c_1, if_neg c_2, if_neg c_3])⟩)
  · refine z_iconst dX9_print_10 k_iconst_m1 ?_
    exact z_ireturn dX9_print_11 rfl rfl (Nat.le_of_ble_eq_true rfl) (Nat.le_of_ble_eq_true rfl) (by rw [← hQ_]; exact ⟨(by rw [rX9_print]; try simp only [if_pos c_1]), (by rw [sX9_print]; try simp only [if_pos c_1])⟩)

theorem dX9_pieces_13 : decode cX9_pieces 13 = .ok (.iload_n 2, 1) := by decide +kernel
theorem dX9_pieces_14 : decode cX9_pieces 14 = .ok (.sipush 256, 3) := by decide +kernel
theorem dX9_pieces_17 : decode cX9_pieces 17 = .ok (.if_icmp .ge 16, 3) := by decide +kernel
theorem dX9_pieces_20 : decode cX9_pieces 20 = .ok (.aload_n 0, 1) := by decide +kernel
theorem dX9_pieces_21 : decode cX9_pieces 21 = .ok (.getfield 13, 3) := by decide +kernel
theorem dX9_pieces_24 : decode cX9_pieces 24 = .ok (.iload_n 2, 1) := by decide +kernel
theorem dX9_pieces_25 : decode cX9_pieces 25 = .ok (.iconst 0, 1) := by decide +kernel
theorem dX9_pieces_26 : decode cX9_pieces 26 = .ok (.bastore, 1) := by decide +kernel
theorem dX9_pieces_27 : decode cX9_pieces 27 = .ok (.iinc 2 1, 3) := by decide +kernel
theorem dX9_pieces_30 : decode cX9_pieces 30 = .ok (.goto (-17), 3) := by decide +kernel
theorem dX9_pieces_33 : decode cX9_pieces 33 = .ok (.iload_n 1, 1) := by decide +kernel
theorem dX9_pieces_37 : decode cX9_pieces 37 = .ok (.iconst 1, 1) := by decide +kernel
theorem dX9_pieces_38 : decode cX9_pieces 38 = .ok (.goto 4, 3) := by decide +kernel
theorem dX9_pieces_41 : decode cX9_pieces 41 = .ok (.iconst 0, 1) := by decide +kernel
theorem dX9_pieces_42 : decode cX9_pieces 42 = .ok (.istore_n 2, 1) := by decide +kernel
theorem dX9_pieces_43 : decode cX9_pieces 43 = .ok (.iconst 0, 1) := by decide +kernel
theorem dX9_pieces_44 : decode cX9_pieces 44 = .ok (.istore_n 3, 1) := by decide +kernel
noncomputable def fX9_pieces_13 (i_ : Nat) (a_ : zc_N) : zc_N := (zu a_ 34 (zu (a_ 34) (nI i_).toNatClampNeg (0 : Int32)))
set_option maxHeartbeats 2000000 in
theorem lpX9_pieces_13 {G : zc_G} {Q : Option Value → zc_H → Prop} (P : zp) (σ : zc_N) (l1 : Int32)
    (W2_ : zz G mX9_pieces 3 0 0 Q 33 [some (.ref 32), some (.int l1), none, none, none] [] (hh P (zfor fX9_pieces_13 256 σ)) 0 0) :
    zz G mX9_pieces 3 0 0 Q 13 [some (.ref 32), some (.int l1), some (.int (nI 0)), none, none] [] (hh P σ) 0 0 := by
  refine zfor_nI (fun i_ a_ => zz G mX9_pieces 3 0 0 Q 13 [some (.ref 32), some (.int l1), some (.int i_), none, none] [] (hh P a_) 0 0) fX9_pieces_13 256 σ (fun i_ hi_ k_ => ?_) ?_
  · generalize zfor fX9_pieces_13 i_ σ = g_ at k_ ⊢
    rw [fX9_pieces_13] at k_
    refine z_iload_n dX9_pieces_13 rfl ?_
    refine z_sipush dX9_pieces_14 k_sipush_256 ?_
    refine z_icmp_ge (tgt := 33) dX9_pieces_17 (by decide) (fun c_ => absurd c_ (nI_ge hi_ (by decide))) (fun c_ => ?_)
    refine z_aloadr_n dX9_pieces_20 rfl ?_
    refine z_get (ci := 9) (r := (RX9, TX9, 38)) (j := 1) (v := .ref 34) dX9_pieces_21 (Nat.le_of_ble_eq_true rfl) (zN rfl) rfl rfl (Nat.le_of_ble_eq_true rfl) fl_X9_13 rfl ?_
    refine z_iload_n dX9_pieces_24 rfl ?_
    refine z_iconst dX9_pieces_25 k_iconst_0 ?_
    refine z_bast (σ' := (zu g_ 34 (zu (g_ 34) (nI i_).toNatClampNeg (0 : Int32)))) dX9_pieces_26 (Nat.le_of_ble_eq_true rfl) (zN rfl) rfl (vp_in_nI (Nat.lt_of_lt_of_le hi_ (Nat.le_of_ble_eq_true rfl)) (by decide)) rfl rfl ?_
    refine z_iinc (v := ((nI i_) + (1 : Int32))) (lv' := [some (.ref 32), some (.int l1), some (.int ((nI i_) + (1 : Int32))), none, none]) dX9_pieces_27 (Nat.le_of_ble_eq_true rfl) rfl (by rw [k_iconst_1]) rfl ?_
    refine z_goto (tgt := 13) dX9_pieces_30 (by decide) ?_
    rw [nI_1]
    exact k_
  · generalize zfor fX9_pieces_13 256 σ = g_ at W2_ ⊢
    refine z_iload_n dX9_pieces_13 rfl ?_
    refine z_sipush dX9_pieces_14 k_sipush_256 ?_
    refine z_icmp_ge (tgt := 33) dX9_pieces_17 (by decide) (fun c_ => ?_) (fun c_ => absurd (by decide) c_)
    exact zz_sub (lv' := [some (.ref 32), some (.int l1), none, none, none]) ⟨rfl, ⟨rfl, trivial⟩⟩ W2_

theorem dX9_pieces_45 : decode cX9_pieces 45 = .ok (.iload_n 3, 1) := by decide +kernel
theorem dX9_pieces_46 : decode cX9_pieces 46 = .ok (.sipush 256, 3) := by decide +kernel
theorem dX9_pieces_49 : decode cX9_pieces 49 = .ok (.if_icmp .ge 81, 3) := by decide +kernel
theorem dX9_pieces_52 : decode cX9_pieces 52 = .ok (.iload_n 2, 1) := by decide +kernel
theorem dX9_pieces_53 : decode cX9_pieces 53 = .ok (.ifCond .ne 77, 3) := by decide +kernel
theorem dX9_pieces_56 : decode cX9_pieces 56 = .ok (.iload_n 3, 1) := by decide +kernel
theorem dX9_pieces_57 : decode cX9_pieces 57 = .ok (.bipush 16, 2) := by decide +kernel
theorem dX9_pieces_59 : decode cX9_pieces 59 = .ok (.irem, 1) := by decide +kernel
theorem dX9_pieces_60 : decode cX9_pieces 60 = .ok (.ifCond .eq 28, 3) := by decide +kernel
theorem dX9_pieces_63 : decode cX9_pieces 63 = .ok (.iload_n 3, 1) := by decide +kernel
theorem dX9_pieces_64 : decode cX9_pieces 64 = .ok (.bipush 16, 2) := by decide +kernel
theorem dX9_pieces_66 : decode cX9_pieces 66 = .ok (.irem, 1) := by decide +kernel
theorem dX9_pieces_67 : decode cX9_pieces 67 = .ok (.bipush 15, 2) := by decide +kernel
theorem dX9_pieces_69 : decode cX9_pieces 69 = .ok (.if_icmp .eq 19, 3) := by decide +kernel
theorem dX9_pieces_72 : decode cX9_pieces 72 = .ok (.iload_n 3, 1) := by decide +kernel
theorem dX9_pieces_73 : decode cX9_pieces 73 = .ok (.bipush 16, 2) := by decide +kernel
theorem dX9_pieces_75 : decode cX9_pieces 75 = .ok (.idiv, 1) := by decide +kernel
theorem dX9_pieces_76 : decode cX9_pieces 76 = .ok (.ifCond .eq 12, 3) := by decide +kernel
theorem dX9_pieces_79 : decode cX9_pieces 79 = .ok (.iload_n 3, 1) := by decide +kernel
theorem dX9_pieces_80 : decode cX9_pieces 80 = .ok (.bipush 16, 2) := by decide +kernel
theorem dX9_pieces_82 : decode cX9_pieces 82 = .ok (.idiv, 1) := by decide +kernel
theorem dX9_pieces_83 : decode cX9_pieces 83 = .ok (.bipush 15, 2) := by decide +kernel
theorem dX9_pieces_85 : decode cX9_pieces 85 = .ok (.if_icmp .ne 7, 3) := by decide +kernel
theorem dX9_pieces_88 : decode cX9_pieces 88 = .ok (.iconst 1, 1) := by decide +kernel
theorem dX9_pieces_89 : decode cX9_pieces 89 = .ok (.goto 4, 3) := by decide +kernel
theorem dX9_pieces_92 : decode cX9_pieces 92 = .ok (.iconst 0, 1) := by decide +kernel
theorem dX9_pieces_93 : decode cX9_pieces 93 = .ok (.istore 4, 2) := by decide +kernel
theorem dX9_pieces_95 : decode cX9_pieces 95 = .ok (.iload 4, 2) := by decide +kernel
theorem dX9_pieces_97 : decode cX9_pieces 97 = .ok (.ifCond .eq 27, 3) := by decide +kernel
theorem dX9_pieces_100 : decode cX9_pieces 100 = .ok (.aload_n 0, 1) := by decide +kernel
theorem dX9_pieces_101 : decode cX9_pieces 101 = .ok (.getfield 9, 3) := by decide +kernel
theorem dX9_pieces_104 : decode cX9_pieces 104 = .ok (.iload_n 3, 1) := by decide +kernel
theorem dX9_pieces_105 : decode cX9_pieces 105 = .ok (.baload, 1) := by decide +kernel
theorem dX9_pieces_106 : decode cX9_pieces 106 = .ok (.ifCond .ne 18, 3) := by decide +kernel
theorem dX9_pieces_109 : decode cX9_pieces 109 = .ok (.aload_n 0, 1) := by decide +kernel
theorem dX9_pieces_110 : decode cX9_pieces 110 = .ok (.getfield 13, 3) := by decide +kernel
theorem dX9_pieces_113 : decode cX9_pieces 113 = .ok (.iload_n 3, 1) := by decide +kernel
theorem dX9_pieces_114 : decode cX9_pieces 114 = .ok (.baload, 1) := by decide +kernel
theorem dX9_pieces_115 : decode cX9_pieces 115 = .ok (.ifCond .ne 9, 3) := by decide +kernel
theorem dX9_pieces_118 : decode cX9_pieces 118 = .ok (.aload_n 0, 1) := by decide +kernel
theorem dX9_pieces_119 : decode cX9_pieces 119 = .ok (.iload_n 3, 1) := by decide +kernel
theorem dX9_pieces_120 : decode cX9_pieces 120 = .ok (.iconst 0, 1) := by decide +kernel
theorem dX9_pieces_121 : decode cX9_pieces 121 = .ok (.invokevirtual 127, 3) := by decide +kernel
theorem dX9_pieces_124 : decode cX9_pieces 124 = .ok (.iinc 3 1, 3) := by decide +kernel
theorem dX9_pieces_127 : decode cX9_pieces 127 = .ok (.goto (-82), 3) := by decide +kernel
theorem dX9_pieces_130 : decode cX9_pieces 130 = .ok (.iconst 0, 1) := by decide +kernel
theorem dX9_pieces_131 : decode cX9_pieces 131 = .ok (.istore_n 3, 1) := by decide +kernel
theorem dX9_pieces_132 : decode cX9_pieces 132 = .ok (.iconst 0, 1) := by decide +kernel
theorem dX9_pieces_133 : decode cX9_pieces 133 = .ok (.istore 4, 2) := by decide +kernel
noncomputable def fX9_pieces_45 (a_ : Int32 × zc_N) : Int32 × zc_N := ((a_.1 + (1 : Int32)), (if (if (a_.1 - a_.1 / (16 : Int32) * (16 : Int32)) = (0 : Int32) then (1 : Int32) else (if (a_.1 - a_.1 / (16 : Int32) * (16 : Int32)) = (15 : Int32) then (1 : Int32) else (if (a_.1 / (16 : Int32)) = (0 : Int32) then (1 : Int32) else (if (a_.1 / (16 : Int32)) = (15 : Int32) then (1 : Int32) else (0 : Int32))))) = (0 : Int32) then a_.2 else (if ((a_.2 33) a_.1.toNatClampNeg) = (0 : Int32) then (if ((a_.2 34) a_.1.toNatClampNeg) = (0 : Int32) then (sX9_spread a_.2 a_.1 (0 : Int32)) else a_.2) else a_.2)))
def eX9_pieces_45 (l2 : Int32) (a_ : Int32 × zc_N) : Prop := (((256 : Int32) ≤ a_.1 ∧ True) ∨ (¬ (256 : Int32) ≤ a_.1 ∧ ((l2 = (0 : Int32) ∧ (((if (a_.1 - a_.1 / (16 : Int32) * (16 : Int32)) = (0 : Int32) then (1 : Int32) else (if (a_.1 - a_.1 / (16 : Int32) * (16 : Int32)) = (15 : Int32) then (1 : Int32) else (if (a_.1 / (16 : Int32)) = (0 : Int32) then (1 : Int32) else (if (a_.1 / (16 : Int32)) = (15 : Int32) then (1 : Int32) else (0 : Int32))))) = (0 : Int32) ∧ False) ∨ (¬ (if (a_.1 - a_.1 / (16 : Int32) * (16 : Int32)) = (0 : Int32) then (1 : Int32) else (if (a_.1 - a_.1 / (16 : Int32) * (16 : Int32)) = (15 : Int32) then (1 : Int32) else (if (a_.1 / (16 : Int32)) = (0 : Int32) then (1 : Int32) else (if (a_.1 / (16 : Int32)) = (15 : Int32) then (1 : Int32) else (0 : Int32))))) = (0 : Int32) ∧ ((((a_.2 33) a_.1.toNatClampNeg) = (0 : Int32) ∧ ((((a_.2 34) a_.1.toNatClampNeg) = (0 : Int32) ∧ False) ∨ (¬ ((a_.2 34) a_.1.toNatClampNeg) = (0 : Int32) ∧ False))) ∨ (¬ ((a_.2 33) a_.1.toNatClampNeg) = (0 : Int32) ∧ False))))) ∨ (¬ l2 = (0 : Int32) ∧ True))))
def qX9_pieces_45 (l2 : Int32) (a_ : Int32 × zc_N) : Prop := (((256 : Int32) ≤ a_.1 → True) ∧ (¬ (256 : Int32) ≤ a_.1 → ((l2 = (0 : Int32) → (((if (a_.1 - a_.1 / (16 : Int32) * (16 : Int32)) = (0 : Int32) then (1 : Int32) else (if (a_.1 - a_.1 / (16 : Int32) * (16 : Int32)) = (15 : Int32) then (1 : Int32) else (if (a_.1 / (16 : Int32)) = (0 : Int32) then (1 : Int32) else (if (a_.1 / (16 : Int32)) = (15 : Int32) then (1 : Int32) else (0 : Int32))))) = (0 : Int32) → True) ∧ (¬ (if (a_.1 - a_.1 / (16 : Int32) * (16 : Int32)) = (0 : Int32) then (1 : Int32) else (if (a_.1 - a_.1 / (16 : Int32) * (16 : Int32)) = (15 : Int32) then (1 : Int32) else (if (a_.1 / (16 : Int32)) = (0 : Int32) then (1 : Int32) else (if (a_.1 / (16 : Int32)) = (15 : Int32) then (1 : Int32) else (0 : Int32))))) = (0 : Int32) → (vp_in a_.1 256 ∧ ((((a_.2 33) a_.1.toNatClampNeg) = (0 : Int32) → (vp_in a_.1 256 ∧ ((((a_.2 34) a_.1.toNatClampNeg) = (0 : Int32) → (pX9_spread a_.2 a_.1 (0 : Int32))) ∧ (¬ ((a_.2 34) a_.1.toNatClampNeg) = (0 : Int32) → True)))) ∧ (¬ ((a_.2 33) a_.1.toNatClampNeg) = (0 : Int32) → True)))))) ∧ (¬ l2 = (0 : Int32) → True))))
noncomputable def wX9_pieces_45 (l2 : Int32) (a_ : Int32 × zc_N) : Int32 × zc_N := zit fX9_pieces_45 (zwn (fun n_ => (eX9_pieces_45 l2) (zit fX9_pieces_45 n_ a_))) a_
set_option maxHeartbeats 2000000 in
theorem whX9_pieces_45 {G : zc_G} {Q : Option Value → zc_H → Prop} (P : zp) (σ : zc_N) (l2 : Int32) (l3 : Int32)
    (hT_ : ∃ n_ : Nat, (eX9_pieces_45 l2) (zit fX9_pieces_45 n_ (l3, σ))) (W1_ : ∀ i45_ : Nat, i45_ < (zwn (fun n_ => (eX9_pieces_45 l2) (zit fX9_pieces_45 n_ (l3, σ)))) → qX9_pieces_45 l2 (zit fX9_pieces_45 i45_ (l3, σ)))
    (W2_ : (eX9_pieces_45 l2) (wX9_pieces_45 l2 (l3, σ)) → zz G mX9_pieces 3 0 0 Q 45 [some (.ref 32), none, some (.int l2), some (.int (wX9_pieces_45 l2 (l3, σ)).1), none] [] (hh P (wX9_pieces_45 l2 (l3, σ)).2) 0 0) :
    zz G mX9_pieces 3 0 0 Q 45 [some (.ref 32), none, some (.int l2), some (.int l3), none] [] (hh P σ) 0 0 := by
  unfold wX9_pieces_45 at W2_
  have hs_ := zwn_spec hT_
  refine zit_Z (fun a_ => zz G mX9_pieces 3 0 0 Q 45 [some (.ref 32), none, some (.int l2), some (.int a_.1), none] [] (hh P a_.2) 0 0) fX9_pieces_45 (zwn (fun n_ => (eX9_pieces_45 l2) (zit fX9_pieces_45 n_ (l3, σ)))) (l3, σ) (fun i_ hi_ k_ => ?_) (W2_ hs_.1)
  have hn_ := hs_.2 i_ hi_
  have W3_ := W1_ i_ hi_
  generalize zit fX9_pieces_45 i_ (l3, σ) = g_ at k_ hn_ W3_ ⊢
  obtain ⟨x0_, x1_⟩ := g_
  try dsimp only at k_ hn_ W3_ ⊢
  rw [fX9_pieces_45] at k_
  rw [eX9_pieces_45] at hn_
  try dsimp only at k_ hn_
  rw [qX9_pieces_45] at W3_
  try dsimp only at W3_
  refine z_iload_n dX9_pieces_45 rfl ?_
  refine z_sipush dX9_pieces_46 k_sipush_256 ?_
  refine z_icmp_ge (tgt := 130) dX9_pieces_49 (by decide) (fun c_1 => ?_) (fun c_1 => ?_)
  · exact absurd (Or.inl ⟨c_1, trivial⟩) hn_
  · refine z_iload_n dX9_pieces_52 rfl ?_
    refine z_if_ne (tgt := 130) dX9_pieces_53 (by decide) (fun c_2 => ?_) (fun c_2 => ?_)
    · exact absurd (Or.inr ⟨c_1, (Or.inr ⟨c_2, trivial⟩)⟩) hn_
    · refine z_iload_n dX9_pieces_56 rfl ?_
      refine z_bipush dX9_pieces_57 k_bipush_16 ?_
      refine z_irem (v := (x0_ - x0_ / (16 : Int32) * (16 : Int32))) dX9_pieces_59 (by decide) rfl ?_
      have K_1 : zz G mX9_pieces 3 0 0 Q 93 [some (.ref 32), none, some (.int l2), some (.int x0_), none] [.int (if (x0_ - x0_ / (16 : Int32) * (16 : Int32)) = (0 : Int32) then (1 : Int32) else (if (x0_ - x0_ / (16 : Int32) * (16 : Int32)) = (15 : Int32) then (1 : Int32) else (if (x0_ / (16 : Int32)) = (0 : Int32) then (1 : Int32) else (if (x0_ / (16 : Int32)) = (15 : Int32) then (1 : Int32) else (0 : Int32)))))] (hh P x1_) 0 0 := by
        refine z_istore (lv' := [some (.ref 32), none, some (.int l2), some (.int x0_), some (.int (if (x0_ - x0_ / (16 : Int32) * (16 : Int32)) = (0 : Int32) then (1 : Int32) else (if (x0_ - x0_ / (16 : Int32) * (16 : Int32)) = (15 : Int32) then (1 : Int32) else (if (x0_ / (16 : Int32)) = (0 : Int32) then (1 : Int32) else (if (x0_ / (16 : Int32)) = (15 : Int32) then (1 : Int32) else (0 : Int32))))))]) dX9_pieces_93 (Nat.le_of_ble_eq_true rfl) rfl ?_
        refine z_iload dX9_pieces_95 rfl ?_
        refine z_if_eq (tgt := 124) dX9_pieces_97 (by decide) (fun c_7 => ?_) (fun c_7 => ?_)
        · refine z_iinc (v := (x0_ + (1 : Int32))) (lv' := [some (.ref 32), none, some (.int l2), some (.int (x0_ + (1 : Int32))), some (.int (if (x0_ - x0_ / (16 : Int32) * (16 : Int32)) = (0 : Int32) then (1 : Int32) else (if (x0_ - x0_ / (16 : Int32) * (16 : Int32)) = (15 : Int32) then (1 : Int32) else (if (x0_ / (16 : Int32)) = (0 : Int32) then (1 : Int32) else (if (x0_ / (16 : Int32)) = (15 : Int32) then (1 : Int32) else (0 : Int32))))))]) dX9_pieces_124 (Nat.le_of_ble_eq_true rfl) rfl (by rw [k_iconst_1]) rfl ?_
          refine z_goto (tgt := 45) dX9_pieces_127 (by decide) ?_
          refine zz_sub (lv' := [some (.ref 32), none, some (.int l2), some (.int (x0_ + (1 : Int32))), none]) ⟨rfl, ⟨rfl, ⟨rfl, trivial⟩⟩⟩ ?_
          simpa only [if_neg c_1, if_pos c_2, if_pos c_7] using k_
        · refine z_aloadr_n dX9_pieces_100 rfl ?_
          refine z_get (ci := 9) (r := (RX9, TX9, 38)) (j := 0) (v := .ref 33) dX9_pieces_101 (Nat.le_of_ble_eq_true rfl) (zN rfl) rfl rfl (Nat.le_of_ble_eq_true rfl) fl_X9_9 rfl ?_
          refine z_iload_n dX9_pieces_104 rfl ?_
          refine z_bald (v := ((x1_ 33) x0_.toNatClampNeg)) dX9_pieces_105 (Nat.le_of_ble_eq_true rfl) (zN rfl) rfl ((((W3_.2 c_1).1 c_2).2 c_7).1) rfl ?_
          refine z_if_ne (tgt := 124) dX9_pieces_106 (by decide) (fun c_8 => ?_) (fun c_8 => ?_)
          · refine z_iinc (v := (x0_ + (1 : Int32))) (lv' := [some (.ref 32), none, some (.int l2), some (.int (x0_ + (1 : Int32))), some (.int (if (x0_ - x0_ / (16 : Int32) * (16 : Int32)) = (0 : Int32) then (1 : Int32) else (if (x0_ - x0_ / (16 : Int32) * (16 : Int32)) = (15 : Int32) then (1 : Int32) else (if (x0_ / (16 : Int32)) = (0 : Int32) then (1 : Int32) else (if (x0_ / (16 : Int32)) = (15 : Int32) then (1 : Int32) else (0 : Int32))))))]) dX9_pieces_124 (Nat.le_of_ble_eq_true rfl) rfl (by rw [k_iconst_1]) rfl ?_
            refine z_goto (tgt := 45) dX9_pieces_127 (by decide) ?_
            refine zz_sub (lv' := [some (.ref 32), none, some (.int l2), some (.int (x0_ + (1 : Int32))), none]) ⟨rfl, ⟨rfl, ⟨rfl, trivial⟩⟩⟩ ?_
            simpa only [if_neg c_1, if_pos c_2, if_neg c_7, if_neg c_8] using k_
          · refine z_aloadr_n dX9_pieces_109 rfl ?_
            refine z_get (ci := 9) (r := (RX9, TX9, 38)) (j := 1) (v := .ref 34) dX9_pieces_110 (Nat.le_of_ble_eq_true rfl) (zN rfl) rfl rfl (Nat.le_of_ble_eq_true rfl) fl_X9_13 rfl ?_
            refine z_iload_n dX9_pieces_113 rfl ?_
            refine z_bald (v := ((x1_ 34) x0_.toNatClampNeg)) dX9_pieces_114 (Nat.le_of_ble_eq_true rfl) (zN rfl) rfl (((((W3_.2 c_1).1 c_2).2 c_7).2.1 c_8).1) rfl ?_
            refine z_if_ne (tgt := 124) dX9_pieces_115 (by decide) (fun c_9 => ?_) (fun c_9 => ?_)
            · refine z_iinc (v := (x0_ + (1 : Int32))) (lv' := [some (.ref 32), none, some (.int l2), some (.int (x0_ + (1 : Int32))), some (.int (if (x0_ - x0_ / (16 : Int32) * (16 : Int32)) = (0 : Int32) then (1 : Int32) else (if (x0_ - x0_ / (16 : Int32) * (16 : Int32)) = (15 : Int32) then (1 : Int32) else (if (x0_ / (16 : Int32)) = (0 : Int32) then (1 : Int32) else (if (x0_ / (16 : Int32)) = (15 : Int32) then (1 : Int32) else (0 : Int32))))))]) dX9_pieces_124 (Nat.le_of_ble_eq_true rfl) rfl (by rw [k_iconst_1]) rfl ?_
              refine z_goto (tgt := 45) dX9_pieces_127 (by decide) ?_
              refine zz_sub (lv' := [some (.ref 32), none, some (.int l2), some (.int (x0_ + (1 : Int32))), none]) ⟨rfl, ⟨rfl, ⟨rfl, trivial⟩⟩⟩ ?_
              simpa only [if_neg c_1, if_pos c_2, if_neg c_7, if_pos c_8, if_neg c_9] using k_
            · refine z_aloadr_n dX9_pieces_118 rfl ?_
              refine z_iload_n dX9_pieces_119 rfl ?_
              refine z_iconst dX9_pieces_120 k_iconst_0 ?_
              refine z_callV (ci := 9) (r := (RX9, TX9, 38)) (b := 32) (As := [.int x0_, .int (0 : Int32)]) (rest := []) (ctX9_spread P x1_ x0_ (0 : Int32) (((((W3_.2 c_1).1 c_2).2 c_7).2.1 c_8).2.1 c_9)) dX9_pieces_121 lk_X9_127 lv_X9_spread (Nat.le_of_ble_eq_true rfl) (zN rfl) rfl rfl rfl rfl (Nat.le_of_ble_eq_true rfl) (Nat.le_of_ble_eq_true rfl) (Nat.le_of_ble_eq_true rfl) (Nat.le_of_ble_eq_true rfl) (fun r_ h_ e_ => ?_)
              obtain ⟨e1_, e2_⟩ := e_
              subst e1_
              subst e2_
              show zz G mX9_pieces 3 0 0 Q 124 [some (.ref 32), none, some (.int l2), some (.int x0_), some (.int (if (x0_ - x0_ / (16 : Int32) * (16 : Int32)) = (0 : Int32) then (1 : Int32) else (if (x0_ - x0_ / (16 : Int32) * (16 : Int32)) = (15 : Int32) then (1 : Int32) else (if (x0_ / (16 : Int32)) = (0 : Int32) then (1 : Int32) else (if (x0_ / (16 : Int32)) = (15 : Int32) then (1 : Int32) else (0 : Int32))))))] [] (hh P (sX9_spread x1_ x0_ (0 : Int32))) 0 0
              refine z_iinc (v := (x0_ + (1 : Int32))) (lv' := [some (.ref 32), none, some (.int l2), some (.int (x0_ + (1 : Int32))), some (.int (if (x0_ - x0_ / (16 : Int32) * (16 : Int32)) = (0 : Int32) then (1 : Int32) else (if (x0_ - x0_ / (16 : Int32) * (16 : Int32)) = (15 : Int32) then (1 : Int32) else (if (x0_ / (16 : Int32)) = (0 : Int32) then (1 : Int32) else (if (x0_ / (16 : Int32)) = (15 : Int32) then (1 : Int32) else (0 : Int32))))))]) dX9_pieces_124 (Nat.le_of_ble_eq_true rfl) rfl (by rw [k_iconst_1]) rfl ?_
              refine z_goto (tgt := 45) dX9_pieces_127 (by decide) ?_
              refine zz_sub (lv' := [some (.ref 32), none, some (.int l2), some (.int (x0_ + (1 : Int32))), none]) ⟨rfl, ⟨rfl, ⟨rfl, trivial⟩⟩⟩ ?_
              simpa only [if_neg c_1, if_pos c_2, if_neg c_7, if_pos c_8, if_pos c_9] using k_
      refine z_if_eq (tgt := 88) dX9_pieces_60 (by decide) (fun c_3 => ?_) (fun c_3 => ?_)
      · refine z_iconst dX9_pieces_88 k_iconst_1 ?_
        refine z_goto (tgt := 93) dX9_pieces_89 (by decide) ?_
        rw [show (if (x0_ - x0_ / (16 : Int32) * (16 : Int32)) = (0 : Int32) then (1 : Int32) else (if (x0_ - x0_ / (16 : Int32) * (16 : Int32)) = (15 : Int32) then (1 : Int32) else (if (x0_ / (16 : Int32)) = (0 : Int32) then (1 : Int32) else (if (x0_ / (16 : Int32)) = (15 : Int32) then (1 : Int32) else (0 : Int32))))) = (1 : Int32) from (if_pos c_3)] at K_1
        exact K_1
      · refine z_iload_n dX9_pieces_63 rfl ?_
        refine z_bipush dX9_pieces_64 k_bipush_16 ?_
        refine z_irem (v := (x0_ - x0_ / (16 : Int32) * (16 : Int32))) dX9_pieces_66 (by decide) rfl ?_
        refine z_bipush dX9_pieces_67 k_bipush_15 ?_
        refine z_icmp_eq (tgt := 88) dX9_pieces_69 (by decide) (fun c_4 => ?_) (fun c_4 => ?_)
        · refine z_iconst dX9_pieces_88 k_iconst_1 ?_
          refine z_goto (tgt := 93) dX9_pieces_89 (by decide) ?_
          rw [show (if (x0_ - x0_ / (16 : Int32) * (16 : Int32)) = (0 : Int32) then (1 : Int32) else (if (x0_ - x0_ / (16 : Int32) * (16 : Int32)) = (15 : Int32) then (1 : Int32) else (if (x0_ / (16 : Int32)) = (0 : Int32) then (1 : Int32) else (if (x0_ / (16 : Int32)) = (15 : Int32) then (1 : Int32) else (0 : Int32))))) = (1 : Int32) from ((if_neg c_3).trans (if_pos c_4))] at K_1
          exact K_1
        · refine z_iload_n dX9_pieces_72 rfl ?_
          refine z_bipush dX9_pieces_73 k_bipush_16 ?_
          refine z_idiv (v := (x0_ / (16 : Int32))) dX9_pieces_75 (by decide) rfl ?_
          refine z_if_eq (tgt := 88) dX9_pieces_76 (by decide) (fun c_5 => ?_) (fun c_5 => ?_)
          · refine z_iconst dX9_pieces_88 k_iconst_1 ?_
            refine z_goto (tgt := 93) dX9_pieces_89 (by decide) ?_
            rw [show (if (x0_ - x0_ / (16 : Int32) * (16 : Int32)) = (0 : Int32) then (1 : Int32) else (if (x0_ - x0_ / (16 : Int32) * (16 : Int32)) = (15 : Int32) then (1 : Int32) else (if (x0_ / (16 : Int32)) = (0 : Int32) then (1 : Int32) else (if (x0_ / (16 : Int32)) = (15 : Int32) then (1 : Int32) else (0 : Int32))))) = (1 : Int32) from ((if_neg c_3).trans ((if_neg c_4).trans (if_pos c_5)))] at K_1
            exact K_1
          · refine z_iload_n dX9_pieces_79 rfl ?_
            refine z_bipush dX9_pieces_80 k_bipush_16 ?_
            refine z_idiv (v := (x0_ / (16 : Int32))) dX9_pieces_82 (by decide) rfl ?_
            refine z_bipush dX9_pieces_83 k_bipush_15 ?_
            refine z_icmp_ne (tgt := 92) dX9_pieces_85 (by decide) (fun c_6 => ?_) (fun c_6 => ?_)
            · refine z_iconst dX9_pieces_92 k_iconst_0 ?_
              rw [show (if (x0_ - x0_ / (16 : Int32) * (16 : Int32)) = (0 : Int32) then (1 : Int32) else (if (x0_ - x0_ / (16 : Int32) * (16 : Int32)) = (15 : Int32) then (1 : Int32) else (if (x0_ / (16 : Int32)) = (0 : Int32) then (1 : Int32) else (if (x0_ / (16 : Int32)) = (15 : Int32) then (1 : Int32) else (0 : Int32))))) = (0 : Int32) from ((if_neg c_3).trans ((if_neg c_4).trans ((if_neg c_5).trans (if_neg c_6))))] at K_1
              exact K_1
            · refine z_iconst dX9_pieces_88 k_iconst_1 ?_
              refine z_goto (tgt := 93) dX9_pieces_89 (by decide) ?_
              rw [show (if (x0_ - x0_ / (16 : Int32) * (16 : Int32)) = (0 : Int32) then (1 : Int32) else (if (x0_ - x0_ / (16 : Int32) * (16 : Int32)) = (15 : Int32) then (1 : Int32) else (if (x0_ / (16 : Int32)) = (0 : Int32) then (1 : Int32) else (if (x0_ / (16 : Int32)) = (15 : Int32) then (1 : Int32) else (0 : Int32))))) = (1 : Int32) from ((if_neg c_3).trans ((if_neg c_4).trans ((if_neg c_5).trans (if_pos c_6))))] at K_1
              exact K_1

theorem dX9_pieces_135 : decode cX9_pieces 135 = .ok (.iload 4, 2) := by decide +kernel
theorem dX9_pieces_137 : decode cX9_pieces 137 = .ok (.sipush 256, 3) := by decide +kernel
theorem dX9_pieces_140 : decode cX9_pieces 140 = .ok (.if_icmp .ge 40, 3) := by decide +kernel
theorem dX9_pieces_143 : decode cX9_pieces 143 = .ok (.aload_n 0, 1) := by decide +kernel
theorem dX9_pieces_144 : decode cX9_pieces 144 = .ok (.getfield 9, 3) := by decide +kernel
theorem dX9_pieces_147 : decode cX9_pieces 147 = .ok (.iload 4, 2) := by decide +kernel
theorem dX9_pieces_149 : decode cX9_pieces 149 = .ok (.baload, 1) := by decide +kernel
theorem dX9_pieces_150 : decode cX9_pieces 150 = .ok (.iload_n 2, 1) := by decide +kernel
theorem dX9_pieces_151 : decode cX9_pieces 151 = .ok (.if_icmp .ne 23, 3) := by decide +kernel
theorem dX9_pieces_154 : decode cX9_pieces 154 = .ok (.aload_n 0, 1) := by decide +kernel
theorem dX9_pieces_155 : decode cX9_pieces 155 = .ok (.getfield 13, 3) := by decide +kernel
theorem dX9_pieces_158 : decode cX9_pieces 158 = .ok (.iload 4, 2) := by decide +kernel
theorem dX9_pieces_160 : decode cX9_pieces 160 = .ok (.baload, 1) := by decide +kernel
theorem dX9_pieces_161 : decode cX9_pieces 161 = .ok (.ifCond .ne 13, 3) := by decide +kernel
theorem dX9_pieces_164 : decode cX9_pieces 164 = .ok (.aload_n 0, 1) := by decide +kernel
theorem dX9_pieces_165 : decode cX9_pieces 165 = .ok (.iload 4, 2) := by decide +kernel
theorem dX9_pieces_167 : decode cX9_pieces 167 = .ok (.iload_n 2, 1) := by decide +kernel
theorem dX9_pieces_168 : decode cX9_pieces 168 = .ok (.invokevirtual 127, 3) := by decide +kernel
theorem dX9_pieces_171 : decode cX9_pieces 171 = .ok (.iinc 3 1, 3) := by decide +kernel
theorem dX9_pieces_174 : decode cX9_pieces 174 = .ok (.iinc 4 1, 3) := by decide +kernel
theorem dX9_pieces_177 : decode cX9_pieces 177 = .ok (.goto (-42), 3) := by decide +kernel
theorem dX9_pieces_180 : decode cX9_pieces 180 = .ok (.iload_n 3, 1) := by decide +kernel
noncomputable def fX9_pieces_135 (l2 : Int32) (i_ : Nat) (a_ : Int32 × zc_N) : Int32 × zc_N := ((if ((a_.2 33) (nI i_).toNatClampNeg) = l2 then (if ((a_.2 34) (nI i_).toNatClampNeg) = (0 : Int32) then (a_.1 + (1 : Int32)) else a_.1) else a_.1), (if ((a_.2 33) (nI i_).toNatClampNeg) = l2 then (if ((a_.2 34) (nI i_).toNatClampNeg) = (0 : Int32) then (sX9_spread a_.2 (nI i_) l2) else a_.2) else a_.2))
def qX9_pieces_135 (l2 : Int32) (i_ : Nat) (a_ : Int32 × zc_N) : Prop := ((((a_.2 33) (nI i_).toNatClampNeg) = l2 → ((((a_.2 34) (nI i_).toNatClampNeg) = (0 : Int32) → (pX9_spread a_.2 (nI i_) l2)) ∧ (¬ ((a_.2 34) (nI i_).toNatClampNeg) = (0 : Int32) → True))) ∧ (¬ ((a_.2 33) (nI i_).toNatClampNeg) = l2 → True))
set_option maxHeartbeats 2000000 in
theorem lpX9_pieces_135 {G : zc_G} {Q : Option Value → zc_H → Prop} (P : zp) (σ : zc_N) (l2 : Int32) (l3 : Int32) (W1_ : ∀ i135_ : Nat, i135_ < 256 → qX9_pieces_135 l2 i135_ (zfor (fX9_pieces_135 l2) i135_ (l3, σ)))
    (W2_ : zz G mX9_pieces 3 0 0 Q 180 [none, none, none, some (.int (zfor (fX9_pieces_135 l2) 256 (l3, σ)).1), none] [] (hh P (zfor (fX9_pieces_135 l2) 256 (l3, σ)).2) 0 0) :
    zz G mX9_pieces 3 0 0 Q 135 [some (.ref 32), none, some (.int l2), some (.int l3), some (.int (nI 0))] [] (hh P σ) 0 0 := by
  refine zfor_nI (fun i_ a_ => zz G mX9_pieces 3 0 0 Q 135 [some (.ref 32), none, some (.int l2), some (.int a_.1), some (.int i_)] [] (hh P a_.2) 0 0) (fX9_pieces_135 l2) 256 (l3, σ) (fun i_ hi_ k_ => ?_) ?_
  all_goals try dsimp only
  · have W3_ := W1_ i_ hi_
    generalize zfor (fX9_pieces_135 l2) i_ (l3, σ) = g_ at k_ W3_ ⊢
    obtain ⟨x0_, x1_⟩ := g_
    dsimp only at k_ W3_ ⊢
    rw [fX9_pieces_135] at k_
    rw [qX9_pieces_135] at W3_
    try dsimp only at W3_
    dsimp only at k_
    refine z_iload dX9_pieces_135 rfl ?_
    refine z_sipush dX9_pieces_137 k_sipush_256 ?_
    refine z_icmp_ge (tgt := 180) dX9_pieces_140 (by decide) (fun c_ => absurd c_ (nI_ge hi_ (by decide))) (fun c_ => ?_)
    refine z_aloadr_n dX9_pieces_143 rfl ?_
    refine z_get (ci := 9) (r := (RX9, TX9, 38)) (j := 0) (v := .ref 33) dX9_pieces_144 (Nat.le_of_ble_eq_true rfl) (zN rfl) rfl rfl (Nat.le_of_ble_eq_true rfl) fl_X9_9 rfl ?_
    refine z_iload dX9_pieces_147 rfl ?_
    refine z_bald (v := ((x1_ 33) (nI i_).toNatClampNeg)) dX9_pieces_149 (Nat.le_of_ble_eq_true rfl) (zN rfl) rfl (vp_in_nI (Nat.lt_of_lt_of_le hi_ (Nat.le_of_ble_eq_true rfl)) (by decide)) rfl ?_
    refine z_iload_n dX9_pieces_150 rfl ?_
    refine z_icmp_ne (tgt := 174) dX9_pieces_151 (by decide) (fun c_2 => ?_) (fun c_2 => ?_)
    · refine z_iinc (v := ((nI i_) + (1 : Int32))) (lv' := [some (.ref 32), none, some (.int l2), some (.int x0_), some (.int ((nI i_) + (1 : Int32)))]) dX9_pieces_174 (Nat.le_of_ble_eq_true rfl) rfl (by rw [k_iconst_1]) rfl ?_
      refine z_goto (tgt := 135) dX9_pieces_177 (by decide) ?_
      rw [nI_1]
      simpa only [if_neg c_2] using k_
    · refine z_aloadr_n dX9_pieces_154 rfl ?_
      refine z_get (ci := 9) (r := (RX9, TX9, 38)) (j := 1) (v := .ref 34) dX9_pieces_155 (Nat.le_of_ble_eq_true rfl) (zN rfl) rfl rfl (Nat.le_of_ble_eq_true rfl) fl_X9_13 rfl ?_
      refine z_iload dX9_pieces_158 rfl ?_
      refine z_bald (v := ((x1_ 34) (nI i_).toNatClampNeg)) dX9_pieces_160 (Nat.le_of_ble_eq_true rfl) (zN rfl) rfl (vp_in_nI (Nat.lt_of_lt_of_le hi_ (Nat.le_of_ble_eq_true rfl)) (by decide)) rfl ?_
      refine z_if_ne (tgt := 174) dX9_pieces_161 (by decide) (fun c_3 => ?_) (fun c_3 => ?_)
      · refine z_iinc (v := ((nI i_) + (1 : Int32))) (lv' := [some (.ref 32), none, some (.int l2), some (.int x0_), some (.int ((nI i_) + (1 : Int32)))]) dX9_pieces_174 (Nat.le_of_ble_eq_true rfl) rfl (by rw [k_iconst_1]) rfl ?_
        refine z_goto (tgt := 135) dX9_pieces_177 (by decide) ?_
        rw [nI_1]
        simpa only [if_pos c_2, if_neg c_3] using k_
      · refine z_aloadr_n dX9_pieces_164 rfl ?_
        refine z_iload dX9_pieces_165 rfl ?_
        refine z_iload_n dX9_pieces_167 rfl ?_
        refine z_callV (ci := 9) (r := (RX9, TX9, 38)) (b := 32) (As := [.int (nI i_), .int l2]) (rest := []) (ctX9_spread P x1_ (nI i_) l2 ((W3_.1 c_2).1 c_3)) dX9_pieces_168 lk_X9_127 lv_X9_spread (Nat.le_of_ble_eq_true rfl) (zN rfl) rfl rfl rfl rfl (Nat.le_of_ble_eq_true rfl) (Nat.le_of_ble_eq_true rfl) (Nat.le_of_ble_eq_true rfl) (Nat.le_of_ble_eq_true rfl) (fun r_ h_ e_ => ?_)
        obtain ⟨e1_, e2_⟩ := e_
        subst e1_
        subst e2_
        show zz G mX9_pieces 3 0 0 Q 171 [some (.ref 32), none, some (.int l2), some (.int x0_), some (.int (nI i_))] [] (hh P (sX9_spread x1_ (nI i_) l2)) 0 0
        refine z_iinc (v := (x0_ + (1 : Int32))) (lv' := [some (.ref 32), none, some (.int l2), some (.int (x0_ + (1 : Int32))), some (.int (nI i_))]) dX9_pieces_171 (Nat.le_of_ble_eq_true rfl) rfl (by rw [k_iconst_1]) rfl ?_
        refine z_iinc (v := ((nI i_) + (1 : Int32))) (lv' := [some (.ref 32), none, some (.int l2), some (.int (x0_ + (1 : Int32))), some (.int ((nI i_) + (1 : Int32)))]) dX9_pieces_174 (Nat.le_of_ble_eq_true rfl) rfl (by rw [k_iconst_1]) rfl ?_
        refine z_goto (tgt := 135) dX9_pieces_177 (by decide) ?_
        rw [nI_1]
        simpa only [if_pos c_2, if_pos c_3] using k_
  · generalize zfor (fX9_pieces_135 l2) 256 (l3, σ) = g_ at W2_ ⊢
    obtain ⟨x0_, x1_⟩ := g_
    dsimp only at W2_ ⊢
    refine z_iload dX9_pieces_135 rfl ?_
    refine z_sipush dX9_pieces_137 k_sipush_256 ?_
    refine z_icmp_ge (tgt := 180) dX9_pieces_140 (by decide) (fun c_ => ?_) (fun c_ => absurd (by decide) c_)
    exact zz_sub (lv' := [none, none, none, some (.int x0_), none]) ⟨rfl, trivial⟩ W2_

theorem dX9_pieces_0 : decode cX9_pieces 0 = .ok (.iload_n 1, 1) := by decide +kernel
theorem dX9_pieces_1 : decode cX9_pieces 1 = .ok (.iconst 0, 1) := by decide +kernel
theorem dX9_pieces_2 : decode cX9_pieces 2 = .ok (.iconst 1, 1) := by decide +kernel
theorem dX9_pieces_3 : decode cX9_pieces 3 = .ok (.invokestatic 96, 3) := by decide +kernel
theorem dX9_pieces_6 : decode cX9_pieces 6 = .ok (.ifCond .ne 5, 3) := by decide +kernel
theorem dX9_pieces_9 : decode cX9_pieces 9 = .ok (.iconst (-1), 1) := by decide +kernel
theorem dX9_pieces_10 : decode cX9_pieces 10 = .ok (.ireturn, 1) := by decide +kernel
theorem dX9_pieces_11 : decode cX9_pieces 11 = .ok (.iconst 0, 1) := by decide +kernel
theorem dX9_pieces_12 : decode cX9_pieces 12 = .ok (.istore_n 2, 1) := by decide +kernel
theorem dX9_pieces_34 : decode cX9_pieces 34 = .ok (.ifCond .ne 7, 3) := by decide +kernel
theorem dX9_pieces_181 : decode cX9_pieces 181 = .ok (.ireturn, 1) := by decide +kernel
noncomputable def vX9_pieces_1 (a1 : Int32) (σ : zc_N) : zc_N := (wX9_pieces_45 (if a1 = (0 : Int32) then (1 : Int32) else (0 : Int32)) ((0 : Int32), (zfor fX9_pieces_13 256 σ))).2
noncomputable def vX9_pieces_2 (a1 : Int32) (σ : zc_N) : Int32 := (wX9_pieces_45 (if a1 = (0 : Int32) then (1 : Int32) else (0 : Int32)) ((0 : Int32), (zfor fX9_pieces_13 256 σ))).1
noncomputable def vX9_pieces_3 (a1 : Int32) (σ : zc_N) : zc_N := (zfor (fX9_pieces_135 (if a1 = (0 : Int32) then (1 : Int32) else (0 : Int32))) 256 ((0 : Int32), (vX9_pieces_1 a1 σ))).2
noncomputable def vX9_pieces_4 (a1 : Int32) (σ : zc_N) : Int32 := (zfor (fX9_pieces_135 (if a1 = (0 : Int32) then (1 : Int32) else (0 : Int32))) 256 ((0 : Int32), (vX9_pieces_1 a1 σ))).1
noncomputable def vX9_pieces_5 (a1 : Int32) (σ : zc_N) : zc_N := (zfor (fX9_pieces_135 (if a1 = (0 : Int32) then (1 : Int32) else (0 : Int32))) 256 ((0 : Int32), (vX9_pieces_1 a1 σ))).2
noncomputable def vX9_pieces_6 (a1 : Int32) (σ : zc_N) : Int32 := (zfor (fX9_pieces_135 (if a1 = (0 : Int32) then (1 : Int32) else (0 : Int32))) 256 ((0 : Int32), (vX9_pieces_1 a1 σ))).1
def pX9_pieces (σ : zc_N) (a1 : Int32) : Prop := (((rX9_within a1 (0 : Int32) (1 : Int32)) = (0 : Int32) → True) ∧ (¬ (rX9_within a1 (0 : Int32) (1 : Int32)) = (0 : Int32) → (((∃ n_ : Nat, (eX9_pieces_45 (if a1 = (0 : Int32) then (1 : Int32) else (0 : Int32))) (zit fX9_pieces_45 n_ ((0 : Int32), (zfor fX9_pieces_13 256 σ)))) ∧ (∀ i45_ : Nat, i45_ < (zwn (fun n_ => (eX9_pieces_45 (if a1 = (0 : Int32) then (1 : Int32) else (0 : Int32))) (zit fX9_pieces_45 n_ ((0 : Int32), (zfor fX9_pieces_13 256 σ))))) → qX9_pieces_45 (if a1 = (0 : Int32) then (1 : Int32) else (0 : Int32)) (zit fX9_pieces_45 i45_ ((0 : Int32), (zfor fX9_pieces_13 256 σ))))) ∧ (((256 : Int32) ≤ (vX9_pieces_2 a1 σ) → (∀ i135_ : Nat, i135_ < 256 → qX9_pieces_135 (if a1 = (0 : Int32) then (1 : Int32) else (0 : Int32)) i135_ (zfor (fX9_pieces_135 (if a1 = (0 : Int32) then (1 : Int32) else (0 : Int32))) i135_ ((0 : Int32), (vX9_pieces_1 a1 σ))))) ∧ (¬ (256 : Int32) ≤ (vX9_pieces_2 a1 σ) → (((if a1 = (0 : Int32) then (1 : Int32) else (0 : Int32)) = (0 : Int32) → (((if ((vX9_pieces_2 a1 σ) - (vX9_pieces_2 a1 σ) / (16 : Int32) * (16 : Int32)) = (0 : Int32) then (1 : Int32) else (if ((vX9_pieces_2 a1 σ) - (vX9_pieces_2 a1 σ) / (16 : Int32) * (16 : Int32)) = (15 : Int32) then (1 : Int32) else (if ((vX9_pieces_2 a1 σ) / (16 : Int32)) = (0 : Int32) then (1 : Int32) else (if ((vX9_pieces_2 a1 σ) / (16 : Int32)) = (15 : Int32) then (1 : Int32) else (0 : Int32))))) = (0 : Int32) → True) ∧ (¬ (if ((vX9_pieces_2 a1 σ) - (vX9_pieces_2 a1 σ) / (16 : Int32) * (16 : Int32)) = (0 : Int32) then (1 : Int32) else (if ((vX9_pieces_2 a1 σ) - (vX9_pieces_2 a1 σ) / (16 : Int32) * (16 : Int32)) = (15 : Int32) then (1 : Int32) else (if ((vX9_pieces_2 a1 σ) / (16 : Int32)) = (0 : Int32) then (1 : Int32) else (if ((vX9_pieces_2 a1 σ) / (16 : Int32)) = (15 : Int32) then (1 : Int32) else (0 : Int32))))) = (0 : Int32) → (vp_in (vX9_pieces_2 a1 σ) 256 ∧ (((((vX9_pieces_1 a1 σ) 33) (vX9_pieces_2 a1 σ).toNatClampNeg) = (0 : Int32) → (vp_in (vX9_pieces_2 a1 σ) 256 ∧ (((((vX9_pieces_1 a1 σ) 34) (vX9_pieces_2 a1 σ).toNatClampNeg) = (0 : Int32) → (pX9_spread (vX9_pieces_1 a1 σ) (vX9_pieces_2 a1 σ) (0 : Int32))) ∧ (¬ (((vX9_pieces_1 a1 σ) 34) (vX9_pieces_2 a1 σ).toNatClampNeg) = (0 : Int32) → True)))) ∧ (¬ (((vX9_pieces_1 a1 σ) 33) (vX9_pieces_2 a1 σ).toNatClampNeg) = (0 : Int32) → True)))))) ∧ (¬ (if a1 = (0 : Int32) then (1 : Int32) else (0 : Int32)) = (0 : Int32) → (∀ i135_ : Nat, i135_ < 256 → qX9_pieces_135 (if a1 = (0 : Int32) then (1 : Int32) else (0 : Int32)) i135_ (zfor (fX9_pieces_135 (if a1 = (0 : Int32) then (1 : Int32) else (0 : Int32))) i135_ ((0 : Int32), (vX9_pieces_1 a1 σ)))))))))))
noncomputable def rX9_pieces (σ : zc_N) (a1 : Int32) : Int32 := (if (rX9_within a1 (0 : Int32) (1 : Int32)) = (0 : Int32) then (-1 : Int32) else (if (256 : Int32) ≤ (vX9_pieces_2 a1 σ) then (vX9_pieces_4 a1 σ) else (vX9_pieces_6 a1 σ)))
noncomputable def sX9_pieces (σ : zc_N) (a1 : Int32) : zc_N := (if (rX9_within a1 (0 : Int32) (1 : Int32)) = (0 : Int32) then σ else (if (256 : Int32) ≤ (vX9_pieces_2 a1 σ) then (vX9_pieces_3 a1 σ) else (vX9_pieces_5 a1 σ)))
set_option maxHeartbeats 1000000 in
theorem ctX9_pieces (P : zp) (σ : zc_N) (a1 : Int32) (W_ : (pX9_pieces σ a1)) : sp mX9_pieces 3 0 0 [.ref 32, .int a1] (hh P σ) (fun r_ h_ => r_ = some (.int (rX9_pieces σ a1)) ∧ h_ = hh P (sX9_pieces σ a1)) := by
  refine sp_of (lv := [some (.ref 32), some (.int a1), none, none, none]) (by decide) (zcats_ok _ rfl) (Nat.le_of_ble_eq_true rfl) (zlv_ok _ 3 rfl) (fun G => ?_)
  generalize hQ_ : (fun (r_ : Option Value) (h_ : zc_H) => r_ = some (.int (rX9_pieces σ a1)) ∧ h_ = hh P (sX9_pieces σ a1)) = Q_
  unfold pX9_pieces at W_
  refine z_iload_n dX9_pieces_0 rfl ?_
  refine z_iconst dX9_pieces_1 k_iconst_0 ?_
  refine z_iconst dX9_pieces_2 k_iconst_1 ?_
  refine z_callS (As := [.int a1, .int (0 : Int32), .int (1 : Int32)]) (rest := []) (ctX9_within P σ a1 (0 : Int32) (1 : Int32)) dX9_pieces_3 lk_X9_96 ls_X9_within rfl (Nat.le_of_ble_eq_true rfl) (Nat.le_of_ble_eq_true rfl) (Nat.le_of_ble_eq_true rfl) (Nat.le_of_ble_eq_true rfl) (fun r_ h_ e_ => ?_)
  obtain ⟨e1_, e2_⟩ := e_
  subst e1_
  subst e2_
  show zz G mX9_pieces 3 0 0 Q_ 6 [some (.ref 32), some (.int a1), none, none, none] [.int (rX9_within a1 (0 : Int32) (1 : Int32))] (hh P σ) 0 0
  refine z_if_ne (tgt := 11) dX9_pieces_6 (by decide) (fun c_1 => ?_) (fun c_1 => ?_)
  · refine z_iconst dX9_pieces_11 k_iconst_0 ?_
    refine z_istore_n (lv' := [some (.ref 32), some (.int a1), some (.int (0 : Int32)), none, none]) dX9_pieces_12 (Nat.le_of_ble_eq_true rfl) rfl ?_
    refine lpX9_pieces_13 P σ a1 ?_
    show zz G mX9_pieces 3 0 0 Q_ 33 [some (.ref 32), some (.int a1), none, none, none] [] (hh P (zfor fX9_pieces_13 256 σ)) 0 0
    refine z_iload_n dX9_pieces_33 rfl ?_
    have K_1 : zz G mX9_pieces 3 0 0 Q_ 42 [some (.ref 32), none, none, none, none] [.int (if a1 = (0 : Int32) then (1 : Int32) else (0 : Int32))] (hh P (zfor fX9_pieces_13 256 σ)) 0 0 := by
      refine z_istore_n (lv' := [some (.ref 32), none, some (.int (if a1 = (0 : Int32) then (1 : Int32) else (0 : Int32))), none, none]) dX9_pieces_42 (Nat.le_of_ble_eq_true rfl) rfl ?_
      refine z_iconst dX9_pieces_43 k_iconst_0 ?_
      refine z_istore_n (lv' := [some (.ref 32), none, some (.int (if a1 = (0 : Int32) then (1 : Int32) else (0 : Int32))), some (.int (0 : Int32)), none]) dX9_pieces_44 (Nat.le_of_ble_eq_true rfl) rfl ?_
      refine whX9_pieces_45 P (zfor fX9_pieces_13 256 σ) (if a1 = (0 : Int32) then (1 : Int32) else (0 : Int32)) (0 : Int32) ((W_.2 c_1).1).1 ((W_.2 c_1).1).2 (fun hX45_ => ?_)
      rw [eX9_pieces_45] at hX45_
      try dsimp only at hX45_
      show zz G mX9_pieces 3 0 0 Q_ 45 [some (.ref 32), none, some (.int (if a1 = (0 : Int32) then (1 : Int32) else (0 : Int32))), some (.int (vX9_pieces_2 a1 σ)), none] [] (hh P (vX9_pieces_1 a1 σ)) 0 0
      refine z_iload_n dX9_pieces_45 rfl ?_
      refine z_sipush dX9_pieces_46 k_sipush_256 ?_
      refine z_icmp_ge (tgt := 130) dX9_pieces_49 (by decide) (fun c_3 => ?_) (fun c_3 => ?_)
      · refine z_iconst dX9_pieces_130 k_iconst_0 ?_
        refine z_istore_n (lv' := [some (.ref 32), none, some (.int (if a1 = (0 : Int32) then (1 : Int32) else (0 : Int32))), some (.int (0 : Int32)), none]) dX9_pieces_131 (Nat.le_of_ble_eq_true rfl) rfl ?_
        refine z_iconst dX9_pieces_132 k_iconst_0 ?_
        refine z_istore (lv' := [some (.ref 32), none, some (.int (if a1 = (0 : Int32) then (1 : Int32) else (0 : Int32))), some (.int (0 : Int32)), some (.int (0 : Int32))]) dX9_pieces_133 (Nat.le_of_ble_eq_true rfl) rfl ?_
        refine lpX9_pieces_135 P (vX9_pieces_1 a1 σ) (if a1 = (0 : Int32) then (1 : Int32) else (0 : Int32)) (0 : Int32) ((W_.2 c_1).2.1 c_3) ?_
        show zz G mX9_pieces 3 0 0 Q_ 180 [none, none, none, some (.int (vX9_pieces_4 a1 σ)), none] [] (hh P (vX9_pieces_3 a1 σ)) 0 0
        refine z_iload_n dX9_pieces_180 rfl ?_
        exact z_ireturn dX9_pieces_181 rfl rfl (Nat.le_of_ble_eq_true rfl) (Nat.le_of_ble_eq_true rfl) (by rw [← hQ_]; exact ⟨(by rw [rX9_pieces]; try simp only [if_neg c_1, if_pos c_3]), (by rw [sX9_pieces]; try simp only [if_neg c_1, if_pos c_3])⟩)
      · refine z_iload_n dX9_pieces_52 rfl ?_
        refine z_if_ne (tgt := 130) dX9_pieces_53 (by decide) (fun c_4 => ?_) (fun c_4 => ?_)
        · refine z_iconst dX9_pieces_130 k_iconst_0 ?_
          refine z_istore_n (lv' := [some (.ref 32), none, some (.int (if a1 = (0 : Int32) then (1 : Int32) else (0 : Int32))), some (.int (0 : Int32)), none]) dX9_pieces_131 (Nat.le_of_ble_eq_true rfl) rfl ?_
          refine z_iconst dX9_pieces_132 k_iconst_0 ?_
          refine z_istore (lv' := [some (.ref 32), none, some (.int (if a1 = (0 : Int32) then (1 : Int32) else (0 : Int32))), some (.int (0 : Int32)), some (.int (0 : Int32))]) dX9_pieces_133 (Nat.le_of_ble_eq_true rfl) rfl ?_
          refine lpX9_pieces_135 P (vX9_pieces_1 a1 σ) (if a1 = (0 : Int32) then (1 : Int32) else (0 : Int32)) (0 : Int32) (((W_.2 c_1).2.2 c_3).2 c_4) ?_
          show zz G mX9_pieces 3 0 0 Q_ 180 [none, none, none, some (.int (vX9_pieces_6 a1 σ)), none] [] (hh P (vX9_pieces_5 a1 σ)) 0 0
          refine z_iload_n dX9_pieces_180 rfl ?_
          exact z_ireturn dX9_pieces_181 rfl rfl (Nat.le_of_ble_eq_true rfl) (Nat.le_of_ble_eq_true rfl) (by rw [← hQ_]; exact ⟨(by rw [rX9_pieces]; try simp only [if_neg c_1, if_neg c_3, if_neg c_4]), (by rw [sX9_pieces]; try simp only [if_neg c_1, if_neg c_3, if_neg c_4])⟩)
        · refine z_iload_n dX9_pieces_56 rfl ?_
          refine z_bipush dX9_pieces_57 k_bipush_16 ?_
          refine z_irem (v := ((vX9_pieces_2 a1 σ) - (vX9_pieces_2 a1 σ) / (16 : Int32) * (16 : Int32))) dX9_pieces_59 (by decide) rfl ?_
          have K_2 : zz G mX9_pieces 3 0 0 Q_ 93 [some (.ref 32), none, some (.int (if a1 = (0 : Int32) then (1 : Int32) else (0 : Int32))), some (.int (vX9_pieces_2 a1 σ)), none] [.int (if ((vX9_pieces_2 a1 σ) - (vX9_pieces_2 a1 σ) / (16 : Int32) * (16 : Int32)) = (0 : Int32) then (1 : Int32) else (if ((vX9_pieces_2 a1 σ) - (vX9_pieces_2 a1 σ) / (16 : Int32) * (16 : Int32)) = (15 : Int32) then (1 : Int32) else (if ((vX9_pieces_2 a1 σ) / (16 : Int32)) = (0 : Int32) then (1 : Int32) else (if ((vX9_pieces_2 a1 σ) / (16 : Int32)) = (15 : Int32) then (1 : Int32) else (0 : Int32)))))] (hh P (vX9_pieces_1 a1 σ)) 0 0 := by
            refine z_istore (lv' := [some (.ref 32), none, some (.int (if a1 = (0 : Int32) then (1 : Int32) else (0 : Int32))), some (.int (vX9_pieces_2 a1 σ)), some (.int (if ((vX9_pieces_2 a1 σ) - (vX9_pieces_2 a1 σ) / (16 : Int32) * (16 : Int32)) = (0 : Int32) then (1 : Int32) else (if ((vX9_pieces_2 a1 σ) - (vX9_pieces_2 a1 σ) / (16 : Int32) * (16 : Int32)) = (15 : Int32) then (1 : Int32) else (if ((vX9_pieces_2 a1 σ) / (16 : Int32)) = (0 : Int32) then (1 : Int32) else (if ((vX9_pieces_2 a1 σ) / (16 : Int32)) = (15 : Int32) then (1 : Int32) else (0 : Int32))))))]) dX9_pieces_93 (Nat.le_of_ble_eq_true rfl) rfl ?_
            refine z_iload dX9_pieces_95 rfl ?_
            refine z_if_eq (tgt := 124) dX9_pieces_97 (by decide) (fun c_9 => ?_) (fun c_9 => ?_)
            · refine z_iinc (v := ((vX9_pieces_2 a1 σ) + (1 : Int32))) (lv' := [some (.ref 32), none, some (.int (if a1 = (0 : Int32) then (1 : Int32) else (0 : Int32))), some (.int ((vX9_pieces_2 a1 σ) + (1 : Int32))), some (.int (if ((vX9_pieces_2 a1 σ) - (vX9_pieces_2 a1 σ) / (16 : Int32) * (16 : Int32)) = (0 : Int32) then (1 : Int32) else (if ((vX9_pieces_2 a1 σ) - (vX9_pieces_2 a1 σ) / (16 : Int32) * (16 : Int32)) = (15 : Int32) then (1 : Int32) else (if ((vX9_pieces_2 a1 σ) / (16 : Int32)) = (0 : Int32) then (1 : Int32) else (if ((vX9_pieces_2 a1 σ) / (16 : Int32)) = (15 : Int32) then (1 : Int32) else (0 : Int32))))))]) dX9_pieces_124 (Nat.le_of_ble_eq_true rfl) rfl (by rw [k_iconst_1]) rfl ?_
              refine z_goto (tgt := 45) dX9_pieces_127 (by decide) ?_
              exact (ex_l (ex_l (ex_r hX45_ c_3) c_4) c_9).elim
            · refine z_aloadr_n dX9_pieces_100 rfl ?_
              refine z_get (ci := 9) (r := (RX9, TX9, 38)) (j := 0) (v := .ref 33) dX9_pieces_101 (Nat.le_of_ble_eq_true rfl) (zN rfl) rfl rfl (Nat.le_of_ble_eq_true rfl) fl_X9_9 rfl ?_
              refine z_iload_n dX9_pieces_104 rfl ?_
              refine z_bald (v := (((vX9_pieces_1 a1 σ) 33) (vX9_pieces_2 a1 σ).toNatClampNeg)) dX9_pieces_105 (Nat.le_of_ble_eq_true rfl) (zN rfl) rfl (((((W_.2 c_1).2.2 c_3).1 c_4).2 c_9).1) rfl ?_
              refine z_if_ne (tgt := 124) dX9_pieces_106 (by decide) (fun c_10 => ?_) (fun c_10 => ?_)
              · refine z_iinc (v := ((vX9_pieces_2 a1 σ) + (1 : Int32))) (lv' := [some (.ref 32), none, some (.int (if a1 = (0 : Int32) then (1 : Int32) else (0 : Int32))), some (.int ((vX9_pieces_2 a1 σ) + (1 : Int32))), some (.int (if ((vX9_pieces_2 a1 σ) - (vX9_pieces_2 a1 σ) / (16 : Int32) * (16 : Int32)) = (0 : Int32) then (1 : Int32) else (if ((vX9_pieces_2 a1 σ) - (vX9_pieces_2 a1 σ) / (16 : Int32) * (16 : Int32)) = (15 : Int32) then (1 : Int32) else (if ((vX9_pieces_2 a1 σ) / (16 : Int32)) = (0 : Int32) then (1 : Int32) else (if ((vX9_pieces_2 a1 σ) / (16 : Int32)) = (15 : Int32) then (1 : Int32) else (0 : Int32))))))]) dX9_pieces_124 (Nat.le_of_ble_eq_true rfl) rfl (by rw [k_iconst_1]) rfl ?_
                refine z_goto (tgt := 45) dX9_pieces_127 (by decide) ?_
                exact (ex_r (ex_r (ex_l (ex_r hX45_ c_3) c_4) c_9) c_10).elim
              · refine z_aloadr_n dX9_pieces_109 rfl ?_
                refine z_get (ci := 9) (r := (RX9, TX9, 38)) (j := 1) (v := .ref 34) dX9_pieces_110 (Nat.le_of_ble_eq_true rfl) (zN rfl) rfl rfl (Nat.le_of_ble_eq_true rfl) fl_X9_13 rfl ?_
                refine z_iload_n dX9_pieces_113 rfl ?_
                refine z_bald (v := (((vX9_pieces_1 a1 σ) 34) (vX9_pieces_2 a1 σ).toNatClampNeg)) dX9_pieces_114 (Nat.le_of_ble_eq_true rfl) (zN rfl) rfl ((((((W_.2 c_1).2.2 c_3).1 c_4).2 c_9).2.1 c_10).1) rfl ?_
                refine z_if_ne (tgt := 124) dX9_pieces_115 (by decide) (fun c_11 => ?_) (fun c_11 => ?_)
                · refine z_iinc (v := ((vX9_pieces_2 a1 σ) + (1 : Int32))) (lv' := [some (.ref 32), none, some (.int (if a1 = (0 : Int32) then (1 : Int32) else (0 : Int32))), some (.int ((vX9_pieces_2 a1 σ) + (1 : Int32))), some (.int (if ((vX9_pieces_2 a1 σ) - (vX9_pieces_2 a1 σ) / (16 : Int32) * (16 : Int32)) = (0 : Int32) then (1 : Int32) else (if ((vX9_pieces_2 a1 σ) - (vX9_pieces_2 a1 σ) / (16 : Int32) * (16 : Int32)) = (15 : Int32) then (1 : Int32) else (if ((vX9_pieces_2 a1 σ) / (16 : Int32)) = (0 : Int32) then (1 : Int32) else (if ((vX9_pieces_2 a1 σ) / (16 : Int32)) = (15 : Int32) then (1 : Int32) else (0 : Int32))))))]) dX9_pieces_124 (Nat.le_of_ble_eq_true rfl) rfl (by rw [k_iconst_1]) rfl ?_
                  refine z_goto (tgt := 45) dX9_pieces_127 (by decide) ?_
                  exact (ex_r (ex_l (ex_r (ex_l (ex_r hX45_ c_3) c_4) c_9) c_10) c_11).elim
                · refine z_aloadr_n dX9_pieces_118 rfl ?_
                  refine z_iload_n dX9_pieces_119 rfl ?_
                  refine z_iconst dX9_pieces_120 k_iconst_0 ?_
                  refine z_callV (ci := 9) (r := (RX9, TX9, 38)) (b := 32) (As := [.int (vX9_pieces_2 a1 σ), .int (0 : Int32)]) (rest := []) (ctX9_spread P (vX9_pieces_1 a1 σ) (vX9_pieces_2 a1 σ) (0 : Int32) ((((((W_.2 c_1).2.2 c_3).1 c_4).2 c_9).2.1 c_10).2.1 c_11)) dX9_pieces_121 lk_X9_127 lv_X9_spread (Nat.le_of_ble_eq_true rfl) (zN rfl) rfl rfl rfl rfl (Nat.le_of_ble_eq_true rfl) (Nat.le_of_ble_eq_true rfl) (Nat.le_of_ble_eq_true rfl) (Nat.le_of_ble_eq_true rfl) (fun r_ h_ e_ => ?_)
                  obtain ⟨e1_, e2_⟩ := e_
                  subst e1_
                  subst e2_
                  show zz G mX9_pieces 3 0 0 Q_ 124 [some (.ref 32), none, some (.int (if a1 = (0 : Int32) then (1 : Int32) else (0 : Int32))), some (.int (vX9_pieces_2 a1 σ)), some (.int (if ((vX9_pieces_2 a1 σ) - (vX9_pieces_2 a1 σ) / (16 : Int32) * (16 : Int32)) = (0 : Int32) then (1 : Int32) else (if ((vX9_pieces_2 a1 σ) - (vX9_pieces_2 a1 σ) / (16 : Int32) * (16 : Int32)) = (15 : Int32) then (1 : Int32) else (if ((vX9_pieces_2 a1 σ) / (16 : Int32)) = (0 : Int32) then (1 : Int32) else (if ((vX9_pieces_2 a1 σ) / (16 : Int32)) = (15 : Int32) then (1 : Int32) else (0 : Int32))))))] [] (hh P (sX9_spread (vX9_pieces_1 a1 σ) (vX9_pieces_2 a1 σ) (0 : Int32))) 0 0
                  refine z_iinc (v := ((vX9_pieces_2 a1 σ) + (1 : Int32))) (lv' := [some (.ref 32), none, some (.int (if a1 = (0 : Int32) then (1 : Int32) else (0 : Int32))), some (.int ((vX9_pieces_2 a1 σ) + (1 : Int32))), some (.int (if ((vX9_pieces_2 a1 σ) - (vX9_pieces_2 a1 σ) / (16 : Int32) * (16 : Int32)) = (0 : Int32) then (1 : Int32) else (if ((vX9_pieces_2 a1 σ) - (vX9_pieces_2 a1 σ) / (16 : Int32) * (16 : Int32)) = (15 : Int32) then (1 : Int32) else (if ((vX9_pieces_2 a1 σ) / (16 : Int32)) = (0 : Int32) then (1 : Int32) else (if ((vX9_pieces_2 a1 σ) / (16 : Int32)) = (15 : Int32) then (1 : Int32) else (0 : Int32))))))]) dX9_pieces_124 (Nat.le_of_ble_eq_true rfl) rfl (by rw [k_iconst_1]) rfl ?_
                  refine z_goto (tgt := 45) dX9_pieces_127 (by decide) ?_
                  exact (ex_l (ex_l (ex_r (ex_l (ex_r hX45_ c_3) c_4) c_9) c_10) c_11).elim
          refine z_if_eq (tgt := 88) dX9_pieces_60 (by decide) (fun c_5 => ?_) (fun c_5 => ?_)
          · refine z_iconst dX9_pieces_88 k_iconst_1 ?_
            refine z_goto (tgt := 93) dX9_pieces_89 (by decide) ?_
            rw [show (if ((vX9_pieces_2 a1 σ) - (vX9_pieces_2 a1 σ) / (16 : Int32) * (16 : Int32)) = (0 : Int32) then (1 : Int32) else (if ((vX9_pieces_2 a1 σ) - (vX9_pieces_2 a1 σ) / (16 : Int32) * (16 : Int32)) = (15 : Int32) then (1 : Int32) else (if ((vX9_pieces_2 a1 σ) / (16 : Int32)) = (0 : Int32) then (1 : Int32) else (if ((vX9_pieces_2 a1 σ) / (16 : Int32)) = (15 : Int32) then (1 : Int32) else (0 : Int32))))) = (1 : Int32) from (if_pos c_5)] at K_2
            exact K_2
          · refine z_iload_n dX9_pieces_63 rfl ?_
            refine z_bipush dX9_pieces_64 k_bipush_16 ?_
            refine z_irem (v := ((vX9_pieces_2 a1 σ) - (vX9_pieces_2 a1 σ) / (16 : Int32) * (16 : Int32))) dX9_pieces_66 (by decide) rfl ?_
            refine z_bipush dX9_pieces_67 k_bipush_15 ?_
            refine z_icmp_eq (tgt := 88) dX9_pieces_69 (by decide) (fun c_6 => ?_) (fun c_6 => ?_)
            · refine z_iconst dX9_pieces_88 k_iconst_1 ?_
              refine z_goto (tgt := 93) dX9_pieces_89 (by decide) ?_
              rw [show (if ((vX9_pieces_2 a1 σ) - (vX9_pieces_2 a1 σ) / (16 : Int32) * (16 : Int32)) = (0 : Int32) then (1 : Int32) else (if ((vX9_pieces_2 a1 σ) - (vX9_pieces_2 a1 σ) / (16 : Int32) * (16 : Int32)) = (15 : Int32) then (1 : Int32) else (if ((vX9_pieces_2 a1 σ) / (16 : Int32)) = (0 : Int32) then (1 : Int32) else (if ((vX9_pieces_2 a1 σ) / (16 : Int32)) = (15 : Int32) then (1 : Int32) else (0 : Int32))))) = (1 : Int32) from ((if_neg c_5).trans (if_pos c_6))] at K_2
              exact K_2
            · refine z_iload_n dX9_pieces_72 rfl ?_
              refine z_bipush dX9_pieces_73 k_bipush_16 ?_
              refine z_idiv (v := ((vX9_pieces_2 a1 σ) / (16 : Int32))) dX9_pieces_75 (by decide) rfl ?_
              refine z_if_eq (tgt := 88) dX9_pieces_76 (by decide) (fun c_7 => ?_) (fun c_7 => ?_)
              · refine z_iconst dX9_pieces_88 k_iconst_1 ?_
                refine z_goto (tgt := 93) dX9_pieces_89 (by decide) ?_
                rw [show (if ((vX9_pieces_2 a1 σ) - (vX9_pieces_2 a1 σ) / (16 : Int32) * (16 : Int32)) = (0 : Int32) then (1 : Int32) else (if ((vX9_pieces_2 a1 σ) - (vX9_pieces_2 a1 σ) / (16 : Int32) * (16 : Int32)) = (15 : Int32) then (1 : Int32) else (if ((vX9_pieces_2 a1 σ) / (16 : Int32)) = (0 : Int32) then (1 : Int32) else (if ((vX9_pieces_2 a1 σ) / (16 : Int32)) = (15 : Int32) then (1 : Int32) else (0 : Int32))))) = (1 : Int32) from ((if_neg c_5).trans ((if_neg c_6).trans (if_pos c_7)))] at K_2
                exact K_2
              · refine z_iload_n dX9_pieces_79 rfl ?_
                refine z_bipush dX9_pieces_80 k_bipush_16 ?_
                refine z_idiv (v := ((vX9_pieces_2 a1 σ) / (16 : Int32))) dX9_pieces_82 (by decide) rfl ?_
                refine z_bipush dX9_pieces_83 k_bipush_15 ?_
                refine z_icmp_ne (tgt := 92) dX9_pieces_85 (by decide) (fun c_8 => ?_) (fun c_8 => ?_)
                · refine z_iconst dX9_pieces_92 k_iconst_0 ?_
                  rw [show (if ((vX9_pieces_2 a1 σ) - (vX9_pieces_2 a1 σ) / (16 : Int32) * (16 : Int32)) = (0 : Int32) then (1 : Int32) else (if ((vX9_pieces_2 a1 σ) - (vX9_pieces_2 a1 σ) / (16 : Int32) * (16 : Int32)) = (15 : Int32) then (1 : Int32) else (if ((vX9_pieces_2 a1 σ) / (16 : Int32)) = (0 : Int32) then (1 : Int32) else (if ((vX9_pieces_2 a1 σ) / (16 : Int32)) = (15 : Int32) then (1 : Int32) else (0 : Int32))))) = (0 : Int32) from ((if_neg c_5).trans ((if_neg c_6).trans ((if_neg c_7).trans (if_neg c_8))))] at K_2
                  exact K_2
                · refine z_iconst dX9_pieces_88 k_iconst_1 ?_
                  refine z_goto (tgt := 93) dX9_pieces_89 (by decide) ?_
                  rw [show (if ((vX9_pieces_2 a1 σ) - (vX9_pieces_2 a1 σ) / (16 : Int32) * (16 : Int32)) = (0 : Int32) then (1 : Int32) else (if ((vX9_pieces_2 a1 σ) - (vX9_pieces_2 a1 σ) / (16 : Int32) * (16 : Int32)) = (15 : Int32) then (1 : Int32) else (if ((vX9_pieces_2 a1 σ) / (16 : Int32)) = (0 : Int32) then (1 : Int32) else (if ((vX9_pieces_2 a1 σ) / (16 : Int32)) = (15 : Int32) then (1 : Int32) else (0 : Int32))))) = (1 : Int32) from ((if_neg c_5).trans ((if_neg c_6).trans ((if_neg c_7).trans (if_pos c_8))))] at K_2
                  exact K_2
    refine z_if_ne (tgt := 41) dX9_pieces_34 (by decide) (fun c_2 => ?_) (fun c_2 => ?_)
    · refine z_iconst dX9_pieces_41 k_iconst_0 ?_
      refine zz_sub (lv' := [some (.ref 32), none, none, none, none]) ⟨rfl, trivial⟩ ?_
      rw [show (if a1 = (0 : Int32) then (1 : Int32) else (0 : Int32)) = (0 : Int32) from (if_neg c_2)] at K_1
      exact K_1
    · refine z_iconst dX9_pieces_37 k_iconst_1 ?_
      refine z_goto (tgt := 42) dX9_pieces_38 (by decide) ?_
      refine zz_sub (lv' := [some (.ref 32), none, none, none, none]) ⟨rfl, trivial⟩ ?_
      rw [show (if a1 = (0 : Int32) then (1 : Int32) else (0 : Int32)) = (1 : Int32) from (if_pos c_2)] at K_1
      exact K_1
  · refine z_iconst dX9_pieces_9 k_iconst_m1 ?_
    exact z_ireturn dX9_pieces_10 rfl rfl (Nat.le_of_ble_eq_true rfl) (Nat.le_of_ble_eq_true rfl) (by rw [← hQ_]; exact ⟨(by rw [rX9_pieces]; try simp only [if_pos c_1]), (by rw [sX9_pieces]; try simp only [if_pos c_1])⟩)

theorem dX9_like_28 : decode cX9_like 28 = .ok (.iload 5, 2) := by decide +kernel
theorem dX9_like_30 : decode cX9_like 30 = .ok (.aload_n 0, 1) := by decide +kernel
theorem dX9_like_31 : decode cX9_like 31 = .ok (.getfield 131, 3) := by decide +kernel
theorem dX9_like_34 : decode cX9_like 34 = .ok (.if_icmp .ge 52, 3) := by decide +kernel
theorem dX9_like_37 : decode cX9_like 37 = .ok (.aload_n 0, 1) := by decide +kernel
theorem dX9_like_38 : decode cX9_like 38 = .ok (.getfield 38, 3) := by decide +kernel
theorem dX9_like_41 : decode cX9_like 41 = .ok (.iload 5, 2) := by decide +kernel
theorem dX9_like_43 : decode cX9_like 43 = .ok (.iaload, 1) := by decide +kernel
theorem dX9_like_44 : decode cX9_like 44 = .ok (.iload 4, 2) := by decide +kernel
theorem dX9_like_46 : decode cX9_like 46 = .ok (.if_icmp .ne 34, 3) := by decide +kernel
theorem dX9_like_49 : decode cX9_like 49 = .ok (.iload 5, 2) := by decide +kernel
theorem dX9_like_51 : decode cX9_like 51 = .ok (.iload_n 1, 1) := by decide +kernel
theorem dX9_like_52 : decode cX9_like 52 = .ok (.if_icmp .eq 28, 3) := by decide +kernel
theorem dX9_like_55 : decode cX9_like 55 = .ok (.aload_n 0, 1) := by decide +kernel
theorem dX9_like_56 : decode cX9_like 56 = .ok (.iload 5, 2) := by decide +kernel
theorem dX9_like_58 : decode cX9_like 58 = .ok (.iload_n 1, 1) := by decide +kernel
theorem dX9_like_59 : decode cX9_like 59 = .ok (.invokevirtual 199, 3) := by decide +kernel
theorem dX9_like_62 : decode cX9_like 62 = .ok (.istore 6, 2) := by decide +kernel
theorem dX9_like_64 : decode cX9_like 64 = .ok (.iload_n 2, 1) := by decide +kernel
theorem dX9_like_65 : decode cX9_like 65 = .ok (.ifCond .lt 9, 3) := by decide +kernel
theorem dX9_like_68 : decode cX9_like 68 = .ok (.iload 6, 2) := by decide +kernel
theorem dX9_like_70 : decode cX9_like 70 = .ok (.iload_n 3, 1) := by decide +kernel
theorem dX9_like_71 : decode cX9_like 71 = .ok (.if_icmp .le 9, 3) := by decide +kernel
theorem dX9_like_74 : decode cX9_like 74 = .ok (.iload 4, 2) := by decide +kernel
theorem dX9_like_76 : decode cX9_like 76 = .ok (.istore_n 2, 1) := by decide +kernel
theorem dX9_like_77 : decode cX9_like 77 = .ok (.iload 6, 2) := by decide +kernel
theorem dX9_like_79 : decode cX9_like 79 = .ok (.istore_n 3, 1) := by decide +kernel
theorem dX9_like_80 : decode cX9_like 80 = .ok (.iinc 5 1, 3) := by decide +kernel
theorem dX9_like_83 : decode cX9_like 83 = .ok (.goto (-55), 3) := by decide +kernel
theorem dX9_like_86 : decode cX9_like 86 = .ok (.iinc 4 1, 3) := by decide +kernel
theorem dX9_like_89 : decode cX9_like 89 = .ok (.goto (-71), 3) := by decide +kernel
noncomputable def fX9_like_28 (l1 : Int32) (l4 : Int32) (i_ : Nat) (a_ : Int32 × Int32 × zc_N) : Int32 × Int32 × zc_N := ((if ((a_.2.2 42) (nI i_).toNatClampNeg) = l4 then (if (nI i_) = l1 then a_.1 else (if a_.1 < (0 : Int32) then l4 else (if (rX9_matchOf a_.2.2 (nI i_) l1) ≤ a_.2.1 then a_.1 else l4))) else a_.1), (if ((a_.2.2 42) (nI i_).toNatClampNeg) = l4 then (if (nI i_) = l1 then a_.2.1 else (if a_.1 < (0 : Int32) then (rX9_matchOf a_.2.2 (nI i_) l1) else (if (rX9_matchOf a_.2.2 (nI i_) l1) ≤ a_.2.1 then a_.2.1 else (rX9_matchOf a_.2.2 (nI i_) l1)))) else a_.2.1), (if ((a_.2.2 42) (nI i_).toNatClampNeg) = l4 then (if (nI i_) = l1 then a_.2.2 else (sX9_matchOf a_.2.2 (nI i_) l1)) else a_.2.2))
def qX9_like_28 (l1 : Int32) (l4 : Int32) (i_ : Nat) (a_ : Int32 × Int32 × zc_N) : Prop := (vp_in (nI i_) 24 ∧ ((((a_.2.2 42) (nI i_).toNatClampNeg) = l4 → (((nI i_) = l1 → True) ∧ (¬ (nI i_) = l1 → (pX9_matchOf a_.2.2 (nI i_) l1)))) ∧ (¬ ((a_.2.2 42) (nI i_).toNatClampNeg) = l4 → True)))
set_option maxHeartbeats 2000000 in
theorem lpX9_like_28 {G : zc_G} {Q : Option Value → zc_H → Prop} (P : zp) (σ : zc_N) (l1 : Int32) (l2 : Int32) (l3 : Int32) (l4 : Int32) (n_ : Nat) (hC_ : ∀ i28_ : Nat, i28_ ≤ n_ → ((((zfor (fX9_like_28 l1 l4) i28_ (l2, l3, σ)).2.2 32) 11) ≤ (nI i28_) ↔ n_ ≤ i28_)) (W1_ : ∀ i28_ : Nat, i28_ < n_ → qX9_like_28 l1 l4 i28_ (zfor (fX9_like_28 l1 l4) i28_ (l2, l3, σ)))
    (W2_ : zz G mX9_like 18 0 0 Q 86 [some (.ref 32), some (.int l1), some (.int (zfor (fX9_like_28 l1 l4) n_ (l2, l3, σ)).1), some (.int (zfor (fX9_like_28 l1 l4) n_ (l2, l3, σ)).2.1), some (.int l4), none, none] [] (hh P (zfor (fX9_like_28 l1 l4) n_ (l2, l3, σ)).2.2) 0 0) :
    zz G mX9_like 18 0 0 Q 28 [some (.ref 32), some (.int l1), some (.int l2), some (.int l3), some (.int l4), some (.int (nI 0)), none] [] (hh P σ) 0 0 := by
  refine zfor_nI (fun i_ a_ => zz G mX9_like 18 0 0 Q 28 [some (.ref 32), some (.int l1), some (.int a_.1), some (.int a_.2.1), some (.int l4), some (.int i_), none] [] (hh P a_.2.2) 0 0) (fX9_like_28 l1 l4) n_ (l2, l3, σ) (fun i_ hi_ k_ => ?_) ?_
  all_goals try dsimp only
  · have W3_ := W1_ i_ hi_
    have hD_ := hC_ i_ (Nat.le_of_lt hi_)
    generalize zfor (fX9_like_28 l1 l4) i_ (l2, l3, σ) = g_ at k_ W3_ hD_ ⊢
    obtain ⟨x0_, x1_, x2_⟩ := g_
    dsimp only at k_ W3_ hD_ ⊢
    rw [fX9_like_28] at k_
    rw [qX9_like_28] at W3_
    try dsimp only at W3_
    dsimp only at k_
    refine z_iload dX9_like_28 rfl ?_
    refine z_aloadr_n dX9_like_30 rfl ?_
    refine z_get (ci := 9) (r := (RX9, TX9, 38)) (j := 11) (v := .int ((x2_ 32) 11)) dX9_like_31 (Nat.le_of_ble_eq_true rfl) (zN rfl) rfl rfl (Nat.le_of_ble_eq_true rfl) fl_X9_131 rfl ?_
    refine z_icmp_ge (tgt := 86) dX9_like_34 (by decide) (fun c_ => absurd c_ (fun q_ => Nat.not_le_of_lt hi_ (hD_.mp q_))) (fun c_ => ?_)
    refine z_aloadr_n dX9_like_37 rfl ?_
    refine z_get (ci := 9) (r := (RX9, TX9, 38)) (j := 9) (v := .ref 42) dX9_like_38 (Nat.le_of_ble_eq_true rfl) (zN rfl) rfl rfl (Nat.le_of_ble_eq_true rfl) fl_X9_38 rfl ?_
    refine z_iload dX9_like_41 rfl ?_
    refine z_iald (v := ((x2_ 42) (nI i_).toNatClampNeg)) dX9_like_43 (zN rfl) rfl W3_.1 rfl ?_
    refine z_iload dX9_like_44 rfl ?_
    refine z_icmp_ne (tgt := 80) dX9_like_46 (by decide) (fun c_2 => ?_) (fun c_2 => ?_)
    · refine z_iinc (v := ((nI i_) + (1 : Int32))) (lv' := [some (.ref 32), some (.int l1), some (.int x0_), some (.int x1_), some (.int l4), some (.int ((nI i_) + (1 : Int32))), none]) dX9_like_80 (Nat.le_of_ble_eq_true rfl) rfl (by rw [k_iconst_1]) rfl ?_
      refine z_goto (tgt := 28) dX9_like_83 (by decide) ?_
      rw [nI_1]
      simpa only [if_neg c_2] using k_
    · refine z_iload dX9_like_49 rfl ?_
      refine z_iload_n dX9_like_51 rfl ?_
      refine z_icmp_eq (tgt := 80) dX9_like_52 (by decide) (fun c_3 => ?_) (fun c_3 => ?_)
      · refine z_iinc (v := ((nI i_) + (1 : Int32))) (lv' := [some (.ref 32), some (.int l1), some (.int x0_), some (.int x1_), some (.int l4), some (.int ((nI i_) + (1 : Int32))), none]) dX9_like_80 (Nat.le_of_ble_eq_true rfl) rfl (by rw [k_iconst_1]) rfl ?_
        refine z_goto (tgt := 28) dX9_like_83 (by decide) ?_
        rw [nI_1]
        simpa only [if_pos c_2, if_pos c_3] using k_
      · refine z_aloadr_n dX9_like_55 rfl ?_
        refine z_iload dX9_like_56 rfl ?_
        refine z_iload_n dX9_like_58 rfl ?_
        refine z_callV (ci := 9) (r := (RX9, TX9, 38)) (b := 32) (As := [.int (nI i_), .int l1]) (rest := []) (ctX9_matchOf P x2_ (nI i_) l1 ((W3_.2.1 c_2).2 c_3)) dX9_like_59 lk_X9_199 lv_X9_matchOf (Nat.le_of_ble_eq_true rfl) (zN rfl) rfl rfl rfl rfl (Nat.le_of_ble_eq_true rfl) (Nat.le_of_ble_eq_true rfl) (Nat.le_of_ble_eq_true rfl) (Nat.le_of_ble_eq_true rfl) (fun r_ h_ e_ => ?_)
        obtain ⟨e1_, e2_⟩ := e_
        subst e1_
        subst e2_
        show zz G mX9_like 18 0 0 Q 62 [some (.ref 32), some (.int l1), some (.int x0_), some (.int x1_), some (.int l4), some (.int (nI i_)), none] [.int (rX9_matchOf x2_ (nI i_) l1)] (hh P (sX9_matchOf x2_ (nI i_) l1)) 0 0
        refine z_istore (lv' := [some (.ref 32), some (.int l1), some (.int x0_), some (.int x1_), some (.int l4), some (.int (nI i_)), some (.int (rX9_matchOf x2_ (nI i_) l1))]) dX9_like_62 (Nat.le_of_ble_eq_true rfl) rfl ?_
        refine z_iload_n dX9_like_64 rfl ?_
        have K_1 : zz G mX9_like 18 0 0 Q 80 [some (.ref 32), some (.int l1), some (.int (if x0_ < (0 : Int32) then l4 else (if (rX9_matchOf x2_ (nI i_) l1) ≤ x1_ then x0_ else l4))), some (.int (if x0_ < (0 : Int32) then (rX9_matchOf x2_ (nI i_) l1) else (if (rX9_matchOf x2_ (nI i_) l1) ≤ x1_ then x1_ else (rX9_matchOf x2_ (nI i_) l1)))), some (.int l4), some (.int (nI i_)), none] [] (hh P (sX9_matchOf x2_ (nI i_) l1)) 0 0 := by
          refine z_iinc (v := ((nI i_) + (1 : Int32))) (lv' := [some (.ref 32), some (.int l1), some (.int (if x0_ < (0 : Int32) then l4 else (if (rX9_matchOf x2_ (nI i_) l1) ≤ x1_ then x0_ else l4))), some (.int (if x0_ < (0 : Int32) then (rX9_matchOf x2_ (nI i_) l1) else (if (rX9_matchOf x2_ (nI i_) l1) ≤ x1_ then x1_ else (rX9_matchOf x2_ (nI i_) l1)))), some (.int l4), some (.int ((nI i_) + (1 : Int32))), none]) dX9_like_80 (Nat.le_of_ble_eq_true rfl) rfl (by rw [k_iconst_1]) rfl ?_
          refine z_goto (tgt := 28) dX9_like_83 (by decide) ?_
          rw [nI_1]
          simpa only [if_pos c_2, if_neg c_3] using k_
        refine z_if_lt (tgt := 74) dX9_like_65 (by decide) (fun c_4 => ?_) (fun c_4 => ?_)
        · refine z_iload dX9_like_74 rfl ?_
          refine z_istore_n (lv' := [some (.ref 32), some (.int l1), some (.int l4), some (.int x1_), some (.int l4), some (.int (nI i_)), some (.int (rX9_matchOf x2_ (nI i_) l1))]) dX9_like_76 (Nat.le_of_ble_eq_true rfl) rfl ?_
          refine z_iload dX9_like_77 rfl ?_
          refine z_istore_n (lv' := [some (.ref 32), some (.int l1), some (.int l4), some (.int (rX9_matchOf x2_ (nI i_) l1)), some (.int l4), some (.int (nI i_)), some (.int (rX9_matchOf x2_ (nI i_) l1))]) dX9_like_79 (Nat.le_of_ble_eq_true rfl) rfl ?_
          refine zz_sub (lv' := [some (.ref 32), some (.int l1), some (.int l4), some (.int (rX9_matchOf x2_ (nI i_) l1)), some (.int l4), some (.int (nI i_)), none]) ⟨rfl, ⟨rfl, ⟨rfl, ⟨rfl, ⟨rfl, ⟨rfl, trivial⟩⟩⟩⟩⟩⟩ ?_
          rw [show (if x0_ < (0 : Int32) then l4 else (if (rX9_matchOf x2_ (nI i_) l1) ≤ x1_ then x0_ else l4)) = l4 from (if_pos c_4)] at K_1
          rw [show (if x0_ < (0 : Int32) then (rX9_matchOf x2_ (nI i_) l1) else (if (rX9_matchOf x2_ (nI i_) l1) ≤ x1_ then x1_ else (rX9_matchOf x2_ (nI i_) l1))) = (rX9_matchOf x2_ (nI i_) l1) from (if_pos c_4)] at K_1
          exact K_1
        · refine z_iload dX9_like_68 rfl ?_
          refine z_iload_n dX9_like_70 rfl ?_
          refine z_icmp_le (tgt := 80) dX9_like_71 (by decide) (fun c_5 => ?_) (fun c_5 => ?_)
          · refine zz_sub (lv' := [some (.ref 32), some (.int l1), some (.int x0_), some (.int x1_), some (.int l4), some (.int (nI i_)), none]) ⟨rfl, ⟨rfl, ⟨rfl, ⟨rfl, ⟨rfl, ⟨rfl, trivial⟩⟩⟩⟩⟩⟩ ?_
            rw [show (if x0_ < (0 : Int32) then l4 else (if (rX9_matchOf x2_ (nI i_) l1) ≤ x1_ then x0_ else l4)) = x0_ from ((if_neg c_4).trans (if_pos c_5))] at K_1
            rw [show (if x0_ < (0 : Int32) then (rX9_matchOf x2_ (nI i_) l1) else (if (rX9_matchOf x2_ (nI i_) l1) ≤ x1_ then x1_ else (rX9_matchOf x2_ (nI i_) l1))) = x1_ from ((if_neg c_4).trans (if_pos c_5))] at K_1
            exact K_1
          · refine z_iload dX9_like_74 rfl ?_
            refine z_istore_n (lv' := [some (.ref 32), some (.int l1), some (.int l4), some (.int x1_), some (.int l4), some (.int (nI i_)), some (.int (rX9_matchOf x2_ (nI i_) l1))]) dX9_like_76 (Nat.le_of_ble_eq_true rfl) rfl ?_
            refine z_iload dX9_like_77 rfl ?_
            refine z_istore_n (lv' := [some (.ref 32), some (.int l1), some (.int l4), some (.int (rX9_matchOf x2_ (nI i_) l1)), some (.int l4), some (.int (nI i_)), some (.int (rX9_matchOf x2_ (nI i_) l1))]) dX9_like_79 (Nat.le_of_ble_eq_true rfl) rfl ?_
            refine zz_sub (lv' := [some (.ref 32), some (.int l1), some (.int l4), some (.int (rX9_matchOf x2_ (nI i_) l1)), some (.int l4), some (.int (nI i_)), none]) ⟨rfl, ⟨rfl, ⟨rfl, ⟨rfl, ⟨rfl, ⟨rfl, trivial⟩⟩⟩⟩⟩⟩ ?_
            rw [show (if x0_ < (0 : Int32) then l4 else (if (rX9_matchOf x2_ (nI i_) l1) ≤ x1_ then x0_ else l4)) = l4 from ((if_neg c_4).trans (if_neg c_5))] at K_1
            rw [show (if x0_ < (0 : Int32) then (rX9_matchOf x2_ (nI i_) l1) else (if (rX9_matchOf x2_ (nI i_) l1) ≤ x1_ then x1_ else (rX9_matchOf x2_ (nI i_) l1))) = (rX9_matchOf x2_ (nI i_) l1) from ((if_neg c_4).trans (if_neg c_5))] at K_1
            exact K_1
  · have hD_ := hC_ n_ (Nat.le_refl _)
    generalize zfor (fX9_like_28 l1 l4) n_ (l2, l3, σ) = g_ at W2_ hD_ ⊢
    obtain ⟨x0_, x1_, x2_⟩ := g_
    dsimp only at W2_ hD_ ⊢
    refine z_iload dX9_like_28 rfl ?_
    refine z_aloadr_n dX9_like_30 rfl ?_
    refine z_get (ci := 9) (r := (RX9, TX9, 38)) (j := 11) (v := .int ((x2_ 32) 11)) dX9_like_31 (Nat.le_of_ble_eq_true rfl) (zN rfl) rfl rfl (Nat.le_of_ble_eq_true rfl) fl_X9_131 rfl ?_
    refine z_icmp_ge (tgt := 86) dX9_like_34 (by decide) (fun c_ => ?_) (fun c_ => absurd (hD_.mpr (Nat.le_refl _)) c_)
    exact zz_sub (lv' := [some (.ref 32), some (.int l1), some (.int x0_), some (.int x1_), some (.int l4), none, none]) ⟨rfl, ⟨rfl, ⟨rfl, ⟨rfl, ⟨rfl, trivial⟩⟩⟩⟩⟩ W2_

theorem dX9_like_18 : decode cX9_like 18 = .ok (.iload 4, 2) := by decide +kernel
theorem dX9_like_20 : decode cX9_like 20 = .ok (.bipush 10, 2) := by decide +kernel
theorem dX9_like_22 : decode cX9_like 22 = .ok (.if_icmp .ge 70, 3) := by decide +kernel
theorem dX9_like_25 : decode cX9_like 25 = .ok (.iconst 0, 1) := by decide +kernel
theorem dX9_like_26 : decode cX9_like 26 = .ok (.istore 5, 2) := by decide +kernel
theorem dX9_like_92 : decode cX9_like 92 = .ok (.iload_n 2, 1) := by decide +kernel
noncomputable def fX9_like_18 (l1 : Int32) (i_ : Nat) (a_ : Int32 × Int32 × zc_N) : Int32 × Int32 × zc_N := ((zfor (fX9_like_28 l1 (nI i_)) ((((a_.2.2 32) 11)).toNatClampNeg) (a_.1, a_.2.1, a_.2.2)).1, (zfor (fX9_like_28 l1 (nI i_)) ((((a_.2.2 32) 11)).toNatClampNeg) (a_.1, a_.2.1, a_.2.2)).2.1, (zfor (fX9_like_28 l1 (nI i_)) ((((a_.2.2 32) 11)).toNatClampNeg) (a_.1, a_.2.1, a_.2.2)).2.2)
def qX9_like_18 (l1 : Int32) (i_ : Nat) (a_ : Int32 × Int32 × zc_N) : Prop := ((∀ i28_ : Nat, i28_ ≤ ((((a_.2.2 32) 11)).toNatClampNeg) → ((((zfor (fX9_like_28 l1 (nI i_)) i28_ (a_.1, a_.2.1, a_.2.2)).2.2 32) 11) ≤ (nI i28_) ↔ ((((a_.2.2 32) 11)).toNatClampNeg) ≤ i28_)) ∧ (∀ i28_ : Nat, i28_ < ((((a_.2.2 32) 11)).toNatClampNeg) → qX9_like_28 l1 (nI i_) i28_ (zfor (fX9_like_28 l1 (nI i_)) i28_ (a_.1, a_.2.1, a_.2.2))))
set_option maxHeartbeats 2000000 in
theorem lpX9_like_18 {G : zc_G} {Q : Option Value → zc_H → Prop} (P : zp) (σ : zc_N) (l1 : Int32) (l2 : Int32) (l3 : Int32) (W1_ : ∀ i18_ : Nat, i18_ < 10 → qX9_like_18 l1 i18_ (zfor (fX9_like_18 l1) i18_ (l2, l3, σ)))
    (W2_ : zz G mX9_like 18 0 0 Q 92 [none, none, some (.int (zfor (fX9_like_18 l1) 10 (l2, l3, σ)).1), none, none, none, none] [] (hh P (zfor (fX9_like_18 l1) 10 (l2, l3, σ)).2.2) 0 0) :
    zz G mX9_like 18 0 0 Q 18 [some (.ref 32), some (.int l1), some (.int l2), some (.int l3), some (.int (nI 0)), none, none] [] (hh P σ) 0 0 := by
  refine zfor_nI (fun i_ a_ => zz G mX9_like 18 0 0 Q 18 [some (.ref 32), some (.int l1), some (.int a_.1), some (.int a_.2.1), some (.int i_), none, none] [] (hh P a_.2.2) 0 0) (fX9_like_18 l1) 10 (l2, l3, σ) (fun i_ hi_ k_ => ?_) ?_
  all_goals try dsimp only
  · have W3_ := W1_ i_ hi_
    generalize zfor (fX9_like_18 l1) i_ (l2, l3, σ) = g_ at k_ W3_ ⊢
    obtain ⟨x0_, x1_, x2_⟩ := g_
    dsimp only at k_ W3_ ⊢
    rw [fX9_like_18] at k_
    rw [qX9_like_18] at W3_
    try dsimp only at W3_
    dsimp only at k_
    refine z_iload dX9_like_18 rfl ?_
    refine z_bipush dX9_like_20 k_bipush_10 ?_
    refine z_icmp_ge (tgt := 92) dX9_like_22 (by decide) (fun c_ => absurd c_ (nI_ge hi_ (by decide))) (fun c_ => ?_)
    refine z_iconst dX9_like_25 k_iconst_0 ?_
    refine z_istore (lv' := [some (.ref 32), some (.int l1), some (.int x0_), some (.int x1_), some (.int (nI i_)), some (.int (0 : Int32)), none]) dX9_like_26 (Nat.le_of_ble_eq_true rfl) rfl ?_
    refine lpX9_like_28 P x2_ l1 x0_ x1_ (nI i_) ((((x2_ 32) 11)).toNatClampNeg) W3_.1 W3_.2 ?_
    show zz G mX9_like 18 0 0 Q 86 [some (.ref 32), some (.int l1), some (.int (zfor (fX9_like_28 l1 (nI i_)) ((((x2_ 32) 11)).toNatClampNeg) (x0_, x1_, x2_)).1), some (.int (zfor (fX9_like_28 l1 (nI i_)) ((((x2_ 32) 11)).toNatClampNeg) (x0_, x1_, x2_)).2.1), some (.int (nI i_)), none, none] [] (hh P (zfor (fX9_like_28 l1 (nI i_)) ((((x2_ 32) 11)).toNatClampNeg) (x0_, x1_, x2_)).2.2) 0 0
    refine z_iinc (v := ((nI i_) + (1 : Int32))) (lv' := [some (.ref 32), some (.int l1), some (.int (zfor (fX9_like_28 l1 (nI i_)) ((((x2_ 32) 11)).toNatClampNeg) (x0_, x1_, x2_)).1), some (.int (zfor (fX9_like_28 l1 (nI i_)) ((((x2_ 32) 11)).toNatClampNeg) (x0_, x1_, x2_)).2.1), some (.int ((nI i_) + (1 : Int32))), none, none]) dX9_like_86 (Nat.le_of_ble_eq_true rfl) rfl (by rw [k_iconst_1]) rfl ?_
    refine z_goto (tgt := 18) dX9_like_89 (by decide) ?_
    rw [nI_1]
    exact k_
  · generalize zfor (fX9_like_18 l1) 10 (l2, l3, σ) = g_ at W2_ ⊢
    obtain ⟨x0_, x1_, x2_⟩ := g_
    dsimp only at W2_ ⊢
    refine z_iload dX9_like_18 rfl ?_
    refine z_bipush dX9_like_20 k_bipush_10 ?_
    refine z_icmp_ge (tgt := 92) dX9_like_22 (by decide) (fun c_ => ?_) (fun c_ => absurd (by decide) c_)
    exact zz_sub (lv' := [none, none, some (.int x0_), none, none, none, none]) ⟨rfl, trivial⟩ W2_

theorem dX9_like_0 : decode cX9_like 0 = .ok (.aload_n 0, 1) := by decide +kernel
theorem dX9_like_1 : decode cX9_like 1 = .ok (.iload_n 1, 1) := by decide +kernel
theorem dX9_like_2 : decode cX9_like 2 = .ok (.invokevirtual 137, 3) := by decide +kernel
theorem dX9_like_5 : decode cX9_like 5 = .ok (.ifCond .ne 5, 3) := by decide +kernel
theorem dX9_like_8 : decode cX9_like 8 = .ok (.iconst (-1), 1) := by decide +kernel
theorem dX9_like_9 : decode cX9_like 9 = .ok (.ireturn, 1) := by decide +kernel
theorem dX9_like_10 : decode cX9_like 10 = .ok (.bipush (-4), 2) := by decide +kernel
theorem dX9_like_12 : decode cX9_like 12 = .ok (.istore_n 2, 1) := by decide +kernel
theorem dX9_like_13 : decode cX9_like 13 = .ok (.iconst 0, 1) := by decide +kernel
theorem dX9_like_14 : decode cX9_like 14 = .ok (.istore_n 3, 1) := by decide +kernel
theorem dX9_like_15 : decode cX9_like 15 = .ok (.iconst 0, 1) := by decide +kernel
theorem dX9_like_16 : decode cX9_like 16 = .ok (.istore 4, 2) := by decide +kernel
theorem dX9_like_93 : decode cX9_like 93 = .ok (.ireturn, 1) := by decide +kernel
def pX9_like (σ : zc_N) (a1 : Int32) : Prop := (((rX9_isPrint σ a1) = (0 : Int32) → True) ∧ (¬ (rX9_isPrint σ a1) = (0 : Int32) → (∀ i18_ : Nat, i18_ < 10 → qX9_like_18 a1 i18_ (zfor (fX9_like_18 a1) i18_ ((-4 : Int32), (0 : Int32), σ)))))
noncomputable def rX9_like (σ : zc_N) (a1 : Int32) : Int32 := (if (rX9_isPrint σ a1) = (0 : Int32) then (-1 : Int32) else (zfor (fX9_like_18 a1) 10 ((-4 : Int32), (0 : Int32), σ)).1)
noncomputable def sX9_like (σ : zc_N) (a1 : Int32) : zc_N := (if (rX9_isPrint σ a1) = (0 : Int32) then σ else (zfor (fX9_like_18 a1) 10 ((-4 : Int32), (0 : Int32), σ)).2.2)
set_option maxHeartbeats 1000000 in
theorem ctX9_like (P : zp) (σ : zc_N) (a1 : Int32) (W_ : (pX9_like σ a1)) : sp mX9_like 18 0 0 [.ref 32, .int a1] (hh P σ) (fun r_ h_ => r_ = some (.int (rX9_like σ a1)) ∧ h_ = hh P (sX9_like σ a1)) := by
  refine sp_of (lv := [some (.ref 32), some (.int a1), none, none, none, none, none]) (by decide) (zcats_ok _ rfl) (Nat.le_of_ble_eq_true rfl) (zlv_ok _ 5 rfl) (fun G => ?_)
  generalize hQ_ : (fun (r_ : Option Value) (h_ : zc_H) => r_ = some (.int (rX9_like σ a1)) ∧ h_ = hh P (sX9_like σ a1)) = Q_
  unfold pX9_like at W_
  refine z_aloadr_n dX9_like_0 rfl ?_
  refine z_iload_n dX9_like_1 rfl ?_
  refine z_callV (ci := 9) (r := (RX9, TX9, 38)) (b := 32) (As := [.int a1]) (rest := []) (ctX9_isPrint P σ a1) dX9_like_2 lk_X9_137 lv_X9_isPrint (Nat.le_of_ble_eq_true rfl) (zN rfl) rfl rfl rfl rfl (Nat.le_of_ble_eq_true rfl) (Nat.le_of_ble_eq_true rfl) (Nat.le_of_ble_eq_true rfl) (Nat.le_of_ble_eq_true rfl) (fun r_ h_ e_ => ?_)
  obtain ⟨e1_, e2_⟩ := e_
  subst e1_
  subst e2_
  show zz G mX9_like 18 0 0 Q_ 5 [some (.ref 32), some (.int a1), none, none, none, none, none] [.int (rX9_isPrint σ a1)] (hh P σ) 0 0
  refine z_if_ne (tgt := 10) dX9_like_5 (by decide) (fun c_1 => ?_) (fun c_1 => ?_)
  · refine z_bipush dX9_like_10 k_bipush_m4 ?_
    refine z_istore_n (lv' := [some (.ref 32), some (.int a1), some (.int (-4 : Int32)), none, none, none, none]) dX9_like_12 (Nat.le_of_ble_eq_true rfl) rfl ?_
    refine z_iconst dX9_like_13 k_iconst_0 ?_
    refine z_istore_n (lv' := [some (.ref 32), some (.int a1), some (.int (-4 : Int32)), some (.int (0 : Int32)), none, none, none]) dX9_like_14 (Nat.le_of_ble_eq_true rfl) rfl ?_
    refine z_iconst dX9_like_15 k_iconst_0 ?_
    refine z_istore (lv' := [some (.ref 32), some (.int a1), some (.int (-4 : Int32)), some (.int (0 : Int32)), some (.int (0 : Int32)), none, none]) dX9_like_16 (Nat.le_of_ble_eq_true rfl) rfl ?_
    refine lpX9_like_18 P σ a1 (-4 : Int32) (0 : Int32) (W_.2 c_1) ?_
    show zz G mX9_like 18 0 0 Q_ 92 [none, none, some (.int (zfor (fX9_like_18 a1) 10 ((-4 : Int32), (0 : Int32), σ)).1), none, none, none, none] [] (hh P (zfor (fX9_like_18 a1) 10 ((-4 : Int32), (0 : Int32), σ)).2.2) 0 0
    refine z_iload_n dX9_like_92 rfl ?_
    exact z_ireturn dX9_like_93 rfl rfl (Nat.le_of_ble_eq_true rfl) (Nat.le_of_ble_eq_true rfl) (by rw [← hQ_]; exact ⟨(by rw [rX9_like]; try simp only [if_neg c_1]), (by rw [sX9_like]; try simp only [if_neg c_1])⟩)
  · refine z_iconst dX9_like_8 k_iconst_m1 ?_
    exact z_ireturn dX9_like_9 rfl rfl (Nat.le_of_ble_eq_true rfl) (Nat.le_of_ble_eq_true rfl) (by rw [← hQ_]; exact ⟨(by rw [rX9_like]; try simp only [if_pos c_1]), (by rw [sX9_like]; try simp only [if_pos c_1])⟩)

theorem dX9_strangers_31 : decode cX9_strangers 31 = .ok (.iload 5, 2) := by decide +kernel
theorem dX9_strangers_33 : decode cX9_strangers 33 = .ok (.aload_n 0, 1) := by decide +kernel
theorem dX9_strangers_34 : decode cX9_strangers 34 = .ok (.getfield 131, 3) := by decide +kernel
theorem dX9_strangers_37 : decode cX9_strangers 37 = .ok (.if_icmp .ge 71, 3) := by decide +kernel
theorem dX9_strangers_40 : decode cX9_strangers 40 = .ok (.aload_n 0, 1) := by decide +kernel
theorem dX9_strangers_41 : decode cX9_strangers 41 = .ok (.getfield 38, 3) := by decide +kernel
theorem dX9_strangers_44 : decode cX9_strangers 44 = .ok (.iload 4, 2) := by decide +kernel
theorem dX9_strangers_46 : decode cX9_strangers 46 = .ok (.iaload, 1) := by decide +kernel
theorem dX9_strangers_47 : decode cX9_strangers 47 = .ok (.ifCond .lt 55, 3) := by decide +kernel
theorem dX9_strangers_50 : decode cX9_strangers 50 = .ok (.aload_n 0, 1) := by decide +kernel
theorem dX9_strangers_51 : decode cX9_strangers 51 = .ok (.getfield 38, 3) := by decide +kernel
theorem dX9_strangers_54 : decode cX9_strangers 54 = .ok (.iload 5, 2) := by decide +kernel
theorem dX9_strangers_56 : decode cX9_strangers 56 = .ok (.iaload, 1) := by decide +kernel
theorem dX9_strangers_57 : decode cX9_strangers 57 = .ok (.ifCond .lt 45, 3) := by decide +kernel
theorem dX9_strangers_60 : decode cX9_strangers 60 = .ok (.aload_n 0, 1) := by decide +kernel
theorem dX9_strangers_61 : decode cX9_strangers 61 = .ok (.getfield 38, 3) := by decide +kernel
theorem dX9_strangers_64 : decode cX9_strangers 64 = .ok (.iload 4, 2) := by decide +kernel
theorem dX9_strangers_66 : decode cX9_strangers 66 = .ok (.iaload, 1) := by decide +kernel
theorem dX9_strangers_67 : decode cX9_strangers 67 = .ok (.aload_n 0, 1) := by decide +kernel
theorem dX9_strangers_68 : decode cX9_strangers 68 = .ok (.getfield 38, 3) := by decide +kernel
theorem dX9_strangers_71 : decode cX9_strangers 71 = .ok (.iload 5, 2) := by decide +kernel
theorem dX9_strangers_73 : decode cX9_strangers 73 = .ok (.iaload, 1) := by decide +kernel
theorem dX9_strangers_74 : decode cX9_strangers 74 = .ok (.if_icmp .eq 28, 3) := by decide +kernel
theorem dX9_strangers_77 : decode cX9_strangers 77 = .ok (.iload_n 3, 1) := by decide +kernel
theorem dX9_strangers_78 : decode cX9_strangers 78 = .ok (.iload_n 2, 1) := by decide +kernel
theorem dX9_strangers_79 : decode cX9_strangers 79 = .ok (.iconst 1, 1) := by decide +kernel
theorem dX9_strangers_80 : decode cX9_strangers 80 = .ok (.if_icmp .eq 15, 3) := by decide +kernel
theorem dX9_strangers_83 : decode cX9_strangers 83 = .ok (.aload_n 0, 1) := by decide +kernel
theorem dX9_strangers_84 : decode cX9_strangers 84 = .ok (.iload 4, 2) := by decide +kernel
theorem dX9_strangers_86 : decode cX9_strangers 86 = .ok (.iload 5, 2) := by decide +kernel
theorem dX9_strangers_88 : decode cX9_strangers 88 = .ok (.invokevirtual 199, 3) := by decide +kernel
theorem dX9_strangers_91 : decode cX9_strangers 91 = .ok (.iload_n 1, 1) := by decide +kernel
theorem dX9_strangers_92 : decode cX9_strangers 92 = .ok (.if_icmp .lt 7, 3) := by decide +kernel
theorem dX9_strangers_95 : decode cX9_strangers 95 = .ok (.iconst 1, 1) := by decide +kernel
theorem dX9_strangers_96 : decode cX9_strangers 96 = .ok (.goto 4, 3) := by decide +kernel
theorem dX9_strangers_99 : decode cX9_strangers 99 = .ok (.iconst 0, 1) := by decide +kernel
theorem dX9_strangers_100 : decode cX9_strangers 100 = .ok (.iadd, 1) := by decide +kernel
theorem dX9_strangers_101 : decode cX9_strangers 101 = .ok (.istore_n 3, 1) := by decide +kernel
theorem dX9_strangers_102 : decode cX9_strangers 102 = .ok (.iinc 5 1, 3) := by decide +kernel
theorem dX9_strangers_105 : decode cX9_strangers 105 = .ok (.goto (-74), 3) := by decide +kernel
theorem dX9_strangers_108 : decode cX9_strangers 108 = .ok (.iinc 4 1, 3) := by decide +kernel
theorem dX9_strangers_111 : decode cX9_strangers 111 = .ok (.goto (-95), 3) := by decide +kernel
noncomputable def fX9_strangers_31 (l1 : Int32) (l2 : Int32) (l4 : Int32) (s_ : Int32) (i_ : Nat) (a_ : Int32 × zc_N) : Int32 × zc_N := ((if ((a_.2 42) l4.toNatClampNeg) < (0 : Int32) then a_.1 else (if ((a_.2 42) (s_ + nI i_).toNatClampNeg) < (0 : Int32) then a_.1 else (if ((a_.2 42) l4.toNatClampNeg) = ((a_.2 42) (s_ + nI i_).toNatClampNeg) then a_.1 else (if l2 = (1 : Int32) then (a_.1 + (1 : Int32)) else (a_.1 + (if (rX9_matchOf a_.2 l4 (s_ + nI i_)) < l1 then (0 : Int32) else (1 : Int32))))))), (if ((a_.2 42) l4.toNatClampNeg) < (0 : Int32) then a_.2 else (if ((a_.2 42) (s_ + nI i_).toNatClampNeg) < (0 : Int32) then a_.2 else (if ((a_.2 42) l4.toNatClampNeg) = ((a_.2 42) (s_ + nI i_).toNatClampNeg) then a_.2 else (if l2 = (1 : Int32) then a_.2 else (sX9_matchOf a_.2 l4 (s_ + nI i_)))))))
def qX9_strangers_31 (l2 : Int32) (l4 : Int32) (s_ : Int32) (i_ : Nat) (a_ : Int32 × zc_N) : Prop := (vp_in l4 24 ∧ ((((a_.2 42) l4.toNatClampNeg) < (0 : Int32) → True) ∧ (¬ ((a_.2 42) l4.toNatClampNeg) < (0 : Int32) → (vp_in (s_ + nI i_) 24 ∧ ((((a_.2 42) (s_ + nI i_).toNatClampNeg) < (0 : Int32) → True) ∧ (¬ ((a_.2 42) (s_ + nI i_).toNatClampNeg) < (0 : Int32) → (vp_in l4 24 ∧ (vp_in (s_ + nI i_) 24 ∧ ((((a_.2 42) l4.toNatClampNeg) = ((a_.2 42) (s_ + nI i_).toNatClampNeg) → True) ∧ (¬ ((a_.2 42) l4.toNatClampNeg) = ((a_.2 42) (s_ + nI i_).toNatClampNeg) → ((l2 = (1 : Int32) → True) ∧ (¬ l2 = (1 : Int32) → (pX9_matchOf a_.2 l4 (s_ + nI i_))))))))))))))
set_option maxHeartbeats 2000000 in
theorem lpX9_strangers_31 {G : zc_G} {Q : Option Value → zc_H → Prop} (P : zp) (σ : zc_N) (l1 : Int32) (l2 : Int32) (l3 : Int32) (l4 : Int32) (s_ : Int32) (n_ : Nat) (hC_ : ∀ i31_ : Nat, i31_ ≤ n_ → ((((zfor (fX9_strangers_31 l1 l2 l4 s_) i31_ (l3, σ)).2 32) 11) ≤ (s_ + nI i31_) ↔ n_ ≤ i31_)) (W1_ : ∀ i31_ : Nat, i31_ < n_ → qX9_strangers_31 l2 l4 s_ i31_ (zfor (fX9_strangers_31 l1 l2 l4 s_) i31_ (l3, σ)))
    (W2_ : zz G mX9_strangers 18 0 0 Q 108 [some (.ref 32), some (.int l1), some (.int l2), some (.int (zfor (fX9_strangers_31 l1 l2 l4 s_) n_ (l3, σ)).1), some (.int l4), none] [] (hh P (zfor (fX9_strangers_31 l1 l2 l4 s_) n_ (l3, σ)).2) 0 0) :
    zz G mX9_strangers 18 0 0 Q 31 [some (.ref 32), some (.int l1), some (.int l2), some (.int l3), some (.int l4), some (.int s_)] [] (hh P σ) 0 0 := by
  refine zfor_sI (fun i_ a_ => zz G mX9_strangers 18 0 0 Q 31 [some (.ref 32), some (.int l1), some (.int l2), some (.int a_.1), some (.int l4), some (.int i_)] [] (hh P a_.2) 0 0) (fX9_strangers_31 l1 l2 l4 s_) s_ n_ (l3, σ) (fun i_ hi_ k_ => ?_) ?_
  all_goals try dsimp only
  · have W3_ := W1_ i_ hi_
    have hD_ := hC_ i_ (Nat.le_of_lt hi_)
    generalize zfor (fX9_strangers_31 l1 l2 l4 s_) i_ (l3, σ) = g_ at k_ W3_ hD_ ⊢
    obtain ⟨x0_, x1_⟩ := g_
    dsimp only at k_ W3_ hD_ ⊢
    rw [fX9_strangers_31] at k_
    rw [qX9_strangers_31] at W3_
    try dsimp only at W3_
    dsimp only at k_
    refine z_iload dX9_strangers_31 rfl ?_
    refine z_aloadr_n dX9_strangers_33 rfl ?_
    refine z_get (ci := 9) (r := (RX9, TX9, 38)) (j := 11) (v := .int ((x1_ 32) 11)) dX9_strangers_34 (Nat.le_of_ble_eq_true rfl) (zN rfl) rfl rfl (Nat.le_of_ble_eq_true rfl) fl_X9_131 rfl ?_
    refine z_icmp_ge (tgt := 108) dX9_strangers_37 (by decide) (fun c_ => absurd c_ (fun q_ => Nat.not_le_of_lt hi_ (hD_.mp q_))) (fun c_ => ?_)
    refine z_aloadr_n dX9_strangers_40 rfl ?_
    refine z_get (ci := 9) (r := (RX9, TX9, 38)) (j := 9) (v := .ref 42) dX9_strangers_41 (Nat.le_of_ble_eq_true rfl) (zN rfl) rfl rfl (Nat.le_of_ble_eq_true rfl) fl_X9_38 rfl ?_
    refine z_iload dX9_strangers_44 rfl ?_
    refine z_iald (v := ((x1_ 42) l4.toNatClampNeg)) dX9_strangers_46 (zN rfl) rfl W3_.1 rfl ?_
    refine z_if_lt (tgt := 102) dX9_strangers_47 (by decide) (fun c_2 => ?_) (fun c_2 => ?_)
    · refine z_iinc (v := ((s_ + nI i_) + (1 : Int32))) (lv' := [some (.ref 32), some (.int l1), some (.int l2), some (.int x0_), some (.int l4), some (.int ((s_ + nI i_) + (1 : Int32)))]) dX9_strangers_102 (Nat.le_of_ble_eq_true rfl) rfl (by rw [k_iconst_1]) rfl ?_
      refine z_goto (tgt := 31) dX9_strangers_105 (by decide) ?_
      rw [nS_1]
      simpa only [if_pos c_2] using k_
    · refine z_aloadr_n dX9_strangers_50 rfl ?_
      refine z_get (ci := 9) (r := (RX9, TX9, 38)) (j := 9) (v := .ref 42) dX9_strangers_51 (Nat.le_of_ble_eq_true rfl) (zN rfl) rfl rfl (Nat.le_of_ble_eq_true rfl) fl_X9_38 rfl ?_
      refine z_iload dX9_strangers_54 rfl ?_
      refine z_iald (v := ((x1_ 42) (s_ + nI i_).toNatClampNeg)) dX9_strangers_56 (zN rfl) rfl ((W3_.2.2 c_2).1) rfl ?_
      refine z_if_lt (tgt := 102) dX9_strangers_57 (by decide) (fun c_3 => ?_) (fun c_3 => ?_)
      · refine z_iinc (v := ((s_ + nI i_) + (1 : Int32))) (lv' := [some (.ref 32), some (.int l1), some (.int l2), some (.int x0_), some (.int l4), some (.int ((s_ + nI i_) + (1 : Int32)))]) dX9_strangers_102 (Nat.le_of_ble_eq_true rfl) rfl (by rw [k_iconst_1]) rfl ?_
        refine z_goto (tgt := 31) dX9_strangers_105 (by decide) ?_
        rw [nS_1]
        simpa only [if_neg c_2, if_pos c_3] using k_
      · refine z_aloadr_n dX9_strangers_60 rfl ?_
        refine z_get (ci := 9) (r := (RX9, TX9, 38)) (j := 9) (v := .ref 42) dX9_strangers_61 (Nat.le_of_ble_eq_true rfl) (zN rfl) rfl rfl (Nat.le_of_ble_eq_true rfl) fl_X9_38 rfl ?_
        refine z_iload dX9_strangers_64 rfl ?_
        refine z_iald (v := ((x1_ 42) l4.toNatClampNeg)) dX9_strangers_66 (zN rfl) rfl (((W3_.2.2 c_2).2.2 c_3).1) rfl ?_
        refine z_aloadr_n dX9_strangers_67 rfl ?_
        refine z_get (ci := 9) (r := (RX9, TX9, 38)) (j := 9) (v := .ref 42) dX9_strangers_68 (Nat.le_of_ble_eq_true rfl) (zN rfl) rfl rfl (Nat.le_of_ble_eq_true rfl) fl_X9_38 rfl ?_
        refine z_iload dX9_strangers_71 rfl ?_
        refine z_iald (v := ((x1_ 42) (s_ + nI i_).toNatClampNeg)) dX9_strangers_73 (zN rfl) rfl (((W3_.2.2 c_2).2.2 c_3).2.1) rfl ?_
        refine z_icmp_eq (tgt := 102) dX9_strangers_74 (by decide) (fun c_4 => ?_) (fun c_4 => ?_)
        · refine z_iinc (v := ((s_ + nI i_) + (1 : Int32))) (lv' := [some (.ref 32), some (.int l1), some (.int l2), some (.int x0_), some (.int l4), some (.int ((s_ + nI i_) + (1 : Int32)))]) dX9_strangers_102 (Nat.le_of_ble_eq_true rfl) rfl (by rw [k_iconst_1]) rfl ?_
          refine z_goto (tgt := 31) dX9_strangers_105 (by decide) ?_
          rw [nS_1]
          simpa only [if_neg c_2, if_neg c_3, if_pos c_4] using k_
        · refine z_iload_n dX9_strangers_77 rfl ?_
          refine z_iload_n dX9_strangers_78 rfl ?_
          refine z_iconst dX9_strangers_79 k_iconst_1 ?_
          refine z_icmp_eq (tgt := 95) dX9_strangers_80 (by decide) (fun c_5 => ?_) (fun c_5 => ?_)
          · refine z_iconst dX9_strangers_95 k_iconst_1 ?_
            refine z_goto (tgt := 100) dX9_strangers_96 (by decide) ?_
            refine z_iadd (v := (x0_ + (1 : Int32))) dX9_strangers_100 rfl ?_
            refine z_istore_n (lv' := [some (.ref 32), some (.int l1), some (.int l2), some (.int (x0_ + (1 : Int32))), some (.int l4), some (.int (s_ + nI i_))]) dX9_strangers_101 (Nat.le_of_ble_eq_true rfl) rfl ?_
            refine z_iinc (v := ((s_ + nI i_) + (1 : Int32))) (lv' := [some (.ref 32), some (.int l1), some (.int l2), some (.int (x0_ + (1 : Int32))), some (.int l4), some (.int ((s_ + nI i_) + (1 : Int32)))]) dX9_strangers_102 (Nat.le_of_ble_eq_true rfl) rfl (by rw [k_iconst_1]) rfl ?_
            refine z_goto (tgt := 31) dX9_strangers_105 (by decide) ?_
            rw [nS_1]
            simpa only [if_neg c_2, if_neg c_3, if_neg c_4, if_pos c_5] using k_
          · refine z_aloadr_n dX9_strangers_83 rfl ?_
            refine z_iload dX9_strangers_84 rfl ?_
            refine z_iload dX9_strangers_86 rfl ?_
            refine z_callV (ci := 9) (r := (RX9, TX9, 38)) (b := 32) (As := [.int l4, .int (s_ + nI i_)]) (rest := [.int x0_]) (ctX9_matchOf P x1_ l4 (s_ + nI i_) ((((W3_.2.2 c_2).2.2 c_3).2.2.2 c_4).2 c_5)) dX9_strangers_88 lk_X9_199 lv_X9_matchOf (Nat.le_of_ble_eq_true rfl) (zN rfl) rfl rfl rfl rfl (Nat.le_of_ble_eq_true rfl) (Nat.le_of_ble_eq_true rfl) (Nat.le_of_ble_eq_true rfl) (Nat.le_of_ble_eq_true rfl) (fun r_ h_ e_ => ?_)
            obtain ⟨e1_, e2_⟩ := e_
            subst e1_
            subst e2_
            show zz G mX9_strangers 18 0 0 Q 91 [some (.ref 32), some (.int l1), some (.int l2), some (.int x0_), some (.int l4), some (.int (s_ + nI i_))] [.int (rX9_matchOf x1_ l4 (s_ + nI i_)), .int x0_] (hh P (sX9_matchOf x1_ l4 (s_ + nI i_))) 0 0
            refine z_iload_n dX9_strangers_91 rfl ?_
            have K_1 : zz G mX9_strangers 18 0 0 Q 100 [some (.ref 32), some (.int l1), some (.int l2), none, some (.int l4), some (.int (s_ + nI i_))] [.int (if (rX9_matchOf x1_ l4 (s_ + nI i_)) < l1 then (0 : Int32) else (1 : Int32)), .int x0_] (hh P (sX9_matchOf x1_ l4 (s_ + nI i_))) 0 0 := by
              refine z_iadd (v := (x0_ + (if (rX9_matchOf x1_ l4 (s_ + nI i_)) < l1 then (0 : Int32) else (1 : Int32)))) dX9_strangers_100 rfl ?_
              refine z_istore_n (lv' := [some (.ref 32), some (.int l1), some (.int l2), some (.int (x0_ + (if (rX9_matchOf x1_ l4 (s_ + nI i_)) < l1 then (0 : Int32) else (1 : Int32)))), some (.int l4), some (.int (s_ + nI i_))]) dX9_strangers_101 (Nat.le_of_ble_eq_true rfl) rfl ?_
              refine z_iinc (v := ((s_ + nI i_) + (1 : Int32))) (lv' := [some (.ref 32), some (.int l1), some (.int l2), some (.int (x0_ + (if (rX9_matchOf x1_ l4 (s_ + nI i_)) < l1 then (0 : Int32) else (1 : Int32)))), some (.int l4), some (.int ((s_ + nI i_) + (1 : Int32)))]) dX9_strangers_102 (Nat.le_of_ble_eq_true rfl) rfl (by rw [k_iconst_1]) rfl ?_
              refine z_goto (tgt := 31) dX9_strangers_105 (by decide) ?_
              rw [nS_1]
              simpa only [if_neg c_2, if_neg c_3, if_neg c_4, if_neg c_5] using k_
            refine z_icmp_lt (tgt := 99) dX9_strangers_92 (by decide) (fun c_6 => ?_) (fun c_6 => ?_)
            · refine z_iconst dX9_strangers_99 k_iconst_0 ?_
              refine zz_sub (lv' := [some (.ref 32), some (.int l1), some (.int l2), none, some (.int l4), some (.int (s_ + nI i_))]) ⟨rfl, ⟨rfl, ⟨rfl, ⟨rfl, ⟨rfl, trivial⟩⟩⟩⟩⟩ ?_
              rw [show (if (rX9_matchOf x1_ l4 (s_ + nI i_)) < l1 then (0 : Int32) else (1 : Int32)) = (0 : Int32) from (if_pos c_6)] at K_1
              exact K_1
            · refine z_iconst dX9_strangers_95 k_iconst_1 ?_
              refine z_goto (tgt := 100) dX9_strangers_96 (by decide) ?_
              refine zz_sub (lv' := [some (.ref 32), some (.int l1), some (.int l2), none, some (.int l4), some (.int (s_ + nI i_))]) ⟨rfl, ⟨rfl, ⟨rfl, ⟨rfl, ⟨rfl, trivial⟩⟩⟩⟩⟩ ?_
              rw [show (if (rX9_matchOf x1_ l4 (s_ + nI i_)) < l1 then (0 : Int32) else (1 : Int32)) = (1 : Int32) from (if_neg c_6)] at K_1
              exact K_1
  · have hD_ := hC_ n_ (Nat.le_refl _)
    generalize zfor (fX9_strangers_31 l1 l2 l4 s_) n_ (l3, σ) = g_ at W2_ hD_ ⊢
    obtain ⟨x0_, x1_⟩ := g_
    dsimp only at W2_ hD_ ⊢
    refine z_iload dX9_strangers_31 rfl ?_
    refine z_aloadr_n dX9_strangers_33 rfl ?_
    refine z_get (ci := 9) (r := (RX9, TX9, 38)) (j := 11) (v := .int ((x1_ 32) 11)) dX9_strangers_34 (Nat.le_of_ble_eq_true rfl) (zN rfl) rfl rfl (Nat.le_of_ble_eq_true rfl) fl_X9_131 rfl ?_
    refine z_icmp_ge (tgt := 108) dX9_strangers_37 (by decide) (fun c_ => ?_) (fun c_ => absurd (hD_.mpr (Nat.le_refl _)) c_)
    exact zz_sub (lv' := [some (.ref 32), some (.int l1), some (.int l2), some (.int x0_), some (.int l4), none]) ⟨rfl, ⟨rfl, ⟨rfl, ⟨rfl, ⟨rfl, trivial⟩⟩⟩⟩⟩ W2_

theorem dX9_strangers_16 : decode cX9_strangers 16 = .ok (.iload 4, 2) := by decide +kernel
theorem dX9_strangers_18 : decode cX9_strangers 18 = .ok (.aload_n 0, 1) := by decide +kernel
theorem dX9_strangers_19 : decode cX9_strangers 19 = .ok (.getfield 131, 3) := by decide +kernel
theorem dX9_strangers_22 : decode cX9_strangers 22 = .ok (.if_icmp .ge 92, 3) := by decide +kernel
theorem dX9_strangers_25 : decode cX9_strangers 25 = .ok (.iload 4, 2) := by decide +kernel
theorem dX9_strangers_27 : decode cX9_strangers 27 = .ok (.iconst 1, 1) := by decide +kernel
theorem dX9_strangers_28 : decode cX9_strangers 28 = .ok (.iadd, 1) := by decide +kernel
theorem dX9_strangers_29 : decode cX9_strangers 29 = .ok (.istore 5, 2) := by decide +kernel
theorem dX9_strangers_114 : decode cX9_strangers 114 = .ok (.iload_n 3, 1) := by decide +kernel
noncomputable def vX9_strangers_1 (l1 : Int32) (l2 : Int32) (l3 : Int32) (l4 : Int32) (σ : zc_N) : zc_N := (zfor (fX9_strangers_31 l1 l2 l4 (l4 + (1 : Int32))) ((((σ 32) 11) - (l4 + (1 : Int32))).toNatClampNeg) (l3, σ)).2
noncomputable def vX9_strangers_2 (l1 : Int32) (l2 : Int32) (l3 : Int32) (l4 : Int32) (σ : zc_N) : Int32 := (zfor (fX9_strangers_31 l1 l2 l4 (l4 + (1 : Int32))) ((((σ 32) 11) - (l4 + (1 : Int32))).toNatClampNeg) (l3, σ)).1
noncomputable def fX9_strangers_16 (l1 : Int32) (l2 : Int32) (i_ : Nat) (a_ : Int32 × zc_N) : Int32 × zc_N := ((vX9_strangers_2 l1 l2 a_.1 (nI i_) a_.2), (vX9_strangers_1 l1 l2 a_.1 (nI i_) a_.2))
def qX9_strangers_16 (l1 : Int32) (l2 : Int32) (i_ : Nat) (a_ : Int32 × zc_N) : Prop := ((∀ i31_ : Nat, i31_ ≤ ((((a_.2 32) 11) - ((nI i_) + (1 : Int32))).toNatClampNeg) → ((((zfor (fX9_strangers_31 l1 l2 (nI i_) ((nI i_) + (1 : Int32))) i31_ (a_.1, a_.2)).2 32) 11) ≤ (((nI i_) + (1 : Int32)) + nI i31_) ↔ ((((a_.2 32) 11) - ((nI i_) + (1 : Int32))).toNatClampNeg) ≤ i31_)) ∧ (∀ i31_ : Nat, i31_ < ((((a_.2 32) 11) - ((nI i_) + (1 : Int32))).toNatClampNeg) → qX9_strangers_31 l2 (nI i_) ((nI i_) + (1 : Int32)) i31_ (zfor (fX9_strangers_31 l1 l2 (nI i_) ((nI i_) + (1 : Int32))) i31_ (a_.1, a_.2))))
set_option maxHeartbeats 2000000 in
theorem lpX9_strangers_16 {G : zc_G} {Q : Option Value → zc_H → Prop} (P : zp) (σ : zc_N) (l1 : Int32) (l2 : Int32) (l3 : Int32) (n_ : Nat) (hC_ : ∀ i16_ : Nat, i16_ ≤ n_ → ((((zfor (fX9_strangers_16 l1 l2) i16_ (l3, σ)).2 32) 11) ≤ (nI i16_) ↔ n_ ≤ i16_)) (W1_ : ∀ i16_ : Nat, i16_ < n_ → qX9_strangers_16 l1 l2 i16_ (zfor (fX9_strangers_16 l1 l2) i16_ (l3, σ)))
    (W2_ : zz G mX9_strangers 18 0 0 Q 114 [none, none, none, some (.int (zfor (fX9_strangers_16 l1 l2) n_ (l3, σ)).1), none, none] [] (hh P (zfor (fX9_strangers_16 l1 l2) n_ (l3, σ)).2) 0 0) :
    zz G mX9_strangers 18 0 0 Q 16 [some (.ref 32), some (.int l1), some (.int l2), some (.int l3), some (.int (nI 0)), none] [] (hh P σ) 0 0 := by
  refine zfor_nI (fun i_ a_ => zz G mX9_strangers 18 0 0 Q 16 [some (.ref 32), some (.int l1), some (.int l2), some (.int a_.1), some (.int i_), none] [] (hh P a_.2) 0 0) (fX9_strangers_16 l1 l2) n_ (l3, σ) (fun i_ hi_ k_ => ?_) ?_
  all_goals try dsimp only
  · have W3_ := W1_ i_ hi_
    have hD_ := hC_ i_ (Nat.le_of_lt hi_)
    generalize zfor (fX9_strangers_16 l1 l2) i_ (l3, σ) = g_ at k_ W3_ hD_ ⊢
    obtain ⟨x0_, x1_⟩ := g_
    dsimp only at k_ W3_ hD_ ⊢
    rw [fX9_strangers_16] at k_
    rw [qX9_strangers_16] at W3_
    try dsimp only at W3_
    dsimp only at k_
    refine z_iload dX9_strangers_16 rfl ?_
    refine z_aloadr_n dX9_strangers_18 rfl ?_
    refine z_get (ci := 9) (r := (RX9, TX9, 38)) (j := 11) (v := .int ((x1_ 32) 11)) dX9_strangers_19 (Nat.le_of_ble_eq_true rfl) (zN rfl) rfl rfl (Nat.le_of_ble_eq_true rfl) fl_X9_131 rfl ?_
    refine z_icmp_ge (tgt := 114) dX9_strangers_22 (by decide) (fun c_ => absurd c_ (fun q_ => Nat.not_le_of_lt hi_ (hD_.mp q_))) (fun c_ => ?_)
    refine z_iload dX9_strangers_25 rfl ?_
    refine z_iconst dX9_strangers_27 k_iconst_1 ?_
    refine z_iadd (v := ((nI i_) + (1 : Int32))) dX9_strangers_28 rfl ?_
    refine z_istore (lv' := [some (.ref 32), some (.int l1), some (.int l2), some (.int x0_), some (.int (nI i_)), some (.int ((nI i_) + (1 : Int32)))]) dX9_strangers_29 (Nat.le_of_ble_eq_true rfl) rfl ?_
    refine lpX9_strangers_31 P x1_ l1 l2 x0_ (nI i_) ((nI i_) + (1 : Int32)) ((((x1_ 32) 11) - ((nI i_) + (1 : Int32))).toNatClampNeg) W3_.1 W3_.2 ?_
    show zz G mX9_strangers 18 0 0 Q 108 [some (.ref 32), some (.int l1), some (.int l2), some (.int (vX9_strangers_2 l1 l2 x0_ (nI i_) x1_)), some (.int (nI i_)), none] [] (hh P (vX9_strangers_1 l1 l2 x0_ (nI i_) x1_)) 0 0
    refine z_iinc (v := ((nI i_) + (1 : Int32))) (lv' := [some (.ref 32), some (.int l1), some (.int l2), some (.int (vX9_strangers_2 l1 l2 x0_ (nI i_) x1_)), some (.int ((nI i_) + (1 : Int32))), none]) dX9_strangers_108 (Nat.le_of_ble_eq_true rfl) rfl (by rw [k_iconst_1]) rfl ?_
    refine z_goto (tgt := 16) dX9_strangers_111 (by decide) ?_
    rw [nI_1]
    exact k_
  · have hD_ := hC_ n_ (Nat.le_refl _)
    generalize zfor (fX9_strangers_16 l1 l2) n_ (l3, σ) = g_ at W2_ hD_ ⊢
    obtain ⟨x0_, x1_⟩ := g_
    dsimp only at W2_ hD_ ⊢
    refine z_iload dX9_strangers_16 rfl ?_
    refine z_aloadr_n dX9_strangers_18 rfl ?_
    refine z_get (ci := 9) (r := (RX9, TX9, 38)) (j := 11) (v := .int ((x1_ 32) 11)) dX9_strangers_19 (Nat.le_of_ble_eq_true rfl) (zN rfl) rfl rfl (Nat.le_of_ble_eq_true rfl) fl_X9_131 rfl ?_
    refine z_icmp_ge (tgt := 114) dX9_strangers_22 (by decide) (fun c_ => ?_) (fun c_ => absurd (hD_.mpr (Nat.le_refl _)) c_)
    exact zz_sub (lv' := [none, none, none, some (.int x0_), none, none]) ⟨rfl, trivial⟩ W2_

theorem dX9_strangers_0 : decode cX9_strangers 0 = .ok (.iload_n 2, 1) := by decide +kernel
theorem dX9_strangers_1 : decode cX9_strangers 1 = .ok (.iconst 0, 1) := by decide +kernel
theorem dX9_strangers_2 : decode cX9_strangers 2 = .ok (.iconst 1, 1) := by decide +kernel
theorem dX9_strangers_3 : decode cX9_strangers 3 = .ok (.invokestatic 96, 3) := by decide +kernel
theorem dX9_strangers_6 : decode cX9_strangers 6 = .ok (.ifCond .ne 5, 3) := by decide +kernel
theorem dX9_strangers_9 : decode cX9_strangers 9 = .ok (.iconst (-1), 1) := by decide +kernel
theorem dX9_strangers_10 : decode cX9_strangers 10 = .ok (.ireturn, 1) := by decide +kernel
theorem dX9_strangers_11 : decode cX9_strangers 11 = .ok (.iconst 0, 1) := by decide +kernel
theorem dX9_strangers_12 : decode cX9_strangers 12 = .ok (.istore_n 3, 1) := by decide +kernel
theorem dX9_strangers_13 : decode cX9_strangers 13 = .ok (.iconst 0, 1) := by decide +kernel
theorem dX9_strangers_14 : decode cX9_strangers 14 = .ok (.istore 4, 2) := by decide +kernel
theorem dX9_strangers_115 : decode cX9_strangers 115 = .ok (.ireturn, 1) := by decide +kernel
def pX9_strangers (σ : zc_N) (a1 : Int32) (a2 : Int32) : Prop := (((rX9_within a2 (0 : Int32) (1 : Int32)) = (0 : Int32) → True) ∧ (¬ (rX9_within a2 (0 : Int32) (1 : Int32)) = (0 : Int32) → ((∀ i16_ : Nat, i16_ ≤ ((((σ 32) 11)).toNatClampNeg) → ((((zfor (fX9_strangers_16 a1 a2) i16_ ((0 : Int32), σ)).2 32) 11) ≤ (nI i16_) ↔ ((((σ 32) 11)).toNatClampNeg) ≤ i16_)) ∧ (∀ i16_ : Nat, i16_ < ((((σ 32) 11)).toNatClampNeg) → qX9_strangers_16 a1 a2 i16_ (zfor (fX9_strangers_16 a1 a2) i16_ ((0 : Int32), σ))))))
noncomputable def rX9_strangers (σ : zc_N) (a1 : Int32) (a2 : Int32) : Int32 := (if (rX9_within a2 (0 : Int32) (1 : Int32)) = (0 : Int32) then (-1 : Int32) else (zfor (fX9_strangers_16 a1 a2) ((((σ 32) 11)).toNatClampNeg) ((0 : Int32), σ)).1)
noncomputable def sX9_strangers (σ : zc_N) (a1 : Int32) (a2 : Int32) : zc_N := (if (rX9_within a2 (0 : Int32) (1 : Int32)) = (0 : Int32) then σ else (zfor (fX9_strangers_16 a1 a2) ((((σ 32) 11)).toNatClampNeg) ((0 : Int32), σ)).2)
set_option maxHeartbeats 1000000 in
theorem ctX9_strangers (P : zp) (σ : zc_N) (a1 : Int32) (a2 : Int32) (W_ : (pX9_strangers σ a1 a2)) : sp mX9_strangers 18 0 0 [.ref 32, .int a1, .int a2] (hh P σ) (fun r_ h_ => r_ = some (.int (rX9_strangers σ a1 a2)) ∧ h_ = hh P (sX9_strangers σ a1 a2)) := by
  refine sp_of (lv := [some (.ref 32), some (.int a1), some (.int a2), none, none, none]) (by decide) (zcats_ok _ rfl) (Nat.le_of_ble_eq_true rfl) (zlv_ok _ 3 rfl) (fun G => ?_)
  generalize hQ_ : (fun (r_ : Option Value) (h_ : zc_H) => r_ = some (.int (rX9_strangers σ a1 a2)) ∧ h_ = hh P (sX9_strangers σ a1 a2)) = Q_
  unfold pX9_strangers at W_
  refine z_iload_n dX9_strangers_0 rfl ?_
  refine z_iconst dX9_strangers_1 k_iconst_0 ?_
  refine z_iconst dX9_strangers_2 k_iconst_1 ?_
  refine z_callS (As := [.int a2, .int (0 : Int32), .int (1 : Int32)]) (rest := []) (ctX9_within P σ a2 (0 : Int32) (1 : Int32)) dX9_strangers_3 lk_X9_96 ls_X9_within rfl (Nat.le_of_ble_eq_true rfl) (Nat.le_of_ble_eq_true rfl) (Nat.le_of_ble_eq_true rfl) (Nat.le_of_ble_eq_true rfl) (fun r_ h_ e_ => ?_)
  obtain ⟨e1_, e2_⟩ := e_
  subst e1_
  subst e2_
  show zz G mX9_strangers 18 0 0 Q_ 6 [some (.ref 32), some (.int a1), some (.int a2), none, none, none] [.int (rX9_within a2 (0 : Int32) (1 : Int32))] (hh P σ) 0 0
  refine z_if_ne (tgt := 11) dX9_strangers_6 (by decide) (fun c_1 => ?_) (fun c_1 => ?_)
  · refine z_iconst dX9_strangers_11 k_iconst_0 ?_
    refine z_istore_n (lv' := [some (.ref 32), some (.int a1), some (.int a2), some (.int (0 : Int32)), none, none]) dX9_strangers_12 (Nat.le_of_ble_eq_true rfl) rfl ?_
    refine z_iconst dX9_strangers_13 k_iconst_0 ?_
    refine z_istore (lv' := [some (.ref 32), some (.int a1), some (.int a2), some (.int (0 : Int32)), some (.int (0 : Int32)), none]) dX9_strangers_14 (Nat.le_of_ble_eq_true rfl) rfl ?_
    refine lpX9_strangers_16 P σ a1 a2 (0 : Int32) ((((σ 32) 11)).toNatClampNeg) (W_.2 c_1).1 (W_.2 c_1).2 ?_
    show zz G mX9_strangers 18 0 0 Q_ 114 [none, none, none, some (.int (zfor (fX9_strangers_16 a1 a2) ((((σ 32) 11)).toNatClampNeg) ((0 : Int32), σ)).1), none, none] [] (hh P (zfor (fX9_strangers_16 a1 a2) ((((σ 32) 11)).toNatClampNeg) ((0 : Int32), σ)).2) 0 0
    refine z_iload_n dX9_strangers_114 rfl ?_
    exact z_ireturn dX9_strangers_115 rfl rfl (Nat.le_of_ble_eq_true rfl) (Nat.le_of_ble_eq_true rfl) (by rw [← hQ_]; exact ⟨(by rw [rX9_strangers]; try simp only [if_neg c_1]), (by rw [sX9_strangers]; try simp only [if_neg c_1])⟩)
  · refine z_iconst dX9_strangers_9 k_iconst_m1 ?_
    exact z_ireturn dX9_strangers_10 rfl rfl (Nat.le_of_ble_eq_true rfl) (Nat.le_of_ble_eq_true rfl) (by rw [← hQ_]; exact ⟨(by rw [rX9_strangers]; try simp only [if_pos c_1]), (by rw [sX9_strangers]; try simp only [if_pos c_1])⟩)

theorem dX9_ask_12 : decode cX9_ask 12 = .ok (.iload_n 3, 1) := by decide +kernel
theorem dX9_ask_13 : decode cX9_ask 13 = .ok (.aload_n 0, 1) := by decide +kernel
theorem dX9_ask_14 : decode cX9_ask 14 = .ok (.getfield 23, 3) := by decide +kernel
theorem dX9_ask_17 : decode cX9_ask 17 = .ok (.aload_n 0, 1) := by decide +kernel
theorem dX9_ask_18 : decode cX9_ask 18 = .ok (.getfield 211, 3) := by decide +kernel
theorem dX9_ask_21 : decode cX9_ask 21 = .ok (.iaload, 1) := by decide +kernel
theorem dX9_ask_22 : decode cX9_ask 22 = .ok (.if_icmp .ge 78, 3) := by decide +kernel
theorem dX9_ask_25 : decode cX9_ask 25 = .ok (.aload_n 0, 1) := by decide +kernel
theorem dX9_ask_26 : decode cX9_ask 26 = .ok (.getfield 168, 3) := by decide +kernel
theorem dX9_ask_29 : decode cX9_ask 29 = .ok (.ifCond .ne 7, 3) := by decide +kernel
theorem dX9_ask_32 : decode cX9_ask 32 = .ok (.iconst (-1), 1) := by decide +kernel
theorem dX9_ask_33 : decode cX9_ask 33 = .ok (.goto 46, 3) := by decide +kernel
theorem dX9_ask_36 : decode cX9_ask 36 = .ok (.aload_n 0, 1) := by decide +kernel
theorem dX9_ask_37 : decode cX9_ask 37 = .ok (.getfield 69, 3) := by decide +kernel
theorem dX9_ask_40 : decode cX9_ask 40 = .ok (.iload_n 3, 1) := by decide +kernel
theorem dX9_ask_41 : decode cX9_ask 41 = .ok (.iaload, 1) := by decide +kernel
theorem dX9_ask_42 : decode cX9_ask 42 = .ok (.ifCond .lt 7, 3) := by decide +kernel
theorem dX9_ask_45 : decode cX9_ask 45 = .ok (.iconst 1, 1) := by decide +kernel
theorem dX9_ask_46 : decode cX9_ask 46 = .ok (.goto 33, 3) := by decide +kernel
theorem dX9_ask_49 : decode cX9_ask 49 = .ok (.aload_n 0, 1) := by decide +kernel
theorem dX9_ask_50 : decode cX9_ask 50 = .ok (.getfield 48, 3) := by decide +kernel
theorem dX9_ask_53 : decode cX9_ask 53 = .ok (.iload_n 3, 1) := by decide +kernel
theorem dX9_ask_54 : decode cX9_ask 54 = .ok (.iaload, 1) := by decide +kernel
theorem dX9_ask_55 : decode cX9_ask 55 = .ok (.aload_n 0, 1) := by decide +kernel
theorem dX9_ask_56 : decode cX9_ask 56 = .ok (.getfield 51, 3) := by decide +kernel
theorem dX9_ask_59 : decode cX9_ask 59 = .ok (.iload_n 3, 1) := by decide +kernel
theorem dX9_ask_60 : decode cX9_ask 60 = .ok (.iaload, 1) := by decide +kernel
theorem dX9_ask_61 : decode cX9_ask 61 = .ok (.aload_n 0, 1) := by decide +kernel
theorem dX9_ask_62 : decode cX9_ask 62 = .ok (.getfield 35, 3) := by decide +kernel
theorem dX9_ask_65 : decode cX9_ask 65 = .ok (.iconst 4, 1) := by decide +kernel
theorem dX9_ask_66 : decode cX9_ask 66 = .ok (.iload_n 1, 1) := by decide +kernel
theorem dX9_ask_67 : decode cX9_ask 67 = .ok (.imul, 1) := by decide +kernel
theorem dX9_ask_68 : decode cX9_ask 68 = .ok (.invokestatic 161, 3) := by decide +kernel
theorem dX9_ask_71 : decode cX9_ask 71 = .ok (.ifCond .eq 7, 3) := by decide +kernel
theorem dX9_ask_74 : decode cX9_ask 74 = .ok (.iconst 0, 1) := by decide +kernel
theorem dX9_ask_75 : decode cX9_ask 75 = .ok (.goto 4, 3) := by decide +kernel
theorem dX9_ask_78 : decode cX9_ask 78 = .ok (.iconst (-1), 1) := by decide +kernel
theorem dX9_ask_79 : decode cX9_ask 79 = .ok (.istore 4, 2) := by decide +kernel
theorem dX9_ask_81 : decode cX9_ask 81 = .ok (.aload_n 0, 1) := by decide +kernel
theorem dX9_ask_82 : decode cX9_ask 82 = .ok (.getfield 87, 3) := by decide +kernel
theorem dX9_ask_85 : decode cX9_ask 85 = .ok (.bipush 12, 2) := by decide +kernel
theorem dX9_ask_87 : decode cX9_ask 87 = .ok (.iload_n 1, 1) := by decide +kernel
theorem dX9_ask_88 : decode cX9_ask 88 = .ok (.imul, 1) := by decide +kernel
theorem dX9_ask_89 : decode cX9_ask 89 = .ok (.iload_n 3, 1) := by decide +kernel
theorem dX9_ask_90 : decode cX9_ask 90 = .ok (.iadd, 1) := by decide +kernel
theorem dX9_ask_91 : decode cX9_ask 91 = .ok (.iload 4, 2) := by decide +kernel
theorem dX9_ask_93 : decode cX9_ask 93 = .ok (.iastore, 1) := by decide +kernel
theorem dX9_ask_94 : decode cX9_ask 94 = .ok (.iinc 3 1, 3) := by decide +kernel
theorem dX9_ask_97 : decode cX9_ask 97 = .ok (.goto (-85), 3) := by decide +kernel
noncomputable def vX9_ask_1 (l1 : Int32) (l3 : Int32) (σ : zc_N) : Int32 := (if ((σ 32) 26) = (0 : Int32) then (-1 : Int32) else (if ((σ 51) l3.toNatClampNeg) < (0 : Int32) then (if (rX9_liesIn_s σ ((σ 44) l3.toNatClampNeg) ((σ 45) l3.toNatClampNeg) ((4 : Int32) * l1)) = (0 : Int32) then (-1 : Int32) else (0 : Int32)) else (1 : Int32)))
noncomputable def fX9_ask_12 (l1 : Int32) (i_ : Nat) (a_ : zc_N) : zc_N := (zu a_ 56 (zu (a_ 56) (((12 : Int32) * l1) + (nI i_)).toNatClampNeg (vX9_ask_1 l1 (nI i_) a_)))
def qX9_ask_12 (l1 : Int32) (i_ : Nat) (a_ : zc_N) : Prop := (((((a_ 32) 26) = (0 : Int32) → True) ∧ (¬ ((a_ 32) 26) = (0 : Int32) → (vp_in (nI i_) 12 ∧ ((((a_ 51) (nI i_).toNatClampNeg) < (0 : Int32) → (vp_in (nI i_) 12 ∧ (vp_in (nI i_) 12 ∧ (pX9_liesIn_s a_ ((a_ 44) (nI i_).toNatClampNeg) ((a_ 45) (nI i_).toNatClampNeg) ((4 : Int32) * l1))))) ∧ (¬ ((a_ 51) (nI i_).toNatClampNeg) < (0 : Int32) → True))))) ∧ vp_in (((12 : Int32) * l1) + (nI i_)) 288)
def uX9_ask_12 (i_ : Nat) (a_ : zc_N) : Prop := vp_in ((a_ 32) 34) 24
set_option maxHeartbeats 2000000 in
theorem lpX9_ask_12 {G : zc_G} {Q : Option Value → zc_H → Prop} (P : zp) (σ : zc_N) (l1 : Int32) (n_ : Nat) (hC_ : ∀ i12_ : Nat, i12_ ≤ n_ → ((((zfor (fX9_ask_12 l1) i12_ σ) 37) (((zfor (fX9_ask_12 l1) i12_ σ) 32) 34).toNatClampNeg) ≤ (nI i12_) ↔ n_ ≤ i12_)) (W0_ : ∀ i12_ : Nat, i12_ ≤ n_ → uX9_ask_12 i12_ (zfor (fX9_ask_12 l1) i12_ σ)) (W1_ : ∀ i12_ : Nat, i12_ < n_ → qX9_ask_12 l1 i12_ (zfor (fX9_ask_12 l1) i12_ σ))
    (W2_ : zz G mX9_ask 18 0 0 Q 100 [none, none, none, none, none] [] (hh P (zfor (fX9_ask_12 l1) n_ σ)) 0 0) :
    zz G mX9_ask 18 0 0 Q 12 [some (.ref 32), some (.int l1), none, some (.int (nI 0)), none] [] (hh P σ) 0 0 := by
  refine zfor_nI (fun i_ a_ => zz G mX9_ask 18 0 0 Q 12 [some (.ref 32), some (.int l1), none, some (.int i_), none] [] (hh P a_) 0 0) (fX9_ask_12 l1) n_ σ (fun i_ hi_ k_ => ?_) ?_
  · have Wa_ := W0_ i_ (Nat.le_of_lt hi_)
    have W3_ := W1_ i_ hi_
    have hD_ := hC_ i_ (Nat.le_of_lt hi_)
    generalize zfor (fX9_ask_12 l1) i_ σ = g_ at k_ W3_ hD_ Wa_ ⊢
    rw [fX9_ask_12] at k_
    rw [qX9_ask_12] at W3_
    try dsimp only at W3_
    rw [uX9_ask_12] at Wa_
    try dsimp only at Wa_
    refine z_iload_n dX9_ask_12 rfl ?_
    refine z_aloadr_n dX9_ask_13 rfl ?_
    refine z_get (ci := 9) (r := (RX9, TX9, 38)) (j := 4) (v := .ref 37) dX9_ask_14 (Nat.le_of_ble_eq_true rfl) (zN rfl) rfl rfl (Nat.le_of_ble_eq_true rfl) fl_X9_23 rfl ?_
    refine z_aloadr_n dX9_ask_17 rfl ?_
    refine z_get (ci := 9) (r := (RX9, TX9, 38)) (j := 34) (v := .int ((g_ 32) 34)) dX9_ask_18 (Nat.le_of_ble_eq_true rfl) (zN rfl) rfl rfl (Nat.le_of_ble_eq_true rfl) fl_X9_211 rfl ?_
    refine z_iald (v := ((g_ 37) ((g_ 32) 34).toNatClampNeg)) dX9_ask_21 (zN rfl) rfl Wa_ rfl ?_
    refine z_icmp_ge (tgt := 100) dX9_ask_22 (by decide) (fun c_ => absurd c_ (fun q_ => Nat.not_le_of_lt hi_ (hD_.mp q_))) (fun c_ => ?_)
    refine z_aloadr_n dX9_ask_25 rfl ?_
    refine z_get (ci := 9) (r := (RX9, TX9, 38)) (j := 26) (v := .int ((g_ 32) 26)) dX9_ask_26 (Nat.le_of_ble_eq_true rfl) (zN rfl) rfl rfl (Nat.le_of_ble_eq_true rfl) fl_X9_168 rfl ?_
    have K_1 : zz G mX9_ask 18 0 0 Q 79 [some (.ref 32), some (.int l1), none, some (.int (nI i_)), none] [.int (if ((g_ 32) 26) = (0 : Int32) then (-1 : Int32) else (if ((g_ 51) (nI i_).toNatClampNeg) < (0 : Int32) then (if (rX9_liesIn_s g_ ((g_ 44) (nI i_).toNatClampNeg) ((g_ 45) (nI i_).toNatClampNeg) ((4 : Int32) * l1)) = (0 : Int32) then (-1 : Int32) else (0 : Int32)) else (1 : Int32)))] (hh P g_) 0 0 := by
      refine z_istore (lv' := [some (.ref 32), some (.int l1), none, some (.int (nI i_)), some (.int (vX9_ask_1 l1 (nI i_) g_))]) dX9_ask_79 (Nat.le_of_ble_eq_true rfl) rfl ?_
      refine z_aloadr_n dX9_ask_81 rfl ?_
      refine z_get (ci := 9) (r := (RX9, TX9, 38)) (j := 35) (v := .ref 56) dX9_ask_82 (Nat.le_of_ble_eq_true rfl) (zN rfl) rfl rfl (Nat.le_of_ble_eq_true rfl) fl_X9_87 rfl ?_
      refine z_bipush dX9_ask_85 k_bipush_12 ?_
      refine z_iload_n dX9_ask_87 rfl ?_
      refine z_imul (v := ((12 : Int32) * l1)) dX9_ask_88 rfl ?_
      refine z_iload_n dX9_ask_89 rfl ?_
      refine z_iadd (v := (((12 : Int32) * l1) + (nI i_))) dX9_ask_90 rfl ?_
      refine z_iload dX9_ask_91 rfl ?_
      refine z_iast (σ' := (zu g_ 56 (zu (g_ 56) (((12 : Int32) * l1) + (nI i_)).toNatClampNeg (vX9_ask_1 l1 (nI i_) g_)))) dX9_ask_93 (Nat.le_of_ble_eq_true rfl) (zN rfl) rfl W3_.2 rfl ?_
      refine z_iinc (v := ((nI i_) + (1 : Int32))) (lv' := [some (.ref 32), some (.int l1), none, some (.int ((nI i_) + (1 : Int32))), some (.int (vX9_ask_1 l1 (nI i_) g_))]) dX9_ask_94 (Nat.le_of_ble_eq_true rfl) rfl (by rw [k_iconst_1]) rfl ?_
      refine z_goto (tgt := 12) dX9_ask_97 (by decide) ?_
      refine zz_sub (lv' := [some (.ref 32), some (.int l1), none, some (.int ((nI i_) + (1 : Int32))), none]) ⟨rfl, ⟨rfl, ⟨rfl, trivial⟩⟩⟩ ?_
      rw [nI_1]
      exact k_
    refine z_if_ne (tgt := 36) dX9_ask_29 (by decide) (fun c_2 => ?_) (fun c_2 => ?_)
    · refine z_aloadr_n dX9_ask_36 rfl ?_
      refine z_get (ci := 9) (r := (RX9, TX9, 38)) (j := 27) (v := .ref 51) dX9_ask_37 (Nat.le_of_ble_eq_true rfl) (zN rfl) rfl rfl (Nat.le_of_ble_eq_true rfl) fl_X9_69 rfl ?_
      refine z_iload_n dX9_ask_40 rfl ?_
      refine z_iald (v := ((g_ 51) (nI i_).toNatClampNeg)) dX9_ask_41 (zN rfl) rfl ((W3_.1.2 c_2).1) rfl ?_
      refine z_if_lt (tgt := 49) dX9_ask_42 (by decide) (fun c_3 => ?_) (fun c_3 => ?_)
      · refine z_aloadr_n dX9_ask_49 rfl ?_
        refine z_get (ci := 9) (r := (RX9, TX9, 38)) (j := 13) (v := .ref 44) dX9_ask_50 (Nat.le_of_ble_eq_true rfl) (zN rfl) rfl rfl (Nat.le_of_ble_eq_true rfl) fl_X9_48 rfl ?_
        refine z_iload_n dX9_ask_53 rfl ?_
        refine z_iald (v := ((g_ 44) (nI i_).toNatClampNeg)) dX9_ask_54 (zN rfl) rfl (((W3_.1.2 c_2).2.1 c_3).1) rfl ?_
        refine z_aloadr_n dX9_ask_55 rfl ?_
        refine z_get (ci := 9) (r := (RX9, TX9, 38)) (j := 14) (v := .ref 45) dX9_ask_56 (Nat.le_of_ble_eq_true rfl) (zN rfl) rfl rfl (Nat.le_of_ble_eq_true rfl) fl_X9_51 rfl ?_
        refine z_iload_n dX9_ask_59 rfl ?_
        refine z_iald (v := ((g_ 45) (nI i_).toNatClampNeg)) dX9_ask_60 (zN rfl) rfl (((W3_.1.2 c_2).2.1 c_3).2.1) rfl ?_
        refine z_aloadr_n dX9_ask_61 rfl ?_
        refine z_get (ci := 9) (r := (RX9, TX9, 38)) (j := 8) (v := .ref 41) dX9_ask_62 (Nat.le_of_ble_eq_true rfl) (zN rfl) rfl rfl (Nat.le_of_ble_eq_true rfl) fl_X9_35 rfl ?_
        refine z_iconst dX9_ask_65 k_iconst_4 ?_
        refine z_iload_n dX9_ask_66 rfl ?_
        refine z_imul (v := ((4 : Int32) * l1)) dX9_ask_67 rfl ?_
        refine z_callS (As := [.int ((g_ 44) (nI i_).toNatClampNeg), .int ((g_ 45) (nI i_).toNatClampNeg), .ref 41, .int ((4 : Int32) * l1)]) (rest := []) (ctX9_liesIn_s P g_ ((g_ 44) (nI i_).toNatClampNeg) ((g_ 45) (nI i_).toNatClampNeg) ((4 : Int32) * l1) (((W3_.1.2 c_2).2.1 c_3).2.2)) dX9_ask_68 lk_X9_161 ls_X9_liesIn rfl (Nat.le_of_ble_eq_true rfl) (Nat.le_of_ble_eq_true rfl) (Nat.le_of_ble_eq_true rfl) (Nat.le_of_ble_eq_true rfl) (fun r_ h_ e_ => ?_)
        obtain ⟨e1_, e2_⟩ := e_
        subst e1_
        subst e2_
        show zz G mX9_ask 18 0 0 Q 71 [some (.ref 32), some (.int l1), none, some (.int (nI i_)), none] [.int (rX9_liesIn_s g_ ((g_ 44) (nI i_).toNatClampNeg) ((g_ 45) (nI i_).toNatClampNeg) ((4 : Int32) * l1))] (hh P g_) 0 0
        refine z_if_eq (tgt := 78) dX9_ask_71 (by decide) (fun c_4 => ?_) (fun c_4 => ?_)
        · refine z_iconst dX9_ask_78 k_iconst_m1 ?_
          rw [show (if ((g_ 32) 26) = (0 : Int32) then (-1 : Int32) else (if ((g_ 51) (nI i_).toNatClampNeg) < (0 : Int32) then (if (rX9_liesIn_s g_ ((g_ 44) (nI i_).toNatClampNeg) ((g_ 45) (nI i_).toNatClampNeg) ((4 : Int32) * l1)) = (0 : Int32) then (-1 : Int32) else (0 : Int32)) else (1 : Int32))) = (-1 : Int32) from ((if_neg c_2).trans ((if_pos c_3).trans (if_pos c_4)))] at K_1
          exact K_1
        · refine z_iconst dX9_ask_74 k_iconst_0 ?_
          refine z_goto (tgt := 79) dX9_ask_75 (by decide) ?_
          rw [show (if ((g_ 32) 26) = (0 : Int32) then (-1 : Int32) else (if ((g_ 51) (nI i_).toNatClampNeg) < (0 : Int32) then (if (rX9_liesIn_s g_ ((g_ 44) (nI i_).toNatClampNeg) ((g_ 45) (nI i_).toNatClampNeg) ((4 : Int32) * l1)) = (0 : Int32) then (-1 : Int32) else (0 : Int32)) else (1 : Int32))) = (0 : Int32) from ((if_neg c_2).trans ((if_pos c_3).trans (if_neg c_4)))] at K_1
          exact K_1
      · refine z_iconst dX9_ask_45 k_iconst_1 ?_
        refine z_goto (tgt := 79) dX9_ask_46 (by decide) ?_
        rw [show (if ((g_ 32) 26) = (0 : Int32) then (-1 : Int32) else (if ((g_ 51) (nI i_).toNatClampNeg) < (0 : Int32) then (if (rX9_liesIn_s g_ ((g_ 44) (nI i_).toNatClampNeg) ((g_ 45) (nI i_).toNatClampNeg) ((4 : Int32) * l1)) = (0 : Int32) then (-1 : Int32) else (0 : Int32)) else (1 : Int32))) = (1 : Int32) from ((if_neg c_2).trans (if_neg c_3))] at K_1
        exact K_1
    · refine z_iconst dX9_ask_32 k_iconst_m1 ?_
      refine z_goto (tgt := 79) dX9_ask_33 (by decide) ?_
      rw [show (if ((g_ 32) 26) = (0 : Int32) then (-1 : Int32) else (if ((g_ 51) (nI i_).toNatClampNeg) < (0 : Int32) then (if (rX9_liesIn_s g_ ((g_ 44) (nI i_).toNatClampNeg) ((g_ 45) (nI i_).toNatClampNeg) ((4 : Int32) * l1)) = (0 : Int32) then (-1 : Int32) else (0 : Int32)) else (1 : Int32))) = (-1 : Int32) from (if_pos c_2)] at K_1
      exact K_1
  · have hD_ := hC_ n_ (Nat.le_refl _)
    have Wa_ := W0_ n_ (Nat.le_refl _)
    generalize zfor (fX9_ask_12 l1) n_ σ = g_ at W2_ hD_ Wa_ ⊢
    rw [uX9_ask_12] at Wa_
    try dsimp only at Wa_
    refine z_iload_n dX9_ask_12 rfl ?_
    refine z_aloadr_n dX9_ask_13 rfl ?_
    refine z_get (ci := 9) (r := (RX9, TX9, 38)) (j := 4) (v := .ref 37) dX9_ask_14 (Nat.le_of_ble_eq_true rfl) (zN rfl) rfl rfl (Nat.le_of_ble_eq_true rfl) fl_X9_23 rfl ?_
    refine z_aloadr_n dX9_ask_17 rfl ?_
    refine z_get (ci := 9) (r := (RX9, TX9, 38)) (j := 34) (v := .int ((g_ 32) 34)) dX9_ask_18 (Nat.le_of_ble_eq_true rfl) (zN rfl) rfl rfl (Nat.le_of_ble_eq_true rfl) fl_X9_211 rfl ?_
    refine z_iald (v := ((g_ 37) ((g_ 32) 34).toNatClampNeg)) dX9_ask_21 (zN rfl) rfl Wa_ rfl ?_
    refine z_icmp_ge (tgt := 100) dX9_ask_22 (by decide) (fun c_ => ?_) (fun c_ => absurd (hD_.mpr (Nat.le_refl _)) c_)
    exact zz_sub (lv' := [none, none, none, none, none]) trivial W2_

theorem dX9_ask_0 : decode cX9_ask 0 = .ok (.aload_n 0, 1) := by decide +kernel
theorem dX9_ask_1 : decode cX9_ask 1 = .ok (.aload_n 0, 1) := by decide +kernel
theorem dX9_ask_2 : decode cX9_ask 2 = .ok (.getfield 211, 3) := by decide +kernel
theorem dX9_ask_5 : decode cX9_ask 5 = .ok (.iload_n 1, 1) := by decide +kernel
theorem dX9_ask_6 : decode cX9_ask 6 = .ok (.invokevirtual 199, 3) := by decide +kernel
theorem dX9_ask_9 : decode cX9_ask 9 = .ok (.istore_n 2, 1) := by decide +kernel
theorem dX9_ask_10 : decode cX9_ask 10 = .ok (.iconst 0, 1) := by decide +kernel
theorem dX9_ask_11 : decode cX9_ask 11 = .ok (.istore_n 3, 1) := by decide +kernel
theorem dX9_ask_100 : decode cX9_ask 100 = .ok (.return_, 1) := by decide +kernel
noncomputable def vX9_ask_2 (a1 : Int32) (σ : zc_N) : zc_N := (zfor (fX9_ask_12 a1) (((((sX9_matchOf σ ((σ 32) 34) a1) 37) (((sX9_matchOf σ ((σ 32) 34) a1) 32) 34).toNatClampNeg)).toNatClampNeg) (sX9_matchOf σ ((σ 32) 34) a1))
def pX9_ask (σ : zc_N) (a1 : Int32) : Prop := ((pX9_matchOf σ ((σ 32) 34) a1) ∧ ((∀ i12_ : Nat, i12_ ≤ (((((sX9_matchOf σ ((σ 32) 34) a1) 37) (((sX9_matchOf σ ((σ 32) 34) a1) 32) 34).toNatClampNeg)).toNatClampNeg) → ((((zfor (fX9_ask_12 a1) i12_ (sX9_matchOf σ ((σ 32) 34) a1)) 37) (((zfor (fX9_ask_12 a1) i12_ (sX9_matchOf σ ((σ 32) 34) a1)) 32) 34).toNatClampNeg) ≤ (nI i12_) ↔ (((((sX9_matchOf σ ((σ 32) 34) a1) 37) (((sX9_matchOf σ ((σ 32) 34) a1) 32) 34).toNatClampNeg)).toNatClampNeg) ≤ i12_)) ∧ ((∀ i12_ : Nat, i12_ ≤ (((((sX9_matchOf σ ((σ 32) 34) a1) 37) (((sX9_matchOf σ ((σ 32) 34) a1) 32) 34).toNatClampNeg)).toNatClampNeg) → uX9_ask_12 i12_ (zfor (fX9_ask_12 a1) i12_ (sX9_matchOf σ ((σ 32) 34) a1))) ∧ (∀ i12_ : Nat, i12_ < (((((sX9_matchOf σ ((σ 32) 34) a1) 37) (((sX9_matchOf σ ((σ 32) 34) a1) 32) 34).toNatClampNeg)).toNatClampNeg) → qX9_ask_12 a1 i12_ (zfor (fX9_ask_12 a1) i12_ (sX9_matchOf σ ((σ 32) 34) a1))))))
noncomputable def sX9_ask (σ : zc_N) (a1 : Int32) : zc_N := (vX9_ask_2 a1 σ)
set_option maxHeartbeats 1000000 in
theorem ctX9_ask (P : zp) (σ : zc_N) (a1 : Int32) (W_ : (pX9_ask σ a1)) : sp mX9_ask 18 0 0 [.ref 32, .int a1] (hh P σ) (fun r_ h_ => r_ = none ∧ h_ = hh P (sX9_ask σ a1)) := by
  refine sp_of (lv := [some (.ref 32), some (.int a1), none, none, none]) (by decide) (zcats_ok _ rfl) (Nat.le_of_ble_eq_true rfl) (zlv_ok _ 3 rfl) (fun G => ?_)
  generalize hQ_ : (fun (r_ : Option Value) (h_ : zc_H) => r_ = none ∧ h_ = hh P (sX9_ask σ a1)) = Q_
  unfold pX9_ask at W_
  refine z_aloadr_n dX9_ask_0 rfl ?_
  refine z_aloadr_n dX9_ask_1 rfl ?_
  refine z_get (ci := 9) (r := (RX9, TX9, 38)) (j := 34) (v := .int ((σ 32) 34)) dX9_ask_2 (Nat.le_of_ble_eq_true rfl) (zN rfl) rfl rfl (Nat.le_of_ble_eq_true rfl) fl_X9_211 rfl ?_
  refine z_iload_n dX9_ask_5 rfl ?_
  refine z_callV (ci := 9) (r := (RX9, TX9, 38)) (b := 32) (As := [.int ((σ 32) 34), .int a1]) (rest := []) (ctX9_matchOf P σ ((σ 32) 34) a1 W_.1) dX9_ask_6 lk_X9_199 lv_X9_matchOf (Nat.le_of_ble_eq_true rfl) (zN rfl) rfl rfl rfl rfl (Nat.le_of_ble_eq_true rfl) (Nat.le_of_ble_eq_true rfl) (Nat.le_of_ble_eq_true rfl) (Nat.le_of_ble_eq_true rfl) (fun r_ h_ e_ => ?_)
  obtain ⟨e1_, e2_⟩ := e_
  subst e1_
  subst e2_
  show zz G mX9_ask 18 0 0 Q_ 9 [some (.ref 32), some (.int a1), none, none, none] [.int (rX9_matchOf σ ((σ 32) 34) a1)] (hh P (sX9_matchOf σ ((σ 32) 34) a1)) 0 0
  refine z_istore_n (lv' := [some (.ref 32), some (.int a1), some (.int (rX9_matchOf σ ((σ 32) 34) a1)), none, none]) dX9_ask_9 (Nat.le_of_ble_eq_true rfl) rfl ?_
  refine z_iconst dX9_ask_10 k_iconst_0 ?_
  refine z_istore_n (lv' := [some (.ref 32), some (.int a1), some (.int (rX9_matchOf σ ((σ 32) 34) a1)), some (.int (0 : Int32)), none]) dX9_ask_11 (Nat.le_of_ble_eq_true rfl) rfl ?_
  refine zz_sub (lv' := [some (.ref 32), some (.int a1), none, some (.int (0 : Int32)), none]) ⟨rfl, ⟨rfl, ⟨rfl, trivial⟩⟩⟩ ?_
  refine lpX9_ask_12 P (sX9_matchOf σ ((σ 32) 34) a1) a1 (((((sX9_matchOf σ ((σ 32) 34) a1) 37) (((sX9_matchOf σ ((σ 32) 34) a1) 32) 34).toNatClampNeg)).toNatClampNeg) W_.2.1 W_.2.2.1 W_.2.2.2 ?_
  show zz G mX9_ask 18 0 0 Q_ 100 [none, none, none, none, none] [] (hh P (vX9_ask_2 a1 σ)) 0 0
  exact z_return dX9_ask_100 rfl (Nat.le_of_ble_eq_true rfl) (Nat.le_of_ble_eq_true rfl) (by rw [← hQ_]; exact ⟨rfl, (by rw [sX9_ask])⟩)

theorem dX9_findFlaws_231 : decode cX9_findFlaws 231 = .ok (.iload 5, 2) := by decide +kernel
theorem dX9_findFlaws_233 : decode cX9_findFlaws 233 = .ok (.aload_n 0, 1) := by decide +kernel
theorem dX9_findFlaws_234 : decode cX9_findFlaws 234 = .ok (.getfield 131, 3) := by decide +kernel
theorem dX9_findFlaws_237 : decode cX9_findFlaws 237 = .ok (.if_icmp .ge 94, 3) := by decide +kernel
theorem dX9_findFlaws_240 : decode cX9_findFlaws 240 = .ok (.aload_n 0, 1) := by decide +kernel
theorem dX9_findFlaws_241 : decode cX9_findFlaws 241 = .ok (.getfield 38, 3) := by decide +kernel
theorem dX9_findFlaws_244 : decode cX9_findFlaws 244 = .ok (.iload 5, 2) := by decide +kernel
theorem dX9_findFlaws_246 : decode cX9_findFlaws 246 = .ok (.iaload, 1) := by decide +kernel
theorem dX9_findFlaws_247 : decode cX9_findFlaws 247 = .ok (.iload_n 1, 1) := by decide +kernel
theorem dX9_findFlaws_248 : decode cX9_findFlaws 248 = .ok (.if_icmp .ne 32, 3) := by decide +kernel
theorem dX9_findFlaws_251 : decode cX9_findFlaws 251 = .ok (.iload 5, 2) := by decide +kernel
theorem dX9_findFlaws_253 : decode cX9_findFlaws 253 = .ok (.aload_n 0, 1) := by decide +kernel
theorem dX9_findFlaws_254 : decode cX9_findFlaws 254 = .ok (.getfield 211, 3) := by decide +kernel
theorem dX9_findFlaws_257 : decode cX9_findFlaws 257 = .ok (.if_icmp .eq 23, 3) := by decide +kernel
theorem dX9_findFlaws_260 : decode cX9_findFlaws 260 = .ok (.aload_n 0, 1) := by decide +kernel
theorem dX9_findFlaws_261 : decode cX9_findFlaws 261 = .ok (.getfield 87, 3) := by decide +kernel
theorem dX9_findFlaws_264 : decode cX9_findFlaws 264 = .ok (.bipush 12, 2) := by decide +kernel
theorem dX9_findFlaws_266 : decode cX9_findFlaws 266 = .ok (.iload 5, 2) := by decide +kernel
theorem dX9_findFlaws_268 : decode cX9_findFlaws 268 = .ok (.imul, 1) := by decide +kernel
theorem dX9_findFlaws_269 : decode cX9_findFlaws 269 = .ok (.iload_n 2, 1) := by decide +kernel
theorem dX9_findFlaws_270 : decode cX9_findFlaws 270 = .ok (.iadd, 1) := by decide +kernel
theorem dX9_findFlaws_271 : decode cX9_findFlaws 271 = .ok (.iaload, 1) := by decide +kernel
theorem dX9_findFlaws_272 : decode cX9_findFlaws 272 = .ok (.iconst 1, 1) := by decide +kernel
theorem dX9_findFlaws_273 : decode cX9_findFlaws 273 = .ok (.if_icmp .ne 7, 3) := by decide +kernel
theorem dX9_findFlaws_276 : decode cX9_findFlaws 276 = .ok (.iconst 1, 1) := by decide +kernel
theorem dX9_findFlaws_277 : decode cX9_findFlaws 277 = .ok (.goto 4, 3) := by decide +kernel
theorem dX9_findFlaws_280 : decode cX9_findFlaws 280 = .ok (.iconst 0, 1) := by decide +kernel
theorem dX9_findFlaws_281 : decode cX9_findFlaws 281 = .ok (.istore 6, 2) := by decide +kernel
theorem dX9_findFlaws_283 : decode cX9_findFlaws 283 = .ok (.iload 6, 2) := by decide +kernel
theorem dX9_findFlaws_285 : decode cX9_findFlaws 285 = .ok (.ifCond .eq 36, 3) := by decide +kernel
theorem dX9_findFlaws_288 : decode cX9_findFlaws 288 = .ok (.aload_n 0, 1) := by decide +kernel
theorem dX9_findFlaws_289 : decode cX9_findFlaws 289 = .ok (.getfield 41, 3) := by decide +kernel
theorem dX9_findFlaws_292 : decode cX9_findFlaws 292 = .ok (.iload 5, 2) := by decide +kernel
theorem dX9_findFlaws_294 : decode cX9_findFlaws 294 = .ok (.iaload, 1) := by decide +kernel
theorem dX9_findFlaws_295 : decode cX9_findFlaws 295 = .ok (.iload_n 3, 1) := by decide +kernel
theorem dX9_findFlaws_296 : decode cX9_findFlaws 296 = .ok (.if_icmp .le 25, 3) := by decide +kernel
theorem dX9_findFlaws_299 : decode cX9_findFlaws 299 = .ok (.aload_n 0, 1) := by decide +kernel
theorem dX9_findFlaws_300 : decode cX9_findFlaws 300 = .ok (.getfield 41, 3) := by decide +kernel
theorem dX9_findFlaws_303 : decode cX9_findFlaws 303 = .ok (.iload 5, 2) := by decide +kernel
theorem dX9_findFlaws_305 : decode cX9_findFlaws 305 = .ok (.iaload, 1) := by decide +kernel
theorem dX9_findFlaws_306 : decode cX9_findFlaws 306 = .ok (.iload 4, 2) := by decide +kernel
theorem dX9_findFlaws_308 : decode cX9_findFlaws 308 = .ok (.if_icmp .ge 13, 3) := by decide +kernel
theorem dX9_findFlaws_311 : decode cX9_findFlaws 311 = .ok (.aload_n 0, 1) := by decide +kernel
theorem dX9_findFlaws_312 : decode cX9_findFlaws 312 = .ok (.getfield 41, 3) := by decide +kernel
theorem dX9_findFlaws_315 : decode cX9_findFlaws 315 = .ok (.iload 5, 2) := by decide +kernel
theorem dX9_findFlaws_317 : decode cX9_findFlaws 317 = .ok (.iaload, 1) := by decide +kernel
theorem dX9_findFlaws_318 : decode cX9_findFlaws 318 = .ok (.goto 5, 3) := by decide +kernel
theorem dX9_findFlaws_321 : decode cX9_findFlaws 321 = .ok (.iload 4, 2) := by decide +kernel
theorem dX9_findFlaws_323 : decode cX9_findFlaws 323 = .ok (.istore 4, 2) := by decide +kernel
theorem dX9_findFlaws_325 : decode cX9_findFlaws 325 = .ok (.iinc 5 1, 3) := by decide +kernel
theorem dX9_findFlaws_328 : decode cX9_findFlaws 328 = .ok (.goto (-97), 3) := by decide +kernel
theorem dX9_findFlaws_331 : decode cX9_findFlaws 331 = .ok (.iload_n 3, 1) := by decide +kernel
theorem dX9_findFlaws_335 : decode cX9_findFlaws 335 = .ok (.aload_n 0, 1) := by decide +kernel
theorem dX9_findFlaws_336 : decode cX9_findFlaws 336 = .ok (.getfield 81, 3) := by decide +kernel
theorem dX9_findFlaws_339 : decode cX9_findFlaws 339 = .ok (.aload_n 0, 1) := by decide +kernel
theorem dX9_findFlaws_340 : decode cX9_findFlaws 340 = .ok (.getfield 217, 3) := by decide +kernel
theorem dX9_findFlaws_343 : decode cX9_findFlaws 343 = .ok (.iload_n 2, 1) := by decide +kernel
theorem dX9_findFlaws_344 : decode cX9_findFlaws 344 = .ok (.iastore, 1) := by decide +kernel
theorem dX9_findFlaws_345 : decode cX9_findFlaws 345 = .ok (.aload_n 0, 1) := by decide +kernel
theorem dX9_findFlaws_346 : decode cX9_findFlaws 346 = .ok (.getfield 84, 3) := by decide +kernel
theorem dX9_findFlaws_349 : decode cX9_findFlaws 349 = .ok (.aload_n 0, 1) := by decide +kernel
theorem dX9_findFlaws_350 : decode cX9_findFlaws 350 = .ok (.getfield 217, 3) := by decide +kernel
theorem dX9_findFlaws_353 : decode cX9_findFlaws 353 = .ok (.iload 4, 2) := by decide +kernel
theorem dX9_findFlaws_355 : decode cX9_findFlaws 355 = .ok (.iastore, 1) := by decide +kernel
theorem dX9_findFlaws_356 : decode cX9_findFlaws 356 = .ok (.aload_n 0, 1) := by decide +kernel
theorem dX9_findFlaws_357 : decode cX9_findFlaws 357 = .ok (.dup, 1) := by decide +kernel
theorem dX9_findFlaws_358 : decode cX9_findFlaws 358 = .ok (.getfield 217, 3) := by decide +kernel
theorem dX9_findFlaws_361 : decode cX9_findFlaws 361 = .ok (.iconst 1, 1) := by decide +kernel
theorem dX9_findFlaws_362 : decode cX9_findFlaws 362 = .ok (.iadd, 1) := by decide +kernel
theorem dX9_findFlaws_363 : decode cX9_findFlaws 363 = .ok (.putfield 217, 3) := by decide +kernel
theorem dX9_findFlaws_366 : decode cX9_findFlaws 366 = .ok (.iinc 2 1, 3) := by decide +kernel
theorem dX9_findFlaws_369 : decode cX9_findFlaws 369 = .ok (.goto (-255), 3) := by decide +kernel
noncomputable def vX9_findFlaws_1 (l1 : Int32) (l2 : Int32) (l3 : Int32) (l4 : Int32) (l5 : Int32) (σ : zc_N) : Int32 := (if (if ((σ 42) l5.toNatClampNeg) = l1 then (if l5 = ((σ 32) 34) then (0 : Int32) else (if ((σ 56) (((12 : Int32) * l5) + l2).toNatClampNeg) = (1 : Int32) then (1 : Int32) else (0 : Int32))) else (0 : Int32)) = (0 : Int32) then l4 else (if ((σ 43) l5.toNatClampNeg) ≤ l3 then l4 else (if l4 ≤ ((σ 43) l5.toNatClampNeg) then l4 else ((σ 43) l5.toNatClampNeg))))
noncomputable def fX9_findFlaws_231 (σ : zc_N) (l1 : Int32) (l2 : Int32) (l3 : Int32) (i_ : Nat) (a_ : Int32) : Int32 := (vX9_findFlaws_1 l1 l2 l3 a_ (nI i_) σ)
def qX9_findFlaws_231 (σ : zc_N) (l1 : Int32) (l2 : Int32) (l3 : Int32) (i_ : Nat) (a_ : Int32) : Prop := (vp_in (nI i_) 24 ∧ (((((σ 42) (nI i_).toNatClampNeg) = l1 → (((nI i_) = ((σ 32) 34) → True) ∧ (¬ (nI i_) = ((σ 32) 34) → vp_in (((12 : Int32) * (nI i_)) + l2) 288))) ∧ (¬ ((σ 42) (nI i_).toNatClampNeg) = l1 → True)) ∧ (((if ((σ 42) (nI i_).toNatClampNeg) = l1 then (if (nI i_) = ((σ 32) 34) then (0 : Int32) else (if ((σ 56) (((12 : Int32) * (nI i_)) + l2).toNatClampNeg) = (1 : Int32) then (1 : Int32) else (0 : Int32))) else (0 : Int32)) = (0 : Int32) → True) ∧ (¬ (if ((σ 42) (nI i_).toNatClampNeg) = l1 then (if (nI i_) = ((σ 32) 34) then (0 : Int32) else (if ((σ 56) (((12 : Int32) * (nI i_)) + l2).toNatClampNeg) = (1 : Int32) then (1 : Int32) else (0 : Int32))) else (0 : Int32)) = (0 : Int32) → (vp_in (nI i_) 24 ∧ ((((σ 43) (nI i_).toNatClampNeg) ≤ l3 → True) ∧ (¬ ((σ 43) (nI i_).toNatClampNeg) ≤ l3 → (vp_in (nI i_) 24 ∧ ((a_ ≤ ((σ 43) (nI i_).toNatClampNeg) → True) ∧ (¬ a_ ≤ ((σ 43) (nI i_).toNatClampNeg) → vp_in (nI i_) 24))))))))))
set_option maxHeartbeats 2000000 in
theorem lpX9_findFlaws_231 {G : zc_G} {Q : Option Value → zc_H → Prop} (P : zp) (σ : zc_N) (l1 : Int32) (l2 : Int32) (l3 : Int32) (l4 : Int32) (n_ : Nat) (hC_ : ∀ i231_ : Nat, i231_ ≤ n_ → (((σ 32) 11) ≤ (nI i231_) ↔ n_ ≤ i231_)) (W1_ : ∀ i231_ : Nat, i231_ < n_ → qX9_findFlaws_231 σ l1 l2 l3 i231_ (zfor (fX9_findFlaws_231 σ l1 l2 l3) i231_ l4))
    (W2_ : zz G mX9_findFlaws 19 0 0 Q 331 [some (.ref 32), some (.int l1), some (.int l2), some (.int l3), some (.int (zfor (fX9_findFlaws_231 σ l1 l2 l3) n_ l4)), none, none] [] (hh P σ) 0 0) :
    zz G mX9_findFlaws 19 0 0 Q 231 [some (.ref 32), some (.int l1), some (.int l2), some (.int l3), some (.int l4), some (.int (nI 0)), none] [] (hh P σ) 0 0 := by
  refine zfor_nI (fun i_ a_ => zz G mX9_findFlaws 19 0 0 Q 231 [some (.ref 32), some (.int l1), some (.int l2), some (.int l3), some (.int a_), some (.int i_), none] [] (hh P σ) 0 0) (fX9_findFlaws_231 σ l1 l2 l3) n_ l4 (fun i_ hi_ k_ => ?_) ?_
  · have W3_ := W1_ i_ hi_
    have hD_ := hC_ i_ (Nat.le_of_lt hi_)
    generalize zfor (fX9_findFlaws_231 σ l1 l2 l3) i_ l4 = g_ at k_ W3_ hD_ ⊢
    rw [fX9_findFlaws_231] at k_
    rw [qX9_findFlaws_231] at W3_
    try dsimp only at W3_
    refine z_iload dX9_findFlaws_231 rfl ?_
    refine z_aloadr_n dX9_findFlaws_233 rfl ?_
    refine z_get (ci := 9) (r := (RX9, TX9, 38)) (j := 11) (v := .int ((σ 32) 11)) dX9_findFlaws_234 (Nat.le_of_ble_eq_true rfl) (zN rfl) rfl rfl (Nat.le_of_ble_eq_true rfl) fl_X9_131 rfl ?_
    refine z_icmp_ge (tgt := 331) dX9_findFlaws_237 (by decide) (fun c_ => absurd c_ (fun q_ => Nat.not_le_of_lt hi_ (hD_.mp q_))) (fun c_ => ?_)
    refine z_aloadr_n dX9_findFlaws_240 rfl ?_
    refine z_get (ci := 9) (r := (RX9, TX9, 38)) (j := 9) (v := .ref 42) dX9_findFlaws_241 (Nat.le_of_ble_eq_true rfl) (zN rfl) rfl rfl (Nat.le_of_ble_eq_true rfl) fl_X9_38 rfl ?_
    refine z_iload dX9_findFlaws_244 rfl ?_
    refine z_iald (v := ((σ 42) (nI i_).toNatClampNeg)) dX9_findFlaws_246 (zN rfl) rfl W3_.1 rfl ?_
    refine z_iload_n dX9_findFlaws_247 rfl ?_
    have K_1 : zz G mX9_findFlaws 19 0 0 Q 281 [some (.ref 32), some (.int l1), some (.int l2), some (.int l3), some (.int g_), some (.int (nI i_)), none] [.int (if ((σ 42) (nI i_).toNatClampNeg) = l1 then (if (nI i_) = ((σ 32) 34) then (0 : Int32) else (if ((σ 56) (((12 : Int32) * (nI i_)) + l2).toNatClampNeg) = (1 : Int32) then (1 : Int32) else (0 : Int32))) else (0 : Int32))] (hh P σ) 0 0 := by
      refine z_istore (lv' := [some (.ref 32), some (.int l1), some (.int l2), some (.int l3), some (.int g_), some (.int (nI i_)), some (.int (if ((σ 42) (nI i_).toNatClampNeg) = l1 then (if (nI i_) = ((σ 32) 34) then (0 : Int32) else (if ((σ 56) (((12 : Int32) * (nI i_)) + l2).toNatClampNeg) = (1 : Int32) then (1 : Int32) else (0 : Int32))) else (0 : Int32)))]) dX9_findFlaws_281 (Nat.le_of_ble_eq_true rfl) rfl ?_
      refine z_iload dX9_findFlaws_283 rfl ?_
      have K_2 : zz G mX9_findFlaws 19 0 0 Q 323 [some (.ref 32), some (.int l1), some (.int l2), some (.int l3), none, some (.int (nI i_)), none] [.int (if (if ((σ 42) (nI i_).toNatClampNeg) = l1 then (if (nI i_) = ((σ 32) 34) then (0 : Int32) else (if ((σ 56) (((12 : Int32) * (nI i_)) + l2).toNatClampNeg) = (1 : Int32) then (1 : Int32) else (0 : Int32))) else (0 : Int32)) = (0 : Int32) then g_ else (if ((σ 43) (nI i_).toNatClampNeg) ≤ l3 then g_ else (if g_ ≤ ((σ 43) (nI i_).toNatClampNeg) then g_ else ((σ 43) (nI i_).toNatClampNeg))))] (hh P σ) 0 0 := by
        refine z_istore (lv' := [some (.ref 32), some (.int l1), some (.int l2), some (.int l3), some (.int (vX9_findFlaws_1 l1 l2 l3 g_ (nI i_) σ)), some (.int (nI i_)), none]) dX9_findFlaws_323 (Nat.le_of_ble_eq_true rfl) rfl ?_
        refine z_iinc (v := ((nI i_) + (1 : Int32))) (lv' := [some (.ref 32), some (.int l1), some (.int l2), some (.int l3), some (.int (vX9_findFlaws_1 l1 l2 l3 g_ (nI i_) σ)), some (.int ((nI i_) + (1 : Int32))), none]) dX9_findFlaws_325 (Nat.le_of_ble_eq_true rfl) rfl (by rw [k_iconst_1]) rfl ?_
        refine z_goto (tgt := 231) dX9_findFlaws_328 (by decide) ?_
        rw [nI_1]
        exact k_
      refine z_if_eq (tgt := 321) dX9_findFlaws_285 (by decide) (fun c_6 => ?_) (fun c_6 => ?_)
      · refine z_iload dX9_findFlaws_321 rfl ?_
        refine zz_sub (lv' := [some (.ref 32), some (.int l1), some (.int l2), some (.int l3), none, some (.int (nI i_)), none]) ⟨rfl, ⟨rfl, ⟨rfl, ⟨rfl, ⟨rfl, trivial⟩⟩⟩⟩⟩ ?_
        rw [show (if (if ((σ 42) (nI i_).toNatClampNeg) = l1 then (if (nI i_) = ((σ 32) 34) then (0 : Int32) else (if ((σ 56) (((12 : Int32) * (nI i_)) + l2).toNatClampNeg) = (1 : Int32) then (1 : Int32) else (0 : Int32))) else (0 : Int32)) = (0 : Int32) then g_ else (if ((σ 43) (nI i_).toNatClampNeg) ≤ l3 then g_ else (if g_ ≤ ((σ 43) (nI i_).toNatClampNeg) then g_ else ((σ 43) (nI i_).toNatClampNeg)))) = g_ from (if_pos c_6)] at K_2
        exact K_2
      · refine z_aloadr_n dX9_findFlaws_288 rfl ?_
        refine z_get (ci := 9) (r := (RX9, TX9, 38)) (j := 10) (v := .ref 43) dX9_findFlaws_289 (Nat.le_of_ble_eq_true rfl) (zN rfl) rfl rfl (Nat.le_of_ble_eq_true rfl) fl_X9_41 rfl ?_
        refine z_iload dX9_findFlaws_292 rfl ?_
        refine z_iald (v := ((σ 43) (nI i_).toNatClampNeg)) dX9_findFlaws_294 (zN rfl) rfl ((W3_.2.2.2 c_6).1) rfl ?_
        refine z_iload_n dX9_findFlaws_295 rfl ?_
        refine z_icmp_le (tgt := 321) dX9_findFlaws_296 (by decide) (fun c_7 => ?_) (fun c_7 => ?_)
        · refine z_iload dX9_findFlaws_321 rfl ?_
          refine zz_sub (lv' := [some (.ref 32), some (.int l1), some (.int l2), some (.int l3), none, some (.int (nI i_)), none]) ⟨rfl, ⟨rfl, ⟨rfl, ⟨rfl, ⟨rfl, trivial⟩⟩⟩⟩⟩ ?_
          rw [show (if (if ((σ 42) (nI i_).toNatClampNeg) = l1 then (if (nI i_) = ((σ 32) 34) then (0 : Int32) else (if ((σ 56) (((12 : Int32) * (nI i_)) + l2).toNatClampNeg) = (1 : Int32) then (1 : Int32) else (0 : Int32))) else (0 : Int32)) = (0 : Int32) then g_ else (if ((σ 43) (nI i_).toNatClampNeg) ≤ l3 then g_ else (if g_ ≤ ((σ 43) (nI i_).toNatClampNeg) then g_ else ((σ 43) (nI i_).toNatClampNeg)))) = g_ from ((if_neg c_6).trans (if_pos c_7))] at K_2
          exact K_2
        · refine z_aloadr_n dX9_findFlaws_299 rfl ?_
          refine z_get (ci := 9) (r := (RX9, TX9, 38)) (j := 10) (v := .ref 43) dX9_findFlaws_300 (Nat.le_of_ble_eq_true rfl) (zN rfl) rfl rfl (Nat.le_of_ble_eq_true rfl) fl_X9_41 rfl ?_
          refine z_iload dX9_findFlaws_303 rfl ?_
          refine z_iald (v := ((σ 43) (nI i_).toNatClampNeg)) dX9_findFlaws_305 (zN rfl) rfl (((W3_.2.2.2 c_6).2.2 c_7).1) rfl ?_
          refine z_iload dX9_findFlaws_306 rfl ?_
          refine z_icmp_ge (tgt := 321) dX9_findFlaws_308 (by decide) (fun c_8 => ?_) (fun c_8 => ?_)
          · refine z_iload dX9_findFlaws_321 rfl ?_
            refine zz_sub (lv' := [some (.ref 32), some (.int l1), some (.int l2), some (.int l3), none, some (.int (nI i_)), none]) ⟨rfl, ⟨rfl, ⟨rfl, ⟨rfl, ⟨rfl, trivial⟩⟩⟩⟩⟩ ?_
            rw [show (if (if ((σ 42) (nI i_).toNatClampNeg) = l1 then (if (nI i_) = ((σ 32) 34) then (0 : Int32) else (if ((σ 56) (((12 : Int32) * (nI i_)) + l2).toNatClampNeg) = (1 : Int32) then (1 : Int32) else (0 : Int32))) else (0 : Int32)) = (0 : Int32) then g_ else (if ((σ 43) (nI i_).toNatClampNeg) ≤ l3 then g_ else (if g_ ≤ ((σ 43) (nI i_).toNatClampNeg) then g_ else ((σ 43) (nI i_).toNatClampNeg)))) = g_ from ((if_neg c_6).trans ((if_neg c_7).trans (if_pos c_8)))] at K_2
            exact K_2
          · refine z_aloadr_n dX9_findFlaws_311 rfl ?_
            refine z_get (ci := 9) (r := (RX9, TX9, 38)) (j := 10) (v := .ref 43) dX9_findFlaws_312 (Nat.le_of_ble_eq_true rfl) (zN rfl) rfl rfl (Nat.le_of_ble_eq_true rfl) fl_X9_41 rfl ?_
            refine z_iload dX9_findFlaws_315 rfl ?_
            refine z_iald (v := ((σ 43) (nI i_).toNatClampNeg)) dX9_findFlaws_317 (zN rfl) rfl (((W3_.2.2.2 c_6).2.2 c_7).2.2 c_8) rfl ?_
            refine z_goto (tgt := 323) dX9_findFlaws_318 (by decide) ?_
            refine zz_sub (lv' := [some (.ref 32), some (.int l1), some (.int l2), some (.int l3), none, some (.int (nI i_)), none]) ⟨rfl, ⟨rfl, ⟨rfl, ⟨rfl, ⟨rfl, trivial⟩⟩⟩⟩⟩ ?_
            rw [show (if (if ((σ 42) (nI i_).toNatClampNeg) = l1 then (if (nI i_) = ((σ 32) 34) then (0 : Int32) else (if ((σ 56) (((12 : Int32) * (nI i_)) + l2).toNatClampNeg) = (1 : Int32) then (1 : Int32) else (0 : Int32))) else (0 : Int32)) = (0 : Int32) then g_ else (if ((σ 43) (nI i_).toNatClampNeg) ≤ l3 then g_ else (if g_ ≤ ((σ 43) (nI i_).toNatClampNeg) then g_ else ((σ 43) (nI i_).toNatClampNeg)))) = ((σ 43) (nI i_).toNatClampNeg) from ((if_neg c_6).trans ((if_neg c_7).trans (if_neg c_8)))] at K_2
            exact K_2
    refine z_icmp_ne (tgt := 280) dX9_findFlaws_248 (by decide) (fun c_3 => ?_) (fun c_3 => ?_)
    · refine z_iconst dX9_findFlaws_280 k_iconst_0 ?_
      rw [show (if ((σ 42) (nI i_).toNatClampNeg) = l1 then (if (nI i_) = ((σ 32) 34) then (0 : Int32) else (if ((σ 56) (((12 : Int32) * (nI i_)) + l2).toNatClampNeg) = (1 : Int32) then (1 : Int32) else (0 : Int32))) else (0 : Int32)) = (0 : Int32) from (if_neg c_3)] at K_1
      exact K_1
    · refine z_iload dX9_findFlaws_251 rfl ?_
      refine z_aloadr_n dX9_findFlaws_253 rfl ?_
      refine z_get (ci := 9) (r := (RX9, TX9, 38)) (j := 34) (v := .int ((σ 32) 34)) dX9_findFlaws_254 (Nat.le_of_ble_eq_true rfl) (zN rfl) rfl rfl (Nat.le_of_ble_eq_true rfl) fl_X9_211 rfl ?_
      refine z_icmp_eq (tgt := 280) dX9_findFlaws_257 (by decide) (fun c_4 => ?_) (fun c_4 => ?_)
      · refine z_iconst dX9_findFlaws_280 k_iconst_0 ?_
        rw [show (if ((σ 42) (nI i_).toNatClampNeg) = l1 then (if (nI i_) = ((σ 32) 34) then (0 : Int32) else (if ((σ 56) (((12 : Int32) * (nI i_)) + l2).toNatClampNeg) = (1 : Int32) then (1 : Int32) else (0 : Int32))) else (0 : Int32)) = (0 : Int32) from ((if_pos c_3).trans (if_pos c_4))] at K_1
        exact K_1
      · refine z_aloadr_n dX9_findFlaws_260 rfl ?_
        refine z_get (ci := 9) (r := (RX9, TX9, 38)) (j := 35) (v := .ref 56) dX9_findFlaws_261 (Nat.le_of_ble_eq_true rfl) (zN rfl) rfl rfl (Nat.le_of_ble_eq_true rfl) fl_X9_87 rfl ?_
        refine z_bipush dX9_findFlaws_264 k_bipush_12 ?_
        refine z_iload dX9_findFlaws_266 rfl ?_
        refine z_imul (v := ((12 : Int32) * (nI i_))) dX9_findFlaws_268 rfl ?_
        refine z_iload_n dX9_findFlaws_269 rfl ?_
        refine z_iadd (v := (((12 : Int32) * (nI i_)) + l2)) dX9_findFlaws_270 rfl ?_
        refine z_iald (v := ((σ 56) (((12 : Int32) * (nI i_)) + l2).toNatClampNeg)) dX9_findFlaws_271 (zN rfl) rfl ((W3_.2.1.1 c_3).2 c_4) rfl ?_
        refine z_iconst dX9_findFlaws_272 k_iconst_1 ?_
        refine z_icmp_ne (tgt := 280) dX9_findFlaws_273 (by decide) (fun c_5 => ?_) (fun c_5 => ?_)
        · refine z_iconst dX9_findFlaws_280 k_iconst_0 ?_
          rw [show (if ((σ 42) (nI i_).toNatClampNeg) = l1 then (if (nI i_) = ((σ 32) 34) then (0 : Int32) else (if ((σ 56) (((12 : Int32) * (nI i_)) + l2).toNatClampNeg) = (1 : Int32) then (1 : Int32) else (0 : Int32))) else (0 : Int32)) = (0 : Int32) from ((if_pos c_3).trans ((if_neg c_4).trans (if_neg c_5)))] at K_1
          exact K_1
        · refine z_iconst dX9_findFlaws_276 k_iconst_1 ?_
          refine z_goto (tgt := 281) dX9_findFlaws_277 (by decide) ?_
          rw [show (if ((σ 42) (nI i_).toNatClampNeg) = l1 then (if (nI i_) = ((σ 32) 34) then (0 : Int32) else (if ((σ 56) (((12 : Int32) * (nI i_)) + l2).toNatClampNeg) = (1 : Int32) then (1 : Int32) else (0 : Int32))) else (0 : Int32)) = (1 : Int32) from ((if_pos c_3).trans ((if_neg c_4).trans (if_pos c_5)))] at K_1
          exact K_1
  · have hD_ := hC_ n_ (Nat.le_refl _)
    generalize zfor (fX9_findFlaws_231 σ l1 l2 l3) n_ l4 = g_ at W2_ hD_ ⊢
    refine z_iload dX9_findFlaws_231 rfl ?_
    refine z_aloadr_n dX9_findFlaws_233 rfl ?_
    refine z_get (ci := 9) (r := (RX9, TX9, 38)) (j := 11) (v := .int ((σ 32) 11)) dX9_findFlaws_234 (Nat.le_of_ble_eq_true rfl) (zN rfl) rfl rfl (Nat.le_of_ble_eq_true rfl) fl_X9_131 rfl ?_
    refine z_icmp_ge (tgt := 331) dX9_findFlaws_237 (by decide) (fun c_ => ?_) (fun c_ => absurd (hD_.mpr (Nat.le_refl _)) c_)
    exact zz_sub (lv' := [some (.ref 32), some (.int l1), some (.int l2), some (.int l3), some (.int g_), none, none]) ⟨rfl, ⟨rfl, ⟨rfl, ⟨rfl, ⟨rfl, trivial⟩⟩⟩⟩⟩ W2_

theorem dX9_findFlaws_132 : decode cX9_findFlaws 132 = .ok (.iload 4, 2) := by decide +kernel
theorem dX9_findFlaws_134 : decode cX9_findFlaws 134 = .ok (.aload_n 0, 1) := by decide +kernel
theorem dX9_findFlaws_135 : decode cX9_findFlaws 135 = .ok (.getfield 131, 3) := by decide +kernel
theorem dX9_findFlaws_138 : decode cX9_findFlaws 138 = .ok (.if_icmp .ge 79, 3) := by decide +kernel
theorem dX9_findFlaws_141 : decode cX9_findFlaws 141 = .ok (.aload_n 0, 1) := by decide +kernel
theorem dX9_findFlaws_142 : decode cX9_findFlaws 142 = .ok (.getfield 38, 3) := by decide +kernel
theorem dX9_findFlaws_145 : decode cX9_findFlaws 145 = .ok (.iload 4, 2) := by decide +kernel
theorem dX9_findFlaws_147 : decode cX9_findFlaws 147 = .ok (.iaload, 1) := by decide +kernel
theorem dX9_findFlaws_148 : decode cX9_findFlaws 148 = .ok (.iload_n 1, 1) := by decide +kernel
theorem dX9_findFlaws_149 : decode cX9_findFlaws 149 = .ok (.if_icmp .ne 31, 3) := by decide +kernel
theorem dX9_findFlaws_152 : decode cX9_findFlaws 152 = .ok (.iload 4, 2) := by decide +kernel
theorem dX9_findFlaws_154 : decode cX9_findFlaws 154 = .ok (.aload_n 0, 1) := by decide +kernel
theorem dX9_findFlaws_155 : decode cX9_findFlaws 155 = .ok (.getfield 211, 3) := by decide +kernel
theorem dX9_findFlaws_158 : decode cX9_findFlaws 158 = .ok (.if_icmp .eq 22, 3) := by decide +kernel
theorem dX9_findFlaws_161 : decode cX9_findFlaws 161 = .ok (.aload_n 0, 1) := by decide +kernel
theorem dX9_findFlaws_162 : decode cX9_findFlaws 162 = .ok (.getfield 87, 3) := by decide +kernel
theorem dX9_findFlaws_165 : decode cX9_findFlaws 165 = .ok (.bipush 12, 2) := by decide +kernel
theorem dX9_findFlaws_167 : decode cX9_findFlaws 167 = .ok (.iload 4, 2) := by decide +kernel
theorem dX9_findFlaws_169 : decode cX9_findFlaws 169 = .ok (.imul, 1) := by decide +kernel
theorem dX9_findFlaws_170 : decode cX9_findFlaws 170 = .ok (.iload_n 2, 1) := by decide +kernel
theorem dX9_findFlaws_171 : decode cX9_findFlaws 171 = .ok (.iadd, 1) := by decide +kernel
theorem dX9_findFlaws_172 : decode cX9_findFlaws 172 = .ok (.iaload, 1) := by decide +kernel
theorem dX9_findFlaws_173 : decode cX9_findFlaws 173 = .ok (.ifCond .ne 7, 3) := by decide +kernel
theorem dX9_findFlaws_176 : decode cX9_findFlaws 176 = .ok (.iconst 1, 1) := by decide +kernel
theorem dX9_findFlaws_177 : decode cX9_findFlaws 177 = .ok (.goto 4, 3) := by decide +kernel
theorem dX9_findFlaws_180 : decode cX9_findFlaws 180 = .ok (.iconst 0, 1) := by decide +kernel
theorem dX9_findFlaws_181 : decode cX9_findFlaws 181 = .ok (.istore 5, 2) := by decide +kernel
theorem dX9_findFlaws_183 : decode cX9_findFlaws 183 = .ok (.iload 5, 2) := by decide +kernel
theorem dX9_findFlaws_185 : decode cX9_findFlaws 185 = .ok (.ifCond .eq 24, 3) := by decide +kernel
theorem dX9_findFlaws_188 : decode cX9_findFlaws 188 = .ok (.aload_n 0, 1) := by decide +kernel
theorem dX9_findFlaws_189 : decode cX9_findFlaws 189 = .ok (.getfield 41, 3) := by decide +kernel
theorem dX9_findFlaws_192 : decode cX9_findFlaws 192 = .ok (.iload 4, 2) := by decide +kernel
theorem dX9_findFlaws_194 : decode cX9_findFlaws 194 = .ok (.iaload, 1) := by decide +kernel
theorem dX9_findFlaws_195 : decode cX9_findFlaws 195 = .ok (.iload_n 3, 1) := by decide +kernel
theorem dX9_findFlaws_196 : decode cX9_findFlaws 196 = .ok (.if_icmp .le 13, 3) := by decide +kernel
theorem dX9_findFlaws_199 : decode cX9_findFlaws 199 = .ok (.aload_n 0, 1) := by decide +kernel
theorem dX9_findFlaws_200 : decode cX9_findFlaws 200 = .ok (.getfield 41, 3) := by decide +kernel
theorem dX9_findFlaws_203 : decode cX9_findFlaws 203 = .ok (.iload 4, 2) := by decide +kernel
theorem dX9_findFlaws_205 : decode cX9_findFlaws 205 = .ok (.iaload, 1) := by decide +kernel
theorem dX9_findFlaws_206 : decode cX9_findFlaws 206 = .ok (.goto 4, 3) := by decide +kernel
theorem dX9_findFlaws_209 : decode cX9_findFlaws 209 = .ok (.iload_n 3, 1) := by decide +kernel
theorem dX9_findFlaws_210 : decode cX9_findFlaws 210 = .ok (.istore_n 3, 1) := by decide +kernel
theorem dX9_findFlaws_211 : decode cX9_findFlaws 211 = .ok (.iinc 4 1, 3) := by decide +kernel
theorem dX9_findFlaws_214 : decode cX9_findFlaws 214 = .ok (.goto (-82), 3) := by decide +kernel
theorem dX9_findFlaws_217 : decode cX9_findFlaws 217 = .ok (.aload_n 0, 1) := by decide +kernel
theorem dX9_findFlaws_218 : decode cX9_findFlaws 218 = .ok (.getfield 41, 3) := by decide +kernel
theorem dX9_findFlaws_221 : decode cX9_findFlaws 221 = .ok (.aload_n 0, 1) := by decide +kernel
theorem dX9_findFlaws_222 : decode cX9_findFlaws 222 = .ok (.getfield 211, 3) := by decide +kernel
theorem dX9_findFlaws_225 : decode cX9_findFlaws 225 = .ok (.iaload, 1) := by decide +kernel
theorem dX9_findFlaws_226 : decode cX9_findFlaws 226 = .ok (.istore 4, 2) := by decide +kernel
theorem dX9_findFlaws_228 : decode cX9_findFlaws 228 = .ok (.iconst 0, 1) := by decide +kernel
theorem dX9_findFlaws_229 : decode cX9_findFlaws 229 = .ok (.istore 5, 2) := by decide +kernel
noncomputable def vX9_findFlaws_2 (l1 : Int32) (l2 : Int32) (l3 : Int32) (l4 : Int32) (σ : zc_N) : Int32 := (if (if ((σ 42) l4.toNatClampNeg) = l1 then (if l4 = ((σ 32) 34) then (0 : Int32) else (if ((σ 56) (((12 : Int32) * l4) + l2).toNatClampNeg) = (0 : Int32) then (1 : Int32) else (0 : Int32))) else (0 : Int32)) = (0 : Int32) then l3 else (if ((σ 43) l4.toNatClampNeg) ≤ l3 then l3 else ((σ 43) l4.toNatClampNeg)))
noncomputable def fX9_findFlaws_132 (σ : zc_N) (l1 : Int32) (l2 : Int32) (i_ : Nat) (a_ : Int32) : Int32 := (vX9_findFlaws_2 l1 l2 a_ (nI i_) σ)
def qX9_findFlaws_132 (σ : zc_N) (l1 : Int32) (l2 : Int32) (i_ : Nat) (a_ : Int32) : Prop := (vp_in (nI i_) 24 ∧ (((((σ 42) (nI i_).toNatClampNeg) = l1 → (((nI i_) = ((σ 32) 34) → True) ∧ (¬ (nI i_) = ((σ 32) 34) → vp_in (((12 : Int32) * (nI i_)) + l2) 288))) ∧ (¬ ((σ 42) (nI i_).toNatClampNeg) = l1 → True)) ∧ (((if ((σ 42) (nI i_).toNatClampNeg) = l1 then (if (nI i_) = ((σ 32) 34) then (0 : Int32) else (if ((σ 56) (((12 : Int32) * (nI i_)) + l2).toNatClampNeg) = (0 : Int32) then (1 : Int32) else (0 : Int32))) else (0 : Int32)) = (0 : Int32) → True) ∧ (¬ (if ((σ 42) (nI i_).toNatClampNeg) = l1 then (if (nI i_) = ((σ 32) 34) then (0 : Int32) else (if ((σ 56) (((12 : Int32) * (nI i_)) + l2).toNatClampNeg) = (0 : Int32) then (1 : Int32) else (0 : Int32))) else (0 : Int32)) = (0 : Int32) → (vp_in (nI i_) 24 ∧ ((((σ 43) (nI i_).toNatClampNeg) ≤ a_ → True) ∧ (¬ ((σ 43) (nI i_).toNatClampNeg) ≤ a_ → vp_in (nI i_) 24)))))))
set_option maxHeartbeats 2000000 in
theorem lpX9_findFlaws_132 {G : zc_G} {Q : Option Value → zc_H → Prop} (P : zp) (σ : zc_N) (l1 : Int32) (l2 : Int32) (l3 : Int32) (n_ : Nat) (hC_ : ∀ i132_ : Nat, i132_ ≤ n_ → (((σ 32) 11) ≤ (nI i132_) ↔ n_ ≤ i132_)) (W1_ : ∀ i132_ : Nat, i132_ < n_ → qX9_findFlaws_132 σ l1 l2 i132_ (zfor (fX9_findFlaws_132 σ l1 l2) i132_ l3))
    (W2_ : zz G mX9_findFlaws 19 0 0 Q 217 [some (.ref 32), some (.int l1), some (.int l2), some (.int (zfor (fX9_findFlaws_132 σ l1 l2) n_ l3)), none, none, none] [] (hh P σ) 0 0) :
    zz G mX9_findFlaws 19 0 0 Q 132 [some (.ref 32), some (.int l1), some (.int l2), some (.int l3), some (.int (nI 0)), none, none] [] (hh P σ) 0 0 := by
  refine zfor_nI (fun i_ a_ => zz G mX9_findFlaws 19 0 0 Q 132 [some (.ref 32), some (.int l1), some (.int l2), some (.int a_), some (.int i_), none, none] [] (hh P σ) 0 0) (fX9_findFlaws_132 σ l1 l2) n_ l3 (fun i_ hi_ k_ => ?_) ?_
  · have W3_ := W1_ i_ hi_
    have hD_ := hC_ i_ (Nat.le_of_lt hi_)
    generalize zfor (fX9_findFlaws_132 σ l1 l2) i_ l3 = g_ at k_ W3_ hD_ ⊢
    rw [fX9_findFlaws_132] at k_
    rw [qX9_findFlaws_132] at W3_
    try dsimp only at W3_
    refine z_iload dX9_findFlaws_132 rfl ?_
    refine z_aloadr_n dX9_findFlaws_134 rfl ?_
    refine z_get (ci := 9) (r := (RX9, TX9, 38)) (j := 11) (v := .int ((σ 32) 11)) dX9_findFlaws_135 (Nat.le_of_ble_eq_true rfl) (zN rfl) rfl rfl (Nat.le_of_ble_eq_true rfl) fl_X9_131 rfl ?_
    refine z_icmp_ge (tgt := 217) dX9_findFlaws_138 (by decide) (fun c_ => absurd c_ (fun q_ => Nat.not_le_of_lt hi_ (hD_.mp q_))) (fun c_ => ?_)
    refine z_aloadr_n dX9_findFlaws_141 rfl ?_
    refine z_get (ci := 9) (r := (RX9, TX9, 38)) (j := 9) (v := .ref 42) dX9_findFlaws_142 (Nat.le_of_ble_eq_true rfl) (zN rfl) rfl rfl (Nat.le_of_ble_eq_true rfl) fl_X9_38 rfl ?_
    refine z_iload dX9_findFlaws_145 rfl ?_
    refine z_iald (v := ((σ 42) (nI i_).toNatClampNeg)) dX9_findFlaws_147 (zN rfl) rfl W3_.1 rfl ?_
    refine z_iload_n dX9_findFlaws_148 rfl ?_
    have K_1 : zz G mX9_findFlaws 19 0 0 Q 181 [some (.ref 32), some (.int l1), some (.int l2), some (.int g_), some (.int (nI i_)), none, none] [.int (if ((σ 42) (nI i_).toNatClampNeg) = l1 then (if (nI i_) = ((σ 32) 34) then (0 : Int32) else (if ((σ 56) (((12 : Int32) * (nI i_)) + l2).toNatClampNeg) = (0 : Int32) then (1 : Int32) else (0 : Int32))) else (0 : Int32))] (hh P σ) 0 0 := by
      refine z_istore (lv' := [some (.ref 32), some (.int l1), some (.int l2), some (.int g_), some (.int (nI i_)), some (.int (if ((σ 42) (nI i_).toNatClampNeg) = l1 then (if (nI i_) = ((σ 32) 34) then (0 : Int32) else (if ((σ 56) (((12 : Int32) * (nI i_)) + l2).toNatClampNeg) = (0 : Int32) then (1 : Int32) else (0 : Int32))) else (0 : Int32))), none]) dX9_findFlaws_181 (Nat.le_of_ble_eq_true rfl) rfl ?_
      refine z_iload dX9_findFlaws_183 rfl ?_
      have K_2 : zz G mX9_findFlaws 19 0 0 Q 210 [some (.ref 32), some (.int l1), some (.int l2), none, some (.int (nI i_)), none, none] [.int (if (if ((σ 42) (nI i_).toNatClampNeg) = l1 then (if (nI i_) = ((σ 32) 34) then (0 : Int32) else (if ((σ 56) (((12 : Int32) * (nI i_)) + l2).toNatClampNeg) = (0 : Int32) then (1 : Int32) else (0 : Int32))) else (0 : Int32)) = (0 : Int32) then g_ else (if ((σ 43) (nI i_).toNatClampNeg) ≤ g_ then g_ else ((σ 43) (nI i_).toNatClampNeg)))] (hh P σ) 0 0 := by
        refine z_istore_n (lv' := [some (.ref 32), some (.int l1), some (.int l2), some (.int (vX9_findFlaws_2 l1 l2 g_ (nI i_) σ)), some (.int (nI i_)), none, none]) dX9_findFlaws_210 (Nat.le_of_ble_eq_true rfl) rfl ?_
        refine z_iinc (v := ((nI i_) + (1 : Int32))) (lv' := [some (.ref 32), some (.int l1), some (.int l2), some (.int (vX9_findFlaws_2 l1 l2 g_ (nI i_) σ)), some (.int ((nI i_) + (1 : Int32))), none, none]) dX9_findFlaws_211 (Nat.le_of_ble_eq_true rfl) rfl (by rw [k_iconst_1]) rfl ?_
        refine z_goto (tgt := 132) dX9_findFlaws_214 (by decide) ?_
        rw [nI_1]
        exact k_
      refine z_if_eq (tgt := 209) dX9_findFlaws_185 (by decide) (fun c_6 => ?_) (fun c_6 => ?_)
      · refine z_iload_n dX9_findFlaws_209 rfl ?_
        refine zz_sub (lv' := [some (.ref 32), some (.int l1), some (.int l2), none, some (.int (nI i_)), none, none]) ⟨rfl, ⟨rfl, ⟨rfl, ⟨rfl, trivial⟩⟩⟩⟩ ?_
        rw [show (if (if ((σ 42) (nI i_).toNatClampNeg) = l1 then (if (nI i_) = ((σ 32) 34) then (0 : Int32) else (if ((σ 56) (((12 : Int32) * (nI i_)) + l2).toNatClampNeg) = (0 : Int32) then (1 : Int32) else (0 : Int32))) else (0 : Int32)) = (0 : Int32) then g_ else (if ((σ 43) (nI i_).toNatClampNeg) ≤ g_ then g_ else ((σ 43) (nI i_).toNatClampNeg))) = g_ from (if_pos c_6)] at K_2
        exact K_2
      · refine z_aloadr_n dX9_findFlaws_188 rfl ?_
        refine z_get (ci := 9) (r := (RX9, TX9, 38)) (j := 10) (v := .ref 43) dX9_findFlaws_189 (Nat.le_of_ble_eq_true rfl) (zN rfl) rfl rfl (Nat.le_of_ble_eq_true rfl) fl_X9_41 rfl ?_
        refine z_iload dX9_findFlaws_192 rfl ?_
        refine z_iald (v := ((σ 43) (nI i_).toNatClampNeg)) dX9_findFlaws_194 (zN rfl) rfl ((W3_.2.2.2 c_6).1) rfl ?_
        refine z_iload_n dX9_findFlaws_195 rfl ?_
        refine z_icmp_le (tgt := 209) dX9_findFlaws_196 (by decide) (fun c_7 => ?_) (fun c_7 => ?_)
        · refine z_iload_n dX9_findFlaws_209 rfl ?_
          refine zz_sub (lv' := [some (.ref 32), some (.int l1), some (.int l2), none, some (.int (nI i_)), none, none]) ⟨rfl, ⟨rfl, ⟨rfl, ⟨rfl, trivial⟩⟩⟩⟩ ?_
          rw [show (if (if ((σ 42) (nI i_).toNatClampNeg) = l1 then (if (nI i_) = ((σ 32) 34) then (0 : Int32) else (if ((σ 56) (((12 : Int32) * (nI i_)) + l2).toNatClampNeg) = (0 : Int32) then (1 : Int32) else (0 : Int32))) else (0 : Int32)) = (0 : Int32) then g_ else (if ((σ 43) (nI i_).toNatClampNeg) ≤ g_ then g_ else ((σ 43) (nI i_).toNatClampNeg))) = g_ from ((if_neg c_6).trans (if_pos c_7))] at K_2
          exact K_2
        · refine z_aloadr_n dX9_findFlaws_199 rfl ?_
          refine z_get (ci := 9) (r := (RX9, TX9, 38)) (j := 10) (v := .ref 43) dX9_findFlaws_200 (Nat.le_of_ble_eq_true rfl) (zN rfl) rfl rfl (Nat.le_of_ble_eq_true rfl) fl_X9_41 rfl ?_
          refine z_iload dX9_findFlaws_203 rfl ?_
          refine z_iald (v := ((σ 43) (nI i_).toNatClampNeg)) dX9_findFlaws_205 (zN rfl) rfl ((W3_.2.2.2 c_6).2.2 c_7) rfl ?_
          refine z_goto (tgt := 210) dX9_findFlaws_206 (by decide) ?_
          refine zz_sub (lv' := [some (.ref 32), some (.int l1), some (.int l2), none, some (.int (nI i_)), none, none]) ⟨rfl, ⟨rfl, ⟨rfl, ⟨rfl, trivial⟩⟩⟩⟩ ?_
          rw [show (if (if ((σ 42) (nI i_).toNatClampNeg) = l1 then (if (nI i_) = ((σ 32) 34) then (0 : Int32) else (if ((σ 56) (((12 : Int32) * (nI i_)) + l2).toNatClampNeg) = (0 : Int32) then (1 : Int32) else (0 : Int32))) else (0 : Int32)) = (0 : Int32) then g_ else (if ((σ 43) (nI i_).toNatClampNeg) ≤ g_ then g_ else ((σ 43) (nI i_).toNatClampNeg))) = ((σ 43) (nI i_).toNatClampNeg) from ((if_neg c_6).trans (if_neg c_7))] at K_2
          exact K_2
    refine z_icmp_ne (tgt := 180) dX9_findFlaws_149 (by decide) (fun c_3 => ?_) (fun c_3 => ?_)
    · refine z_iconst dX9_findFlaws_180 k_iconst_0 ?_
      rw [show (if ((σ 42) (nI i_).toNatClampNeg) = l1 then (if (nI i_) = ((σ 32) 34) then (0 : Int32) else (if ((σ 56) (((12 : Int32) * (nI i_)) + l2).toNatClampNeg) = (0 : Int32) then (1 : Int32) else (0 : Int32))) else (0 : Int32)) = (0 : Int32) from (if_neg c_3)] at K_1
      exact K_1
    · refine z_iload dX9_findFlaws_152 rfl ?_
      refine z_aloadr_n dX9_findFlaws_154 rfl ?_
      refine z_get (ci := 9) (r := (RX9, TX9, 38)) (j := 34) (v := .int ((σ 32) 34)) dX9_findFlaws_155 (Nat.le_of_ble_eq_true rfl) (zN rfl) rfl rfl (Nat.le_of_ble_eq_true rfl) fl_X9_211 rfl ?_
      refine z_icmp_eq (tgt := 180) dX9_findFlaws_158 (by decide) (fun c_4 => ?_) (fun c_4 => ?_)
      · refine z_iconst dX9_findFlaws_180 k_iconst_0 ?_
        rw [show (if ((σ 42) (nI i_).toNatClampNeg) = l1 then (if (nI i_) = ((σ 32) 34) then (0 : Int32) else (if ((σ 56) (((12 : Int32) * (nI i_)) + l2).toNatClampNeg) = (0 : Int32) then (1 : Int32) else (0 : Int32))) else (0 : Int32)) = (0 : Int32) from ((if_pos c_3).trans (if_pos c_4))] at K_1
        exact K_1
      · refine z_aloadr_n dX9_findFlaws_161 rfl ?_
        refine z_get (ci := 9) (r := (RX9, TX9, 38)) (j := 35) (v := .ref 56) dX9_findFlaws_162 (Nat.le_of_ble_eq_true rfl) (zN rfl) rfl rfl (Nat.le_of_ble_eq_true rfl) fl_X9_87 rfl ?_
        refine z_bipush dX9_findFlaws_165 k_bipush_12 ?_
        refine z_iload dX9_findFlaws_167 rfl ?_
        refine z_imul (v := ((12 : Int32) * (nI i_))) dX9_findFlaws_169 rfl ?_
        refine z_iload_n dX9_findFlaws_170 rfl ?_
        refine z_iadd (v := (((12 : Int32) * (nI i_)) + l2)) dX9_findFlaws_171 rfl ?_
        refine z_iald (v := ((σ 56) (((12 : Int32) * (nI i_)) + l2).toNatClampNeg)) dX9_findFlaws_172 (zN rfl) rfl ((W3_.2.1.1 c_3).2 c_4) rfl ?_
        refine z_if_ne (tgt := 180) dX9_findFlaws_173 (by decide) (fun c_5 => ?_) (fun c_5 => ?_)
        · refine z_iconst dX9_findFlaws_180 k_iconst_0 ?_
          rw [show (if ((σ 42) (nI i_).toNatClampNeg) = l1 then (if (nI i_) = ((σ 32) 34) then (0 : Int32) else (if ((σ 56) (((12 : Int32) * (nI i_)) + l2).toNatClampNeg) = (0 : Int32) then (1 : Int32) else (0 : Int32))) else (0 : Int32)) = (0 : Int32) from ((if_pos c_3).trans ((if_neg c_4).trans (if_neg c_5)))] at K_1
          exact K_1
        · refine z_iconst dX9_findFlaws_176 k_iconst_1 ?_
          refine z_goto (tgt := 181) dX9_findFlaws_177 (by decide) ?_
          rw [show (if ((σ 42) (nI i_).toNatClampNeg) = l1 then (if (nI i_) = ((σ 32) 34) then (0 : Int32) else (if ((σ 56) (((12 : Int32) * (nI i_)) + l2).toNatClampNeg) = (0 : Int32) then (1 : Int32) else (0 : Int32))) else (0 : Int32)) = (1 : Int32) from ((if_pos c_3).trans ((if_neg c_4).trans (if_pos c_5)))] at K_1
          exact K_1
  · have hD_ := hC_ n_ (Nat.le_refl _)
    generalize zfor (fX9_findFlaws_132 σ l1 l2) n_ l3 = g_ at W2_ hD_ ⊢
    refine z_iload dX9_findFlaws_132 rfl ?_
    refine z_aloadr_n dX9_findFlaws_134 rfl ?_
    refine z_get (ci := 9) (r := (RX9, TX9, 38)) (j := 11) (v := .int ((σ 32) 11)) dX9_findFlaws_135 (Nat.le_of_ble_eq_true rfl) (zN rfl) rfl rfl (Nat.le_of_ble_eq_true rfl) fl_X9_131 rfl ?_
    refine z_icmp_ge (tgt := 217) dX9_findFlaws_138 (by decide) (fun c_ => ?_) (fun c_ => absurd (hD_.mpr (Nat.le_refl _)) c_)
    exact zz_sub (lv' := [some (.ref 32), some (.int l1), some (.int l2), some (.int g_), none, none, none]) ⟨rfl, ⟨rfl, ⟨rfl, ⟨rfl, trivial⟩⟩⟩⟩ W2_

theorem dX9_findFlaws_114 : decode cX9_findFlaws 114 = .ok (.iload_n 2, 1) := by decide +kernel
theorem dX9_findFlaws_115 : decode cX9_findFlaws 115 = .ok (.aload_n 0, 1) := by decide +kernel
theorem dX9_findFlaws_116 : decode cX9_findFlaws 116 = .ok (.getfield 23, 3) := by decide +kernel
theorem dX9_findFlaws_119 : decode cX9_findFlaws 119 = .ok (.aload_n 0, 1) := by decide +kernel
theorem dX9_findFlaws_120 : decode cX9_findFlaws 120 = .ok (.getfield 211, 3) := by decide +kernel
theorem dX9_findFlaws_123 : decode cX9_findFlaws 123 = .ok (.iaload, 1) := by decide +kernel
theorem dX9_findFlaws_124 : decode cX9_findFlaws 124 = .ok (.if_icmp .ge 248, 3) := by decide +kernel
theorem dX9_findFlaws_127 : decode cX9_findFlaws 127 = .ok (.iconst (-1), 1) := by decide +kernel
theorem dX9_findFlaws_128 : decode cX9_findFlaws 128 = .ok (.istore_n 3, 1) := by decide +kernel
theorem dX9_findFlaws_129 : decode cX9_findFlaws 129 = .ok (.iconst 0, 1) := by decide +kernel
theorem dX9_findFlaws_130 : decode cX9_findFlaws 130 = .ok (.istore 4, 2) := by decide +kernel
theorem dX9_findFlaws_332 : decode cX9_findFlaws 332 = .ok (.ifCond .lt 34, 3) := by decide +kernel
noncomputable def vX9_findFlaws_3 (l1 : Int32) (l2 : Int32) (σ : zc_N) : Int32 := (zfor (fX9_findFlaws_231 σ l1 l2 (zfor (fX9_findFlaws_132 σ l1 l2) ((((σ 32) 11)).toNatClampNeg) (-1 : Int32))) ((((σ 32) 11)).toNatClampNeg) ((σ 43) ((σ 32) 34).toNatClampNeg))
noncomputable def fX9_findFlaws_114 (l1 : Int32) (i_ : Nat) (a_ : zc_N) : zc_N := (if (zfor (fX9_findFlaws_132 a_ l1 (nI i_)) ((((a_ 32) 11)).toNatClampNeg) (-1 : Int32)) < (0 : Int32) then a_ else (zu (zu (zu a_ 54 (zu (a_ 54) ((a_ 32) 33).toNatClampNeg (nI i_))) 55 (zu (a_ 55) ((a_ 32) 33).toNatClampNeg (vX9_findFlaws_3 l1 (nI i_) a_))) 32 (zu (a_ 32) 33 (((a_ 32) 33) + (1 : Int32)))))
def qX9_findFlaws_114 (l1 : Int32) (i_ : Nat) (a_ : zc_N) : Prop := (((∀ i132_ : Nat, i132_ ≤ ((((a_ 32) 11)).toNatClampNeg) → (((a_ 32) 11) ≤ (nI i132_) ↔ ((((a_ 32) 11)).toNatClampNeg) ≤ i132_)) ∧ (∀ i132_ : Nat, i132_ < ((((a_ 32) 11)).toNatClampNeg) → qX9_findFlaws_132 a_ l1 (nI i_) i132_ (zfor (fX9_findFlaws_132 a_ l1 (nI i_)) i132_ (-1 : Int32)))) ∧ (vp_in ((a_ 32) 34) 24 ∧ (((∀ i231_ : Nat, i231_ ≤ ((((a_ 32) 11)).toNatClampNeg) → (((a_ 32) 11) ≤ (nI i231_) ↔ ((((a_ 32) 11)).toNatClampNeg) ≤ i231_)) ∧ (∀ i231_ : Nat, i231_ < ((((a_ 32) 11)).toNatClampNeg) → qX9_findFlaws_231 a_ l1 (nI i_) (zfor (fX9_findFlaws_132 a_ l1 (nI i_)) ((((a_ 32) 11)).toNatClampNeg) (-1 : Int32)) i231_ (zfor (fX9_findFlaws_231 a_ l1 (nI i_) (zfor (fX9_findFlaws_132 a_ l1 (nI i_)) ((((a_ 32) 11)).toNatClampNeg) (-1 : Int32))) i231_ ((a_ 43) ((a_ 32) 34).toNatClampNeg)))) ∧ (((zfor (fX9_findFlaws_132 a_ l1 (nI i_)) ((((a_ 32) 11)).toNatClampNeg) (-1 : Int32)) < (0 : Int32) → True) ∧ (¬ (zfor (fX9_findFlaws_132 a_ l1 (nI i_)) ((((a_ 32) 11)).toNatClampNeg) (-1 : Int32)) < (0 : Int32) → (vp_in ((a_ 32) 33) 12 ∧ vp_in ((a_ 32) 33) 12))))))
def uX9_findFlaws_114 (i_ : Nat) (a_ : zc_N) : Prop := vp_in ((a_ 32) 34) 24
set_option maxHeartbeats 2000000 in
theorem lpX9_findFlaws_114 {G : zc_G} {Q : Option Value → zc_H → Prop} (P : zp) (σ : zc_N) (l1 : Int32) (n_ : Nat) (hC_ : ∀ i114_ : Nat, i114_ ≤ n_ → ((((zfor (fX9_findFlaws_114 l1) i114_ σ) 37) (((zfor (fX9_findFlaws_114 l1) i114_ σ) 32) 34).toNatClampNeg) ≤ (nI i114_) ↔ n_ ≤ i114_)) (W0_ : ∀ i114_ : Nat, i114_ ≤ n_ → uX9_findFlaws_114 i114_ (zfor (fX9_findFlaws_114 l1) i114_ σ)) (W1_ : ∀ i114_ : Nat, i114_ < n_ → qX9_findFlaws_114 l1 i114_ (zfor (fX9_findFlaws_114 l1) i114_ σ))
    (W2_ : zz G mX9_findFlaws 19 0 0 Q 372 [none, none, none, none, none, none, none] [] (hh P (zfor (fX9_findFlaws_114 l1) n_ σ)) 0 0) :
    zz G mX9_findFlaws 19 0 0 Q 114 [some (.ref 32), some (.int l1), some (.int (nI 0)), none, none, none, none] [] (hh P σ) 0 0 := by
  refine zfor_nI (fun i_ a_ => zz G mX9_findFlaws 19 0 0 Q 114 [some (.ref 32), some (.int l1), some (.int i_), none, none, none, none] [] (hh P a_) 0 0) (fX9_findFlaws_114 l1) n_ σ (fun i_ hi_ k_ => ?_) ?_
  · have Wa_ := W0_ i_ (Nat.le_of_lt hi_)
    have W3_ := W1_ i_ hi_
    have hD_ := hC_ i_ (Nat.le_of_lt hi_)
    generalize zfor (fX9_findFlaws_114 l1) i_ σ = g_ at k_ W3_ hD_ Wa_ ⊢
    rw [fX9_findFlaws_114] at k_
    rw [qX9_findFlaws_114] at W3_
    try dsimp only at W3_
    rw [uX9_findFlaws_114] at Wa_
    try dsimp only at Wa_
    refine z_iload_n dX9_findFlaws_114 rfl ?_
    refine z_aloadr_n dX9_findFlaws_115 rfl ?_
    refine z_get (ci := 9) (r := (RX9, TX9, 38)) (j := 4) (v := .ref 37) dX9_findFlaws_116 (Nat.le_of_ble_eq_true rfl) (zN rfl) rfl rfl (Nat.le_of_ble_eq_true rfl) fl_X9_23 rfl ?_
    refine z_aloadr_n dX9_findFlaws_119 rfl ?_
    refine z_get (ci := 9) (r := (RX9, TX9, 38)) (j := 34) (v := .int ((g_ 32) 34)) dX9_findFlaws_120 (Nat.le_of_ble_eq_true rfl) (zN rfl) rfl rfl (Nat.le_of_ble_eq_true rfl) fl_X9_211 rfl ?_
    refine z_iald (v := ((g_ 37) ((g_ 32) 34).toNatClampNeg)) dX9_findFlaws_123 (zN rfl) rfl Wa_ rfl ?_
    refine z_icmp_ge (tgt := 372) dX9_findFlaws_124 (by decide) (fun c_ => absurd c_ (fun q_ => Nat.not_le_of_lt hi_ (hD_.mp q_))) (fun c_ => ?_)
    refine z_iconst dX9_findFlaws_127 k_iconst_m1 ?_
    refine z_istore_n (lv' := [some (.ref 32), some (.int l1), some (.int (nI i_)), some (.int (-1 : Int32)), none, none, none]) dX9_findFlaws_128 (Nat.le_of_ble_eq_true rfl) rfl ?_
    refine z_iconst dX9_findFlaws_129 k_iconst_0 ?_
    refine z_istore (lv' := [some (.ref 32), some (.int l1), some (.int (nI i_)), some (.int (-1 : Int32)), some (.int (0 : Int32)), none, none]) dX9_findFlaws_130 (Nat.le_of_ble_eq_true rfl) rfl ?_
    refine lpX9_findFlaws_132 P g_ l1 (nI i_) (-1 : Int32) ((((g_ 32) 11)).toNatClampNeg) W3_.1.1 W3_.1.2 ?_
    show zz G mX9_findFlaws 19 0 0 Q 217 [some (.ref 32), some (.int l1), some (.int (nI i_)), some (.int (zfor (fX9_findFlaws_132 g_ l1 (nI i_)) ((((g_ 32) 11)).toNatClampNeg) (-1 : Int32))), none, none, none] [] (hh P g_) 0 0
    refine z_aloadr_n dX9_findFlaws_217 rfl ?_
    refine z_get (ci := 9) (r := (RX9, TX9, 38)) (j := 10) (v := .ref 43) dX9_findFlaws_218 (Nat.le_of_ble_eq_true rfl) (zN rfl) rfl rfl (Nat.le_of_ble_eq_true rfl) fl_X9_41 rfl ?_
    refine z_aloadr_n dX9_findFlaws_221 rfl ?_
    refine z_get (ci := 9) (r := (RX9, TX9, 38)) (j := 34) (v := .int ((g_ 32) 34)) dX9_findFlaws_222 (Nat.le_of_ble_eq_true rfl) (zN rfl) rfl rfl (Nat.le_of_ble_eq_true rfl) fl_X9_211 rfl ?_
    refine z_iald (v := ((g_ 43) ((g_ 32) 34).toNatClampNeg)) dX9_findFlaws_225 (zN rfl) rfl W3_.2.1 rfl ?_
    refine z_istore (lv' := [some (.ref 32), some (.int l1), some (.int (nI i_)), some (.int (zfor (fX9_findFlaws_132 g_ l1 (nI i_)) ((((g_ 32) 11)).toNatClampNeg) (-1 : Int32))), some (.int ((g_ 43) ((g_ 32) 34).toNatClampNeg)), none, none]) dX9_findFlaws_226 (Nat.le_of_ble_eq_true rfl) rfl ?_
    refine z_iconst dX9_findFlaws_228 k_iconst_0 ?_
    refine z_istore (lv' := [some (.ref 32), some (.int l1), some (.int (nI i_)), some (.int (zfor (fX9_findFlaws_132 g_ l1 (nI i_)) ((((g_ 32) 11)).toNatClampNeg) (-1 : Int32))), some (.int ((g_ 43) ((g_ 32) 34).toNatClampNeg)), some (.int (0 : Int32)), none]) dX9_findFlaws_229 (Nat.le_of_ble_eq_true rfl) rfl ?_
    refine lpX9_findFlaws_231 P g_ l1 (nI i_) (zfor (fX9_findFlaws_132 g_ l1 (nI i_)) ((((g_ 32) 11)).toNatClampNeg) (-1 : Int32)) ((g_ 43) ((g_ 32) 34).toNatClampNeg) ((((g_ 32) 11)).toNatClampNeg) W3_.2.2.1.1 W3_.2.2.1.2 ?_
    show zz G mX9_findFlaws 19 0 0 Q 331 [some (.ref 32), some (.int l1), some (.int (nI i_)), some (.int (zfor (fX9_findFlaws_132 g_ l1 (nI i_)) ((((g_ 32) 11)).toNatClampNeg) (-1 : Int32))), some (.int (vX9_findFlaws_3 l1 (nI i_) g_)), none, none] [] (hh P g_) 0 0
    refine z_iload_n dX9_findFlaws_331 rfl ?_
    refine z_if_lt (tgt := 366) dX9_findFlaws_332 (by decide) (fun c_2 => ?_) (fun c_2 => ?_)
    · refine z_iinc (v := ((nI i_) + (1 : Int32))) (lv' := [some (.ref 32), some (.int l1), some (.int ((nI i_) + (1 : Int32))), some (.int (zfor (fX9_findFlaws_132 g_ l1 (nI i_)) ((((g_ 32) 11)).toNatClampNeg) (-1 : Int32))), some (.int (vX9_findFlaws_3 l1 (nI i_) g_)), none, none]) dX9_findFlaws_366 (Nat.le_of_ble_eq_true rfl) rfl (by rw [k_iconst_1]) rfl ?_
      refine z_goto (tgt := 114) dX9_findFlaws_369 (by decide) ?_
      refine zz_sub (lv' := [some (.ref 32), some (.int l1), some (.int ((nI i_) + (1 : Int32))), none, none, none, none]) ⟨rfl, ⟨rfl, ⟨rfl, trivial⟩⟩⟩ ?_
      rw [nI_1]
      simpa only [if_pos c_2] using k_
    · refine z_aloadr_n dX9_findFlaws_335 rfl ?_
      refine z_get (ci := 9) (r := (RX9, TX9, 38)) (j := 31) (v := .ref 54) dX9_findFlaws_336 (Nat.le_of_ble_eq_true rfl) (zN rfl) rfl rfl (Nat.le_of_ble_eq_true rfl) fl_X9_81 rfl ?_
      refine z_aloadr_n dX9_findFlaws_339 rfl ?_
      refine z_get (ci := 9) (r := (RX9, TX9, 38)) (j := 33) (v := .int ((g_ 32) 33)) dX9_findFlaws_340 (Nat.le_of_ble_eq_true rfl) (zN rfl) rfl rfl (Nat.le_of_ble_eq_true rfl) fl_X9_217 rfl ?_
      refine z_iload_n dX9_findFlaws_343 rfl ?_
      refine z_iast (σ' := (zu g_ 54 (zu (g_ 54) ((g_ 32) 33).toNatClampNeg (nI i_)))) dX9_findFlaws_344 (Nat.le_of_ble_eq_true rfl) (zN rfl) rfl ((W3_.2.2.2.2 c_2).1) rfl ?_
      refine z_aloadr_n dX9_findFlaws_345 rfl ?_
      refine z_get (ci := 9) (r := (RX9, TX9, 38)) (j := 32) (v := .ref 55) dX9_findFlaws_346 (Nat.le_of_ble_eq_true rfl) (zN rfl) rfl rfl (Nat.le_of_ble_eq_true rfl) fl_X9_84 rfl ?_
      refine z_aloadr_n dX9_findFlaws_349 rfl ?_
      refine z_get (ci := 9) (r := (RX9, TX9, 38)) (j := 33) (v := .int ((g_ 32) 33)) dX9_findFlaws_350 (Nat.le_of_ble_eq_true rfl) (zN rfl) rfl rfl (Nat.le_of_ble_eq_true rfl) fl_X9_217 (congrArg Value.int (congrFun (zu_ne _ _ (by decide)) _)) ?_
      refine z_iload dX9_findFlaws_353 rfl ?_
      refine z_iast (σ' := (zu (zu g_ 54 (zu (g_ 54) ((g_ 32) 33).toNatClampNeg (nI i_))) 55 (zu (g_ 55) ((g_ 32) 33).toNatClampNeg (vX9_findFlaws_3 l1 (nI i_) g_)))) dX9_findFlaws_355 (Nat.le_of_ble_eq_true rfl) (zN rfl) rfl ((W3_.2.2.2.2 c_2).2) (congrArg (fun g_ => zu _ _ (zu g_ _ _)) (zu_ne _ _ (by decide))) ?_
      refine z_aloadr_n dX9_findFlaws_356 rfl ?_
      refine z_dup dX9_findFlaws_357 rfl ?_
      refine z_get (ci := 9) (r := (RX9, TX9, 38)) (j := 33) (v := .int ((g_ 32) 33)) dX9_findFlaws_358 (Nat.le_of_ble_eq_true rfl) (zN rfl) rfl rfl (Nat.le_of_ble_eq_true rfl) fl_X9_217 (congrArg Value.int (congrFun ((zu_ne _ _ (by decide)).trans (zu_ne _ _ (by decide))) _)) ?_
      refine z_iconst dX9_findFlaws_361 k_iconst_1 ?_
      refine z_iadd (v := (((g_ 32) 33) + (1 : Int32))) dX9_findFlaws_362 rfl ?_
      refine z_put (ci := 9) (r := (RX9, TX9, 38)) (j := 33) (σ' := (zu (zu (zu g_ 54 (zu (g_ 54) ((g_ 32) 33).toNatClampNeg (nI i_))) 55 (zu (g_ 55) ((g_ 32) 33).toNatClampNeg (vX9_findFlaws_3 l1 (nI i_) g_))) 32 (zu (g_ 32) 33 (((g_ 32) 33) + (1 : Int32))))) dX9_findFlaws_363 (Nat.le_of_ble_eq_true rfl) (zN rfl) rfl rfl (Nat.le_of_ble_eq_true rfl) fl_X9_217 rfl rfl rfl rfl (congrArg (fun g_ => zu _ _ (zu g_ _ _)) ((zu_ne _ _ (by decide)).trans (zu_ne _ _ (by decide)))) ?_
      refine z_iinc (v := ((nI i_) + (1 : Int32))) (lv' := [some (.ref 32), some (.int l1), some (.int ((nI i_) + (1 : Int32))), some (.int (zfor (fX9_findFlaws_132 g_ l1 (nI i_)) ((((g_ 32) 11)).toNatClampNeg) (-1 : Int32))), some (.int (vX9_findFlaws_3 l1 (nI i_) g_)), none, none]) dX9_findFlaws_366 (Nat.le_of_ble_eq_true rfl) rfl (by rw [k_iconst_1]) rfl ?_
      refine z_goto (tgt := 114) dX9_findFlaws_369 (by decide) ?_
      refine zz_sub (lv' := [some (.ref 32), some (.int l1), some (.int ((nI i_) + (1 : Int32))), none, none, none, none]) ⟨rfl, ⟨rfl, ⟨rfl, trivial⟩⟩⟩ ?_
      rw [nI_1]
      simpa only [if_neg c_2] using k_
  · have hD_ := hC_ n_ (Nat.le_refl _)
    have Wa_ := W0_ n_ (Nat.le_refl _)
    generalize zfor (fX9_findFlaws_114 l1) n_ σ = g_ at W2_ hD_ Wa_ ⊢
    rw [uX9_findFlaws_114] at Wa_
    try dsimp only at Wa_
    refine z_iload_n dX9_findFlaws_114 rfl ?_
    refine z_aloadr_n dX9_findFlaws_115 rfl ?_
    refine z_get (ci := 9) (r := (RX9, TX9, 38)) (j := 4) (v := .ref 37) dX9_findFlaws_116 (Nat.le_of_ble_eq_true rfl) (zN rfl) rfl rfl (Nat.le_of_ble_eq_true rfl) fl_X9_23 rfl ?_
    refine z_aloadr_n dX9_findFlaws_119 rfl ?_
    refine z_get (ci := 9) (r := (RX9, TX9, 38)) (j := 34) (v := .int ((g_ 32) 34)) dX9_findFlaws_120 (Nat.le_of_ble_eq_true rfl) (zN rfl) rfl rfl (Nat.le_of_ble_eq_true rfl) fl_X9_211 rfl ?_
    refine z_iald (v := ((g_ 37) ((g_ 32) 34).toNatClampNeg)) dX9_findFlaws_123 (zN rfl) rfl Wa_ rfl ?_
    refine z_icmp_ge (tgt := 372) dX9_findFlaws_124 (by decide) (fun c_ => ?_) (fun c_ => absurd (hD_.mpr (Nat.le_refl _)) c_)
    exact zz_sub (lv' := [none, none, none, none, none, none, none]) trivial W2_

theorem dX9_findFlaws_70 : decode cX9_findFlaws 70 = .ok (.iload_n 2, 1) := by decide +kernel
theorem dX9_findFlaws_71 : decode cX9_findFlaws 71 = .ok (.aload_n 0, 1) := by decide +kernel
theorem dX9_findFlaws_72 : decode cX9_findFlaws 72 = .ok (.getfield 131, 3) := by decide +kernel
theorem dX9_findFlaws_75 : decode cX9_findFlaws 75 = .ok (.if_icmp .ge 32, 3) := by decide +kernel
theorem dX9_findFlaws_78 : decode cX9_findFlaws 78 = .ok (.aload_n 0, 1) := by decide +kernel
theorem dX9_findFlaws_79 : decode cX9_findFlaws 79 = .ok (.getfield 38, 3) := by decide +kernel
theorem dX9_findFlaws_82 : decode cX9_findFlaws 82 = .ok (.iload_n 2, 1) := by decide +kernel
theorem dX9_findFlaws_83 : decode cX9_findFlaws 83 = .ok (.iaload, 1) := by decide +kernel
theorem dX9_findFlaws_84 : decode cX9_findFlaws 84 = .ok (.iload_n 1, 1) := by decide +kernel
theorem dX9_findFlaws_85 : decode cX9_findFlaws 85 = .ok (.if_icmp .ne 16, 3) := by decide +kernel
theorem dX9_findFlaws_88 : decode cX9_findFlaws 88 = .ok (.iload_n 2, 1) := by decide +kernel
theorem dX9_findFlaws_89 : decode cX9_findFlaws 89 = .ok (.aload_n 0, 1) := by decide +kernel
theorem dX9_findFlaws_90 : decode cX9_findFlaws 90 = .ok (.getfield 211, 3) := by decide +kernel
theorem dX9_findFlaws_93 : decode cX9_findFlaws 93 = .ok (.if_icmp .eq 8, 3) := by decide +kernel
theorem dX9_findFlaws_96 : decode cX9_findFlaws 96 = .ok (.aload_n 0, 1) := by decide +kernel
theorem dX9_findFlaws_97 : decode cX9_findFlaws 97 = .ok (.iload_n 2, 1) := by decide +kernel
theorem dX9_findFlaws_98 : decode cX9_findFlaws 98 = .ok (.invokevirtual 214, 3) := by decide +kernel
theorem dX9_findFlaws_101 : decode cX9_findFlaws 101 = .ok (.iinc 2 1, 3) := by decide +kernel
theorem dX9_findFlaws_104 : decode cX9_findFlaws 104 = .ok (.goto (-34), 3) := by decide +kernel
theorem dX9_findFlaws_107 : decode cX9_findFlaws 107 = .ok (.aload_n 0, 1) := by decide +kernel
theorem dX9_findFlaws_108 : decode cX9_findFlaws 108 = .ok (.iconst 0, 1) := by decide +kernel
theorem dX9_findFlaws_109 : decode cX9_findFlaws 109 = .ok (.putfield 217, 3) := by decide +kernel
theorem dX9_findFlaws_112 : decode cX9_findFlaws 112 = .ok (.iconst 0, 1) := by decide +kernel
theorem dX9_findFlaws_113 : decode cX9_findFlaws 113 = .ok (.istore_n 2, 1) := by decide +kernel
noncomputable def vX9_findFlaws_4 (l1 : Int32) (σ : zc_N) : zc_N := (zfor (fX9_findFlaws_114 l1) (((((zu σ 32 (zu (σ 32) 33 (0 : Int32))) 37) (((zu σ 32 (zu (σ 32) 33 (0 : Int32))) 32) 34).toNatClampNeg)).toNatClampNeg) (zu σ 32 (zu (σ 32) 33 (0 : Int32))))
noncomputable def fX9_findFlaws_70 (l1 : Int32) (i_ : Nat) (a_ : zc_N) : zc_N := (if ((a_ 42) (nI i_).toNatClampNeg) = l1 then (if (nI i_) = ((a_ 32) 34) then a_ else (sX9_ask a_ (nI i_))) else a_)
def qX9_findFlaws_70 (l1 : Int32) (i_ : Nat) (a_ : zc_N) : Prop := (vp_in (nI i_) 24 ∧ ((((a_ 42) (nI i_).toNatClampNeg) = l1 → (((nI i_) = ((a_ 32) 34) → True) ∧ (¬ (nI i_) = ((a_ 32) 34) → (pX9_ask a_ (nI i_))))) ∧ (¬ ((a_ 42) (nI i_).toNatClampNeg) = l1 → True)))
set_option maxHeartbeats 2000000 in
theorem lpX9_findFlaws_70 {G : zc_G} {Q : Option Value → zc_H → Prop} (P : zp) (σ : zc_N) (l1 : Int32) (n_ : Nat) (hC_ : ∀ i70_ : Nat, i70_ ≤ n_ → ((((zfor (fX9_findFlaws_70 l1) i70_ σ) 32) 11) ≤ (nI i70_) ↔ n_ ≤ i70_)) (W1_ : ∀ i70_ : Nat, i70_ < n_ → qX9_findFlaws_70 l1 i70_ (zfor (fX9_findFlaws_70 l1) i70_ σ))
    (W2_ : zz G mX9_findFlaws 19 0 0 Q 107 [some (.ref 32), some (.int l1), none, none, none, none, none] [] (hh P (zfor (fX9_findFlaws_70 l1) n_ σ)) 0 0) :
    zz G mX9_findFlaws 19 0 0 Q 70 [some (.ref 32), some (.int l1), some (.int (nI 0)), none, none, none, none] [] (hh P σ) 0 0 := by
  refine zfor_nI (fun i_ a_ => zz G mX9_findFlaws 19 0 0 Q 70 [some (.ref 32), some (.int l1), some (.int i_), none, none, none, none] [] (hh P a_) 0 0) (fX9_findFlaws_70 l1) n_ σ (fun i_ hi_ k_ => ?_) ?_
  · have W3_ := W1_ i_ hi_
    have hD_ := hC_ i_ (Nat.le_of_lt hi_)
    generalize zfor (fX9_findFlaws_70 l1) i_ σ = g_ at k_ W3_ hD_ ⊢
    rw [fX9_findFlaws_70] at k_
    rw [qX9_findFlaws_70] at W3_
    try dsimp only at W3_
    refine z_iload_n dX9_findFlaws_70 rfl ?_
    refine z_aloadr_n dX9_findFlaws_71 rfl ?_
    refine z_get (ci := 9) (r := (RX9, TX9, 38)) (j := 11) (v := .int ((g_ 32) 11)) dX9_findFlaws_72 (Nat.le_of_ble_eq_true rfl) (zN rfl) rfl rfl (Nat.le_of_ble_eq_true rfl) fl_X9_131 rfl ?_
    refine z_icmp_ge (tgt := 107) dX9_findFlaws_75 (by decide) (fun c_ => absurd c_ (fun q_ => Nat.not_le_of_lt hi_ (hD_.mp q_))) (fun c_ => ?_)
    refine z_aloadr_n dX9_findFlaws_78 rfl ?_
    refine z_get (ci := 9) (r := (RX9, TX9, 38)) (j := 9) (v := .ref 42) dX9_findFlaws_79 (Nat.le_of_ble_eq_true rfl) (zN rfl) rfl rfl (Nat.le_of_ble_eq_true rfl) fl_X9_38 rfl ?_
    refine z_iload_n dX9_findFlaws_82 rfl ?_
    refine z_iald (v := ((g_ 42) (nI i_).toNatClampNeg)) dX9_findFlaws_83 (zN rfl) rfl W3_.1 rfl ?_
    refine z_iload_n dX9_findFlaws_84 rfl ?_
    refine z_icmp_ne (tgt := 101) dX9_findFlaws_85 (by decide) (fun c_2 => ?_) (fun c_2 => ?_)
    · refine z_iinc (v := ((nI i_) + (1 : Int32))) (lv' := [some (.ref 32), some (.int l1), some (.int ((nI i_) + (1 : Int32))), none, none, none, none]) dX9_findFlaws_101 (Nat.le_of_ble_eq_true rfl) rfl (by rw [k_iconst_1]) rfl ?_
      refine z_goto (tgt := 70) dX9_findFlaws_104 (by decide) ?_
      rw [nI_1]
      simpa only [if_neg c_2] using k_
    · refine z_iload_n dX9_findFlaws_88 rfl ?_
      refine z_aloadr_n dX9_findFlaws_89 rfl ?_
      refine z_get (ci := 9) (r := (RX9, TX9, 38)) (j := 34) (v := .int ((g_ 32) 34)) dX9_findFlaws_90 (Nat.le_of_ble_eq_true rfl) (zN rfl) rfl rfl (Nat.le_of_ble_eq_true rfl) fl_X9_211 rfl ?_
      refine z_icmp_eq (tgt := 101) dX9_findFlaws_93 (by decide) (fun c_3 => ?_) (fun c_3 => ?_)
      · refine z_iinc (v := ((nI i_) + (1 : Int32))) (lv' := [some (.ref 32), some (.int l1), some (.int ((nI i_) + (1 : Int32))), none, none, none, none]) dX9_findFlaws_101 (Nat.le_of_ble_eq_true rfl) rfl (by rw [k_iconst_1]) rfl ?_
        refine z_goto (tgt := 70) dX9_findFlaws_104 (by decide) ?_
        rw [nI_1]
        simpa only [if_pos c_2, if_pos c_3] using k_
      · refine z_aloadr_n dX9_findFlaws_96 rfl ?_
        refine z_iload_n dX9_findFlaws_97 rfl ?_
        refine z_callV (ci := 9) (r := (RX9, TX9, 38)) (b := 32) (As := [.int (nI i_)]) (rest := []) (ctX9_ask P g_ (nI i_) ((W3_.2.1 c_2).2 c_3)) dX9_findFlaws_98 lk_X9_214 lv_X9_ask (Nat.le_of_ble_eq_true rfl) (zN rfl) rfl rfl rfl rfl (Nat.le_of_ble_eq_true rfl) (Nat.le_of_ble_eq_true rfl) (Nat.le_of_ble_eq_true rfl) (Nat.le_of_ble_eq_true rfl) (fun r_ h_ e_ => ?_)
        obtain ⟨e1_, e2_⟩ := e_
        subst e1_
        subst e2_
        show zz G mX9_findFlaws 19 0 0 Q 101 [some (.ref 32), some (.int l1), some (.int (nI i_)), none, none, none, none] [] (hh P (sX9_ask g_ (nI i_))) 0 0
        refine z_iinc (v := ((nI i_) + (1 : Int32))) (lv' := [some (.ref 32), some (.int l1), some (.int ((nI i_) + (1 : Int32))), none, none, none, none]) dX9_findFlaws_101 (Nat.le_of_ble_eq_true rfl) rfl (by rw [k_iconst_1]) rfl ?_
        refine z_goto (tgt := 70) dX9_findFlaws_104 (by decide) ?_
        rw [nI_1]
        simpa only [if_pos c_2, if_neg c_3] using k_
  · have hD_ := hC_ n_ (Nat.le_refl _)
    generalize zfor (fX9_findFlaws_70 l1) n_ σ = g_ at W2_ hD_ ⊢
    refine z_iload_n dX9_findFlaws_70 rfl ?_
    refine z_aloadr_n dX9_findFlaws_71 rfl ?_
    refine z_get (ci := 9) (r := (RX9, TX9, 38)) (j := 11) (v := .int ((g_ 32) 11)) dX9_findFlaws_72 (Nat.le_of_ble_eq_true rfl) (zN rfl) rfl rfl (Nat.le_of_ble_eq_true rfl) fl_X9_131 rfl ?_
    refine z_icmp_ge (tgt := 107) dX9_findFlaws_75 (by decide) (fun c_ => ?_) (fun c_ => absurd (hD_.mpr (Nat.le_refl _)) c_)
    exact zz_sub (lv' := [some (.ref 32), some (.int l1), none, none, none, none, none]) ⟨rfl, ⟨rfl, trivial⟩⟩ W2_

theorem dX9_findFlaws_7 : decode cX9_findFlaws 7 = .ok (.iload_n 2, 1) := by decide +kernel
theorem dX9_findFlaws_8 : decode cX9_findFlaws 8 = .ok (.aload_n 0, 1) := by decide +kernel
theorem dX9_findFlaws_9 : decode cX9_findFlaws 9 = .ok (.getfield 131, 3) := by decide +kernel
theorem dX9_findFlaws_12 : decode cX9_findFlaws 12 = .ok (.if_icmp .ge 56, 3) := by decide +kernel
theorem dX9_findFlaws_15 : decode cX9_findFlaws 15 = .ok (.aload_n 0, 1) := by decide +kernel
theorem dX9_findFlaws_16 : decode cX9_findFlaws 16 = .ok (.aload_n 0, 1) := by decide +kernel
theorem dX9_findFlaws_17 : decode cX9_findFlaws 17 = .ok (.getfield 38, 3) := by decide +kernel
theorem dX9_findFlaws_20 : decode cX9_findFlaws 20 = .ok (.iload_n 2, 1) := by decide +kernel
theorem dX9_findFlaws_21 : decode cX9_findFlaws 21 = .ok (.iaload, 1) := by decide +kernel
theorem dX9_findFlaws_22 : decode cX9_findFlaws 22 = .ok (.iload_n 1, 1) := by decide +kernel
theorem dX9_findFlaws_23 : decode cX9_findFlaws 23 = .ok (.if_icmp .ne 32, 3) := by decide +kernel
theorem dX9_findFlaws_26 : decode cX9_findFlaws 26 = .ok (.aload_n 0, 1) := by decide +kernel
theorem dX9_findFlaws_27 : decode cX9_findFlaws 27 = .ok (.getfield 211, 3) := by decide +kernel
theorem dX9_findFlaws_30 : decode cX9_findFlaws 30 = .ok (.ifCond .lt 21, 3) := by decide +kernel
theorem dX9_findFlaws_33 : decode cX9_findFlaws 33 = .ok (.aload_n 0, 1) := by decide +kernel
theorem dX9_findFlaws_34 : decode cX9_findFlaws 34 = .ok (.getfield 41, 3) := by decide +kernel
theorem dX9_findFlaws_37 : decode cX9_findFlaws 37 = .ok (.iload_n 2, 1) := by decide +kernel
theorem dX9_findFlaws_38 : decode cX9_findFlaws 38 = .ok (.iaload, 1) := by decide +kernel
theorem dX9_findFlaws_39 : decode cX9_findFlaws 39 = .ok (.aload_n 0, 1) := by decide +kernel
theorem dX9_findFlaws_40 : decode cX9_findFlaws 40 = .ok (.getfield 41, 3) := by decide +kernel
theorem dX9_findFlaws_43 : decode cX9_findFlaws 43 = .ok (.aload_n 0, 1) := by decide +kernel
theorem dX9_findFlaws_44 : decode cX9_findFlaws 44 = .ok (.getfield 211, 3) := by decide +kernel
theorem dX9_findFlaws_47 : decode cX9_findFlaws 47 = .ok (.iaload, 1) := by decide +kernel
theorem dX9_findFlaws_48 : decode cX9_findFlaws 48 = .ok (.if_icmp .le 7, 3) := by decide +kernel
theorem dX9_findFlaws_51 : decode cX9_findFlaws 51 = .ok (.iload_n 2, 1) := by decide +kernel
theorem dX9_findFlaws_52 : decode cX9_findFlaws 52 = .ok (.goto 7, 3) := by decide +kernel
theorem dX9_findFlaws_55 : decode cX9_findFlaws 55 = .ok (.aload_n 0, 1) := by decide +kernel
theorem dX9_findFlaws_56 : decode cX9_findFlaws 56 = .ok (.getfield 211, 3) := by decide +kernel
theorem dX9_findFlaws_59 : decode cX9_findFlaws 59 = .ok (.putfield 211, 3) := by decide +kernel
theorem dX9_findFlaws_62 : decode cX9_findFlaws 62 = .ok (.iinc 2 1, 3) := by decide +kernel
theorem dX9_findFlaws_65 : decode cX9_findFlaws 65 = .ok (.goto (-58), 3) := by decide +kernel
theorem dX9_findFlaws_68 : decode cX9_findFlaws 68 = .ok (.iconst 0, 1) := by decide +kernel
theorem dX9_findFlaws_69 : decode cX9_findFlaws 69 = .ok (.istore_n 2, 1) := by decide +kernel
noncomputable def vX9_findFlaws_5 (l1 : Int32) (σ : zc_N) : zc_N := (zfor (fX9_findFlaws_114 l1) (((((zu (zfor (fX9_findFlaws_70 l1) ((((σ 32) 11)).toNatClampNeg) σ) 32 (zu ((zfor (fX9_findFlaws_70 l1) ((((σ 32) 11)).toNatClampNeg) σ) 32) 33 (0 : Int32))) 37) (((zu (zfor (fX9_findFlaws_70 l1) ((((σ 32) 11)).toNatClampNeg) σ) 32 (zu ((zfor (fX9_findFlaws_70 l1) ((((σ 32) 11)).toNatClampNeg) σ) 32) 33 (0 : Int32))) 32) 34).toNatClampNeg)).toNatClampNeg) (zu (zfor (fX9_findFlaws_70 l1) ((((σ 32) 11)).toNatClampNeg) σ) 32 (zu ((zfor (fX9_findFlaws_70 l1) ((((σ 32) 11)).toNatClampNeg) σ) 32) 33 (0 : Int32))))
noncomputable def fX9_findFlaws_7 (l1 : Int32) (i_ : Nat) (a_ : zc_N) : zc_N := (zu a_ 32 (zu (a_ 32) 34 (if ((a_ 42) (nI i_).toNatClampNeg) = l1 then (if ((a_ 32) 34) < (0 : Int32) then (nI i_) else (if ((a_ 43) (nI i_).toNatClampNeg) ≤ ((a_ 43) ((a_ 32) 34).toNatClampNeg) then ((a_ 32) 34) else (nI i_))) else ((a_ 32) 34))))
def qX9_findFlaws_7 (l1 : Int32) (i_ : Nat) (a_ : zc_N) : Prop := (vp_in (nI i_) 24 ∧ ((((a_ 42) (nI i_).toNatClampNeg) = l1 → ((((a_ 32) 34) < (0 : Int32) → True) ∧ (¬ ((a_ 32) 34) < (0 : Int32) → (vp_in (nI i_) 24 ∧ vp_in ((a_ 32) 34) 24)))) ∧ (¬ ((a_ 42) (nI i_).toNatClampNeg) = l1 → True)))
set_option maxHeartbeats 2000000 in
theorem lpX9_findFlaws_7 {G : zc_G} {Q : Option Value → zc_H → Prop} (P : zp) (σ : zc_N) (l1 : Int32) (n_ : Nat) (hC_ : ∀ i7_ : Nat, i7_ ≤ n_ → ((((zfor (fX9_findFlaws_7 l1) i7_ σ) 32) 11) ≤ (nI i7_) ↔ n_ ≤ i7_)) (W1_ : ∀ i7_ : Nat, i7_ < n_ → qX9_findFlaws_7 l1 i7_ (zfor (fX9_findFlaws_7 l1) i7_ σ))
    (W2_ : zz G mX9_findFlaws 19 0 0 Q 68 [some (.ref 32), some (.int l1), none, none, none, none, none] [] (hh P (zfor (fX9_findFlaws_7 l1) n_ σ)) 0 0) :
    zz G mX9_findFlaws 19 0 0 Q 7 [some (.ref 32), some (.int l1), some (.int (nI 0)), none, none, none, none] [] (hh P σ) 0 0 := by
  refine zfor_nI (fun i_ a_ => zz G mX9_findFlaws 19 0 0 Q 7 [some (.ref 32), some (.int l1), some (.int i_), none, none, none, none] [] (hh P a_) 0 0) (fX9_findFlaws_7 l1) n_ σ (fun i_ hi_ k_ => ?_) ?_
  · have W3_ := W1_ i_ hi_
    have hD_ := hC_ i_ (Nat.le_of_lt hi_)
    generalize zfor (fX9_findFlaws_7 l1) i_ σ = g_ at k_ W3_ hD_ ⊢
    rw [fX9_findFlaws_7] at k_
    rw [qX9_findFlaws_7] at W3_
    try dsimp only at W3_
    refine z_iload_n dX9_findFlaws_7 rfl ?_
    refine z_aloadr_n dX9_findFlaws_8 rfl ?_
    refine z_get (ci := 9) (r := (RX9, TX9, 38)) (j := 11) (v := .int ((g_ 32) 11)) dX9_findFlaws_9 (Nat.le_of_ble_eq_true rfl) (zN rfl) rfl rfl (Nat.le_of_ble_eq_true rfl) fl_X9_131 rfl ?_
    refine z_icmp_ge (tgt := 68) dX9_findFlaws_12 (by decide) (fun c_ => absurd c_ (fun q_ => Nat.not_le_of_lt hi_ (hD_.mp q_))) (fun c_ => ?_)
    refine z_aloadr_n dX9_findFlaws_15 rfl ?_
    refine z_aloadr_n dX9_findFlaws_16 rfl ?_
    refine z_get (ci := 9) (r := (RX9, TX9, 38)) (j := 9) (v := .ref 42) dX9_findFlaws_17 (Nat.le_of_ble_eq_true rfl) (zN rfl) rfl rfl (Nat.le_of_ble_eq_true rfl) fl_X9_38 rfl ?_
    refine z_iload_n dX9_findFlaws_20 rfl ?_
    refine z_iald (v := ((g_ 42) (nI i_).toNatClampNeg)) dX9_findFlaws_21 (zN rfl) rfl W3_.1 rfl ?_
    refine z_iload_n dX9_findFlaws_22 rfl ?_
    have K_1 : zz G mX9_findFlaws 19 0 0 Q 59 [some (.ref 32), some (.int l1), some (.int (nI i_)), none, none, none, none] [.int (if ((g_ 42) (nI i_).toNatClampNeg) = l1 then (if ((g_ 32) 34) < (0 : Int32) then (nI i_) else (if ((g_ 43) (nI i_).toNatClampNeg) ≤ ((g_ 43) ((g_ 32) 34).toNatClampNeg) then ((g_ 32) 34) else (nI i_))) else ((g_ 32) 34)), .ref 32] (hh P g_) 0 0 := by
      refine z_put (ci := 9) (r := (RX9, TX9, 38)) (j := 34) (σ' := (zu g_ 32 (zu (g_ 32) 34 (if ((g_ 42) (nI i_).toNatClampNeg) = l1 then (if ((g_ 32) 34) < (0 : Int32) then (nI i_) else (if ((g_ 43) (nI i_).toNatClampNeg) ≤ ((g_ 43) ((g_ 32) 34).toNatClampNeg) then ((g_ 32) 34) else (nI i_))) else ((g_ 32) 34))))) dX9_findFlaws_59 (Nat.le_of_ble_eq_true rfl) (zN rfl) rfl rfl (Nat.le_of_ble_eq_true rfl) fl_X9_211 rfl rfl rfl rfl rfl ?_
      refine z_iinc (v := ((nI i_) + (1 : Int32))) (lv' := [some (.ref 32), some (.int l1), some (.int ((nI i_) + (1 : Int32))), none, none, none, none]) dX9_findFlaws_62 (Nat.le_of_ble_eq_true rfl) rfl (by rw [k_iconst_1]) rfl ?_
      refine z_goto (tgt := 7) dX9_findFlaws_65 (by decide) ?_
      rw [nI_1]
      exact k_
    refine z_icmp_ne (tgt := 55) dX9_findFlaws_23 (by decide) (fun c_2 => ?_) (fun c_2 => ?_)
    · refine z_aloadr_n dX9_findFlaws_55 rfl ?_
      refine z_get (ci := 9) (r := (RX9, TX9, 38)) (j := 34) (v := .int ((g_ 32) 34)) dX9_findFlaws_56 (Nat.le_of_ble_eq_true rfl) (zN rfl) rfl rfl (Nat.le_of_ble_eq_true rfl) fl_X9_211 rfl ?_
      rw [show (if ((g_ 42) (nI i_).toNatClampNeg) = l1 then (if ((g_ 32) 34) < (0 : Int32) then (nI i_) else (if ((g_ 43) (nI i_).toNatClampNeg) ≤ ((g_ 43) ((g_ 32) 34).toNatClampNeg) then ((g_ 32) 34) else (nI i_))) else ((g_ 32) 34)) = ((g_ 32) 34) from (if_neg c_2)] at K_1
      exact K_1
    · refine z_aloadr_n dX9_findFlaws_26 rfl ?_
      refine z_get (ci := 9) (r := (RX9, TX9, 38)) (j := 34) (v := .int ((g_ 32) 34)) dX9_findFlaws_27 (Nat.le_of_ble_eq_true rfl) (zN rfl) rfl rfl (Nat.le_of_ble_eq_true rfl) fl_X9_211 rfl ?_
      refine z_if_lt (tgt := 51) dX9_findFlaws_30 (by decide) (fun c_3 => ?_) (fun c_3 => ?_)
      · refine z_iload_n dX9_findFlaws_51 rfl ?_
        refine z_goto (tgt := 59) dX9_findFlaws_52 (by decide) ?_
        rw [show (if ((g_ 42) (nI i_).toNatClampNeg) = l1 then (if ((g_ 32) 34) < (0 : Int32) then (nI i_) else (if ((g_ 43) (nI i_).toNatClampNeg) ≤ ((g_ 43) ((g_ 32) 34).toNatClampNeg) then ((g_ 32) 34) else (nI i_))) else ((g_ 32) 34)) = (nI i_) from ((if_pos c_2).trans (if_pos c_3))] at K_1
        exact K_1
      · refine z_aloadr_n dX9_findFlaws_33 rfl ?_
        refine z_get (ci := 9) (r := (RX9, TX9, 38)) (j := 10) (v := .ref 43) dX9_findFlaws_34 (Nat.le_of_ble_eq_true rfl) (zN rfl) rfl rfl (Nat.le_of_ble_eq_true rfl) fl_X9_41 rfl ?_
        refine z_iload_n dX9_findFlaws_37 rfl ?_
        refine z_iald (v := ((g_ 43) (nI i_).toNatClampNeg)) dX9_findFlaws_38 (zN rfl) rfl (((W3_.2.1 c_2).2 c_3).1) rfl ?_
        refine z_aloadr_n dX9_findFlaws_39 rfl ?_
        refine z_get (ci := 9) (r := (RX9, TX9, 38)) (j := 10) (v := .ref 43) dX9_findFlaws_40 (Nat.le_of_ble_eq_true rfl) (zN rfl) rfl rfl (Nat.le_of_ble_eq_true rfl) fl_X9_41 rfl ?_
        refine z_aloadr_n dX9_findFlaws_43 rfl ?_
        refine z_get (ci := 9) (r := (RX9, TX9, 38)) (j := 34) (v := .int ((g_ 32) 34)) dX9_findFlaws_44 (Nat.le_of_ble_eq_true rfl) (zN rfl) rfl rfl (Nat.le_of_ble_eq_true rfl) fl_X9_211 rfl ?_
        refine z_iald (v := ((g_ 43) ((g_ 32) 34).toNatClampNeg)) dX9_findFlaws_47 (zN rfl) rfl (((W3_.2.1 c_2).2 c_3).2) rfl ?_
        refine z_icmp_le (tgt := 55) dX9_findFlaws_48 (by decide) (fun c_4 => ?_) (fun c_4 => ?_)
        · refine z_aloadr_n dX9_findFlaws_55 rfl ?_
          refine z_get (ci := 9) (r := (RX9, TX9, 38)) (j := 34) (v := .int ((g_ 32) 34)) dX9_findFlaws_56 (Nat.le_of_ble_eq_true rfl) (zN rfl) rfl rfl (Nat.le_of_ble_eq_true rfl) fl_X9_211 rfl ?_
          rw [show (if ((g_ 42) (nI i_).toNatClampNeg) = l1 then (if ((g_ 32) 34) < (0 : Int32) then (nI i_) else (if ((g_ 43) (nI i_).toNatClampNeg) ≤ ((g_ 43) ((g_ 32) 34).toNatClampNeg) then ((g_ 32) 34) else (nI i_))) else ((g_ 32) 34)) = ((g_ 32) 34) from ((if_pos c_2).trans ((if_neg c_3).trans (if_pos c_4)))] at K_1
          exact K_1
        · refine z_iload_n dX9_findFlaws_51 rfl ?_
          refine z_goto (tgt := 59) dX9_findFlaws_52 (by decide) ?_
          rw [show (if ((g_ 42) (nI i_).toNatClampNeg) = l1 then (if ((g_ 32) 34) < (0 : Int32) then (nI i_) else (if ((g_ 43) (nI i_).toNatClampNeg) ≤ ((g_ 43) ((g_ 32) 34).toNatClampNeg) then ((g_ 32) 34) else (nI i_))) else ((g_ 32) 34)) = (nI i_) from ((if_pos c_2).trans ((if_neg c_3).trans (if_neg c_4)))] at K_1
          exact K_1
  · have hD_ := hC_ n_ (Nat.le_refl _)
    generalize zfor (fX9_findFlaws_7 l1) n_ σ = g_ at W2_ hD_ ⊢
    refine z_iload_n dX9_findFlaws_7 rfl ?_
    refine z_aloadr_n dX9_findFlaws_8 rfl ?_
    refine z_get (ci := 9) (r := (RX9, TX9, 38)) (j := 11) (v := .int ((g_ 32) 11)) dX9_findFlaws_9 (Nat.le_of_ble_eq_true rfl) (zN rfl) rfl rfl (Nat.le_of_ble_eq_true rfl) fl_X9_131 rfl ?_
    refine z_icmp_ge (tgt := 68) dX9_findFlaws_12 (by decide) (fun c_ => ?_) (fun c_ => absurd (hD_.mpr (Nat.le_refl _)) c_)
    exact zz_sub (lv' := [some (.ref 32), some (.int l1), none, none, none, none, none]) ⟨rfl, ⟨rfl, trivial⟩⟩ W2_

theorem dX9_findFlaws_0 : decode cX9_findFlaws 0 = .ok (.aload_n 0, 1) := by decide +kernel
theorem dX9_findFlaws_1 : decode cX9_findFlaws 1 = .ok (.iconst (-1), 1) := by decide +kernel
theorem dX9_findFlaws_2 : decode cX9_findFlaws 2 = .ok (.putfield 211, 3) := by decide +kernel
theorem dX9_findFlaws_5 : decode cX9_findFlaws 5 = .ok (.iconst 0, 1) := by decide +kernel
theorem dX9_findFlaws_6 : decode cX9_findFlaws 6 = .ok (.istore_n 2, 1) := by decide +kernel
theorem dX9_findFlaws_372 : decode cX9_findFlaws 372 = .ok (.return_, 1) := by decide +kernel
noncomputable def vX9_findFlaws_6 (a1 : Int32) (σ : zc_N) : zc_N := (zfor (fX9_findFlaws_7 a1) (((((zu σ 32 (zu (σ 32) 34 (-1 : Int32))) 32) 11)).toNatClampNeg) (zu σ 32 (zu (σ 32) 34 (-1 : Int32))))
noncomputable def vX9_findFlaws_7 (a1 : Int32) (σ : zc_N) : zc_N := (zfor (fX9_findFlaws_70 a1) (((((vX9_findFlaws_6 a1 σ) 32) 11)).toNatClampNeg) (vX9_findFlaws_6 a1 σ))
noncomputable def vX9_findFlaws_8 (a1 : Int32) (σ : zc_N) : zc_N := (zfor (fX9_findFlaws_114 a1) (((((zu (vX9_findFlaws_7 a1 σ) 32 (zu ((vX9_findFlaws_7 a1 σ) 32) 33 (0 : Int32))) 37) (((zu (vX9_findFlaws_7 a1 σ) 32 (zu ((vX9_findFlaws_7 a1 σ) 32) 33 (0 : Int32))) 32) 34).toNatClampNeg)).toNatClampNeg) (zu (vX9_findFlaws_7 a1 σ) 32 (zu ((vX9_findFlaws_7 a1 σ) 32) 33 (0 : Int32))))
def pX9_findFlaws (σ : zc_N) (a1 : Int32) : Prop := (((∀ i7_ : Nat, i7_ ≤ (((((zu σ 32 (zu (σ 32) 34 (-1 : Int32))) 32) 11)).toNatClampNeg) → ((((zfor (fX9_findFlaws_7 a1) i7_ (zu σ 32 (zu (σ 32) 34 (-1 : Int32)))) 32) 11) ≤ (nI i7_) ↔ (((((zu σ 32 (zu (σ 32) 34 (-1 : Int32))) 32) 11)).toNatClampNeg) ≤ i7_)) ∧ (∀ i7_ : Nat, i7_ < (((((zu σ 32 (zu (σ 32) 34 (-1 : Int32))) 32) 11)).toNatClampNeg) → qX9_findFlaws_7 a1 i7_ (zfor (fX9_findFlaws_7 a1) i7_ (zu σ 32 (zu (σ 32) 34 (-1 : Int32)))))) ∧ (((∀ i70_ : Nat, i70_ ≤ (((((vX9_findFlaws_6 a1 σ) 32) 11)).toNatClampNeg) → ((((zfor (fX9_findFlaws_70 a1) i70_ (vX9_findFlaws_6 a1 σ)) 32) 11) ≤ (nI i70_) ↔ (((((vX9_findFlaws_6 a1 σ) 32) 11)).toNatClampNeg) ≤ i70_)) ∧ (∀ i70_ : Nat, i70_ < (((((vX9_findFlaws_6 a1 σ) 32) 11)).toNatClampNeg) → qX9_findFlaws_70 a1 i70_ (zfor (fX9_findFlaws_70 a1) i70_ (vX9_findFlaws_6 a1 σ)))) ∧ ((∀ i114_ : Nat, i114_ ≤ (((((zu (vX9_findFlaws_7 a1 σ) 32 (zu ((vX9_findFlaws_7 a1 σ) 32) 33 (0 : Int32))) 37) (((zu (vX9_findFlaws_7 a1 σ) 32 (zu ((vX9_findFlaws_7 a1 σ) 32) 33 (0 : Int32))) 32) 34).toNatClampNeg)).toNatClampNeg) → ((((zfor (fX9_findFlaws_114 a1) i114_ (zu (vX9_findFlaws_7 a1 σ) 32 (zu ((vX9_findFlaws_7 a1 σ) 32) 33 (0 : Int32)))) 37) (((zfor (fX9_findFlaws_114 a1) i114_ (zu (vX9_findFlaws_7 a1 σ) 32 (zu ((vX9_findFlaws_7 a1 σ) 32) 33 (0 : Int32)))) 32) 34).toNatClampNeg) ≤ (nI i114_) ↔ (((((zu (vX9_findFlaws_7 a1 σ) 32 (zu ((vX9_findFlaws_7 a1 σ) 32) 33 (0 : Int32))) 37) (((zu (vX9_findFlaws_7 a1 σ) 32 (zu ((vX9_findFlaws_7 a1 σ) 32) 33 (0 : Int32))) 32) 34).toNatClampNeg)).toNatClampNeg) ≤ i114_)) ∧ ((∀ i114_ : Nat, i114_ ≤ (((((zu (vX9_findFlaws_7 a1 σ) 32 (zu ((vX9_findFlaws_7 a1 σ) 32) 33 (0 : Int32))) 37) (((zu (vX9_findFlaws_7 a1 σ) 32 (zu ((vX9_findFlaws_7 a1 σ) 32) 33 (0 : Int32))) 32) 34).toNatClampNeg)).toNatClampNeg) → uX9_findFlaws_114 i114_ (zfor (fX9_findFlaws_114 a1) i114_ (zu (vX9_findFlaws_7 a1 σ) 32 (zu ((vX9_findFlaws_7 a1 σ) 32) 33 (0 : Int32))))) ∧ (∀ i114_ : Nat, i114_ < (((((zu (vX9_findFlaws_7 a1 σ) 32 (zu ((vX9_findFlaws_7 a1 σ) 32) 33 (0 : Int32))) 37) (((zu (vX9_findFlaws_7 a1 σ) 32 (zu ((vX9_findFlaws_7 a1 σ) 32) 33 (0 : Int32))) 32) 34).toNatClampNeg)).toNatClampNeg) → qX9_findFlaws_114 a1 i114_ (zfor (fX9_findFlaws_114 a1) i114_ (zu (vX9_findFlaws_7 a1 σ) 32 (zu ((vX9_findFlaws_7 a1 σ) 32) 33 (0 : Int32)))))))))
noncomputable def sX9_findFlaws (σ : zc_N) (a1 : Int32) : zc_N := (vX9_findFlaws_8 a1 σ)
set_option maxHeartbeats 1000000 in
theorem ctX9_findFlaws (P : zp) (σ : zc_N) (a1 : Int32) (W_ : (pX9_findFlaws σ a1)) : sp mX9_findFlaws 19 0 0 [.ref 32, .int a1] (hh P σ) (fun r_ h_ => r_ = none ∧ h_ = hh P (sX9_findFlaws σ a1)) := by
  refine sp_of (lv := [some (.ref 32), some (.int a1), none, none, none, none, none]) (by decide) (zcats_ok _ rfl) (Nat.le_of_ble_eq_true rfl) (zlv_ok _ 5 rfl) (fun G => ?_)
  generalize hQ_ : (fun (r_ : Option Value) (h_ : zc_H) => r_ = none ∧ h_ = hh P (sX9_findFlaws σ a1)) = Q_
  unfold pX9_findFlaws at W_
  refine z_aloadr_n dX9_findFlaws_0 rfl ?_
  refine z_iconst dX9_findFlaws_1 k_iconst_m1 ?_
  refine z_put (ci := 9) (r := (RX9, TX9, 38)) (j := 34) (σ' := (zu σ 32 (zu (σ 32) 34 (-1 : Int32)))) dX9_findFlaws_2 (Nat.le_of_ble_eq_true rfl) (zN rfl) rfl rfl (Nat.le_of_ble_eq_true rfl) fl_X9_211 rfl rfl rfl rfl rfl ?_
  refine z_iconst dX9_findFlaws_5 k_iconst_0 ?_
  refine z_istore_n (lv' := [some (.ref 32), some (.int a1), some (.int (0 : Int32)), none, none, none, none]) dX9_findFlaws_6 (Nat.le_of_ble_eq_true rfl) rfl ?_
  refine lpX9_findFlaws_7 P (zu σ 32 (zu (σ 32) 34 (-1 : Int32))) a1 (((((zu σ 32 (zu (σ 32) 34 (-1 : Int32))) 32) 11)).toNatClampNeg) W_.1.1 W_.1.2 ?_
  show zz G mX9_findFlaws 19 0 0 Q_ 68 [some (.ref 32), some (.int a1), none, none, none, none, none] [] (hh P (vX9_findFlaws_6 a1 σ)) 0 0
  refine z_iconst dX9_findFlaws_68 k_iconst_0 ?_
  refine z_istore_n (lv' := [some (.ref 32), some (.int a1), some (.int (0 : Int32)), none, none, none, none]) dX9_findFlaws_69 (Nat.le_of_ble_eq_true rfl) rfl ?_
  refine lpX9_findFlaws_70 P (vX9_findFlaws_6 a1 σ) a1 (((((vX9_findFlaws_6 a1 σ) 32) 11)).toNatClampNeg) W_.2.1.1 W_.2.1.2 ?_
  show zz G mX9_findFlaws 19 0 0 Q_ 107 [some (.ref 32), some (.int a1), none, none, none, none, none] [] (hh P (vX9_findFlaws_7 a1 σ)) 0 0
  refine z_aloadr_n dX9_findFlaws_107 rfl ?_
  refine z_iconst dX9_findFlaws_108 k_iconst_0 ?_
  refine z_put (ci := 9) (r := (RX9, TX9, 38)) (j := 33) (σ' := (zu (vX9_findFlaws_7 a1 σ) 32 (zu ((vX9_findFlaws_7 a1 σ) 32) 33 (0 : Int32)))) dX9_findFlaws_109 (Nat.le_of_ble_eq_true rfl) (zN rfl) rfl rfl (Nat.le_of_ble_eq_true rfl) fl_X9_217 rfl rfl rfl rfl rfl ?_
  refine z_iconst dX9_findFlaws_112 k_iconst_0 ?_
  refine z_istore_n (lv' := [some (.ref 32), some (.int a1), some (.int (0 : Int32)), none, none, none, none]) dX9_findFlaws_113 (Nat.le_of_ble_eq_true rfl) rfl ?_
  refine lpX9_findFlaws_114 P (zu (vX9_findFlaws_7 a1 σ) 32 (zu ((vX9_findFlaws_7 a1 σ) 32) 33 (0 : Int32))) a1 (((((zu (vX9_findFlaws_7 a1 σ) 32 (zu ((vX9_findFlaws_7 a1 σ) 32) 33 (0 : Int32))) 37) (((zu (vX9_findFlaws_7 a1 σ) 32 (zu ((vX9_findFlaws_7 a1 σ) 32) 33 (0 : Int32))) 32) 34).toNatClampNeg)).toNatClampNeg) W_.2.2.1 W_.2.2.2.1 W_.2.2.2.2 ?_
  show zz G mX9_findFlaws 19 0 0 Q_ 372 [none, none, none, none, none, none, none] [] (hh P (vX9_findFlaws_8 a1 σ)) 0 0
  exact z_return dX9_findFlaws_372 rfl (Nat.le_of_ble_eq_true rfl) (Nat.le_of_ble_eq_true rfl) (by rw [← hQ_]; exact ⟨rfl, (by rw [sX9_findFlaws])⟩)

theorem dX9_flaws_0 : decode cX9_flaws 0 = .ok (.iload_n 1, 1) := by decide +kernel
theorem dX9_flaws_1 : decode cX9_flaws 1 = .ok (.invokestatic 202, 3) := by decide +kernel
theorem dX9_flaws_4 : decode cX9_flaws 4 = .ok (.ifCond .ne 5, 3) := by decide +kernel
theorem dX9_flaws_7 : decode cX9_flaws 7 = .ok (.iconst (-1), 1) := by decide +kernel
theorem dX9_flaws_8 : decode cX9_flaws 8 = .ok (.ireturn, 1) := by decide +kernel
theorem dX9_flaws_9 : decode cX9_flaws 9 = .ok (.aload_n 0, 1) := by decide +kernel
theorem dX9_flaws_10 : decode cX9_flaws 10 = .ok (.iload_n 1, 1) := by decide +kernel
theorem dX9_flaws_11 : decode cX9_flaws 11 = .ok (.invokevirtual 208, 3) := by decide +kernel
theorem dX9_flaws_14 : decode cX9_flaws 14 = .ok (.iconst 2, 1) := by decide +kernel
theorem dX9_flaws_15 : decode cX9_flaws 15 = .ok (.if_icmp .ge 6, 3) := by decide +kernel
theorem dX9_flaws_18 : decode cX9_flaws 18 = .ok (.bipush (-4), 2) := by decide +kernel
theorem dX9_flaws_20 : decode cX9_flaws 20 = .ok (.ireturn, 1) := by decide +kernel
theorem dX9_flaws_21 : decode cX9_flaws 21 = .ok (.aload_n 0, 1) := by decide +kernel
theorem dX9_flaws_22 : decode cX9_flaws 22 = .ok (.iload_n 1, 1) := by decide +kernel
theorem dX9_flaws_23 : decode cX9_flaws 23 = .ok (.invokevirtual 220, 3) := by decide +kernel
theorem dX9_flaws_26 : decode cX9_flaws 26 = .ok (.aload_n 0, 1) := by decide +kernel
theorem dX9_flaws_27 : decode cX9_flaws 27 = .ok (.getfield 217, 3) := by decide +kernel
theorem dX9_flaws_30 : decode cX9_flaws 30 = .ok (.ireturn, 1) := by decide +kernel
def pX9_flaws (σ : zc_N) (a1 : Int32) : Prop := (((rX9_isTool a1) = (0 : Int32) → True) ∧ (¬ (rX9_isTool a1) = (0 : Int32) → ((pX9_keptBy σ a1) ∧ (((2 : Int32) ≤ (rX9_keptBy σ a1) → (pX9_findFlaws σ a1)) ∧ (¬ (2 : Int32) ≤ (rX9_keptBy σ a1) → True)))))
noncomputable def rX9_flaws (σ : zc_N) (a1 : Int32) : Int32 := (if (rX9_isTool a1) = (0 : Int32) then (-1 : Int32) else (if (2 : Int32) ≤ (rX9_keptBy σ a1) then (((sX9_findFlaws σ a1) 32) 33) else (-4 : Int32)))
noncomputable def sX9_flaws (σ : zc_N) (a1 : Int32) : zc_N := (if (rX9_isTool a1) = (0 : Int32) then σ else (if (2 : Int32) ≤ (rX9_keptBy σ a1) then (sX9_findFlaws σ a1) else σ))
set_option maxHeartbeats 1000000 in
theorem ctX9_flaws (P : zp) (σ : zc_N) (a1 : Int32) (W_ : (pX9_flaws σ a1)) : sp mX9_flaws 20 0 0 [.ref 32, .int a1] (hh P σ) (fun r_ h_ => r_ = some (.int (rX9_flaws σ a1)) ∧ h_ = hh P (sX9_flaws σ a1)) := by
  refine sp_of (lv := [some (.ref 32), some (.int a1)]) (by decide) (zcats_ok _ rfl) (Nat.le_of_ble_eq_true rfl) (zlv_ok _ 0 rfl) (fun G => ?_)
  generalize hQ_ : (fun (r_ : Option Value) (h_ : zc_H) => r_ = some (.int (rX9_flaws σ a1)) ∧ h_ = hh P (sX9_flaws σ a1)) = Q_
  unfold pX9_flaws at W_
  refine z_iload_n dX9_flaws_0 rfl ?_
  refine z_callS (As := [.int a1]) (rest := []) (ctX9_isTool P σ a1) dX9_flaws_1 lk_X9_202 ls_X9_isTool rfl (Nat.le_of_ble_eq_true rfl) (Nat.le_of_ble_eq_true rfl) (Nat.le_of_ble_eq_true rfl) (Nat.le_of_ble_eq_true rfl) (fun r_ h_ e_ => ?_)
  obtain ⟨e1_, e2_⟩ := e_
  subst e1_
  subst e2_
  show zz G mX9_flaws 20 0 0 Q_ 4 [some (.ref 32), some (.int a1)] [.int (rX9_isTool a1)] (hh P σ) 0 0
  refine z_if_ne (tgt := 9) dX9_flaws_4 (by decide) (fun c_1 => ?_) (fun c_1 => ?_)
  · refine z_aloadr_n dX9_flaws_9 rfl ?_
    refine z_iload_n dX9_flaws_10 rfl ?_
    refine z_callV (ci := 9) (r := (RX9, TX9, 38)) (b := 32) (As := [.int a1]) (rest := []) (ctX9_keptBy P σ a1 ((W_.2 c_1).1)) dX9_flaws_11 lk_X9_208 lv_X9_keptBy (Nat.le_of_ble_eq_true rfl) (zN rfl) rfl rfl rfl rfl (Nat.le_of_ble_eq_true rfl) (Nat.le_of_ble_eq_true rfl) (Nat.le_of_ble_eq_true rfl) (Nat.le_of_ble_eq_true rfl) (fun r_ h_ e_ => ?_)
    obtain ⟨e1_, e2_⟩ := e_
    subst e1_
    subst e2_
    show zz G mX9_flaws 20 0 0 Q_ 14 [some (.ref 32), some (.int a1)] [.int (rX9_keptBy σ a1)] (hh P σ) 0 0
    refine z_iconst dX9_flaws_14 k_iconst_2 ?_
    refine z_icmp_ge (tgt := 21) dX9_flaws_15 (by decide) (fun c_2 => ?_) (fun c_2 => ?_)
    · refine z_aloadr_n dX9_flaws_21 rfl ?_
      refine z_iload_n dX9_flaws_22 rfl ?_
      refine z_callV (ci := 9) (r := (RX9, TX9, 38)) (b := 32) (As := [.int a1]) (rest := []) (ctX9_findFlaws P σ a1 ((W_.2 c_1).2.1 c_2)) dX9_flaws_23 lk_X9_220 lv_X9_findFlaws (Nat.le_of_ble_eq_true rfl) (zN rfl) rfl rfl rfl rfl (Nat.le_of_ble_eq_true rfl) (Nat.le_of_ble_eq_true rfl) (Nat.le_of_ble_eq_true rfl) (Nat.le_of_ble_eq_true rfl) (fun r_ h_ e_ => ?_)
      obtain ⟨e1_, e2_⟩ := e_
      subst e1_
      subst e2_
      show zz G mX9_flaws 20 0 0 Q_ 26 [some (.ref 32), some (.int a1)] [] (hh P (sX9_findFlaws σ a1)) 0 0
      refine z_aloadr_n dX9_flaws_26 rfl ?_
      refine z_get (ci := 9) (r := (RX9, TX9, 38)) (j := 33) (v := .int (((sX9_findFlaws σ a1) 32) 33)) dX9_flaws_27 (Nat.le_of_ble_eq_true rfl) (zN rfl) rfl rfl (Nat.le_of_ble_eq_true rfl) fl_X9_217 rfl ?_
      exact z_ireturn dX9_flaws_30 rfl rfl (Nat.le_of_ble_eq_true rfl) (Nat.le_of_ble_eq_true rfl) (by rw [← hQ_]; exact ⟨(by rw [rX9_flaws]; try simp only [if_neg c_1, if_pos c_2]), (by rw [sX9_flaws]; try simp only [if_neg c_1, if_pos c_2])⟩)
    · refine z_bipush dX9_flaws_18 k_bipush_m4 ?_
      exact z_ireturn dX9_flaws_20 rfl rfl (Nat.le_of_ble_eq_true rfl) (Nat.le_of_ble_eq_true rfl) (by rw [← hQ_]; exact ⟨(by rw [rX9_flaws]; try simp only [if_neg c_1, if_neg c_2]), (by rw [sX9_flaws]; try simp only [if_neg c_1, if_neg c_2])⟩)
  · refine z_iconst dX9_flaws_7 k_iconst_m1 ?_
    exact z_ireturn dX9_flaws_8 rfl rfl (Nat.le_of_ble_eq_true rfl) (Nat.le_of_ble_eq_true rfl) (by rw [← hQ_]; exact ⟨(by rw [rX9_flaws]; try simp only [if_pos c_1]), (by rw [sX9_flaws]; try simp only [if_pos c_1])⟩)

theorem dX9_flaw_0 : decode cX9_flaw 0 = .ok (.iload_n 1, 1) := by decide +kernel
theorem dX9_flaw_1 : decode cX9_flaw 1 = .ok (.invokestatic 202, 3) := by decide +kernel
theorem dX9_flaw_4 : decode cX9_flaw 4 = .ok (.ifCond .eq 16, 3) := by decide +kernel
theorem dX9_flaw_7 : decode cX9_flaw 7 = .ok (.iload_n 2, 1) := by decide +kernel
theorem dX9_flaw_8 : decode cX9_flaw 8 = .ok (.ifCond .lt 12, 3) := by decide +kernel
theorem dX9_flaw_11 : decode cX9_flaw 11 = .ok (.iload_n 3, 1) := by decide +kernel
theorem dX9_flaw_12 : decode cX9_flaw 12 = .ok (.iconst 0, 1) := by decide +kernel
theorem dX9_flaw_13 : decode cX9_flaw 13 = .ok (.iconst 1, 1) := by decide +kernel
theorem dX9_flaw_14 : decode cX9_flaw 14 = .ok (.invokestatic 96, 3) := by decide +kernel
theorem dX9_flaw_17 : decode cX9_flaw 17 = .ok (.ifCond .ne 5, 3) := by decide +kernel
theorem dX9_flaw_20 : decode cX9_flaw 20 = .ok (.iconst (-1), 1) := by decide +kernel
theorem dX9_flaw_21 : decode cX9_flaw 21 = .ok (.ireturn, 1) := by decide +kernel
theorem dX9_flaw_22 : decode cX9_flaw 22 = .ok (.aload_n 0, 1) := by decide +kernel
theorem dX9_flaw_23 : decode cX9_flaw 23 = .ok (.iload_n 1, 1) := by decide +kernel
theorem dX9_flaw_24 : decode cX9_flaw 24 = .ok (.invokevirtual 208, 3) := by decide +kernel
theorem dX9_flaw_27 : decode cX9_flaw 27 = .ok (.iconst 2, 1) := by decide +kernel
theorem dX9_flaw_28 : decode cX9_flaw 28 = .ok (.if_icmp .ge 6, 3) := by decide +kernel
theorem dX9_flaw_31 : decode cX9_flaw 31 = .ok (.bipush (-4), 2) := by decide +kernel
theorem dX9_flaw_33 : decode cX9_flaw 33 = .ok (.ireturn, 1) := by decide +kernel
theorem dX9_flaw_34 : decode cX9_flaw 34 = .ok (.aload_n 0, 1) := by decide +kernel
theorem dX9_flaw_35 : decode cX9_flaw 35 = .ok (.iload_n 1, 1) := by decide +kernel
theorem dX9_flaw_36 : decode cX9_flaw 36 = .ok (.invokevirtual 220, 3) := by decide +kernel
theorem dX9_flaw_39 : decode cX9_flaw 39 = .ok (.iload_n 2, 1) := by decide +kernel
theorem dX9_flaw_40 : decode cX9_flaw 40 = .ok (.aload_n 0, 1) := by decide +kernel
theorem dX9_flaw_41 : decode cX9_flaw 41 = .ok (.getfield 217, 3) := by decide +kernel
theorem dX9_flaw_44 : decode cX9_flaw 44 = .ok (.if_icmp .lt 5, 3) := by decide +kernel
theorem dX9_flaw_47 : decode cX9_flaw 47 = .ok (.iconst (-1), 1) := by decide +kernel
theorem dX9_flaw_48 : decode cX9_flaw 48 = .ok (.ireturn, 1) := by decide +kernel
theorem dX9_flaw_49 : decode cX9_flaw 49 = .ok (.iload_n 3, 1) := by decide +kernel
theorem dX9_flaw_50 : decode cX9_flaw 50 = .ok (.ifCond .ne 12, 3) := by decide +kernel
theorem dX9_flaw_53 : decode cX9_flaw 53 = .ok (.aload_n 0, 1) := by decide +kernel
theorem dX9_flaw_54 : decode cX9_flaw 54 = .ok (.getfield 81, 3) := by decide +kernel
theorem dX9_flaw_57 : decode cX9_flaw 57 = .ok (.iload_n 2, 1) := by decide +kernel
theorem dX9_flaw_58 : decode cX9_flaw 58 = .ok (.iaload, 1) := by decide +kernel
theorem dX9_flaw_59 : decode cX9_flaw 59 = .ok (.goto 9, 3) := by decide +kernel
theorem dX9_flaw_62 : decode cX9_flaw 62 = .ok (.aload_n 0, 1) := by decide +kernel
theorem dX9_flaw_63 : decode cX9_flaw 63 = .ok (.getfield 84, 3) := by decide +kernel
theorem dX9_flaw_66 : decode cX9_flaw 66 = .ok (.iload_n 2, 1) := by decide +kernel
theorem dX9_flaw_67 : decode cX9_flaw 67 = .ok (.iaload, 1) := by decide +kernel
theorem dX9_flaw_68 : decode cX9_flaw 68 = .ok (.ireturn, 1) := by decide +kernel
def pX9_flaw (σ : zc_N) (a1 : Int32) (a2 : Int32) (a3 : Int32) : Prop := (((rX9_isTool a1) = (0 : Int32) → True) ∧ (¬ (rX9_isTool a1) = (0 : Int32) → ((a2 < (0 : Int32) → True) ∧ (¬ a2 < (0 : Int32) → (((rX9_within a3 (0 : Int32) (1 : Int32)) = (0 : Int32) → True) ∧ (¬ (rX9_within a3 (0 : Int32) (1 : Int32)) = (0 : Int32) → ((pX9_keptBy σ a1) ∧ (((2 : Int32) ≤ (rX9_keptBy σ a1) → ((pX9_findFlaws σ a1) ∧ ((a2 < (((sX9_findFlaws σ a1) 32) 33) → ((a3 = (0 : Int32) → vp_in a2 12) ∧ (¬ a3 = (0 : Int32) → vp_in a2 12))) ∧ (¬ a2 < (((sX9_findFlaws σ a1) 32) 33) → True)))) ∧ (¬ (2 : Int32) ≤ (rX9_keptBy σ a1) → True)))))))))
noncomputable def rX9_flaw (σ : zc_N) (a1 : Int32) (a2 : Int32) (a3 : Int32) : Int32 := (if (rX9_isTool a1) = (0 : Int32) then (-1 : Int32) else (if a2 < (0 : Int32) then (-1 : Int32) else (if (rX9_within a3 (0 : Int32) (1 : Int32)) = (0 : Int32) then (-1 : Int32) else (if (2 : Int32) ≤ (rX9_keptBy σ a1) then (if a2 < (((sX9_findFlaws σ a1) 32) 33) then (if a3 = (0 : Int32) then (((sX9_findFlaws σ a1) 54) a2.toNatClampNeg) else (((sX9_findFlaws σ a1) 55) a2.toNatClampNeg)) else (-1 : Int32)) else (-4 : Int32)))))
noncomputable def sX9_flaw (σ : zc_N) (a1 : Int32) (a2 : Int32) (a3 : Int32) : zc_N := (if (rX9_isTool a1) = (0 : Int32) then σ else (if a2 < (0 : Int32) then σ else (if (rX9_within a3 (0 : Int32) (1 : Int32)) = (0 : Int32) then σ else (if (2 : Int32) ≤ (rX9_keptBy σ a1) then (sX9_findFlaws σ a1) else σ))))
set_option maxHeartbeats 1000000 in
theorem ctX9_flaw (P : zp) (σ : zc_N) (a1 : Int32) (a2 : Int32) (a3 : Int32) (W_ : (pX9_flaw σ a1 a2 a3)) : sp mX9_flaw 20 0 0 [.ref 32, .int a1, .int a2, .int a3] (hh P σ) (fun r_ h_ => r_ = some (.int (rX9_flaw σ a1 a2 a3)) ∧ h_ = hh P (sX9_flaw σ a1 a2 a3)) := by
  refine sp_of (lv := [some (.ref 32), some (.int a1), some (.int a2), some (.int a3)]) (by decide) (zcats_ok _ rfl) (Nat.le_of_ble_eq_true rfl) (zlv_ok _ 0 rfl) (fun G => ?_)
  generalize hQ_ : (fun (r_ : Option Value) (h_ : zc_H) => r_ = some (.int (rX9_flaw σ a1 a2 a3)) ∧ h_ = hh P (sX9_flaw σ a1 a2 a3)) = Q_
  unfold pX9_flaw at W_
  refine z_iload_n dX9_flaw_0 rfl ?_
  refine z_callS (As := [.int a1]) (rest := []) (ctX9_isTool P σ a1) dX9_flaw_1 lk_X9_202 ls_X9_isTool rfl (Nat.le_of_ble_eq_true rfl) (Nat.le_of_ble_eq_true rfl) (Nat.le_of_ble_eq_true rfl) (Nat.le_of_ble_eq_true rfl) (fun r_ h_ e_ => ?_)
  obtain ⟨e1_, e2_⟩ := e_
  subst e1_
  subst e2_
  show zz G mX9_flaw 20 0 0 Q_ 4 [some (.ref 32), some (.int a1), some (.int a2), some (.int a3)] [.int (rX9_isTool a1)] (hh P σ) 0 0
  refine z_if_eq (tgt := 20) dX9_flaw_4 (by decide) (fun c_1 => ?_) (fun c_1 => ?_)
  · refine z_iconst dX9_flaw_20 k_iconst_m1 ?_
    exact z_ireturn dX9_flaw_21 rfl rfl (Nat.le_of_ble_eq_true rfl) (Nat.le_of_ble_eq_true rfl) (by rw [← hQ_]; exact ⟨(by rw [rX9_flaw]; try simp only [if_pos c_1]), (by rw [sX9_flaw]; try simp only [if_pos c_1])⟩)
  · refine z_iload_n dX9_flaw_7 rfl ?_
    refine z_if_lt (tgt := 20) dX9_flaw_8 (by decide) (fun c_2 => ?_) (fun c_2 => ?_)
    · refine z_iconst dX9_flaw_20 k_iconst_m1 ?_
      exact z_ireturn dX9_flaw_21 rfl rfl (Nat.le_of_ble_eq_true rfl) (Nat.le_of_ble_eq_true rfl) (by rw [← hQ_]; exact ⟨(by rw [rX9_flaw]; try simp only [if_neg c_1, if_pos c_2]), (by rw [sX9_flaw]; try simp only [if_neg c_1, if_pos c_2])⟩)
    · refine z_iload_n dX9_flaw_11 rfl ?_
      refine z_iconst dX9_flaw_12 k_iconst_0 ?_
      refine z_iconst dX9_flaw_13 k_iconst_1 ?_
      refine z_callS (As := [.int a3, .int (0 : Int32), .int (1 : Int32)]) (rest := []) (ctX9_within P σ a3 (0 : Int32) (1 : Int32)) dX9_flaw_14 lk_X9_96 ls_X9_within rfl (Nat.le_of_ble_eq_true rfl) (Nat.le_of_ble_eq_true rfl) (Nat.le_of_ble_eq_true rfl) (Nat.le_of_ble_eq_true rfl) (fun r_ h_ e_ => ?_)
      obtain ⟨e1_, e2_⟩ := e_
      subst e1_
      subst e2_
      show zz G mX9_flaw 20 0 0 Q_ 17 [some (.ref 32), some (.int a1), some (.int a2), some (.int a3)] [.int (rX9_within a3 (0 : Int32) (1 : Int32))] (hh P σ) 0 0
      refine z_if_ne (tgt := 22) dX9_flaw_17 (by decide) (fun c_3 => ?_) (fun c_3 => ?_)
      · refine z_aloadr_n dX9_flaw_22 rfl ?_
        refine z_iload_n dX9_flaw_23 rfl ?_
        refine z_callV (ci := 9) (r := (RX9, TX9, 38)) (b := 32) (As := [.int a1]) (rest := []) (ctX9_keptBy P σ a1 ((((W_.2 c_1).2 c_2).2 c_3).1)) dX9_flaw_24 lk_X9_208 lv_X9_keptBy (Nat.le_of_ble_eq_true rfl) (zN rfl) rfl rfl rfl rfl (Nat.le_of_ble_eq_true rfl) (Nat.le_of_ble_eq_true rfl) (Nat.le_of_ble_eq_true rfl) (Nat.le_of_ble_eq_true rfl) (fun r_ h_ e_ => ?_)
        obtain ⟨e1_, e2_⟩ := e_
        subst e1_
        subst e2_
        show zz G mX9_flaw 20 0 0 Q_ 27 [some (.ref 32), some (.int a1), some (.int a2), some (.int a3)] [.int (rX9_keptBy σ a1)] (hh P σ) 0 0
        refine z_iconst dX9_flaw_27 k_iconst_2 ?_
        refine z_icmp_ge (tgt := 34) dX9_flaw_28 (by decide) (fun c_4 => ?_) (fun c_4 => ?_)
        · refine z_aloadr_n dX9_flaw_34 rfl ?_
          refine z_iload_n dX9_flaw_35 rfl ?_
          refine z_callV (ci := 9) (r := (RX9, TX9, 38)) (b := 32) (As := [.int a1]) (rest := []) (ctX9_findFlaws P σ a1 (((((W_.2 c_1).2 c_2).2 c_3).2.1 c_4).1)) dX9_flaw_36 lk_X9_220 lv_X9_findFlaws (Nat.le_of_ble_eq_true rfl) (zN rfl) rfl rfl rfl rfl (Nat.le_of_ble_eq_true rfl) (Nat.le_of_ble_eq_true rfl) (Nat.le_of_ble_eq_true rfl) (Nat.le_of_ble_eq_true rfl) (fun r_ h_ e_ => ?_)
          obtain ⟨e1_, e2_⟩ := e_
          subst e1_
          subst e2_
          show zz G mX9_flaw 20 0 0 Q_ 39 [some (.ref 32), some (.int a1), some (.int a2), some (.int a3)] [] (hh P (sX9_findFlaws σ a1)) 0 0
          refine z_iload_n dX9_flaw_39 rfl ?_
          refine z_aloadr_n dX9_flaw_40 rfl ?_
          refine z_get (ci := 9) (r := (RX9, TX9, 38)) (j := 33) (v := .int (((sX9_findFlaws σ a1) 32) 33)) dX9_flaw_41 (Nat.le_of_ble_eq_true rfl) (zN rfl) rfl rfl (Nat.le_of_ble_eq_true rfl) fl_X9_217 rfl ?_
          refine z_icmp_lt (tgt := 49) dX9_flaw_44 (by decide) (fun c_5 => ?_) (fun c_5 => ?_)
          · refine z_iload_n dX9_flaw_49 rfl ?_
            have K_1 : zz G mX9_flaw 20 0 0 Q_ 68 [none, none, none, none] [.int (if a3 = (0 : Int32) then (((sX9_findFlaws σ a1) 54) a2.toNatClampNeg) else (((sX9_findFlaws σ a1) 55) a2.toNatClampNeg))] (hh P (sX9_findFlaws σ a1)) 0 0 := by
              exact z_ireturn dX9_flaw_68 rfl rfl (Nat.le_of_ble_eq_true rfl) (Nat.le_of_ble_eq_true rfl) (by rw [← hQ_]; exact ⟨(by rw [rX9_flaw]; try simp only [if_neg c_1, if_neg c_2, if_neg c_3, if_pos c_4, if_pos c_5]), (by rw [sX9_flaw]; try simp only [if_neg c_1, if_neg c_2, if_neg c_3, if_pos c_4, if_pos c_5])⟩)
            refine z_if_ne (tgt := 62) dX9_flaw_50 (by decide) (fun c_6 => ?_) (fun c_6 => ?_)
            · refine z_aloadr_n dX9_flaw_62 rfl ?_
              refine z_get (ci := 9) (r := (RX9, TX9, 38)) (j := 32) (v := .ref 55) dX9_flaw_63 (Nat.le_of_ble_eq_true rfl) (zN rfl) rfl rfl (Nat.le_of_ble_eq_true rfl) fl_X9_84 rfl ?_
              refine z_iload_n dX9_flaw_66 rfl ?_
              refine z_iald (v := (((sX9_findFlaws σ a1) 55) a2.toNatClampNeg)) dX9_flaw_67 (zN rfl) rfl ((((((W_.2 c_1).2 c_2).2 c_3).2.1 c_4).2.1 c_5).2 c_6) rfl ?_
              refine zz_sub (lv' := [none, none, none, none]) trivial ?_
              rw [show (if a3 = (0 : Int32) then (((sX9_findFlaws σ a1) 54) a2.toNatClampNeg) else (((sX9_findFlaws σ a1) 55) a2.toNatClampNeg)) = (((sX9_findFlaws σ a1) 55) a2.toNatClampNeg) from (if_neg c_6)] at K_1
              exact K_1
            · refine z_aloadr_n dX9_flaw_53 rfl ?_
              refine z_get (ci := 9) (r := (RX9, TX9, 38)) (j := 31) (v := .ref 54) dX9_flaw_54 (Nat.le_of_ble_eq_true rfl) (zN rfl) rfl rfl (Nat.le_of_ble_eq_true rfl) fl_X9_81 rfl ?_
              refine z_iload_n dX9_flaw_57 rfl ?_
              refine z_iald (v := (((sX9_findFlaws σ a1) 54) a2.toNatClampNeg)) dX9_flaw_58 (zN rfl) rfl ((((((W_.2 c_1).2 c_2).2 c_3).2.1 c_4).2.1 c_5).1 c_6) rfl ?_
              refine z_goto (tgt := 68) dX9_flaw_59 (by decide) ?_
              refine zz_sub (lv' := [none, none, none, none]) trivial ?_
              rw [show (if a3 = (0 : Int32) then (((sX9_findFlaws σ a1) 54) a2.toNatClampNeg) else (((sX9_findFlaws σ a1) 55) a2.toNatClampNeg)) = (((sX9_findFlaws σ a1) 54) a2.toNatClampNeg) from (if_pos c_6)] at K_1
              exact K_1
          · refine z_iconst dX9_flaw_47 k_iconst_m1 ?_
            exact z_ireturn dX9_flaw_48 rfl rfl (Nat.le_of_ble_eq_true rfl) (Nat.le_of_ble_eq_true rfl) (by rw [← hQ_]; exact ⟨(by rw [rX9_flaw]; try simp only [if_neg c_1, if_neg c_2, if_neg c_3, if_pos c_4, if_neg c_5]), (by rw [sX9_flaw]; try simp only [if_neg c_1, if_neg c_2, if_neg c_3, if_pos c_4, if_neg c_5])⟩)
        · refine z_bipush dX9_flaw_31 k_bipush_m4 ?_
          exact z_ireturn dX9_flaw_33 rfl rfl (Nat.le_of_ble_eq_true rfl) (Nat.le_of_ble_eq_true rfl) (by rw [← hQ_]; exact ⟨(by rw [rX9_flaw]; try simp only [if_neg c_1, if_neg c_2, if_neg c_3, if_neg c_4]), (by rw [sX9_flaw]; try simp only [if_neg c_1, if_neg c_2, if_neg c_3, if_neg c_4])⟩)
      · refine z_iconst dX9_flaw_20 k_iconst_m1 ?_
        exact z_ireturn dX9_flaw_21 rfl rfl (Nat.le_of_ble_eq_true rfl) (Nat.le_of_ble_eq_true rfl) (by rw [← hQ_]; exact ⟨(by rw [rX9_flaw]; try simp only [if_neg c_1, if_neg c_2, if_pos c_3]), (by rw [sX9_flaw]; try simp only [if_neg c_1, if_neg c_2, if_pos c_3])⟩)

theorem dX9_age_63 : decode cX9_age 63 = .ok (.iload_n 3, 1) := by decide +kernel
theorem dX9_age_64 : decode cX9_age 64 = .ok (.aload_n 0, 1) := by decide +kernel
theorem dX9_age_65 : decode cX9_age 65 = .ok (.getfield 217, 3) := by decide +kernel
theorem dX9_age_68 : decode cX9_age 68 = .ok (.if_icmp .ge 98, 3) := by decide +kernel
theorem dX9_age_71 : decode cX9_age 71 = .ok (.aload_n 0, 1) := by decide +kernel
theorem dX9_age_72 : decode cX9_age 72 = .ok (.getfield 87, 3) := by decide +kernel
theorem dX9_age_75 : decode cX9_age 75 = .ok (.bipush 12, 2) := by decide +kernel
theorem dX9_age_77 : decode cX9_age 77 = .ok (.iload_n 1, 1) := by decide +kernel
theorem dX9_age_78 : decode cX9_age 78 = .ok (.imul, 1) := by decide +kernel
theorem dX9_age_79 : decode cX9_age 79 = .ok (.aload_n 0, 1) := by decide +kernel
theorem dX9_age_80 : decode cX9_age 80 = .ok (.getfield 81, 3) := by decide +kernel
theorem dX9_age_83 : decode cX9_age 83 = .ok (.iload_n 3, 1) := by decide +kernel
theorem dX9_age_84 : decode cX9_age 84 = .ok (.iaload, 1) := by decide +kernel
theorem dX9_age_85 : decode cX9_age 85 = .ok (.iadd, 1) := by decide +kernel
theorem dX9_age_86 : decode cX9_age 86 = .ok (.iaload, 1) := by decide +kernel
theorem dX9_age_87 : decode cX9_age 87 = .ok (.istore 4, 2) := by decide +kernel
theorem dX9_age_89 : decode cX9_age 89 = .ok (.aload_n 0, 1) := by decide +kernel
theorem dX9_age_90 : decode cX9_age 90 = .ok (.iload 4, 2) := by decide +kernel
theorem dX9_age_92 : decode cX9_age 92 = .ok (.iconst 1, 1) := by decide +kernel
theorem dX9_age_93 : decode cX9_age 93 = .ok (.if_icmp .ne 25, 3) := by decide +kernel
theorem dX9_age_96 : decode cX9_age 96 = .ok (.aload_n 0, 1) := by decide +kernel
theorem dX9_age_97 : decode cX9_age 97 = .ok (.getfield 84, 3) := by decide +kernel
theorem dX9_age_100 : decode cX9_age 100 = .ok (.iload_n 3, 1) := by decide +kernel
theorem dX9_age_101 : decode cX9_age 101 = .ok (.iaload, 1) := by decide +kernel
theorem dX9_age_102 : decode cX9_age 102 = .ok (.aload_n 0, 1) := by decide +kernel
theorem dX9_age_103 : decode cX9_age 103 = .ok (.getfield 90, 3) := by decide +kernel
theorem dX9_age_106 : decode cX9_age 106 = .ok (.if_icmp .le 12, 3) := by decide +kernel
theorem dX9_age_109 : decode cX9_age 109 = .ok (.aload_n 0, 1) := by decide +kernel
theorem dX9_age_110 : decode cX9_age 110 = .ok (.getfield 84, 3) := by decide +kernel
theorem dX9_age_113 : decode cX9_age 113 = .ok (.iload_n 3, 1) := by decide +kernel
theorem dX9_age_114 : decode cX9_age 114 = .ok (.iaload, 1) := by decide +kernel
theorem dX9_age_115 : decode cX9_age 115 = .ok (.goto 7, 3) := by decide +kernel
theorem dX9_age_118 : decode cX9_age 118 = .ok (.aload_n 0, 1) := by decide +kernel
theorem dX9_age_119 : decode cX9_age 119 = .ok (.getfield 90, 3) := by decide +kernel
theorem dX9_age_122 : decode cX9_age 122 = .ok (.putfield 90, 3) := by decide +kernel
theorem dX9_age_125 : decode cX9_age 125 = .ok (.aload_n 0, 1) := by decide +kernel
theorem dX9_age_126 : decode cX9_age 126 = .ok (.iload 4, 2) := by decide +kernel
theorem dX9_age_128 : decode cX9_age 128 = .ok (.ifCond .ne 25, 3) := by decide +kernel
theorem dX9_age_131 : decode cX9_age 131 = .ok (.aload_n 0, 1) := by decide +kernel
theorem dX9_age_132 : decode cX9_age 132 = .ok (.getfield 84, 3) := by decide +kernel
theorem dX9_age_135 : decode cX9_age 135 = .ok (.iload_n 3, 1) := by decide +kernel
theorem dX9_age_136 : decode cX9_age 136 = .ok (.iaload, 1) := by decide +kernel
theorem dX9_age_137 : decode cX9_age 137 = .ok (.aload_n 0, 1) := by decide +kernel
theorem dX9_age_138 : decode cX9_age 138 = .ok (.getfield 93, 3) := by decide +kernel
theorem dX9_age_141 : decode cX9_age 141 = .ok (.if_icmp .ge 12, 3) := by decide +kernel
theorem dX9_age_144 : decode cX9_age 144 = .ok (.aload_n 0, 1) := by decide +kernel
theorem dX9_age_145 : decode cX9_age 145 = .ok (.getfield 84, 3) := by decide +kernel
theorem dX9_age_148 : decode cX9_age 148 = .ok (.iload_n 3, 1) := by decide +kernel
theorem dX9_age_149 : decode cX9_age 149 = .ok (.iaload, 1) := by decide +kernel
theorem dX9_age_150 : decode cX9_age 150 = .ok (.goto 7, 3) := by decide +kernel
theorem dX9_age_153 : decode cX9_age 153 = .ok (.aload_n 0, 1) := by decide +kernel
theorem dX9_age_154 : decode cX9_age 154 = .ok (.getfield 93, 3) := by decide +kernel
theorem dX9_age_157 : decode cX9_age 157 = .ok (.putfield 93, 3) := by decide +kernel
theorem dX9_age_160 : decode cX9_age 160 = .ok (.iinc 3 1, 3) := by decide +kernel
theorem dX9_age_163 : decode cX9_age 163 = .ok (.goto (-100), 3) := by decide +kernel
theorem dX9_age_166 : decode cX9_age 166 = .ok (.aload_n 0, 1) := by decide +kernel
theorem dX9_age_167 : decode cX9_age 167 = .ok (.getfield 90, 3) := by decide +kernel
theorem dX9_age_170 : decode cX9_age 170 = .ok (.aload_n 0, 1) := by decide +kernel
theorem dX9_age_171 : decode cX9_age 171 = .ok (.getfield 93, 3) := by decide +kernel
theorem dX9_age_177 : decode cX9_age 177 = .ok (.iconst 1, 1) := by decide +kernel
theorem dX9_age_178 : decode cX9_age 178 = .ok (.goto 4, 3) := by decide +kernel
theorem dX9_age_181 : decode cX9_age 181 = .ok (.iconst 0, 1) := by decide +kernel
noncomputable def vX9_age_1 (l1 : Int32) (l3 : Int32) (σ : zc_N) : zc_N := (zu σ 32 (zu (zu (σ 32) 36 (if ((σ 56) (((12 : Int32) * l1) + ((σ 54) l3.toNatClampNeg)).toNatClampNeg) = (1 : Int32) then (if ((σ 55) l3.toNatClampNeg) ≤ ((σ 32) 36) then ((σ 32) 36) else ((σ 55) l3.toNatClampNeg)) else ((σ 32) 36))) 37 (if ((σ 56) (((12 : Int32) * l1) + ((σ 54) l3.toNatClampNeg)).toNatClampNeg) = (0 : Int32) then (if ((zu (σ 32) 36 (if ((σ 56) (((12 : Int32) * l1) + ((σ 54) l3.toNatClampNeg)).toNatClampNeg) = (1 : Int32) then (if ((σ 55) l3.toNatClampNeg) ≤ ((σ 32) 36) then ((σ 32) 36) else ((σ 55) l3.toNatClampNeg)) else ((σ 32) 36))) 37) ≤ ((σ 55) l3.toNatClampNeg) then ((zu (σ 32) 36 (if ((σ 56) (((12 : Int32) * l1) + ((σ 54) l3.toNatClampNeg)).toNatClampNeg) = (1 : Int32) then (if ((σ 55) l3.toNatClampNeg) ≤ ((σ 32) 36) then ((σ 32) 36) else ((σ 55) l3.toNatClampNeg)) else ((σ 32) 36))) 37) else ((σ 55) l3.toNatClampNeg)) else ((zu (σ 32) 36 (if ((σ 56) (((12 : Int32) * l1) + ((σ 54) l3.toNatClampNeg)).toNatClampNeg) = (1 : Int32) then (if ((σ 55) l3.toNatClampNeg) ≤ ((σ 32) 36) then ((σ 32) 36) else ((σ 55) l3.toNatClampNeg)) else ((σ 32) 36))) 37))))
noncomputable def fX9_age_63 (l1 : Int32) (i_ : Nat) (a_ : zc_N) : zc_N := (vX9_age_1 l1 (nI i_) a_)
def qX9_age_63 (l1 : Int32) (i_ : Nat) (a_ : zc_N) : Prop := (vp_in (nI i_) 12 ∧ (vp_in (((12 : Int32) * l1) + ((a_ 54) (nI i_).toNatClampNeg)) 288 ∧ (((((a_ 56) (((12 : Int32) * l1) + ((a_ 54) (nI i_).toNatClampNeg)).toNatClampNeg) = (1 : Int32) → (vp_in (nI i_) 12 ∧ ((((a_ 55) (nI i_).toNatClampNeg) ≤ ((a_ 32) 36) → True) ∧ (¬ ((a_ 55) (nI i_).toNatClampNeg) ≤ ((a_ 32) 36) → vp_in (nI i_) 12)))) ∧ (¬ ((a_ 56) (((12 : Int32) * l1) + ((a_ 54) (nI i_).toNatClampNeg)).toNatClampNeg) = (1 : Int32) → True)) ∧ ((((a_ 56) (((12 : Int32) * l1) + ((a_ 54) (nI i_).toNatClampNeg)).toNatClampNeg) = (0 : Int32) → (vp_in (nI i_) 12 ∧ ((((zu (a_ 32) 36 (if ((a_ 56) (((12 : Int32) * l1) + ((a_ 54) (nI i_).toNatClampNeg)).toNatClampNeg) = (1 : Int32) then (if ((a_ 55) (nI i_).toNatClampNeg) ≤ ((a_ 32) 36) then ((a_ 32) 36) else ((a_ 55) (nI i_).toNatClampNeg)) else ((a_ 32) 36))) 37) ≤ ((a_ 55) (nI i_).toNatClampNeg) → True) ∧ (¬ ((zu (a_ 32) 36 (if ((a_ 56) (((12 : Int32) * l1) + ((a_ 54) (nI i_).toNatClampNeg)).toNatClampNeg) = (1 : Int32) then (if ((a_ 55) (nI i_).toNatClampNeg) ≤ ((a_ 32) 36) then ((a_ 32) 36) else ((a_ 55) (nI i_).toNatClampNeg)) else ((a_ 32) 36))) 37) ≤ ((a_ 55) (nI i_).toNatClampNeg) → vp_in (nI i_) 12)))) ∧ (¬ ((a_ 56) (((12 : Int32) * l1) + ((a_ 54) (nI i_).toNatClampNeg)).toNatClampNeg) = (0 : Int32) → True)))))
set_option maxHeartbeats 2000000 in
theorem lpX9_age_63 {G : zc_G} {Q : Option Value → zc_H → Prop} (P : zp) (σ : zc_N) (l1 : Int32) (n_ : Nat) (hC_ : ∀ i63_ : Nat, i63_ ≤ n_ → ((((zfor (fX9_age_63 l1) i63_ σ) 32) 33) ≤ (nI i63_) ↔ n_ ≤ i63_)) (W1_ : ∀ i63_ : Nat, i63_ < n_ → qX9_age_63 l1 i63_ (zfor (fX9_age_63 l1) i63_ σ))
    (W2_ : zz G mX9_age 20 0 0 Q 166 [some (.ref 32), none, none, none, none] [] (hh P (zfor (fX9_age_63 l1) n_ σ)) 0 0) :
    zz G mX9_age 20 0 0 Q 63 [some (.ref 32), some (.int l1), none, some (.int (nI 0)), none] [] (hh P σ) 0 0 := by
  refine zfor_nI (fun i_ a_ => zz G mX9_age 20 0 0 Q 63 [some (.ref 32), some (.int l1), none, some (.int i_), none] [] (hh P a_) 0 0) (fX9_age_63 l1) n_ σ (fun i_ hi_ k_ => ?_) ?_
  · have W3_ := W1_ i_ hi_
    have hD_ := hC_ i_ (Nat.le_of_lt hi_)
    generalize zfor (fX9_age_63 l1) i_ σ = g_ at k_ W3_ hD_ ⊢
    rw [fX9_age_63] at k_
    rw [qX9_age_63] at W3_
    try dsimp only at W3_
    refine z_iload_n dX9_age_63 rfl ?_
    refine z_aloadr_n dX9_age_64 rfl ?_
    refine z_get (ci := 9) (r := (RX9, TX9, 38)) (j := 33) (v := .int ((g_ 32) 33)) dX9_age_65 (Nat.le_of_ble_eq_true rfl) (zN rfl) rfl rfl (Nat.le_of_ble_eq_true rfl) fl_X9_217 rfl ?_
    refine z_icmp_ge (tgt := 166) dX9_age_68 (by decide) (fun c_ => absurd c_ (fun q_ => Nat.not_le_of_lt hi_ (hD_.mp q_))) (fun c_ => ?_)
    refine z_aloadr_n dX9_age_71 rfl ?_
    refine z_get (ci := 9) (r := (RX9, TX9, 38)) (j := 35) (v := .ref 56) dX9_age_72 (Nat.le_of_ble_eq_true rfl) (zN rfl) rfl rfl (Nat.le_of_ble_eq_true rfl) fl_X9_87 rfl ?_
    refine z_bipush dX9_age_75 k_bipush_12 ?_
    refine z_iload_n dX9_age_77 rfl ?_
    refine z_imul (v := ((12 : Int32) * l1)) dX9_age_78 rfl ?_
    refine z_aloadr_n dX9_age_79 rfl ?_
    refine z_get (ci := 9) (r := (RX9, TX9, 38)) (j := 31) (v := .ref 54) dX9_age_80 (Nat.le_of_ble_eq_true rfl) (zN rfl) rfl rfl (Nat.le_of_ble_eq_true rfl) fl_X9_81 rfl ?_
    refine z_iload_n dX9_age_83 rfl ?_
    refine z_iald (v := ((g_ 54) (nI i_).toNatClampNeg)) dX9_age_84 (zN rfl) rfl W3_.1 rfl ?_
    refine z_iadd (v := (((12 : Int32) * l1) + ((g_ 54) (nI i_).toNatClampNeg))) dX9_age_85 rfl ?_
    refine z_iald (v := ((g_ 56) (((12 : Int32) * l1) + ((g_ 54) (nI i_).toNatClampNeg)).toNatClampNeg)) dX9_age_86 (zN rfl) rfl W3_.2.1 rfl ?_
    refine z_istore (lv' := [some (.ref 32), some (.int l1), none, some (.int (nI i_)), some (.int ((g_ 56) (((12 : Int32) * l1) + ((g_ 54) (nI i_).toNatClampNeg)).toNatClampNeg))]) dX9_age_87 (Nat.le_of_ble_eq_true rfl) rfl ?_
    refine z_aloadr_n dX9_age_89 rfl ?_
    refine z_iload dX9_age_90 rfl ?_
    refine z_iconst dX9_age_92 k_iconst_1 ?_
    have K_1 : zz G mX9_age 20 0 0 Q 122 [some (.ref 32), some (.int l1), none, some (.int (nI i_)), some (.int ((g_ 56) (((12 : Int32) * l1) + ((g_ 54) (nI i_).toNatClampNeg)).toNatClampNeg))] [.int (if ((g_ 56) (((12 : Int32) * l1) + ((g_ 54) (nI i_).toNatClampNeg)).toNatClampNeg) = (1 : Int32) then (if ((g_ 55) (nI i_).toNatClampNeg) ≤ ((g_ 32) 36) then ((g_ 32) 36) else ((g_ 55) (nI i_).toNatClampNeg)) else ((g_ 32) 36)), .ref 32] (hh P g_) 0 0 := by
      refine z_put (ci := 9) (r := (RX9, TX9, 38)) (j := 36) (σ' := (zu g_ 32 (zu (g_ 32) 36 (if ((g_ 56) (((12 : Int32) * l1) + ((g_ 54) (nI i_).toNatClampNeg)).toNatClampNeg) = (1 : Int32) then (if ((g_ 55) (nI i_).toNatClampNeg) ≤ ((g_ 32) 36) then ((g_ 32) 36) else ((g_ 55) (nI i_).toNatClampNeg)) else ((g_ 32) 36))))) dX9_age_122 (Nat.le_of_ble_eq_true rfl) (zN rfl) rfl rfl (Nat.le_of_ble_eq_true rfl) fl_X9_90 rfl rfl rfl rfl rfl ?_
      refine z_aloadr_n dX9_age_125 rfl ?_
      refine z_iload dX9_age_126 rfl ?_
      have K_2 : zz G mX9_age 20 0 0 Q 157 [some (.ref 32), some (.int l1), none, some (.int (nI i_)), none] [.int (if ((g_ 56) (((12 : Int32) * l1) + ((g_ 54) (nI i_).toNatClampNeg)).toNatClampNeg) = (0 : Int32) then (if ((zu (g_ 32) 36 (if ((g_ 56) (((12 : Int32) * l1) + ((g_ 54) (nI i_).toNatClampNeg)).toNatClampNeg) = (1 : Int32) then (if ((g_ 55) (nI i_).toNatClampNeg) ≤ ((g_ 32) 36) then ((g_ 32) 36) else ((g_ 55) (nI i_).toNatClampNeg)) else ((g_ 32) 36))) 37) ≤ ((g_ 55) (nI i_).toNatClampNeg) then ((zu (g_ 32) 36 (if ((g_ 56) (((12 : Int32) * l1) + ((g_ 54) (nI i_).toNatClampNeg)).toNatClampNeg) = (1 : Int32) then (if ((g_ 55) (nI i_).toNatClampNeg) ≤ ((g_ 32) 36) then ((g_ 32) 36) else ((g_ 55) (nI i_).toNatClampNeg)) else ((g_ 32) 36))) 37) else ((g_ 55) (nI i_).toNatClampNeg)) else ((zu (g_ 32) 36 (if ((g_ 56) (((12 : Int32) * l1) + ((g_ 54) (nI i_).toNatClampNeg)).toNatClampNeg) = (1 : Int32) then (if ((g_ 55) (nI i_).toNatClampNeg) ≤ ((g_ 32) 36) then ((g_ 32) 36) else ((g_ 55) (nI i_).toNatClampNeg)) else ((g_ 32) 36))) 37)), .ref 32] (hh P (zu g_ 32 (zu (g_ 32) 36 (if ((g_ 56) (((12 : Int32) * l1) + ((g_ 54) (nI i_).toNatClampNeg)).toNatClampNeg) = (1 : Int32) then (if ((g_ 55) (nI i_).toNatClampNeg) ≤ ((g_ 32) 36) then ((g_ 32) 36) else ((g_ 55) (nI i_).toNatClampNeg)) else ((g_ 32) 36))))) 0 0 := by
        refine z_put (ci := 9) (r := (RX9, TX9, 38)) (j := 37) (σ' := (zu g_ 32 (zu (zu (g_ 32) 36 (if ((g_ 56) (((12 : Int32) * l1) + ((g_ 54) (nI i_).toNatClampNeg)).toNatClampNeg) = (1 : Int32) then (if ((g_ 55) (nI i_).toNatClampNeg) ≤ ((g_ 32) 36) then ((g_ 32) 36) else ((g_ 55) (nI i_).toNatClampNeg)) else ((g_ 32) 36))) 37 (if ((g_ 56) (((12 : Int32) * l1) + ((g_ 54) (nI i_).toNatClampNeg)).toNatClampNeg) = (0 : Int32) then (if ((zu (g_ 32) 36 (if ((g_ 56) (((12 : Int32) * l1) + ((g_ 54) (nI i_).toNatClampNeg)).toNatClampNeg) = (1 : Int32) then (if ((g_ 55) (nI i_).toNatClampNeg) ≤ ((g_ 32) 36) then ((g_ 32) 36) else ((g_ 55) (nI i_).toNatClampNeg)) else ((g_ 32) 36))) 37) ≤ ((g_ 55) (nI i_).toNatClampNeg) then ((zu (g_ 32) 36 (if ((g_ 56) (((12 : Int32) * l1) + ((g_ 54) (nI i_).toNatClampNeg)).toNatClampNeg) = (1 : Int32) then (if ((g_ 55) (nI i_).toNatClampNeg) ≤ ((g_ 32) 36) then ((g_ 32) 36) else ((g_ 55) (nI i_).toNatClampNeg)) else ((g_ 32) 36))) 37) else ((g_ 55) (nI i_).toNatClampNeg)) else ((zu (g_ 32) 36 (if ((g_ 56) (((12 : Int32) * l1) + ((g_ 54) (nI i_).toNatClampNeg)).toNatClampNeg) = (1 : Int32) then (if ((g_ 55) (nI i_).toNatClampNeg) ≤ ((g_ 32) 36) then ((g_ 32) 36) else ((g_ 55) (nI i_).toNatClampNeg)) else ((g_ 32) 36))) 37))))) dX9_age_157 (Nat.le_of_ble_eq_true rfl) (zN rfl) rfl rfl (Nat.le_of_ble_eq_true rfl) fl_X9_93 rfl rfl rfl rfl ((congrArg (fun g_ => zu _ _ (zu g_ _ _)) (zu_self _ _ _)).trans (zu_zu _ _ _ _)) ?_
        show zz G mX9_age 20 0 0 Q 160 [some (.ref 32), some (.int l1), none, some (.int (nI i_)), none] [] (hh P (vX9_age_1 l1 (nI i_) g_)) 0 0
        refine z_iinc (v := ((nI i_) + (1 : Int32))) (lv' := [some (.ref 32), some (.int l1), none, some (.int ((nI i_) + (1 : Int32))), none]) dX9_age_160 (Nat.le_of_ble_eq_true rfl) rfl (by rw [k_iconst_1]) rfl ?_
        refine z_goto (tgt := 63) dX9_age_163 (by decide) ?_
        rw [nI_1]
        exact k_
      refine z_if_ne (tgt := 153) dX9_age_128 (by decide) (fun c_5 => ?_) (fun c_5 => ?_)
      · refine z_aloadr_n dX9_age_153 rfl ?_
        refine z_get (ci := 9) (r := (RX9, TX9, 38)) (j := 37) (v := .int ((zu (g_ 32) 36 (if ((g_ 56) (((12 : Int32) * l1) + ((g_ 54) (nI i_).toNatClampNeg)).toNatClampNeg) = (1 : Int32) then (if ((g_ 55) (nI i_).toNatClampNeg) ≤ ((g_ 32) 36) then ((g_ 32) 36) else ((g_ 55) (nI i_).toNatClampNeg)) else ((g_ 32) 36))) 37)) dX9_age_154 (Nat.le_of_ble_eq_true rfl) (zN rfl) rfl rfl (Nat.le_of_ble_eq_true rfl) fl_X9_93 (congrArg Value.int (congrFun (zu_self _ _ _) _)) ?_
        refine zz_sub (lv' := [some (.ref 32), some (.int l1), none, some (.int (nI i_)), none]) ⟨rfl, ⟨rfl, ⟨rfl, trivial⟩⟩⟩ ?_
        rw [show (if ((g_ 56) (((12 : Int32) * l1) + ((g_ 54) (nI i_).toNatClampNeg)).toNatClampNeg) = (0 : Int32) then (if ((zu (g_ 32) 36 (if ((g_ 56) (((12 : Int32) * l1) + ((g_ 54) (nI i_).toNatClampNeg)).toNatClampNeg) = (1 : Int32) then (if ((g_ 55) (nI i_).toNatClampNeg) ≤ ((g_ 32) 36) then ((g_ 32) 36) else ((g_ 55) (nI i_).toNatClampNeg)) else ((g_ 32) 36))) 37) ≤ ((g_ 55) (nI i_).toNatClampNeg) then ((zu (g_ 32) 36 (if ((g_ 56) (((12 : Int32) * l1) + ((g_ 54) (nI i_).toNatClampNeg)).toNatClampNeg) = (1 : Int32) then (if ((g_ 55) (nI i_).toNatClampNeg) ≤ ((g_ 32) 36) then ((g_ 32) 36) else ((g_ 55) (nI i_).toNatClampNeg)) else ((g_ 32) 36))) 37) else ((g_ 55) (nI i_).toNatClampNeg)) else ((zu (g_ 32) 36 (if ((g_ 56) (((12 : Int32) * l1) + ((g_ 54) (nI i_).toNatClampNeg)).toNatClampNeg) = (1 : Int32) then (if ((g_ 55) (nI i_).toNatClampNeg) ≤ ((g_ 32) 36) then ((g_ 32) 36) else ((g_ 55) (nI i_).toNatClampNeg)) else ((g_ 32) 36))) 37)) = ((zu (g_ 32) 36 (if ((g_ 56) (((12 : Int32) * l1) + ((g_ 54) (nI i_).toNatClampNeg)).toNatClampNeg) = (1 : Int32) then (if ((g_ 55) (nI i_).toNatClampNeg) ≤ ((g_ 32) 36) then ((g_ 32) 36) else ((g_ 55) (nI i_).toNatClampNeg)) else ((g_ 32) 36))) 37) from (if_neg c_5)] at K_2
        exact K_2
      · refine z_aloadr_n dX9_age_131 rfl ?_
        refine z_get (ci := 9) (r := (RX9, TX9, 38)) (j := 32) (v := .ref 55) dX9_age_132 (Nat.le_of_ble_eq_true rfl) (zN rfl) rfl rfl (Nat.le_of_ble_eq_true rfl) fl_X9_84 rfl ?_
        refine z_iload_n dX9_age_135 rfl ?_
        refine z_iald (v := ((g_ 55) (nI i_).toNatClampNeg)) dX9_age_136 (zN rfl) rfl ((W3_.2.2.2.1 c_5).1) (congrFun (zu_ne _ _ (by decide)) _) ?_
        refine z_aloadr_n dX9_age_137 rfl ?_
        refine z_get (ci := 9) (r := (RX9, TX9, 38)) (j := 37) (v := .int ((zu (g_ 32) 36 (if ((g_ 56) (((12 : Int32) * l1) + ((g_ 54) (nI i_).toNatClampNeg)).toNatClampNeg) = (1 : Int32) then (if ((g_ 55) (nI i_).toNatClampNeg) ≤ ((g_ 32) 36) then ((g_ 32) 36) else ((g_ 55) (nI i_).toNatClampNeg)) else ((g_ 32) 36))) 37)) dX9_age_138 (Nat.le_of_ble_eq_true rfl) (zN rfl) rfl rfl (Nat.le_of_ble_eq_true rfl) fl_X9_93 (congrArg Value.int (congrFun (zu_self _ _ _) _)) ?_
        refine z_icmp_ge (tgt := 153) dX9_age_141 (by decide) (fun c_6 => ?_) (fun c_6 => ?_)
        · refine z_aloadr_n dX9_age_153 rfl ?_
          refine z_get (ci := 9) (r := (RX9, TX9, 38)) (j := 37) (v := .int ((zu (g_ 32) 36 (if ((g_ 56) (((12 : Int32) * l1) + ((g_ 54) (nI i_).toNatClampNeg)).toNatClampNeg) = (1 : Int32) then (if ((g_ 55) (nI i_).toNatClampNeg) ≤ ((g_ 32) 36) then ((g_ 32) 36) else ((g_ 55) (nI i_).toNatClampNeg)) else ((g_ 32) 36))) 37)) dX9_age_154 (Nat.le_of_ble_eq_true rfl) (zN rfl) rfl rfl (Nat.le_of_ble_eq_true rfl) fl_X9_93 (congrArg Value.int (congrFun (zu_self _ _ _) _)) ?_
          refine zz_sub (lv' := [some (.ref 32), some (.int l1), none, some (.int (nI i_)), none]) ⟨rfl, ⟨rfl, ⟨rfl, trivial⟩⟩⟩ ?_
          rw [show (if ((g_ 56) (((12 : Int32) * l1) + ((g_ 54) (nI i_).toNatClampNeg)).toNatClampNeg) = (0 : Int32) then (if ((zu (g_ 32) 36 (if ((g_ 56) (((12 : Int32) * l1) + ((g_ 54) (nI i_).toNatClampNeg)).toNatClampNeg) = (1 : Int32) then (if ((g_ 55) (nI i_).toNatClampNeg) ≤ ((g_ 32) 36) then ((g_ 32) 36) else ((g_ 55) (nI i_).toNatClampNeg)) else ((g_ 32) 36))) 37) ≤ ((g_ 55) (nI i_).toNatClampNeg) then ((zu (g_ 32) 36 (if ((g_ 56) (((12 : Int32) * l1) + ((g_ 54) (nI i_).toNatClampNeg)).toNatClampNeg) = (1 : Int32) then (if ((g_ 55) (nI i_).toNatClampNeg) ≤ ((g_ 32) 36) then ((g_ 32) 36) else ((g_ 55) (nI i_).toNatClampNeg)) else ((g_ 32) 36))) 37) else ((g_ 55) (nI i_).toNatClampNeg)) else ((zu (g_ 32) 36 (if ((g_ 56) (((12 : Int32) * l1) + ((g_ 54) (nI i_).toNatClampNeg)).toNatClampNeg) = (1 : Int32) then (if ((g_ 55) (nI i_).toNatClampNeg) ≤ ((g_ 32) 36) then ((g_ 32) 36) else ((g_ 55) (nI i_).toNatClampNeg)) else ((g_ 32) 36))) 37)) = ((zu (g_ 32) 36 (if ((g_ 56) (((12 : Int32) * l1) + ((g_ 54) (nI i_).toNatClampNeg)).toNatClampNeg) = (1 : Int32) then (if ((g_ 55) (nI i_).toNatClampNeg) ≤ ((g_ 32) 36) then ((g_ 32) 36) else ((g_ 55) (nI i_).toNatClampNeg)) else ((g_ 32) 36))) 37) from ((if_pos c_5).trans (if_pos c_6))] at K_2
          exact K_2
        · refine z_aloadr_n dX9_age_144 rfl ?_
          refine z_get (ci := 9) (r := (RX9, TX9, 38)) (j := 32) (v := .ref 55) dX9_age_145 (Nat.le_of_ble_eq_true rfl) (zN rfl) rfl rfl (Nat.le_of_ble_eq_true rfl) fl_X9_84 rfl ?_
          refine z_iload_n dX9_age_148 rfl ?_
          refine z_iald (v := ((g_ 55) (nI i_).toNatClampNeg)) dX9_age_149 (zN rfl) rfl ((W3_.2.2.2.1 c_5).2.2 c_6) (congrFun (zu_ne _ _ (by decide)) _) ?_
          refine z_goto (tgt := 157) dX9_age_150 (by decide) ?_
          refine zz_sub (lv' := [some (.ref 32), some (.int l1), none, some (.int (nI i_)), none]) ⟨rfl, ⟨rfl, ⟨rfl, trivial⟩⟩⟩ ?_
          rw [show (if ((g_ 56) (((12 : Int32) * l1) + ((g_ 54) (nI i_).toNatClampNeg)).toNatClampNeg) = (0 : Int32) then (if ((zu (g_ 32) 36 (if ((g_ 56) (((12 : Int32) * l1) + ((g_ 54) (nI i_).toNatClampNeg)).toNatClampNeg) = (1 : Int32) then (if ((g_ 55) (nI i_).toNatClampNeg) ≤ ((g_ 32) 36) then ((g_ 32) 36) else ((g_ 55) (nI i_).toNatClampNeg)) else ((g_ 32) 36))) 37) ≤ ((g_ 55) (nI i_).toNatClampNeg) then ((zu (g_ 32) 36 (if ((g_ 56) (((12 : Int32) * l1) + ((g_ 54) (nI i_).toNatClampNeg)).toNatClampNeg) = (1 : Int32) then (if ((g_ 55) (nI i_).toNatClampNeg) ≤ ((g_ 32) 36) then ((g_ 32) 36) else ((g_ 55) (nI i_).toNatClampNeg)) else ((g_ 32) 36))) 37) else ((g_ 55) (nI i_).toNatClampNeg)) else ((zu (g_ 32) 36 (if ((g_ 56) (((12 : Int32) * l1) + ((g_ 54) (nI i_).toNatClampNeg)).toNatClampNeg) = (1 : Int32) then (if ((g_ 55) (nI i_).toNatClampNeg) ≤ ((g_ 32) 36) then ((g_ 32) 36) else ((g_ 55) (nI i_).toNatClampNeg)) else ((g_ 32) 36))) 37)) = ((g_ 55) (nI i_).toNatClampNeg) from ((if_pos c_5).trans (if_neg c_6))] at K_2
          exact K_2
    refine z_icmp_ne (tgt := 118) dX9_age_93 (by decide) (fun c_3 => ?_) (fun c_3 => ?_)
    · refine z_aloadr_n dX9_age_118 rfl ?_
      refine z_get (ci := 9) (r := (RX9, TX9, 38)) (j := 36) (v := .int ((g_ 32) 36)) dX9_age_119 (Nat.le_of_ble_eq_true rfl) (zN rfl) rfl rfl (Nat.le_of_ble_eq_true rfl) fl_X9_90 rfl ?_
      rw [show (if ((g_ 56) (((12 : Int32) * l1) + ((g_ 54) (nI i_).toNatClampNeg)).toNatClampNeg) = (1 : Int32) then (if ((g_ 55) (nI i_).toNatClampNeg) ≤ ((g_ 32) 36) then ((g_ 32) 36) else ((g_ 55) (nI i_).toNatClampNeg)) else ((g_ 32) 36)) = ((g_ 32) 36) from (if_neg c_3)] at K_1
      exact K_1
    · refine z_aloadr_n dX9_age_96 rfl ?_
      refine z_get (ci := 9) (r := (RX9, TX9, 38)) (j := 32) (v := .ref 55) dX9_age_97 (Nat.le_of_ble_eq_true rfl) (zN rfl) rfl rfl (Nat.le_of_ble_eq_true rfl) fl_X9_84 rfl ?_
      refine z_iload_n dX9_age_100 rfl ?_
      refine z_iald (v := ((g_ 55) (nI i_).toNatClampNeg)) dX9_age_101 (zN rfl) rfl ((W3_.2.2.1.1 c_3).1) rfl ?_
      refine z_aloadr_n dX9_age_102 rfl ?_
      refine z_get (ci := 9) (r := (RX9, TX9, 38)) (j := 36) (v := .int ((g_ 32) 36)) dX9_age_103 (Nat.le_of_ble_eq_true rfl) (zN rfl) rfl rfl (Nat.le_of_ble_eq_true rfl) fl_X9_90 rfl ?_
      refine z_icmp_le (tgt := 118) dX9_age_106 (by decide) (fun c_4 => ?_) (fun c_4 => ?_)
      · refine z_aloadr_n dX9_age_118 rfl ?_
        refine z_get (ci := 9) (r := (RX9, TX9, 38)) (j := 36) (v := .int ((g_ 32) 36)) dX9_age_119 (Nat.le_of_ble_eq_true rfl) (zN rfl) rfl rfl (Nat.le_of_ble_eq_true rfl) fl_X9_90 rfl ?_
        rw [show (if ((g_ 56) (((12 : Int32) * l1) + ((g_ 54) (nI i_).toNatClampNeg)).toNatClampNeg) = (1 : Int32) then (if ((g_ 55) (nI i_).toNatClampNeg) ≤ ((g_ 32) 36) then ((g_ 32) 36) else ((g_ 55) (nI i_).toNatClampNeg)) else ((g_ 32) 36)) = ((g_ 32) 36) from ((if_pos c_3).trans (if_pos c_4))] at K_1
        exact K_1
      · refine z_aloadr_n dX9_age_109 rfl ?_
        refine z_get (ci := 9) (r := (RX9, TX9, 38)) (j := 32) (v := .ref 55) dX9_age_110 (Nat.le_of_ble_eq_true rfl) (zN rfl) rfl rfl (Nat.le_of_ble_eq_true rfl) fl_X9_84 rfl ?_
        refine z_iload_n dX9_age_113 rfl ?_
        refine z_iald (v := ((g_ 55) (nI i_).toNatClampNeg)) dX9_age_114 (zN rfl) rfl ((W3_.2.2.1.1 c_3).2.2 c_4) rfl ?_
        refine z_goto (tgt := 122) dX9_age_115 (by decide) ?_
        rw [show (if ((g_ 56) (((12 : Int32) * l1) + ((g_ 54) (nI i_).toNatClampNeg)).toNatClampNeg) = (1 : Int32) then (if ((g_ 55) (nI i_).toNatClampNeg) ≤ ((g_ 32) 36) then ((g_ 32) 36) else ((g_ 55) (nI i_).toNatClampNeg)) else ((g_ 32) 36)) = ((g_ 55) (nI i_).toNatClampNeg) from ((if_pos c_3).trans (if_neg c_4))] at K_1
        exact K_1
  · have hD_ := hC_ n_ (Nat.le_refl _)
    generalize zfor (fX9_age_63 l1) n_ σ = g_ at W2_ hD_ ⊢
    refine z_iload_n dX9_age_63 rfl ?_
    refine z_aloadr_n dX9_age_64 rfl ?_
    refine z_get (ci := 9) (r := (RX9, TX9, 38)) (j := 33) (v := .int ((g_ 32) 33)) dX9_age_65 (Nat.le_of_ble_eq_true rfl) (zN rfl) rfl rfl (Nat.le_of_ble_eq_true rfl) fl_X9_217 rfl ?_
    refine z_icmp_ge (tgt := 166) dX9_age_68 (by decide) (fun c_ => ?_) (fun c_ => absurd (hD_.mpr (Nat.le_refl _)) c_)
    exact zz_sub (lv' := [some (.ref 32), none, none, none, none]) ⟨rfl, trivial⟩ W2_

theorem dX9_age_0 : decode cX9_age 0 = .ok (.aload_n 0, 1) := by decide +kernel
theorem dX9_age_1 : decode cX9_age 1 = .ok (.iload_n 1, 1) := by decide +kernel
theorem dX9_age_2 : decode cX9_age 2 = .ok (.invokevirtual 137, 3) := by decide +kernel
theorem dX9_age_5 : decode cX9_age 5 = .ok (.ifCond .eq 10, 3) := by decide +kernel
theorem dX9_age_8 : decode cX9_age 8 = .ok (.iload_n 2, 1) := by decide +kernel
theorem dX9_age_9 : decode cX9_age 9 = .ok (.invokestatic 202, 3) := by decide +kernel
theorem dX9_age_12 : decode cX9_age 12 = .ok (.ifCond .ne 5, 3) := by decide +kernel
theorem dX9_age_15 : decode cX9_age 15 = .ok (.iconst (-1), 1) := by decide +kernel
theorem dX9_age_16 : decode cX9_age 16 = .ok (.ireturn, 1) := by decide +kernel
theorem dX9_age_17 : decode cX9_age 17 = .ok (.aload_n 0, 1) := by decide +kernel
theorem dX9_age_18 : decode cX9_age 18 = .ok (.iload_n 2, 1) := by decide +kernel
theorem dX9_age_19 : decode cX9_age 19 = .ok (.invokevirtual 208, 3) := by decide +kernel
theorem dX9_age_22 : decode cX9_age 22 = .ok (.iconst 2, 1) := by decide +kernel
theorem dX9_age_23 : decode cX9_age 23 = .ok (.if_icmp .lt 13, 3) := by decide +kernel
theorem dX9_age_26 : decode cX9_age 26 = .ok (.aload_n 0, 1) := by decide +kernel
theorem dX9_age_27 : decode cX9_age 27 = .ok (.getfield 38, 3) := by decide +kernel
theorem dX9_age_30 : decode cX9_age 30 = .ok (.iload_n 1, 1) := by decide +kernel
theorem dX9_age_31 : decode cX9_age 31 = .ok (.iaload, 1) := by decide +kernel
theorem dX9_age_32 : decode cX9_age 32 = .ok (.iload_n 2, 1) := by decide +kernel
theorem dX9_age_33 : decode cX9_age 33 = .ok (.if_icmp .ne 6, 3) := by decide +kernel
theorem dX9_age_36 : decode cX9_age 36 = .ok (.bipush (-4), 2) := by decide +kernel
theorem dX9_age_38 : decode cX9_age 38 = .ok (.ireturn, 1) := by decide +kernel
theorem dX9_age_39 : decode cX9_age 39 = .ok (.aload_n 0, 1) := by decide +kernel
theorem dX9_age_40 : decode cX9_age 40 = .ok (.iload_n 2, 1) := by decide +kernel
theorem dX9_age_41 : decode cX9_age 41 = .ok (.invokevirtual 220, 3) := by decide +kernel
theorem dX9_age_44 : decode cX9_age 44 = .ok (.aload_n 0, 1) := by decide +kernel
theorem dX9_age_45 : decode cX9_age 45 = .ok (.iload_n 1, 1) := by decide +kernel
theorem dX9_age_46 : decode cX9_age 46 = .ok (.invokevirtual 214, 3) := by decide +kernel
theorem dX9_age_49 : decode cX9_age 49 = .ok (.aload_n 0, 1) := by decide +kernel
theorem dX9_age_50 : decode cX9_age 50 = .ok (.iconst 0, 1) := by decide +kernel
theorem dX9_age_51 : decode cX9_age 51 = .ok (.putfield 90, 3) := by decide +kernel
theorem dX9_age_54 : decode cX9_age 54 = .ok (.aload_n 0, 1) := by decide +kernel
theorem dX9_age_55 : decode cX9_age 55 = .ok (.sipush 10000, 3) := by decide +kernel
theorem dX9_age_58 : decode cX9_age 58 = .ok (.putfield 93, 3) := by decide +kernel
theorem dX9_age_61 : decode cX9_age 61 = .ok (.iconst 0, 1) := by decide +kernel
theorem dX9_age_62 : decode cX9_age 62 = .ok (.istore_n 3, 1) := by decide +kernel
theorem dX9_age_174 : decode cX9_age 174 = .ok (.if_icmp .ge 7, 3) := by decide +kernel
theorem dX9_age_182 : decode cX9_age 182 = .ok (.ireturn, 1) := by decide +kernel
noncomputable def vX9_age_2 (a1 : Int32) (a2 : Int32) (σ : zc_N) : zc_N := (zfor (fX9_age_63 a1) (((((zu (sX9_ask (sX9_findFlaws σ a2) a1) 32 (zu (zu ((sX9_ask (sX9_findFlaws σ a2) a1) 32) 36 (0 : Int32)) 37 (10000 : Int32))) 32) 33)).toNatClampNeg) (zu (sX9_ask (sX9_findFlaws σ a2) a1) 32 (zu (zu ((sX9_ask (sX9_findFlaws σ a2) a1) 32) 36 (0 : Int32)) 37 (10000 : Int32))))
def pX9_age (σ : zc_N) (a1 : Int32) (a2 : Int32) : Prop := (((rX9_isPrint σ a1) = (0 : Int32) → True) ∧ (¬ (rX9_isPrint σ a1) = (0 : Int32) → (((rX9_isTool a2) = (0 : Int32) → True) ∧ (¬ (rX9_isTool a2) = (0 : Int32) → ((pX9_keptBy σ a2) ∧ (((rX9_keptBy σ a2) < (2 : Int32) → True) ∧ (¬ (rX9_keptBy σ a2) < (2 : Int32) → (vp_in a1 24 ∧ ((((σ 42) a1.toNatClampNeg) = a2 → True) ∧ (¬ ((σ 42) a1.toNatClampNeg) = a2 → ((pX9_findFlaws σ a2) ∧ ((pX9_ask (sX9_findFlaws σ a2) a1) ∧ ((∀ i63_ : Nat, i63_ ≤ (((((zu (sX9_ask (sX9_findFlaws σ a2) a1) 32 (zu (zu ((sX9_ask (sX9_findFlaws σ a2) a1) 32) 36 (0 : Int32)) 37 (10000 : Int32))) 32) 33)).toNatClampNeg) → ((((zfor (fX9_age_63 a1) i63_ (zu (sX9_ask (sX9_findFlaws σ a2) a1) 32 (zu (zu ((sX9_ask (sX9_findFlaws σ a2) a1) 32) 36 (0 : Int32)) 37 (10000 : Int32)))) 32) 33) ≤ (nI i63_) ↔ (((((zu (sX9_ask (sX9_findFlaws σ a2) a1) 32 (zu (zu ((sX9_ask (sX9_findFlaws σ a2) a1) 32) 36 (0 : Int32)) 37 (10000 : Int32))) 32) 33)).toNatClampNeg) ≤ i63_)) ∧ (∀ i63_ : Nat, i63_ < (((((zu (sX9_ask (sX9_findFlaws σ a2) a1) 32 (zu (zu ((sX9_ask (sX9_findFlaws σ a2) a1) 32) 36 (0 : Int32)) 37 (10000 : Int32))) 32) 33)).toNatClampNeg) → qX9_age_63 a1 i63_ (zfor (fX9_age_63 a1) i63_ (zu (sX9_ask (sX9_findFlaws σ a2) a1) 32 (zu (zu ((sX9_ask (sX9_findFlaws σ a2) a1) 32) 36 (0 : Int32)) 37 (10000 : Int32))))))))))))))))))
noncomputable def rX9_age (σ : zc_N) (a1 : Int32) (a2 : Int32) : Int32 := (if (rX9_isPrint σ a1) = (0 : Int32) then (-1 : Int32) else (if (rX9_isTool a2) = (0 : Int32) then (-1 : Int32) else (if (rX9_keptBy σ a2) < (2 : Int32) then (-4 : Int32) else (if ((σ 42) a1.toNatClampNeg) = a2 then (-4 : Int32) else (if (((vX9_age_2 a1 a2 σ) 32) 37) ≤ (((vX9_age_2 a1 a2 σ) 32) 36) then (0 : Int32) else (1 : Int32))))))
noncomputable def sX9_age (σ : zc_N) (a1 : Int32) (a2 : Int32) : zc_N := (if (rX9_isPrint σ a1) = (0 : Int32) then σ else (if (rX9_isTool a2) = (0 : Int32) then σ else (if (rX9_keptBy σ a2) < (2 : Int32) then σ else (if ((σ 42) a1.toNatClampNeg) = a2 then σ else (vX9_age_2 a1 a2 σ)))))
set_option maxHeartbeats 1000000 in
theorem ctX9_age (P : zp) (σ : zc_N) (a1 : Int32) (a2 : Int32) (W_ : (pX9_age σ a1 a2)) : sp mX9_age 20 0 0 [.ref 32, .int a1, .int a2] (hh P σ) (fun r_ h_ => r_ = some (.int (rX9_age σ a1 a2)) ∧ h_ = hh P (sX9_age σ a1 a2)) := by
  refine sp_of (lv := [some (.ref 32), some (.int a1), some (.int a2), none, none]) (by decide) (zcats_ok _ rfl) (Nat.le_of_ble_eq_true rfl) (zlv_ok _ 2 rfl) (fun G => ?_)
  generalize hQ_ : (fun (r_ : Option Value) (h_ : zc_H) => r_ = some (.int (rX9_age σ a1 a2)) ∧ h_ = hh P (sX9_age σ a1 a2)) = Q_
  unfold pX9_age at W_
  refine z_aloadr_n dX9_age_0 rfl ?_
  refine z_iload_n dX9_age_1 rfl ?_
  refine z_callV (ci := 9) (r := (RX9, TX9, 38)) (b := 32) (As := [.int a1]) (rest := []) (ctX9_isPrint P σ a1) dX9_age_2 lk_X9_137 lv_X9_isPrint (Nat.le_of_ble_eq_true rfl) (zN rfl) rfl rfl rfl rfl (Nat.le_of_ble_eq_true rfl) (Nat.le_of_ble_eq_true rfl) (Nat.le_of_ble_eq_true rfl) (Nat.le_of_ble_eq_true rfl) (fun r_ h_ e_ => ?_)
  obtain ⟨e1_, e2_⟩ := e_
  subst e1_
  subst e2_
  show zz G mX9_age 20 0 0 Q_ 5 [some (.ref 32), some (.int a1), some (.int a2), none, none] [.int (rX9_isPrint σ a1)] (hh P σ) 0 0
  refine z_if_eq (tgt := 15) dX9_age_5 (by decide) (fun c_1 => ?_) (fun c_1 => ?_)
  · refine z_iconst dX9_age_15 k_iconst_m1 ?_
    exact z_ireturn dX9_age_16 rfl rfl (Nat.le_of_ble_eq_true rfl) (Nat.le_of_ble_eq_true rfl) (by rw [← hQ_]; exact ⟨(by rw [rX9_age]; try simp only [if_pos c_1]), (by rw [sX9_age]; try simp only [if_pos c_1])⟩)
  · refine z_iload_n dX9_age_8 rfl ?_
    refine z_callS (As := [.int a2]) (rest := []) (ctX9_isTool P σ a2) dX9_age_9 lk_X9_202 ls_X9_isTool rfl (Nat.le_of_ble_eq_true rfl) (Nat.le_of_ble_eq_true rfl) (Nat.le_of_ble_eq_true rfl) (Nat.le_of_ble_eq_true rfl) (fun r_ h_ e_ => ?_)
    obtain ⟨e1_, e2_⟩ := e_
    subst e1_
    subst e2_
    show zz G mX9_age 20 0 0 Q_ 12 [some (.ref 32), some (.int a1), some (.int a2), none, none] [.int (rX9_isTool a2)] (hh P σ) 0 0
    refine z_if_ne (tgt := 17) dX9_age_12 (by decide) (fun c_2 => ?_) (fun c_2 => ?_)
    · refine z_aloadr_n dX9_age_17 rfl ?_
      refine z_iload_n dX9_age_18 rfl ?_
      refine z_callV (ci := 9) (r := (RX9, TX9, 38)) (b := 32) (As := [.int a2]) (rest := []) (ctX9_keptBy P σ a2 (((W_.2 c_1).2 c_2).1)) dX9_age_19 lk_X9_208 lv_X9_keptBy (Nat.le_of_ble_eq_true rfl) (zN rfl) rfl rfl rfl rfl (Nat.le_of_ble_eq_true rfl) (Nat.le_of_ble_eq_true rfl) (Nat.le_of_ble_eq_true rfl) (Nat.le_of_ble_eq_true rfl) (fun r_ h_ e_ => ?_)
      obtain ⟨e1_, e2_⟩ := e_
      subst e1_
      subst e2_
      show zz G mX9_age 20 0 0 Q_ 22 [some (.ref 32), some (.int a1), some (.int a2), none, none] [.int (rX9_keptBy σ a2)] (hh P σ) 0 0
      refine z_iconst dX9_age_22 k_iconst_2 ?_
      refine z_icmp_lt (tgt := 36) dX9_age_23 (by decide) (fun c_3 => ?_) (fun c_3 => ?_)
      · refine z_bipush dX9_age_36 k_bipush_m4 ?_
        exact z_ireturn dX9_age_38 rfl rfl (Nat.le_of_ble_eq_true rfl) (Nat.le_of_ble_eq_true rfl) (by rw [← hQ_]; exact ⟨(by rw [rX9_age]; try simp only [if_neg c_1, if_neg c_2, if_pos c_3]), (by rw [sX9_age]; try simp only [if_neg c_1, if_neg c_2, if_pos c_3])⟩)
      · refine z_aloadr_n dX9_age_26 rfl ?_
        refine z_get (ci := 9) (r := (RX9, TX9, 38)) (j := 9) (v := .ref 42) dX9_age_27 (Nat.le_of_ble_eq_true rfl) (zN rfl) rfl rfl (Nat.le_of_ble_eq_true rfl) fl_X9_38 rfl ?_
        refine z_iload_n dX9_age_30 rfl ?_
        refine z_iald (v := ((σ 42) a1.toNatClampNeg)) dX9_age_31 (zN rfl) rfl ((((W_.2 c_1).2 c_2).2.2 c_3).1) rfl ?_
        refine z_iload_n dX9_age_32 rfl ?_
        refine z_icmp_ne (tgt := 39) dX9_age_33 (by decide) (fun c_4 => ?_) (fun c_4 => ?_)
        · refine z_aloadr_n dX9_age_39 rfl ?_
          refine z_iload_n dX9_age_40 rfl ?_
          refine z_callV (ci := 9) (r := (RX9, TX9, 38)) (b := 32) (As := [.int a2]) (rest := []) (ctX9_findFlaws P σ a2 (((((W_.2 c_1).2 c_2).2.2 c_3).2.2 c_4).1)) dX9_age_41 lk_X9_220 lv_X9_findFlaws (Nat.le_of_ble_eq_true rfl) (zN rfl) rfl rfl rfl rfl (Nat.le_of_ble_eq_true rfl) (Nat.le_of_ble_eq_true rfl) (Nat.le_of_ble_eq_true rfl) (Nat.le_of_ble_eq_true rfl) (fun r_ h_ e_ => ?_)
          obtain ⟨e1_, e2_⟩ := e_
          subst e1_
          subst e2_
          show zz G mX9_age 20 0 0 Q_ 44 [some (.ref 32), some (.int a1), some (.int a2), none, none] [] (hh P (sX9_findFlaws σ a2)) 0 0
          refine z_aloadr_n dX9_age_44 rfl ?_
          refine z_iload_n dX9_age_45 rfl ?_
          refine z_callV (ci := 9) (r := (RX9, TX9, 38)) (b := 32) (As := [.int a1]) (rest := []) (ctX9_ask P (sX9_findFlaws σ a2) a1 (((((W_.2 c_1).2 c_2).2.2 c_3).2.2 c_4).2.1)) dX9_age_46 lk_X9_214 lv_X9_ask (Nat.le_of_ble_eq_true rfl) (zN rfl) rfl rfl rfl rfl (Nat.le_of_ble_eq_true rfl) (Nat.le_of_ble_eq_true rfl) (Nat.le_of_ble_eq_true rfl) (Nat.le_of_ble_eq_true rfl) (fun r_ h_ e_ => ?_)
          obtain ⟨e1_, e2_⟩ := e_
          subst e1_
          subst e2_
          show zz G mX9_age 20 0 0 Q_ 49 [some (.ref 32), some (.int a1), some (.int a2), none, none] [] (hh P (sX9_ask (sX9_findFlaws σ a2) a1)) 0 0
          refine z_aloadr_n dX9_age_49 rfl ?_
          refine z_iconst dX9_age_50 k_iconst_0 ?_
          refine z_put (ci := 9) (r := (RX9, TX9, 38)) (j := 36) (σ' := (zu (sX9_ask (sX9_findFlaws σ a2) a1) 32 (zu ((sX9_ask (sX9_findFlaws σ a2) a1) 32) 36 (0 : Int32)))) dX9_age_51 (Nat.le_of_ble_eq_true rfl) (zN rfl) rfl rfl (Nat.le_of_ble_eq_true rfl) fl_X9_90 rfl rfl rfl rfl rfl ?_
          refine z_aloadr_n dX9_age_54 rfl ?_
          refine z_sipush dX9_age_55 k_sipush_10000 ?_
          refine z_put (ci := 9) (r := (RX9, TX9, 38)) (j := 37) (σ' := (zu (sX9_ask (sX9_findFlaws σ a2) a1) 32 (zu (zu ((sX9_ask (sX9_findFlaws σ a2) a1) 32) 36 (0 : Int32)) 37 (10000 : Int32)))) dX9_age_58 (Nat.le_of_ble_eq_true rfl) (zN rfl) rfl rfl (Nat.le_of_ble_eq_true rfl) fl_X9_93 rfl rfl rfl rfl ((congrArg (fun g_ => zu _ _ (zu g_ _ _)) (zu_self _ _ _)).trans (zu_zu _ _ _ _)) ?_
          refine z_iconst dX9_age_61 k_iconst_0 ?_
          refine z_istore_n (lv' := [some (.ref 32), some (.int a1), some (.int a2), some (.int (0 : Int32)), none]) dX9_age_62 (Nat.le_of_ble_eq_true rfl) rfl ?_
          refine zz_sub (lv' := [some (.ref 32), some (.int a1), none, some (.int (0 : Int32)), none]) ⟨rfl, ⟨rfl, ⟨rfl, trivial⟩⟩⟩ ?_
          refine lpX9_age_63 P (zu (sX9_ask (sX9_findFlaws σ a2) a1) 32 (zu (zu ((sX9_ask (sX9_findFlaws σ a2) a1) 32) 36 (0 : Int32)) 37 (10000 : Int32))) a1 (((((zu (sX9_ask (sX9_findFlaws σ a2) a1) 32 (zu (zu ((sX9_ask (sX9_findFlaws σ a2) a1) 32) 36 (0 : Int32)) 37 (10000 : Int32))) 32) 33)).toNatClampNeg) (((((W_.2 c_1).2 c_2).2.2 c_3).2.2 c_4).2.2).1 (((((W_.2 c_1).2 c_2).2.2 c_3).2.2 c_4).2.2).2 ?_
          show zz G mX9_age 20 0 0 Q_ 166 [some (.ref 32), none, none, none, none] [] (hh P (vX9_age_2 a1 a2 σ)) 0 0
          refine z_aloadr_n dX9_age_166 rfl ?_
          refine z_get (ci := 9) (r := (RX9, TX9, 38)) (j := 36) (v := .int (((vX9_age_2 a1 a2 σ) 32) 36)) dX9_age_167 (Nat.le_of_ble_eq_true rfl) (zN rfl) rfl rfl (Nat.le_of_ble_eq_true rfl) fl_X9_90 rfl ?_
          refine z_aloadr_n dX9_age_170 rfl ?_
          refine z_get (ci := 9) (r := (RX9, TX9, 38)) (j := 37) (v := .int (((vX9_age_2 a1 a2 σ) 32) 37)) dX9_age_171 (Nat.le_of_ble_eq_true rfl) (zN rfl) rfl rfl (Nat.le_of_ble_eq_true rfl) fl_X9_93 rfl ?_
          have K_1 : zz G mX9_age 20 0 0 Q_ 182 [none, none, none, none, none] [.int (if (((vX9_age_2 a1 a2 σ) 32) 37) ≤ (((vX9_age_2 a1 a2 σ) 32) 36) then (0 : Int32) else (1 : Int32))] (hh P (vX9_age_2 a1 a2 σ)) 0 0 := by
            exact z_ireturn dX9_age_182 rfl rfl (Nat.le_of_ble_eq_true rfl) (Nat.le_of_ble_eq_true rfl) (by rw [← hQ_]; exact ⟨(by rw [rX9_age]; try simp only [if_neg c_1, if_neg c_2, if_neg c_3, if_neg c_4]), (by rw [sX9_age]; try simp only [if_neg c_1, if_neg c_2, if_neg c_3, if_neg c_4])⟩)
          refine z_icmp_ge (tgt := 181) dX9_age_174 (by decide) (fun c_5 => ?_) (fun c_5 => ?_)
          · refine z_iconst dX9_age_181 k_iconst_0 ?_
            refine zz_sub (lv' := [none, none, none, none, none]) trivial ?_
            rw [show (if (((vX9_age_2 a1 a2 σ) 32) 37) ≤ (((vX9_age_2 a1 a2 σ) 32) 36) then (0 : Int32) else (1 : Int32)) = (0 : Int32) from (if_pos c_5)] at K_1
            exact K_1
          · refine z_iconst dX9_age_177 k_iconst_1 ?_
            refine z_goto (tgt := 182) dX9_age_178 (by decide) ?_
            refine zz_sub (lv' := [none, none, none, none, none]) trivial ?_
            rw [show (if (((vX9_age_2 a1 a2 σ) 32) 37) ≤ (((vX9_age_2 a1 a2 σ) 32) 36) then (0 : Int32) else (1 : Int32)) = (1 : Int32) from (if_neg c_5)] at K_1
            exact K_1
        · refine z_bipush dX9_age_36 k_bipush_m4 ?_
          exact z_ireturn dX9_age_38 rfl rfl (Nat.le_of_ble_eq_true rfl) (Nat.le_of_ble_eq_true rfl) (by rw [← hQ_]; exact ⟨(by rw [rX9_age]; try simp only [if_neg c_1, if_neg c_2, if_neg c_3, if_pos c_4]), (by rw [sX9_age]; try simp only [if_neg c_1, if_neg c_2, if_neg c_3, if_pos c_4])⟩)
    · refine z_iconst dX9_age_15 k_iconst_m1 ?_
      exact z_ireturn dX9_age_16 rfl rfl (Nat.le_of_ble_eq_true rfl) (Nat.le_of_ble_eq_true rfl) (by rw [← hQ_]; exact ⟨(by rw [rX9_age]; try simp only [if_neg c_1, if_pos c_2]), (by rw [sX9_age]; try simp only [if_neg c_1, if_pos c_2])⟩)

theorem dX9_count_39 : decode cX9_count 39 = .ok (.iload_n 3, 1) := by decide +kernel
theorem dX9_count_40 : decode cX9_count 40 = .ok (.bipush 10, 2) := by decide +kernel
theorem dX9_count_42 : decode cX9_count 42 = .ok (.if_icmp .ge 25, 3) := by decide +kernel
theorem dX9_count_45 : decode cX9_count 45 = .ok (.iload_n 2, 1) := by decide +kernel
theorem dX9_count_46 : decode cX9_count 46 = .ok (.aload_n 0, 1) := by decide +kernel
theorem dX9_count_47 : decode cX9_count 47 = .ok (.iload_n 3, 1) := by decide +kernel
theorem dX9_count_48 : decode cX9_count 48 = .ok (.invokevirtual 208, 3) := by decide +kernel
theorem dX9_count_51 : decode cX9_count 51 = .ok (.ifCond .le 7, 3) := by decide +kernel
theorem dX9_count_54 : decode cX9_count 54 = .ok (.iconst 1, 1) := by decide +kernel
theorem dX9_count_55 : decode cX9_count 55 = .ok (.goto 4, 3) := by decide +kernel
theorem dX9_count_58 : decode cX9_count 58 = .ok (.iconst 0, 1) := by decide +kernel
theorem dX9_count_59 : decode cX9_count 59 = .ok (.iadd, 1) := by decide +kernel
theorem dX9_count_60 : decode cX9_count 60 = .ok (.istore_n 2, 1) := by decide +kernel
theorem dX9_count_61 : decode cX9_count 61 = .ok (.iinc 3 1, 3) := by decide +kernel
theorem dX9_count_64 : decode cX9_count 64 = .ok (.goto (-25), 3) := by decide +kernel
theorem dX9_count_67 : decode cX9_count 67 = .ok (.iload_n 2, 1) := by decide +kernel
noncomputable def fX9_count_39 (σ : zc_N) (i_ : Nat) (a_ : Int32) : Int32 := (a_ + (if (rX9_keptBy σ (nI i_)) ≤ (0 : Int32) then (0 : Int32) else (1 : Int32)))
def qX9_count_39 (σ : zc_N) (i_ : Nat) (a_ : Int32) : Prop := (pX9_keptBy σ (nI i_))
set_option maxHeartbeats 2000000 in
theorem lpX9_count_39 {G : zc_G} {Q : Option Value → zc_H → Prop} (P : zp) (σ : zc_N) (l2 : Int32) (W1_ : ∀ i39_ : Nat, i39_ < 10 → qX9_count_39 σ i39_ (zfor (fX9_count_39 σ) i39_ l2))
    (W2_ : zz G mX9_count 3 0 0 Q 67 [none, none, some (.int (zfor (fX9_count_39 σ) 10 l2)), none] [] (hh P σ) 0 0) :
    zz G mX9_count 3 0 0 Q 39 [some (.ref 32), none, some (.int l2), some (.int (nI 0))] [] (hh P σ) 0 0 := by
  refine zfor_nI (fun i_ a_ => zz G mX9_count 3 0 0 Q 39 [some (.ref 32), none, some (.int a_), some (.int i_)] [] (hh P σ) 0 0) (fX9_count_39 σ) 10 l2 (fun i_ hi_ k_ => ?_) ?_
  · have W3_ := W1_ i_ hi_
    generalize zfor (fX9_count_39 σ) i_ l2 = g_ at k_ W3_ ⊢
    rw [fX9_count_39] at k_
    rw [qX9_count_39] at W3_
    try dsimp only at W3_
    refine z_iload_n dX9_count_39 rfl ?_
    refine z_bipush dX9_count_40 k_bipush_10 ?_
    refine z_icmp_ge (tgt := 67) dX9_count_42 (by decide) (fun c_ => absurd c_ (nI_ge hi_ (by decide))) (fun c_ => ?_)
    refine z_iload_n dX9_count_45 rfl ?_
    refine z_aloadr_n dX9_count_46 rfl ?_
    refine z_iload_n dX9_count_47 rfl ?_
    refine z_callV (ci := 9) (r := (RX9, TX9, 38)) (b := 32) (As := [.int (nI i_)]) (rest := [.int g_]) (ctX9_keptBy P σ (nI i_) W3_) dX9_count_48 lk_X9_208 lv_X9_keptBy (Nat.le_of_ble_eq_true rfl) (zN rfl) rfl rfl rfl rfl (Nat.le_of_ble_eq_true rfl) (Nat.le_of_ble_eq_true rfl) (Nat.le_of_ble_eq_true rfl) (Nat.le_of_ble_eq_true rfl) (fun r_ h_ e_ => ?_)
    obtain ⟨e1_, e2_⟩ := e_
    subst e1_
    subst e2_
    show zz G mX9_count 3 0 0 Q 51 [some (.ref 32), none, some (.int g_), some (.int (nI i_))] [.int (rX9_keptBy σ (nI i_)), .int g_] (hh P σ) 0 0
    have K_1 : zz G mX9_count 3 0 0 Q 59 [some (.ref 32), none, none, some (.int (nI i_))] [.int (if (rX9_keptBy σ (nI i_)) ≤ (0 : Int32) then (0 : Int32) else (1 : Int32)), .int g_] (hh P σ) 0 0 := by
      refine z_iadd (v := (g_ + (if (rX9_keptBy σ (nI i_)) ≤ (0 : Int32) then (0 : Int32) else (1 : Int32)))) dX9_count_59 rfl ?_
      refine z_istore_n (lv' := [some (.ref 32), none, some (.int (g_ + (if (rX9_keptBy σ (nI i_)) ≤ (0 : Int32) then (0 : Int32) else (1 : Int32)))), some (.int (nI i_))]) dX9_count_60 (Nat.le_of_ble_eq_true rfl) rfl ?_
      refine z_iinc (v := ((nI i_) + (1 : Int32))) (lv' := [some (.ref 32), none, some (.int (g_ + (if (rX9_keptBy σ (nI i_)) ≤ (0 : Int32) then (0 : Int32) else (1 : Int32)))), some (.int ((nI i_) + (1 : Int32)))]) dX9_count_61 (Nat.le_of_ble_eq_true rfl) rfl (by rw [k_iconst_1]) rfl ?_
      refine z_goto (tgt := 39) dX9_count_64 (by decide) ?_
      rw [nI_1]
      exact k_
    refine z_if_le (tgt := 58) dX9_count_51 (by decide) (fun c_2 => ?_) (fun c_2 => ?_)
    · refine z_iconst dX9_count_58 k_iconst_0 ?_
      refine zz_sub (lv' := [some (.ref 32), none, none, some (.int (nI i_))]) ⟨rfl, ⟨rfl, trivial⟩⟩ ?_
      rw [show (if (rX9_keptBy σ (nI i_)) ≤ (0 : Int32) then (0 : Int32) else (1 : Int32)) = (0 : Int32) from (if_pos c_2)] at K_1
      exact K_1
    · refine z_iconst dX9_count_54 k_iconst_1 ?_
      refine z_goto (tgt := 59) dX9_count_55 (by decide) ?_
      refine zz_sub (lv' := [some (.ref 32), none, none, some (.int (nI i_))]) ⟨rfl, ⟨rfl, trivial⟩⟩ ?_
      rw [show (if (rX9_keptBy σ (nI i_)) ≤ (0 : Int32) then (0 : Int32) else (1 : Int32)) = (1 : Int32) from (if_neg c_2)] at K_1
      exact K_1
  · generalize zfor (fX9_count_39 σ) 10 l2 = g_ at W2_ ⊢
    refine z_iload_n dX9_count_39 rfl ?_
    refine z_bipush dX9_count_40 k_bipush_10 ?_
    refine z_icmp_ge (tgt := 67) dX9_count_42 (by decide) (fun c_ => ?_) (fun c_ => absurd (by decide) c_)
    exact zz_sub (lv' := [none, none, some (.int g_), none]) ⟨rfl, trivial⟩ W2_

theorem dX9_count_0 : decode cX9_count 0 = .ok (.iconst 0, 1) := by decide +kernel
theorem dX9_count_1 : decode cX9_count 1 = .ok (.istore_n 2, 1) := by decide +kernel
theorem dX9_count_2 : decode cX9_count 2 = .ok (.iload_n 1, 1) := by decide +kernel
theorem dX9_count_3 : decode cX9_count 3 = .ok (.tableswitch 76 0 3 #[29, 34, 66, 71], 29) := by decide +kernel
theorem dX9_count_32 : decode cX9_count 32 = .ok (.aload_n 0, 1) := by decide +kernel
theorem dX9_count_33 : decode cX9_count 33 = .ok (.getfield 131, 3) := by decide +kernel
theorem dX9_count_36 : decode cX9_count 36 = .ok (.ireturn, 1) := by decide +kernel
theorem dX9_count_37 : decode cX9_count 37 = .ok (.iconst 0, 1) := by decide +kernel
theorem dX9_count_38 : decode cX9_count 38 = .ok (.istore_n 3, 1) := by decide +kernel
theorem dX9_count_68 : decode cX9_count 68 = .ok (.ireturn, 1) := by decide +kernel
theorem dX9_count_69 : decode cX9_count 69 = .ok (.aload_n 0, 1) := by decide +kernel
theorem dX9_count_70 : decode cX9_count 70 = .ok (.invokevirtual 101, 3) := by decide +kernel
theorem dX9_count_73 : decode cX9_count 73 = .ok (.ireturn, 1) := by decide +kernel
theorem dX9_count_74 : decode cX9_count 74 = .ok (.aload_n 0, 1) := by decide +kernel
theorem dX9_count_75 : decode cX9_count 75 = .ok (.invokevirtual 134, 3) := by decide +kernel
theorem dX9_count_78 : decode cX9_count 78 = .ok (.ireturn, 1) := by decide +kernel
theorem dX9_count_79 : decode cX9_count 79 = .ok (.iconst (-1), 1) := by decide +kernel
theorem dX9_count_80 : decode cX9_count 80 = .ok (.ireturn, 1) := by decide +kernel
def pX9_count (σ : zc_N) (a1 : Int32) : Prop := ((a1 = (0 : Int32) → True) ∧ ((a1 = (1 : Int32) → (∀ i39_ : Nat, i39_ < 10 → qX9_count_39 σ i39_ (zfor (fX9_count_39 σ) i39_ (0 : Int32)))) ∧ ((a1 = (2 : Int32) → True) ∧ ((a1 = (3 : Int32) → (pX9_findPoints σ)) ∧ (¬ a1 = (0 : Int32) → ¬ a1 = (1 : Int32) → ¬ a1 = (2 : Int32) → ¬ a1 = (3 : Int32) → True)))))
noncomputable def rX9_count (σ : zc_N) (a1 : Int32) : Int32 := (if a1 = (0 : Int32) then ((σ 32) 11) else (if a1 = (1 : Int32) then (zfor (fX9_count_39 σ) 10 (0 : Int32)) else (if a1 = (2 : Int32) then (rX9_darkMany σ) else (if a1 = (3 : Int32) then (rX9_findPoints σ) else (-1 : Int32)))))
noncomputable def sX9_count (σ : zc_N) (a1 : Int32) : zc_N := (if a1 = (0 : Int32) then σ else (if a1 = (1 : Int32) then σ else (if a1 = (2 : Int32) then σ else (if a1 = (3 : Int32) then (sX9_findPoints σ) else σ))))
set_option maxHeartbeats 1000000 in
theorem ctX9_count (P : zp) (σ : zc_N) (a1 : Int32) (W_ : (pX9_count σ a1)) : sp mX9_count 3 0 0 [.ref 32, .int a1] (hh P σ) (fun r_ h_ => r_ = some (.int (rX9_count σ a1)) ∧ h_ = hh P (sX9_count σ a1)) := by
  refine sp_of (lv := [some (.ref 32), some (.int a1), none, none]) (by decide) (zcats_ok _ rfl) (Nat.le_of_ble_eq_true rfl) (zlv_ok _ 2 rfl) (fun G => ?_)
  generalize hQ_ : (fun (r_ : Option Value) (h_ : zc_H) => r_ = some (.int (rX9_count σ a1)) ∧ h_ = hh P (sX9_count σ a1)) = Q_
  unfold pX9_count at W_
  refine z_iconst dX9_count_0 k_iconst_0 ?_
  refine z_istore_n (lv' := [some (.ref 32), some (.int a1), some (.int (0 : Int32)), none]) dX9_count_1 (Nat.le_of_ble_eq_true rfl) rfl ?_
  refine z_iload_n dX9_count_2 rfl ?_
  by_cases c_1 : a1 = (0 : Int32)
  · refine z_tin (off := 29) (tgt := 32) dX9_count_3 (by rw [c_1]; decide) (by rw [c_1]; decide) (by rw [c_1]; decide) (by decide) ?_
    refine z_aloadr_n dX9_count_32 rfl ?_
    refine z_get (ci := 9) (r := (RX9, TX9, 38)) (j := 11) (v := .int ((σ 32) 11)) dX9_count_33 (Nat.le_of_ble_eq_true rfl) (zN rfl) rfl rfl (Nat.le_of_ble_eq_true rfl) fl_X9_131 rfl ?_
    exact z_ireturn dX9_count_36 rfl rfl (Nat.le_of_ble_eq_true rfl) (Nat.le_of_ble_eq_true rfl) (by rw [← hQ_]; exact ⟨(by rw [rX9_count]; try simp only [if_pos c_1]), (by rw [sX9_count]; try simp only [if_pos c_1])⟩)
  ·
    by_cases c_2 : a1 = (1 : Int32)
    · refine z_tin (off := 34) (tgt := 37) dX9_count_3 (by rw [c_2]; decide) (by rw [c_2]; decide) (by rw [c_2]; decide) (by decide) ?_
      refine z_iconst dX9_count_37 k_iconst_0 ?_
      refine z_istore_n (lv' := [some (.ref 32), some (.int a1), some (.int (0 : Int32)), some (.int (0 : Int32))]) dX9_count_38 (Nat.le_of_ble_eq_true rfl) rfl ?_
      refine zz_sub (lv' := [some (.ref 32), none, some (.int (0 : Int32)), some (.int (0 : Int32))]) ⟨rfl, ⟨rfl, ⟨rfl, trivial⟩⟩⟩ ?_
      refine lpX9_count_39 P σ (0 : Int32) (W_.2.1 c_2) ?_
      show zz G mX9_count 3 0 0 Q_ 67 [none, none, some (.int (zfor (fX9_count_39 σ) 10 (0 : Int32))), none] [] (hh P σ) 0 0
      refine z_iload_n dX9_count_67 rfl ?_
      exact z_ireturn dX9_count_68 rfl rfl (Nat.le_of_ble_eq_true rfl) (Nat.le_of_ble_eq_true rfl) (by rw [← hQ_]; exact ⟨(by rw [rX9_count]; try simp only [if_neg c_1, if_pos c_2]), (by rw [sX9_count]; try simp only [if_neg c_1, if_pos c_2])⟩)
    ·
      by_cases c_3 : a1 = (2 : Int32)
      · refine z_tin (off := 66) (tgt := 69) dX9_count_3 (by rw [c_3]; decide) (by rw [c_3]; decide) (by rw [c_3]; decide) (by decide) ?_
        refine z_aloadr_n dX9_count_69 rfl ?_
        refine z_callV (ci := 9) (r := (RX9, TX9, 38)) (b := 32) (As := []) (rest := []) (ctX9_darkMany P σ) dX9_count_70 lk_X9_101 lv_X9_darkMany (Nat.le_of_ble_eq_true rfl) (zN rfl) rfl rfl rfl rfl (Nat.le_of_ble_eq_true rfl) (Nat.le_of_ble_eq_true rfl) (Nat.le_of_ble_eq_true rfl) (Nat.le_of_ble_eq_true rfl) (fun r_ h_ e_ => ?_)
        obtain ⟨e1_, e2_⟩ := e_
        subst e1_
        subst e2_
        show zz G mX9_count 3 0 0 Q_ 73 [some (.ref 32), some (.int a1), some (.int (0 : Int32)), none] [.int (rX9_darkMany σ)] (hh P σ) 0 0
        exact z_ireturn dX9_count_73 rfl rfl (Nat.le_of_ble_eq_true rfl) (Nat.le_of_ble_eq_true rfl) (by rw [← hQ_]; exact ⟨(by rw [rX9_count]; try simp only [if_neg c_1, if_neg c_2, if_pos c_3]), (by rw [sX9_count]; try simp only [if_neg c_1, if_neg c_2, if_pos c_3])⟩)
      ·
        by_cases c_4 : a1 = (3 : Int32)
        · refine z_tin (off := 71) (tgt := 74) dX9_count_3 (by rw [c_4]; decide) (by rw [c_4]; decide) (by rw [c_4]; decide) (by decide) ?_
          refine z_aloadr_n dX9_count_74 rfl ?_
          refine z_callV (ci := 9) (r := (RX9, TX9, 38)) (b := 32) (As := []) (rest := []) (ctX9_findPoints P σ (W_.2.2.2.1 c_4)) dX9_count_75 lk_X9_134 lv_X9_findPoints (Nat.le_of_ble_eq_true rfl) (zN rfl) rfl rfl rfl rfl (Nat.le_of_ble_eq_true rfl) (Nat.le_of_ble_eq_true rfl) (Nat.le_of_ble_eq_true rfl) (Nat.le_of_ble_eq_true rfl) (fun r_ h_ e_ => ?_)
          obtain ⟨e1_, e2_⟩ := e_
          subst e1_
          subst e2_
          show zz G mX9_count 3 0 0 Q_ 78 [some (.ref 32), some (.int a1), some (.int (0 : Int32)), none] [.int (rX9_findPoints σ)] (hh P (sX9_findPoints σ)) 0 0
          exact z_ireturn dX9_count_78 rfl rfl (Nat.le_of_ble_eq_true rfl) (Nat.le_of_ble_eq_true rfl) (by rw [← hQ_]; exact ⟨(by rw [rX9_count]; try simp only [if_neg c_1, if_neg c_2, if_neg c_3, if_pos c_4]), (by rw [sX9_count]; try simp only [if_neg c_1, if_neg c_2, if_neg c_3, if_pos c_4])⟩)
        ·
          refine z_tout (tgt := 79) dX9_count_3 (z_tab4 c_1 c_2 c_3 c_4) (by decide) ?_
          refine z_iconst dX9_count_79 k_iconst_m1 ?_
          exact z_ireturn dX9_count_80 rfl rfl (Nat.le_of_ble_eq_true rfl) (Nat.le_of_ble_eq_true rfl) (by rw [← hQ_]; exact ⟨(by rw [rX9_count]; try simp only [if_neg c_1, if_neg c_2, if_neg c_3, if_neg c_4]), (by rw [sX9_count]; try simp only [if_neg c_1, if_neg c_2, if_neg c_3, if_neg c_4])⟩)
