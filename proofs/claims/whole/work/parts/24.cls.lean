/-! ===== printed by wip/whole/p24.py: matching and pieces, in the class ===== -/
theorem z_look2 {x : Int32} {a b d : Int} (h0 : ¬ x = 0) (h1 : ¬ x = 1) : Op.lookupswitch.offset (#[(0, a), (1, b)] : Array (Int × Int)).toList d x.toInt = d := by
  have e0 : x.toInt ≠ 0 := z_nz h0
  have e1 : x.toInt ≠ 1 := z_nz h1
  show (if (0 : Int) = x.toInt then a else if (1 : Int) = x.toInt then b else d) = d
  rw [if_neg (fun e => e0 e.symm), if_neg (fun e => e1 e.symm)]
theorem z_tab7 {x : Int32} (h0 : ¬ x = 0) (h1 : ¬ x = 1) (h2 : ¬ x = 2) (h3 : ¬ x = 3) (h4 : ¬ x = 4) (h5 : ¬ x = 5) (h6 : ¬ x = 6) : x.toInt < 0 ∨ 6 < x.toInt := by
  have e0 : x.toInt ≠ 0 := z_nz h0
  have e1 : x.toInt ≠ 1 := z_nz h1
  have e2 : x.toInt ≠ 2 := z_nz h2
  have e3 : x.toInt ≠ 3 := z_nz h3
  have e4 : x.toInt ≠ 4 := z_nz h4
  have e5 : x.toInt ≠ 5 := z_nz h5
  have e6 : x.toInt ≠ 6 := z_nz h6
  omega

theorem dX5_most_13 : decode cX5_most 13 = .ok (.iload 4, 2) := by decide +kernel
theorem dX5_most_15 : decode cX5_most 15 = .ok (.aload_n 0, 1) := by decide +kernel
theorem dX5_most_16 : decode cX5_most 16 = .ok (.getfield 15, 3) := by decide +kernel
theorem dX5_most_19 : decode cX5_most 19 = .ok (.if_icmp .ge 27, 3) := by decide +kernel
theorem dX5_most_22 : decode cX5_most 22 = .ok (.aload_n 0, 1) := by decide +kernel
theorem dX5_most_23 : decode cX5_most 23 = .ok (.iload_n 2, 1) := by decide +kernel
theorem dX5_most_24 : decode cX5_most 24 = .ok (.putfield 22, 3) := by decide +kernel
theorem dX5_most_27 : decode cX5_most 27 = .ok (.aload_n 0, 1) := by decide +kernel
theorem dX5_most_28 : decode cX5_most 28 = .ok (.iload 4, 2) := by decide +kernel
theorem dX5_most_30 : decode cX5_most 30 = .ok (.iconst 0, 1) := by decide +kernel
theorem dX5_most_31 : decode cX5_most 31 = .ok (.invokestatic 43, 3) := by decide +kernel
theorem dX5_most_34 : decode cX5_most 34 = .ok (.ifCond .eq 6, 3) := by decide +kernel
theorem dX5_most_37 : decode cX5_most 37 = .ok (.iinc 3 1, 3) := by decide +kernel
theorem dX5_most_40 : decode cX5_most 40 = .ok (.iinc 4 1, 3) := by decide +kernel
theorem dX5_most_43 : decode cX5_most 43 = .ok (.goto (-30), 3) := by decide +kernel
theorem dX5_most_46 : decode cX5_most 46 = .ok (.iload_n 3, 1) := by decide +kernel
noncomputable def fX5_most_13 (l2 : Int32) (s_ : Int32) (i_ : Nat) (a_ : Int32 × zc_N) : Int32 × zc_N := ((if ((zFc 14).1 (zu a_.2 16 (zu (a_.2 16) 3 l2)) (s_ + nI i_) (0 : Int32)) = (0 : Int32) then a_.1 else (a_.1 + (1 : Int32))), ((zFc 14).2.1 (zu a_.2 16 (zu (a_.2 16) 3 l2)) (s_ + nI i_) (0 : Int32)))
def qX5_most_13 (l2 : Int32) (s_ : Int32) (i_ : Nat) (a_ : Int32 × zc_N) : Prop := (zFc 14).2.2 (zu a_.2 16 (zu (a_.2 16) 3 l2)) (s_ + nI i_) (0 : Int32)
set_option maxHeartbeats 2000000 in
theorem lpX5_most_13 {G : zc_G} {Q : Option Value → zc_H → Prop} (P : zp) (σ : zc_N) (l2 : Int32) (l3 : Int32) (s_ : Int32) (n_ : Nat) (hC_ : ∀ i13_ : Nat, i13_ ≤ n_ → ((((zfor (fX5_most_13 l2 s_) i13_ (l3, σ)).2 16) 1) ≤ (s_ + nI i13_) ↔ n_ ≤ i13_)) (W1_ : ∀ i13_ : Nat, i13_ < n_ → qX5_most_13 l2 s_ i13_ (zfor (fX5_most_13 l2 s_) i13_ (l3, σ)))
    (W2_ : zz G mX5_most 15 0 0 Q 46 [none, none, none, some (.int (zfor (fX5_most_13 l2 s_) n_ (l3, σ)).1), none] [] (hh P (zfor (fX5_most_13 l2 s_) n_ (l3, σ)).2) 0 0) :
    zz G mX5_most 15 0 0 Q 13 [some (.ref 16), none, some (.int l2), some (.int l3), some (.int s_)] [] (hh P σ) 0 0 := by
  refine zfor_sI (fun i_ a_ => zz G mX5_most 15 0 0 Q 13 [some (.ref 16), none, some (.int l2), some (.int a_.1), some (.int i_)] [] (hh P a_.2) 0 0) (fX5_most_13 l2 s_) s_ n_ (l3, σ) (fun i_ hi_ k_ => ?_) ?_
  all_goals try dsimp only
  · have W3_ := W1_ i_ hi_
    have hD_ := hC_ i_ (Nat.le_of_lt hi_)
    generalize zfor (fX5_most_13 l2 s_) i_ (l3, σ) = g_ at k_ W3_ hD_ ⊢
    obtain ⟨x0_, x1_⟩ := g_
    dsimp only at k_ W3_ hD_ ⊢
    rw [fX5_most_13] at k_
    rw [qX5_most_13] at W3_
    try dsimp only at W3_
    dsimp only at k_
    refine z_iload dX5_most_13 rfl ?_
    refine z_aloadr_n dX5_most_15 rfl ?_
    refine z_get (ci := 5) (r := (RX5, TX5, 4)) (j := 1) (v := .int ((x1_ 16) 1)) dX5_most_16 (Nat.le_of_ble_eq_true rfl) (zN rfl) rfl rfl (Nat.le_of_ble_eq_true rfl) fl_X5_15 rfl ?_
    refine z_icmp_ge (tgt := 46) dX5_most_19 (by decide) (fun c_ => absurd c_ (fun q_ => Nat.not_le_of_lt hi_ (hD_.mp q_))) (fun c_ => ?_)
    refine z_aloadr_n dX5_most_22 rfl ?_
    refine z_iload_n dX5_most_23 rfl ?_
    refine z_put (ci := 5) (r := (RX5, TX5, 4)) (j := 3) (σ' := (zu x1_ 16 (zu (x1_ 16) 3 l2))) dX5_most_24 (Nat.le_of_ble_eq_true rfl) (zN rfl) rfl rfl (Nat.le_of_ble_eq_true rfl) fl_X5_22 rfl rfl rfl rfl rfl ?_
    refine z_aloadr_n dX5_most_27 rfl ?_
    refine z_iload dX5_most_28 rfl ?_
    refine z_iconst dX5_most_30 k_iconst_0 ?_
    refine z_callS (As := [.ref 16, .int (s_ + nI i_), .int (0 : Int32)]) (rest := []) (czFc P 14 (zu x1_ 16 (zu (x1_ 16) 3 l2)) (s_ + nI i_) (0 : Int32) W3_) dX5_most_31 lk_X5_43 ls_X5_finds rfl (Nat.le_of_ble_eq_true rfl) (Nat.le_of_ble_eq_true rfl) (Nat.le_of_ble_eq_true rfl) (Nat.le_of_ble_eq_true rfl) (fun r_ h_ e_ => ?_)
    obtain ⟨e1_, e2_⟩ := e_
    subst e1_
    subst e2_
    show zz G mX5_most 15 0 0 Q 34 [some (.ref 16), none, some (.int l2), some (.int x0_), some (.int (s_ + nI i_))] [.int ((zFc 14).1 (zu x1_ 16 (zu (x1_ 16) 3 l2)) (s_ + nI i_) (0 : Int32))] (hh P ((zFc 14).2.1 (zu x1_ 16 (zu (x1_ 16) 3 l2)) (s_ + nI i_) (0 : Int32))) 0 0
    have K_1 : zz G mX5_most 15 0 0 Q 40 [some (.ref 16), none, some (.int l2), some (.int (if ((zFc 14).1 (zu x1_ 16 (zu (x1_ 16) 3 l2)) (s_ + nI i_) (0 : Int32)) = (0 : Int32) then x0_ else (x0_ + (1 : Int32)))), some (.int (s_ + nI i_))] [] (hh P ((zFc 14).2.1 (zu x1_ 16 (zu (x1_ 16) 3 l2)) (s_ + nI i_) (0 : Int32))) 0 0 := by
      refine z_iinc (v := ((s_ + nI i_) + (1 : Int32))) (lv' := [some (.ref 16), none, some (.int l2), some (.int (if ((zFc 14).1 (zu x1_ 16 (zu (x1_ 16) 3 l2)) (s_ + nI i_) (0 : Int32)) = (0 : Int32) then x0_ else (x0_ + (1 : Int32)))), some (.int ((s_ + nI i_) + (1 : Int32)))]) dX5_most_40 (Nat.le_of_ble_eq_true rfl) rfl (by rw [k_iconst_1]) rfl ?_
      refine z_goto (tgt := 13) dX5_most_43 (by decide) ?_
      rw [nS_1]
      exact k_
    refine z_if_eq (tgt := 40) dX5_most_34 (by decide) (fun c_2 => ?_) (fun c_2 => ?_)
    · rw [show (if ((zFc 14).1 (zu x1_ 16 (zu (x1_ 16) 3 l2)) (s_ + nI i_) (0 : Int32)) = (0 : Int32) then x0_ else (x0_ + (1 : Int32))) = x0_ from (if_pos c_2)] at K_1
      exact K_1
    · refine z_iinc (v := (x0_ + (1 : Int32))) (lv' := [some (.ref 16), none, some (.int l2), some (.int (x0_ + (1 : Int32))), some (.int (s_ + nI i_))]) dX5_most_37 (Nat.le_of_ble_eq_true rfl) rfl (by rw [k_iconst_1]) rfl ?_
      rw [show (if ((zFc 14).1 (zu x1_ 16 (zu (x1_ 16) 3 l2)) (s_ + nI i_) (0 : Int32)) = (0 : Int32) then x0_ else (x0_ + (1 : Int32))) = (x0_ + (1 : Int32)) from (if_neg c_2)] at K_1
      exact K_1
  · have hD_ := hC_ n_ (Nat.le_refl _)
    generalize zfor (fX5_most_13 l2 s_) n_ (l3, σ) = g_ at W2_ hD_ ⊢
    obtain ⟨x0_, x1_⟩ := g_
    dsimp only at W2_ hD_ ⊢
    refine z_iload dX5_most_13 rfl ?_
    refine z_aloadr_n dX5_most_15 rfl ?_
    refine z_get (ci := 5) (r := (RX5, TX5, 4)) (j := 1) (v := .int ((x1_ 16) 1)) dX5_most_16 (Nat.le_of_ble_eq_true rfl) (zN rfl) rfl rfl (Nat.le_of_ble_eq_true rfl) fl_X5_15 rfl ?_
    refine z_icmp_ge (tgt := 46) dX5_most_19 (by decide) (fun c_ => ?_) (fun c_ => absurd (hD_.mpr (Nat.le_refl _)) c_)
    exact zz_sub (lv' := [none, none, none, some (.int x0_), none]) ⟨rfl, trivial⟩ W2_

theorem dX5_most_0 : decode cX5_most 0 = .ok (.aload_n 0, 1) := by decide +kernel
theorem dX5_most_1 : decode cX5_most 1 = .ok (.getfield 19, 3) := by decide +kernel
theorem dX5_most_4 : decode cX5_most 4 = .ok (.iconst (-1), 1) := by decide +kernel
theorem dX5_most_5 : decode cX5_most 5 = .ok (.invokestatic 37, 3) := by decide +kernel
theorem dX5_most_8 : decode cX5_most 8 = .ok (.iconst 0, 1) := by decide +kernel
theorem dX5_most_9 : decode cX5_most 9 = .ok (.istore_n 3, 1) := by decide +kernel
theorem dX5_most_10 : decode cX5_most 10 = .ok (.iload_n 1, 1) := by decide +kernel
theorem dX5_most_11 : decode cX5_most 11 = .ok (.istore 4, 2) := by decide +kernel
theorem dX5_most_47 : decode cX5_most 47 = .ok (.ireturn, 1) := by decide +kernel
noncomputable def vX5_most_1 (a1 : Int32) (a2 : Int32) (σ : zc_N) : zc_N := (zfor (fX5_most_13 a2 a1) (((((sJ7_fill_53178_18 σ (-1 : Int32)) 16) 1) - a1).toNatClampNeg) ((0 : Int32), (sJ7_fill_53178_18 σ (-1 : Int32)))).2
noncomputable def vX5_most_2 (a1 : Int32) (a2 : Int32) (σ : zc_N) : Int32 := (zfor (fX5_most_13 a2 a1) (((((sJ7_fill_53178_18 σ (-1 : Int32)) 16) 1) - a1).toNatClampNeg) ((0 : Int32), (sJ7_fill_53178_18 σ (-1 : Int32)))).1
def pX5_most (σ : zc_N) (a1 : Int32) (a2 : Int32) : Prop := ((pJ7_fill_53178_18 σ (-1 : Int32)) ∧ ((∀ i13_ : Nat, i13_ ≤ (((((sJ7_fill_53178_18 σ (-1 : Int32)) 16) 1) - a1).toNatClampNeg) → ((((zfor (fX5_most_13 a2 a1) i13_ ((0 : Int32), (sJ7_fill_53178_18 σ (-1 : Int32)))).2 16) 1) ≤ (a1 + nI i13_) ↔ (((((sJ7_fill_53178_18 σ (-1 : Int32)) 16) 1) - a1).toNatClampNeg) ≤ i13_)) ∧ (∀ i13_ : Nat, i13_ < (((((sJ7_fill_53178_18 σ (-1 : Int32)) 16) 1) - a1).toNatClampNeg) → qX5_most_13 a2 a1 i13_ (zfor (fX5_most_13 a2 a1) i13_ ((0 : Int32), (sJ7_fill_53178_18 σ (-1 : Int32)))))))
noncomputable def rX5_most (σ : zc_N) (a1 : Int32) (a2 : Int32) : Int32 := (vX5_most_2 a1 a2 σ)
noncomputable def sX5_most (σ : zc_N) (a1 : Int32) (a2 : Int32) : zc_N := (vX5_most_1 a1 a2 σ)
set_option maxHeartbeats 1000000 in
theorem ctX5_most (P : zp) (σ : zc_N) (a1 : Int32) (a2 : Int32) (W_ : (pX5_most σ a1 a2)) : sp mX5_most 15 0 0 [.ref 16, .int a1, .int a2] (hh P σ) (fun r_ h_ => r_ = some (.int (rX5_most σ a1 a2)) ∧ h_ = hh P (sX5_most σ a1 a2)) := by
  refine sp_of (lv := [some (.ref 16), some (.int a1), some (.int a2), none, none]) (by decide) (zcats_ok _ rfl) (Nat.le_of_ble_eq_true rfl) (zlv_ok _ 2 rfl) (fun G => ?_)
  generalize hQ_ : (fun (r_ : Option Value) (h_ : zc_H) => r_ = some (.int (rX5_most σ a1 a2)) ∧ h_ = hh P (sX5_most σ a1 a2)) = Q_
  unfold pX5_most at W_
  refine z_aloadr_n dX5_most_0 rfl ?_
  refine z_get (ci := 5) (r := (RX5, TX5, 4)) (j := 2) (v := .ref 18) dX5_most_1 (Nat.le_of_ble_eq_true rfl) (zN rfl) rfl rfl (Nat.le_of_ble_eq_true rfl) fl_X5_19 rfl ?_
  refine z_iconst dX5_most_4 k_iconst_m1 ?_
  refine z_callS (As := [.ref 18, .int (-1 : Int32)]) (rest := []) (ctJ7_fill_53178_18 P σ (-1 : Int32) W_.1) dX5_most_5 lk_X5_37 ls_J7_fill_53178 rfl (Nat.le_of_ble_eq_true rfl) (Nat.le_of_ble_eq_true rfl) (Nat.le_of_ble_eq_true rfl) (Nat.le_of_ble_eq_true rfl) (fun r_ h_ e_ => ?_)
  obtain ⟨e1_, e2_⟩ := e_
  subst e1_
  subst e2_
  show zz G mX5_most 15 0 0 Q_ 8 [some (.ref 16), some (.int a1), some (.int a2), none, none] [] (hh P (sJ7_fill_53178_18 σ (-1 : Int32))) 0 0
  refine z_iconst dX5_most_8 k_iconst_0 ?_
  refine z_istore_n (lv' := [some (.ref 16), some (.int a1), some (.int a2), some (.int (0 : Int32)), none]) dX5_most_9 (Nat.le_of_ble_eq_true rfl) rfl ?_
  refine z_iload_n dX5_most_10 rfl ?_
  refine z_istore (lv' := [some (.ref 16), some (.int a1), some (.int a2), some (.int (0 : Int32)), some (.int a1)]) dX5_most_11 (Nat.le_of_ble_eq_true rfl) rfl ?_
  refine zz_sub (lv' := [some (.ref 16), none, some (.int a2), some (.int (0 : Int32)), some (.int a1)]) ⟨rfl, ⟨rfl, ⟨rfl, ⟨rfl, trivial⟩⟩⟩⟩ ?_
  refine lpX5_most_13 P (sJ7_fill_53178_18 σ (-1 : Int32)) a2 (0 : Int32) a1 (((((sJ7_fill_53178_18 σ (-1 : Int32)) 16) 1) - a1).toNatClampNeg) W_.2.1 W_.2.2 ?_
  show zz G mX5_most 15 0 0 Q_ 46 [none, none, none, some (.int (vX5_most_2 a1 a2 σ)), none] [] (hh P (vX5_most_1 a1 a2 σ)) 0 0
  refine z_iload_n dX5_most_46 rfl ?_
  exact z_ireturn dX5_most_47 rfl rfl (Nat.le_of_ble_eq_true rfl) (Nat.le_of_ble_eq_true rfl) (by rw [← hQ_]; exact ⟨(by rw [rX5_most]), (by rw [sX5_most])⟩)

theorem dX5_choose_30 : decode cX5_choose 30 = .ok (.iload 7, 2) := by decide +kernel
theorem dX5_choose_32 : decode cX5_choose 32 = .ok (.bipush 12, 2) := by decide +kernel
theorem dX5_choose_34 : decode cX5_choose 34 = .ok (.if_icmp .ge 82, 3) := by decide +kernel
theorem dX5_choose_37 : decode cX5_choose 37 = .ok (.aload_n 2, 1) := by decide +kernel
theorem dX5_choose_38 : decode cX5_choose 38 = .ok (.iload 6, 2) := by decide +kernel
theorem dX5_choose_40 : decode cX5_choose 40 = .ok (.iaload, 1) := by decide +kernel
theorem dX5_choose_41 : decode cX5_choose 41 = .ok (.iconst (-1), 1) := by decide +kernel
theorem dX5_choose_42 : decode cX5_choose 42 = .ok (.if_icmp .ne 74, 3) := by decide +kernel
theorem dX5_choose_45 : decode cX5_choose 45 = .ok (.iload_n 3, 1) := by decide +kernel
theorem dX5_choose_46 : decode cX5_choose 46 = .ok (.iconst 1, 1) := by decide +kernel
theorem dX5_choose_47 : decode cX5_choose 47 = .ok (.iload 7, 2) := by decide +kernel
theorem dX5_choose_49 : decode cX5_choose 49 = .ok (.ishl, 1) := by decide +kernel
theorem dX5_choose_50 : decode cX5_choose 50 = .ok (.iconst (-1), 1) := by decide +kernel
theorem dX5_choose_51 : decode cX5_choose 51 = .ok (.ixor, 1) := by decide +kernel
theorem dX5_choose_52 : decode cX5_choose 52 = .ok (.iand, 1) := by decide +kernel
theorem dX5_choose_53 : decode cX5_choose 53 = .ok (.istore 8, 2) := by decide +kernel
theorem dX5_choose_55 : decode cX5_choose 55 = .ok (.aload_n 0, 1) := by decide +kernel
theorem dX5_choose_56 : decode cX5_choose 56 = .ok (.getfield 9, 3) := by decide +kernel
theorem dX5_choose_59 : decode cX5_choose 59 = .ok (.iload 6, 2) := by decide +kernel
theorem dX5_choose_61 : decode cX5_choose 61 = .ok (.iaload, 1) := by decide +kernel
theorem dX5_choose_62 : decode cX5_choose 62 = .ok (.iload_n 3, 1) := by decide +kernel
theorem dX5_choose_63 : decode cX5_choose 63 = .ok (.iand, 1) := by decide +kernel
theorem dX5_choose_64 : decode cX5_choose 64 = .ok (.iload 8, 2) := by decide +kernel
theorem dX5_choose_66 : decode cX5_choose 66 = .ok (.iconst (-1), 1) := by decide +kernel
theorem dX5_choose_67 : decode cX5_choose 67 = .ok (.ixor, 1) := by decide +kernel
theorem dX5_choose_68 : decode cX5_choose 68 = .ok (.iand, 1) := by decide +kernel
theorem dX5_choose_69 : decode cX5_choose 69 = .ok (.ifCond .eq 41, 3) := by decide +kernel
theorem dX5_choose_72 : decode cX5_choose 72 = .ok (.aload_n 0, 1) := by decide +kernel
theorem dX5_choose_73 : decode cX5_choose 73 = .ok (.iload 6, 2) := by decide +kernel
theorem dX5_choose_75 : decode cX5_choose 75 = .ok (.iconst 1, 1) := by decide +kernel
theorem dX5_choose_76 : decode cX5_choose 76 = .ok (.iadd, 1) := by decide +kernel
theorem dX5_choose_77 : decode cX5_choose 77 = .ok (.iload 8, 2) := by decide +kernel
theorem dX5_choose_79 : decode cX5_choose 79 = .ok (.invokevirtual 47, 3) := by decide +kernel
theorem dX5_choose_82 : decode cX5_choose 82 = .ok (.iload 4, 2) := by decide +kernel
theorem dX5_choose_84 : decode cX5_choose 84 = .ok (.iconst 1, 1) := by decide +kernel
theorem dX5_choose_85 : decode cX5_choose 85 = .ok (.isub, 1) := by decide +kernel
theorem dX5_choose_86 : decode cX5_choose 86 = .ok (.if_icmp .ne 24, 3) := by decide +kernel
theorem dX5_choose_89 : decode cX5_choose 89 = .ok (.aload_n 2, 1) := by decide +kernel
theorem dX5_choose_90 : decode cX5_choose 90 = .ok (.iload 6, 2) := by decide +kernel
theorem dX5_choose_92 : decode cX5_choose 92 = .ok (.iload 7, 2) := by decide +kernel
theorem dX5_choose_94 : decode cX5_choose 94 = .ok (.iastore, 1) := by decide +kernel
theorem dX5_choose_95 : decode cX5_choose 95 = .ok (.iload 5, 2) := by decide +kernel
theorem dX5_choose_97 : decode cX5_choose 97 = .ok (.iconst 1, 1) := by decide +kernel
theorem dX5_choose_98 : decode cX5_choose 98 = .ok (.iload 6, 2) := by decide +kernel
theorem dX5_choose_100 : decode cX5_choose 100 = .ok (.ishl, 1) := by decide +kernel
theorem dX5_choose_101 : decode cX5_choose 101 = .ok (.ior, 1) := by decide +kernel
theorem dX5_choose_102 : decode cX5_choose 102 = .ok (.istore 5, 2) := by decide +kernel
theorem dX5_choose_104 : decode cX5_choose 104 = .ok (.iload 8, 2) := by decide +kernel
theorem dX5_choose_106 : decode cX5_choose 106 = .ok (.istore_n 3, 1) := by decide +kernel
theorem dX5_choose_107 : decode cX5_choose 107 = .ok (.iinc 4 (-1), 3) := by decide +kernel
theorem dX5_choose_110 : decode cX5_choose 110 = .ok (.iinc 7 1, 3) := by decide +kernel
theorem dX5_choose_113 : decode cX5_choose 113 = .ok (.goto (-83), 3) := by decide +kernel
theorem dX5_choose_116 : decode cX5_choose 116 = .ok (.iinc 6 1, 3) := by decide +kernel
theorem dX5_choose_119 : decode cX5_choose 119 = .ok (.goto (-101), 3) := by decide +kernel
noncomputable def fX5_choose_l_30 (l6 : Int32) (a_ : Int32 × Int32 × Int32 × Int32 × zc_N) : Int32 × Int32 × Int32 × Int32 × zc_N := ((if ((((a_.2.2.2.2 17) l6.toNatClampNeg) &&& a_.1) &&& ((a_.1 &&& ((zshl (1 : Int32) a_.2.2.2.1) ^^^ (-1 : Int32))) ^^^ (-1 : Int32))) = (0 : Int32) then a_.1 else (if (rX5_most a_.2.2.2.2 (l6 + (1 : Int32)) (a_.1 &&& ((zshl (1 : Int32) a_.2.2.2.1) ^^^ (-1 : Int32)))) = (a_.2.1 - (1 : Int32)) then (a_.1 &&& ((zshl (1 : Int32) a_.2.2.2.1) ^^^ (-1 : Int32))) else a_.1)), (if ((((a_.2.2.2.2 17) l6.toNatClampNeg) &&& a_.1) &&& ((a_.1 &&& ((zshl (1 : Int32) a_.2.2.2.1) ^^^ (-1 : Int32))) ^^^ (-1 : Int32))) = (0 : Int32) then a_.2.1 else (if (rX5_most a_.2.2.2.2 (l6 + (1 : Int32)) (a_.1 &&& ((zshl (1 : Int32) a_.2.2.2.1) ^^^ (-1 : Int32)))) = (a_.2.1 - (1 : Int32)) then (a_.2.1 + (-1 : Int32)) else a_.2.1)), (if ((((a_.2.2.2.2 17) l6.toNatClampNeg) &&& a_.1) &&& ((a_.1 &&& ((zshl (1 : Int32) a_.2.2.2.1) ^^^ (-1 : Int32))) ^^^ (-1 : Int32))) = (0 : Int32) then a_.2.2.1 else (if (rX5_most a_.2.2.2.2 (l6 + (1 : Int32)) (a_.1 &&& ((zshl (1 : Int32) a_.2.2.2.1) ^^^ (-1 : Int32)))) = (a_.2.1 - (1 : Int32)) then (a_.2.2.1 ||| (zshl (1 : Int32) l6)) else a_.2.2.1)), (a_.2.2.2.1 + (1 : Int32)), (if ((((a_.2.2.2.2 17) l6.toNatClampNeg) &&& a_.1) &&& ((a_.1 &&& ((zshl (1 : Int32) a_.2.2.2.1) ^^^ (-1 : Int32))) ^^^ (-1 : Int32))) = (0 : Int32) then a_.2.2.2.2 else (if (rX5_most a_.2.2.2.2 (l6 + (1 : Int32)) (a_.1 &&& ((zshl (1 : Int32) a_.2.2.2.1) ^^^ (-1 : Int32)))) = (a_.2.1 - (1 : Int32)) then (zu (sX5_most a_.2.2.2.2 (l6 + (1 : Int32)) (a_.1 &&& ((zshl (1 : Int32) a_.2.2.2.1) ^^^ (-1 : Int32)))) 24 (zu ((sX5_most a_.2.2.2.2 (l6 + (1 : Int32)) (a_.1 &&& ((zshl (1 : Int32) a_.2.2.2.1) ^^^ (-1 : Int32)))) 24) l6.toNatClampNeg a_.2.2.2.1)) else (sX5_most a_.2.2.2.2 (l6 + (1 : Int32)) (a_.1 &&& ((zshl (1 : Int32) a_.2.2.2.1) ^^^ (-1 : Int32)))))))
def eX5_choose_l_30 (l6 : Int32) (a_ : Int32 × Int32 × Int32 × Int32 × zc_N) : Prop := (((12 : Int32) ≤ a_.2.2.2.1 ∧ True) ∨ (¬ (12 : Int32) ≤ a_.2.2.2.1 ∧ ((((a_.2.2.2.2 24) l6.toNatClampNeg) = (-1 : Int32) ∧ ((((((a_.2.2.2.2 17) l6.toNatClampNeg) &&& a_.1) &&& ((a_.1 &&& ((zshl (1 : Int32) a_.2.2.2.1) ^^^ (-1 : Int32))) ^^^ (-1 : Int32))) = (0 : Int32) ∧ False) ∨ (¬ ((((a_.2.2.2.2 17) l6.toNatClampNeg) &&& a_.1) &&& ((a_.1 &&& ((zshl (1 : Int32) a_.2.2.2.1) ^^^ (-1 : Int32))) ^^^ (-1 : Int32))) = (0 : Int32) ∧ (((rX5_most a_.2.2.2.2 (l6 + (1 : Int32)) (a_.1 &&& ((zshl (1 : Int32) a_.2.2.2.1) ^^^ (-1 : Int32)))) = (a_.2.1 - (1 : Int32)) ∧ False) ∨ (¬ (rX5_most a_.2.2.2.2 (l6 + (1 : Int32)) (a_.1 &&& ((zshl (1 : Int32) a_.2.2.2.1) ^^^ (-1 : Int32)))) = (a_.2.1 - (1 : Int32)) ∧ False))))) ∨ (¬ ((a_.2.2.2.2 24) l6.toNatClampNeg) = (-1 : Int32) ∧ True))))
def qX5_choose_l_30 (l6 : Int32) (a_ : Int32 × Int32 × Int32 × Int32 × zc_N) : Prop := (((12 : Int32) ≤ a_.2.2.2.1 → True) ∧ (¬ (12 : Int32) ≤ a_.2.2.2.1 → (vp_in l6 12 ∧ ((((a_.2.2.2.2 24) l6.toNatClampNeg) = (-1 : Int32) → (vp_in l6 12 ∧ ((((((a_.2.2.2.2 17) l6.toNatClampNeg) &&& a_.1) &&& ((a_.1 &&& ((zshl (1 : Int32) a_.2.2.2.1) ^^^ (-1 : Int32))) ^^^ (-1 : Int32))) = (0 : Int32) → True) ∧ (¬ ((((a_.2.2.2.2 17) l6.toNatClampNeg) &&& a_.1) &&& ((a_.1 &&& ((zshl (1 : Int32) a_.2.2.2.1) ^^^ (-1 : Int32))) ^^^ (-1 : Int32))) = (0 : Int32) → ((pX5_most a_.2.2.2.2 (l6 + (1 : Int32)) (a_.1 &&& ((zshl (1 : Int32) a_.2.2.2.1) ^^^ (-1 : Int32)))) ∧ (((rX5_most a_.2.2.2.2 (l6 + (1 : Int32)) (a_.1 &&& ((zshl (1 : Int32) a_.2.2.2.1) ^^^ (-1 : Int32)))) = (a_.2.1 - (1 : Int32)) → vp_in l6 12) ∧ (¬ (rX5_most a_.2.2.2.2 (l6 + (1 : Int32)) (a_.1 &&& ((zshl (1 : Int32) a_.2.2.2.1) ^^^ (-1 : Int32)))) = (a_.2.1 - (1 : Int32)) → True))))))) ∧ (¬ ((a_.2.2.2.2 24) l6.toNatClampNeg) = (-1 : Int32) → True)))))
noncomputable def wX5_choose_l_30 (l6 : Int32) (a_ : Int32 × Int32 × Int32 × Int32 × zc_N) : Int32 × Int32 × Int32 × Int32 × zc_N := zit (fX5_choose_l_30 l6) (zwn (fun n_ => (eX5_choose_l_30 l6) (zit (fX5_choose_l_30 l6) n_ a_))) a_
set_option maxHeartbeats 2000000 in
theorem whX5_choose_l_30 {G : zc_G} {Q : Option Value → zc_H → Prop} (P : zp) (σ : zc_N) (l3 : Int32) (l4 : Int32) (l5 : Int32) (l6 : Int32) (l7 : Int32)
    (hT_ : ∃ n_ : Nat, (eX5_choose_l_30 l6) (zit (fX5_choose_l_30 l6) n_ (l3, l4, l5, l7, σ))) (W1_ : ∀ i30_ : Nat, i30_ < (zwn (fun n_ => (eX5_choose_l_30 l6) (zit (fX5_choose_l_30 l6) n_ (l3, l4, l5, l7, σ)))) → qX5_choose_l_30 l6 (zit (fX5_choose_l_30 l6) i30_ (l3, l4, l5, l7, σ)))
    (W2_ : (eX5_choose_l_30 l6) (wX5_choose_l_30 l6 (l3, l4, l5, l7, σ)) → zz G mX5_choose 16 0 0 Q 30 [some (.ref 16), none, some (.ref 24), some (.int (wX5_choose_l_30 l6 (l3, l4, l5, l7, σ)).1), some (.int (wX5_choose_l_30 l6 (l3, l4, l5, l7, σ)).2.1), some (.int (wX5_choose_l_30 l6 (l3, l4, l5, l7, σ)).2.2.1), some (.int l6), some (.int (wX5_choose_l_30 l6 (l3, l4, l5, l7, σ)).2.2.2.1), none] [] (hh P (wX5_choose_l_30 l6 (l3, l4, l5, l7, σ)).2.2.2.2) 0 0) :
    zz G mX5_choose 16 0 0 Q 30 [some (.ref 16), none, some (.ref 24), some (.int l3), some (.int l4), some (.int l5), some (.int l6), some (.int l7), none] [] (hh P σ) 0 0 := by
  unfold wX5_choose_l_30 at W2_
  have hs_ := zwn_spec hT_
  refine zit_Z (fun a_ => zz G mX5_choose 16 0 0 Q 30 [some (.ref 16), none, some (.ref 24), some (.int a_.1), some (.int a_.2.1), some (.int a_.2.2.1), some (.int l6), some (.int a_.2.2.2.1), none] [] (hh P a_.2.2.2.2) 0 0) (fX5_choose_l_30 l6) (zwn (fun n_ => (eX5_choose_l_30 l6) (zit (fX5_choose_l_30 l6) n_ (l3, l4, l5, l7, σ)))) (l3, l4, l5, l7, σ) (fun i_ hi_ k_ => ?_) (W2_ hs_.1)
  have hn_ := hs_.2 i_ hi_
  have W3_ := W1_ i_ hi_
  generalize zit (fX5_choose_l_30 l6) i_ (l3, l4, l5, l7, σ) = g_ at k_ hn_ W3_ ⊢
  obtain ⟨x0_, x1_, x2_, x3_, x4_⟩ := g_
  try dsimp only at k_ hn_ W3_ ⊢
  rw [fX5_choose_l_30] at k_
  rw [eX5_choose_l_30] at hn_
  try dsimp only at k_ hn_
  rw [qX5_choose_l_30] at W3_
  try dsimp only at W3_
  refine z_iload dX5_choose_30 rfl ?_
  refine z_bipush dX5_choose_32 k_bipush_12 ?_
  refine z_icmp_ge (tgt := 116) dX5_choose_34 (by decide) (fun c_1 => ?_) (fun c_1 => ?_)
  · exact absurd (Or.inl ⟨c_1, trivial⟩) hn_
  · refine z_aloadr_n dX5_choose_37 rfl ?_
    refine z_iload dX5_choose_38 rfl ?_
    refine z_iald (v := ((x4_ 24) l6.toNatClampNeg)) dX5_choose_40 (zN rfl) rfl ((W3_.2 c_1).1) rfl ?_
    refine z_iconst dX5_choose_41 k_iconst_m1 ?_
    refine z_icmp_ne (tgt := 116) dX5_choose_42 (by decide) (fun c_2 => ?_) (fun c_2 => ?_)
    · exact absurd (Or.inr ⟨c_1, (Or.inr ⟨c_2, trivial⟩)⟩) hn_
    · refine z_iload_n dX5_choose_45 rfl ?_
      refine z_iconst dX5_choose_46 k_iconst_1 ?_
      refine z_iload dX5_choose_47 rfl ?_
      refine z_ishl (v := (zshl (1 : Int32) x3_)) dX5_choose_49 rfl ?_
      refine z_iconst dX5_choose_50 k_iconst_m1 ?_
      refine z_ixor (v := ((zshl (1 : Int32) x3_) ^^^ (-1 : Int32))) dX5_choose_51 rfl ?_
      refine z_iand (v := (x0_ &&& ((zshl (1 : Int32) x3_) ^^^ (-1 : Int32)))) dX5_choose_52 rfl ?_
      refine z_istore (lv' := [some (.ref 16), none, some (.ref 24), some (.int x0_), some (.int x1_), some (.int x2_), some (.int l6), some (.int x3_), some (.int (x0_ &&& ((zshl (1 : Int32) x3_) ^^^ (-1 : Int32))))]) dX5_choose_53 (Nat.le_of_ble_eq_true rfl) rfl ?_
      refine z_aloadr_n dX5_choose_55 rfl ?_
      refine z_get (ci := 5) (r := (RX5, TX5, 4)) (j := 0) (v := .ref 17) dX5_choose_56 (Nat.le_of_ble_eq_true rfl) (zN rfl) rfl rfl (Nat.le_of_ble_eq_true rfl) fl_X5_9 rfl ?_
      refine z_iload dX5_choose_59 rfl ?_
      refine z_iald (v := ((x4_ 17) l6.toNatClampNeg)) dX5_choose_61 (zN rfl) rfl (((W3_.2 c_1).2.1 c_2).1) rfl ?_
      refine z_iload_n dX5_choose_62 rfl ?_
      refine z_iand (v := (((x4_ 17) l6.toNatClampNeg) &&& x0_)) dX5_choose_63 rfl ?_
      refine z_iload dX5_choose_64 rfl ?_
      refine z_iconst dX5_choose_66 k_iconst_m1 ?_
      refine z_ixor (v := ((x0_ &&& ((zshl (1 : Int32) x3_) ^^^ (-1 : Int32))) ^^^ (-1 : Int32))) dX5_choose_67 rfl ?_
      refine z_iand (v := ((((x4_ 17) l6.toNatClampNeg) &&& x0_) &&& ((x0_ &&& ((zshl (1 : Int32) x3_) ^^^ (-1 : Int32))) ^^^ (-1 : Int32)))) dX5_choose_68 rfl ?_
      refine z_if_eq (tgt := 110) dX5_choose_69 (by decide) (fun c_3 => ?_) (fun c_3 => ?_)
      · refine z_iinc (v := (x3_ + (1 : Int32))) (lv' := [some (.ref 16), none, some (.ref 24), some (.int x0_), some (.int x1_), some (.int x2_), some (.int l6), some (.int (x3_ + (1 : Int32))), some (.int (x0_ &&& ((zshl (1 : Int32) x3_) ^^^ (-1 : Int32))))]) dX5_choose_110 (Nat.le_of_ble_eq_true rfl) rfl (by rw [k_iconst_1]) rfl ?_
        refine z_goto (tgt := 30) dX5_choose_113 (by decide) ?_
        refine zz_sub (lv' := [some (.ref 16), none, some (.ref 24), some (.int x0_), some (.int x1_), some (.int x2_), some (.int l6), some (.int (x3_ + (1 : Int32))), none]) ⟨rfl, ⟨rfl, ⟨rfl, ⟨rfl, ⟨rfl, ⟨rfl, ⟨rfl, trivial⟩⟩⟩⟩⟩⟩⟩ ?_
        simpa only [if_neg c_1, if_pos c_2, if_pos c_3] using k_
      · refine z_aloadr_n dX5_choose_72 rfl ?_
        refine z_iload dX5_choose_73 rfl ?_
        refine z_iconst dX5_choose_75 k_iconst_1 ?_
        refine z_iadd (v := (l6 + (1 : Int32))) dX5_choose_76 rfl ?_
        refine z_iload dX5_choose_77 rfl ?_
        refine z_callV (ci := 5) (r := (RX5, TX5, 4)) (b := 16) (As := [.int (l6 + (1 : Int32)), .int (x0_ &&& ((zshl (1 : Int32) x3_) ^^^ (-1 : Int32)))]) (rest := []) (ctX5_most P x4_ (l6 + (1 : Int32)) (x0_ &&& ((zshl (1 : Int32) x3_) ^^^ (-1 : Int32))) ((((W3_.2 c_1).2.1 c_2).2.2 c_3).1)) dX5_choose_79 lk_X5_47 lv_X5_most (Nat.le_of_ble_eq_true rfl) (zN rfl) rfl rfl rfl rfl (Nat.le_of_ble_eq_true rfl) (Nat.le_of_ble_eq_true rfl) (Nat.le_of_ble_eq_true rfl) (Nat.le_of_ble_eq_true rfl) (fun r_ h_ e_ => ?_)
        obtain ⟨e1_, e2_⟩ := e_
        subst e1_
        subst e2_
        show zz G mX5_choose 16 0 0 Q 82 [some (.ref 16), none, some (.ref 24), some (.int x0_), some (.int x1_), some (.int x2_), some (.int l6), some (.int x3_), some (.int (x0_ &&& ((zshl (1 : Int32) x3_) ^^^ (-1 : Int32))))] [.int (rX5_most x4_ (l6 + (1 : Int32)) (x0_ &&& ((zshl (1 : Int32) x3_) ^^^ (-1 : Int32))))] (hh P (sX5_most x4_ (l6 + (1 : Int32)) (x0_ &&& ((zshl (1 : Int32) x3_) ^^^ (-1 : Int32))))) 0 0
        refine z_iload dX5_choose_82 rfl ?_
        refine z_iconst dX5_choose_84 k_iconst_1 ?_
        refine z_isub (v := (x1_ - (1 : Int32))) dX5_choose_85 rfl ?_
        refine z_icmp_ne (tgt := 110) dX5_choose_86 (by decide) (fun c_4 => ?_) (fun c_4 => ?_)
        · refine z_iinc (v := (x3_ + (1 : Int32))) (lv' := [some (.ref 16), none, some (.ref 24), some (.int x0_), some (.int x1_), some (.int x2_), some (.int l6), some (.int (x3_ + (1 : Int32))), some (.int (x0_ &&& ((zshl (1 : Int32) x3_) ^^^ (-1 : Int32))))]) dX5_choose_110 (Nat.le_of_ble_eq_true rfl) rfl (by rw [k_iconst_1]) rfl ?_
          refine z_goto (tgt := 30) dX5_choose_113 (by decide) ?_
          refine zz_sub (lv' := [some (.ref 16), none, some (.ref 24), some (.int x0_), some (.int x1_), some (.int x2_), some (.int l6), some (.int (x3_ + (1 : Int32))), none]) ⟨rfl, ⟨rfl, ⟨rfl, ⟨rfl, ⟨rfl, ⟨rfl, ⟨rfl, trivial⟩⟩⟩⟩⟩⟩⟩ ?_
          simpa only [if_neg c_1, if_pos c_2, if_neg c_3, if_neg c_4] using k_
        · refine z_aloadr_n dX5_choose_89 rfl ?_
          refine z_iload dX5_choose_90 rfl ?_
          refine z_iload dX5_choose_92 rfl ?_
          refine z_iast (σ' := (zu (sX5_most x4_ (l6 + (1 : Int32)) (x0_ &&& ((zshl (1 : Int32) x3_) ^^^ (-1 : Int32)))) 24 (zu ((sX5_most x4_ (l6 + (1 : Int32)) (x0_ &&& ((zshl (1 : Int32) x3_) ^^^ (-1 : Int32)))) 24) l6.toNatClampNeg x3_))) dX5_choose_94 (Nat.le_of_ble_eq_true rfl) (zN rfl) rfl ((((W3_.2 c_1).2.1 c_2).2.2 c_3).2.1 c_4) rfl ?_
          refine z_iload dX5_choose_95 rfl ?_
          refine z_iconst dX5_choose_97 k_iconst_1 ?_
          refine z_iload dX5_choose_98 rfl ?_
          refine z_ishl (v := (zshl (1 : Int32) l6)) dX5_choose_100 rfl ?_
          refine z_ior (v := (x2_ ||| (zshl (1 : Int32) l6))) dX5_choose_101 rfl ?_
          refine z_istore (lv' := [some (.ref 16), none, some (.ref 24), some (.int x0_), some (.int x1_), some (.int (x2_ ||| (zshl (1 : Int32) l6))), some (.int l6), some (.int x3_), some (.int (x0_ &&& ((zshl (1 : Int32) x3_) ^^^ (-1 : Int32))))]) dX5_choose_102 (Nat.le_of_ble_eq_true rfl) rfl ?_
          refine z_iload dX5_choose_104 rfl ?_
          refine z_istore_n (lv' := [some (.ref 16), none, some (.ref 24), some (.int (x0_ &&& ((zshl (1 : Int32) x3_) ^^^ (-1 : Int32)))), some (.int x1_), some (.int (x2_ ||| (zshl (1 : Int32) l6))), some (.int l6), some (.int x3_), some (.int (x0_ &&& ((zshl (1 : Int32) x3_) ^^^ (-1 : Int32))))]) dX5_choose_106 (Nat.le_of_ble_eq_true rfl) rfl ?_
          refine z_iinc (v := (x1_ + (-1 : Int32))) (lv' := [some (.ref 16), none, some (.ref 24), some (.int (x0_ &&& ((zshl (1 : Int32) x3_) ^^^ (-1 : Int32)))), some (.int (x1_ + (-1 : Int32))), some (.int (x2_ ||| (zshl (1 : Int32) l6))), some (.int l6), some (.int x3_), some (.int (x0_ &&& ((zshl (1 : Int32) x3_) ^^^ (-1 : Int32))))]) dX5_choose_107 (Nat.le_of_ble_eq_true rfl) rfl (by rw [k_iconst_m1]) rfl ?_
          refine z_iinc (v := (x3_ + (1 : Int32))) (lv' := [some (.ref 16), none, some (.ref 24), some (.int (x0_ &&& ((zshl (1 : Int32) x3_) ^^^ (-1 : Int32)))), some (.int (x1_ + (-1 : Int32))), some (.int (x2_ ||| (zshl (1 : Int32) l6))), some (.int l6), some (.int (x3_ + (1 : Int32))), some (.int (x0_ &&& ((zshl (1 : Int32) x3_) ^^^ (-1 : Int32))))]) dX5_choose_110 (Nat.le_of_ble_eq_true rfl) rfl (by rw [k_iconst_1]) rfl ?_
          refine z_goto (tgt := 30) dX5_choose_113 (by decide) ?_
          refine zz_sub (lv' := [some (.ref 16), none, some (.ref 24), some (.int (x0_ &&& ((zshl (1 : Int32) x3_) ^^^ (-1 : Int32)))), some (.int (x1_ + (-1 : Int32))), some (.int (x2_ ||| (zshl (1 : Int32) l6))), some (.int l6), some (.int (x3_ + (1 : Int32))), none]) ⟨rfl, ⟨rfl, ⟨rfl, ⟨rfl, ⟨rfl, ⟨rfl, ⟨rfl, trivial⟩⟩⟩⟩⟩⟩⟩ ?_
          simpa only [if_neg c_1, if_pos c_2, if_neg c_3, if_pos c_4] using k_

theorem dX5_choose_18 : decode cX5_choose 18 = .ok (.iload 6, 2) := by decide +kernel
theorem dX5_choose_20 : decode cX5_choose 20 = .ok (.aload_n 0, 1) := by decide +kernel
theorem dX5_choose_21 : decode cX5_choose 21 = .ok (.getfield 15, 3) := by decide +kernel
theorem dX5_choose_24 : decode cX5_choose 24 = .ok (.if_icmp .ge 98, 3) := by decide +kernel
theorem dX5_choose_27 : decode cX5_choose 27 = .ok (.iconst 0, 1) := by decide +kernel
theorem dX5_choose_28 : decode cX5_choose 28 = .ok (.istore 7, 2) := by decide +kernel
theorem dX5_choose_122 : decode cX5_choose 122 = .ok (.iload 5, 2) := by decide +kernel
noncomputable def vX5_choose_l_1 (l3 : Int32) (l4 : Int32) (l5 : Int32) (l6 : Int32) (σ : zc_N) : Int32 := ((wX5_choose_l_30 l6 (l3, l4, l5, (0 : Int32), σ)).1 &&& ((zshl (1 : Int32) (wX5_choose_l_30 l6 (l3, l4, l5, (0 : Int32), σ)).2.2.2.1) ^^^ (-1 : Int32)))
noncomputable def vX5_choose_l_2 (l3 : Int32) (l4 : Int32) (l5 : Int32) (l6 : Int32) (σ : zc_N) : zc_N := (sX5_most ((wX5_choose_l_30 l6 (l3, l4, l5, (0 : Int32), σ)).2.2.2.2) (l6 + (1 : Int32)) (vX5_choose_l_1 l3 l4 l5 l6 σ))
noncomputable def fX5_choose_l_18 (i_ : Nat) (a_ : Int32 × Int32 × Int32 × zc_N) : Int32 × Int32 × Int32 × zc_N := ((wX5_choose_l_30 (nI i_) (a_.1, a_.2.1, a_.2.2.1, (0 : Int32), a_.2.2.2)).1, (wX5_choose_l_30 (nI i_) (a_.1, a_.2.1, a_.2.2.1, (0 : Int32), a_.2.2.2)).2.1, (wX5_choose_l_30 (nI i_) (a_.1, a_.2.1, a_.2.2.1, (0 : Int32), a_.2.2.2)).2.2.1, (wX5_choose_l_30 (nI i_) (a_.1, a_.2.1, a_.2.2.1, (0 : Int32), a_.2.2.2)).2.2.2.2)
def qX5_choose_l_18 (i_ : Nat) (a_ : Int32 × Int32 × Int32 × zc_N) : Prop := (((∃ n_ : Nat, (eX5_choose_l_30 (nI i_)) (zit (fX5_choose_l_30 (nI i_)) n_ (a_.1, a_.2.1, a_.2.2.1, (0 : Int32), a_.2.2.2))) ∧ (∀ i30_ : Nat, i30_ < (zwn (fun n_ => (eX5_choose_l_30 (nI i_)) (zit (fX5_choose_l_30 (nI i_)) n_ (a_.1, a_.2.1, a_.2.2.1, (0 : Int32), a_.2.2.2)))) → qX5_choose_l_30 (nI i_) (zit (fX5_choose_l_30 (nI i_)) i30_ (a_.1, a_.2.1, a_.2.2.1, (0 : Int32), a_.2.2.2)))) ∧ (((12 : Int32) ≤ (wX5_choose_l_30 (nI i_) (a_.1, a_.2.1, a_.2.2.1, (0 : Int32), a_.2.2.2)).2.2.2.1 → True) ∧ (¬ (12 : Int32) ≤ (wX5_choose_l_30 (nI i_) (a_.1, a_.2.1, a_.2.2.1, (0 : Int32), a_.2.2.2)).2.2.2.1 → (vp_in (nI i_) 12 ∧ (((((wX5_choose_l_30 (nI i_) (a_.1, a_.2.1, a_.2.2.1, (0 : Int32), a_.2.2.2)).2.2.2.2 24) (nI i_).toNatClampNeg) = (-1 : Int32) → (vp_in (nI i_) 12 ∧ (((((((wX5_choose_l_30 (nI i_) (a_.1, a_.2.1, a_.2.2.1, (0 : Int32), a_.2.2.2)).2.2.2.2 17) (nI i_).toNatClampNeg) &&& (wX5_choose_l_30 (nI i_) (a_.1, a_.2.1, a_.2.2.1, (0 : Int32), a_.2.2.2)).1) &&& ((vX5_choose_l_1 a_.1 a_.2.1 a_.2.2.1 (nI i_) a_.2.2.2) ^^^ (-1 : Int32))) = (0 : Int32) → True) ∧ (¬ (((((wX5_choose_l_30 (nI i_) (a_.1, a_.2.1, a_.2.2.1, (0 : Int32), a_.2.2.2)).2.2.2.2 17) (nI i_).toNatClampNeg) &&& (wX5_choose_l_30 (nI i_) (a_.1, a_.2.1, a_.2.2.1, (0 : Int32), a_.2.2.2)).1) &&& ((vX5_choose_l_1 a_.1 a_.2.1 a_.2.2.1 (nI i_) a_.2.2.2) ^^^ (-1 : Int32))) = (0 : Int32) → ((pX5_most ((wX5_choose_l_30 (nI i_) (a_.1, a_.2.1, a_.2.2.1, (0 : Int32), a_.2.2.2)).2.2.2.2) ((nI i_) + (1 : Int32)) (vX5_choose_l_1 a_.1 a_.2.1 a_.2.2.1 (nI i_) a_.2.2.2)) ∧ (((rX5_most ((wX5_choose_l_30 (nI i_) (a_.1, a_.2.1, a_.2.2.1, (0 : Int32), a_.2.2.2)).2.2.2.2) ((nI i_) + (1 : Int32)) (vX5_choose_l_1 a_.1 a_.2.1 a_.2.2.1 (nI i_) a_.2.2.2)) = ((wX5_choose_l_30 (nI i_) (a_.1, a_.2.1, a_.2.2.1, (0 : Int32), a_.2.2.2)).2.1 - (1 : Int32)) → vp_in (nI i_) 12) ∧ (¬ (rX5_most ((wX5_choose_l_30 (nI i_) (a_.1, a_.2.1, a_.2.2.1, (0 : Int32), a_.2.2.2)).2.2.2.2) ((nI i_) + (1 : Int32)) (vX5_choose_l_1 a_.1 a_.2.1 a_.2.2.1 (nI i_) a_.2.2.2)) = ((wX5_choose_l_30 (nI i_) (a_.1, a_.2.1, a_.2.2.1, (0 : Int32), a_.2.2.2)).2.1 - (1 : Int32)) → True))))))) ∧ (¬ (((wX5_choose_l_30 (nI i_) (a_.1, a_.2.1, a_.2.2.1, (0 : Int32), a_.2.2.2)).2.2.2.2 24) (nI i_).toNatClampNeg) = (-1 : Int32) → True))))))
set_option maxHeartbeats 2000000 in
theorem lpX5_choose_l_18 {G : zc_G} {Q : Option Value → zc_H → Prop} (P : zp) (σ : zc_N) (l3 : Int32) (l4 : Int32) (l5 : Int32) (n_ : Nat) (hC_ : ∀ i18_ : Nat, i18_ ≤ n_ → ((((zfor fX5_choose_l_18 i18_ (l3, l4, l5, σ)).2.2.2 16) 1) ≤ (nI i18_) ↔ n_ ≤ i18_)) (W1_ : ∀ i18_ : Nat, i18_ < n_ → qX5_choose_l_18 i18_ (zfor fX5_choose_l_18 i18_ (l3, l4, l5, σ)))
    (W2_ : zz G mX5_choose 16 0 0 Q 122 [none, none, none, none, none, some (.int (zfor fX5_choose_l_18 n_ (l3, l4, l5, σ)).2.2.1), none, none, none] [] (hh P (zfor fX5_choose_l_18 n_ (l3, l4, l5, σ)).2.2.2) 0 0) :
    zz G mX5_choose 16 0 0 Q 18 [some (.ref 16), none, some (.ref 24), some (.int l3), some (.int l4), some (.int l5), some (.int (nI 0)), none, none] [] (hh P σ) 0 0 := by
  refine zfor_nI (fun i_ a_ => zz G mX5_choose 16 0 0 Q 18 [some (.ref 16), none, some (.ref 24), some (.int a_.1), some (.int a_.2.1), some (.int a_.2.2.1), some (.int i_), none, none] [] (hh P a_.2.2.2) 0 0) fX5_choose_l_18 n_ (l3, l4, l5, σ) (fun i_ hi_ k_ => ?_) ?_
  all_goals try dsimp only
  · have W3_ := W1_ i_ hi_
    have hD_ := hC_ i_ (Nat.le_of_lt hi_)
    generalize zfor fX5_choose_l_18 i_ (l3, l4, l5, σ) = g_ at k_ W3_ hD_ ⊢
    obtain ⟨x0_, x1_, x2_, x3_⟩ := g_
    dsimp only at k_ W3_ hD_ ⊢
    rw [fX5_choose_l_18] at k_
    rw [qX5_choose_l_18] at W3_
    try dsimp only at W3_
    dsimp only at k_
    refine z_iload dX5_choose_18 rfl ?_
    refine z_aloadr_n dX5_choose_20 rfl ?_
    refine z_get (ci := 5) (r := (RX5, TX5, 4)) (j := 1) (v := .int ((x3_ 16) 1)) dX5_choose_21 (Nat.le_of_ble_eq_true rfl) (zN rfl) rfl rfl (Nat.le_of_ble_eq_true rfl) fl_X5_15 rfl ?_
    refine z_icmp_ge (tgt := 122) dX5_choose_24 (by decide) (fun c_ => absurd c_ (fun q_ => Nat.not_le_of_lt hi_ (hD_.mp q_))) (fun c_ => ?_)
    refine z_iconst dX5_choose_27 k_iconst_0 ?_
    refine z_istore (lv' := [some (.ref 16), none, some (.ref 24), some (.int x0_), some (.int x1_), some (.int x2_), some (.int (nI i_)), some (.int (0 : Int32)), none]) dX5_choose_28 (Nat.le_of_ble_eq_true rfl) rfl ?_
    refine whX5_choose_l_30 P x3_ x0_ x1_ x2_ (nI i_) (0 : Int32) W3_.1.1 W3_.1.2 (fun hX30_ => ?_)
    rw [eX5_choose_l_30] at hX30_
    try dsimp only at hX30_
    show zz G mX5_choose 16 0 0 Q 30 [some (.ref 16), none, some (.ref 24), some (.int (wX5_choose_l_30 (nI i_) (x0_, x1_, x2_, (0 : Int32), x3_)).1), some (.int (wX5_choose_l_30 (nI i_) (x0_, x1_, x2_, (0 : Int32), x3_)).2.1), some (.int (wX5_choose_l_30 (nI i_) (x0_, x1_, x2_, (0 : Int32), x3_)).2.2.1), some (.int (nI i_)), some (.int (wX5_choose_l_30 (nI i_) (x0_, x1_, x2_, (0 : Int32), x3_)).2.2.2.1), none] [] (hh P (wX5_choose_l_30 (nI i_) (x0_, x1_, x2_, (0 : Int32), x3_)).2.2.2.2) 0 0
    refine z_iload dX5_choose_30 rfl ?_
    refine z_bipush dX5_choose_32 k_bipush_12 ?_
    refine z_icmp_ge (tgt := 116) dX5_choose_34 (by decide) (fun c_2 => ?_) (fun c_2 => ?_)
    · refine z_iinc (v := ((nI i_) + (1 : Int32))) (lv' := [some (.ref 16), none, some (.ref 24), some (.int (wX5_choose_l_30 (nI i_) (x0_, x1_, x2_, (0 : Int32), x3_)).1), some (.int (wX5_choose_l_30 (nI i_) (x0_, x1_, x2_, (0 : Int32), x3_)).2.1), some (.int (wX5_choose_l_30 (nI i_) (x0_, x1_, x2_, (0 : Int32), x3_)).2.2.1), some (.int ((nI i_) + (1 : Int32))), some (.int (wX5_choose_l_30 (nI i_) (x0_, x1_, x2_, (0 : Int32), x3_)).2.2.2.1), none]) dX5_choose_116 (Nat.le_of_ble_eq_true rfl) rfl (by rw [k_iconst_1]) rfl ?_
      refine z_goto (tgt := 18) dX5_choose_119 (by decide) ?_
      refine zz_sub (lv' := [some (.ref 16), none, some (.ref 24), some (.int (wX5_choose_l_30 (nI i_) (x0_, x1_, x2_, (0 : Int32), x3_)).1), some (.int (wX5_choose_l_30 (nI i_) (x0_, x1_, x2_, (0 : Int32), x3_)).2.1), some (.int (wX5_choose_l_30 (nI i_) (x0_, x1_, x2_, (0 : Int32), x3_)).2.2.1), some (.int ((nI i_) + (1 : Int32))), none, none]) ⟨rfl, ⟨rfl, ⟨rfl, ⟨rfl, ⟨rfl, ⟨rfl, trivial⟩⟩⟩⟩⟩⟩ ?_
      rw [nI_1]
      simpa only [if_pos c_2] using k_
    · refine z_aloadr_n dX5_choose_37 rfl ?_
      refine z_iload dX5_choose_38 rfl ?_
      refine z_iald (v := (((wX5_choose_l_30 (nI i_) (x0_, x1_, x2_, (0 : Int32), x3_)).2.2.2.2 24) (nI i_).toNatClampNeg)) dX5_choose_40 (zN rfl) rfl ((W3_.2.2 c_2).1) rfl ?_
      refine z_iconst dX5_choose_41 k_iconst_m1 ?_
      refine z_icmp_ne (tgt := 116) dX5_choose_42 (by decide) (fun c_3 => ?_) (fun c_3 => ?_)
      · refine z_iinc (v := ((nI i_) + (1 : Int32))) (lv' := [some (.ref 16), none, some (.ref 24), some (.int (wX5_choose_l_30 (nI i_) (x0_, x1_, x2_, (0 : Int32), x3_)).1), some (.int (wX5_choose_l_30 (nI i_) (x0_, x1_, x2_, (0 : Int32), x3_)).2.1), some (.int (wX5_choose_l_30 (nI i_) (x0_, x1_, x2_, (0 : Int32), x3_)).2.2.1), some (.int ((nI i_) + (1 : Int32))), some (.int (wX5_choose_l_30 (nI i_) (x0_, x1_, x2_, (0 : Int32), x3_)).2.2.2.1), none]) dX5_choose_116 (Nat.le_of_ble_eq_true rfl) rfl (by rw [k_iconst_1]) rfl ?_
        refine z_goto (tgt := 18) dX5_choose_119 (by decide) ?_
        refine zz_sub (lv' := [some (.ref 16), none, some (.ref 24), some (.int (wX5_choose_l_30 (nI i_) (x0_, x1_, x2_, (0 : Int32), x3_)).1), some (.int (wX5_choose_l_30 (nI i_) (x0_, x1_, x2_, (0 : Int32), x3_)).2.1), some (.int (wX5_choose_l_30 (nI i_) (x0_, x1_, x2_, (0 : Int32), x3_)).2.2.1), some (.int ((nI i_) + (1 : Int32))), none, none]) ⟨rfl, ⟨rfl, ⟨rfl, ⟨rfl, ⟨rfl, ⟨rfl, trivial⟩⟩⟩⟩⟩⟩ ?_
        rw [nI_1]
        simpa only [if_neg c_2, if_neg c_3] using k_
      · refine z_iload_n dX5_choose_45 rfl ?_
        refine z_iconst dX5_choose_46 k_iconst_1 ?_
        refine z_iload dX5_choose_47 rfl ?_
        refine z_ishl (v := (zshl (1 : Int32) (wX5_choose_l_30 (nI i_) (x0_, x1_, x2_, (0 : Int32), x3_)).2.2.2.1)) dX5_choose_49 rfl ?_
        refine z_iconst dX5_choose_50 k_iconst_m1 ?_
        refine z_ixor (v := ((zshl (1 : Int32) (wX5_choose_l_30 (nI i_) (x0_, x1_, x2_, (0 : Int32), x3_)).2.2.2.1) ^^^ (-1 : Int32))) dX5_choose_51 rfl ?_
        refine z_iand (v := ((wX5_choose_l_30 (nI i_) (x0_, x1_, x2_, (0 : Int32), x3_)).1 &&& ((zshl (1 : Int32) (wX5_choose_l_30 (nI i_) (x0_, x1_, x2_, (0 : Int32), x3_)).2.2.2.1) ^^^ (-1 : Int32)))) dX5_choose_52 rfl ?_
        refine z_istore (lv' := [some (.ref 16), none, some (.ref 24), some (.int (wX5_choose_l_30 (nI i_) (x0_, x1_, x2_, (0 : Int32), x3_)).1), some (.int (wX5_choose_l_30 (nI i_) (x0_, x1_, x2_, (0 : Int32), x3_)).2.1), some (.int (wX5_choose_l_30 (nI i_) (x0_, x1_, x2_, (0 : Int32), x3_)).2.2.1), some (.int (nI i_)), some (.int (wX5_choose_l_30 (nI i_) (x0_, x1_, x2_, (0 : Int32), x3_)).2.2.2.1), some (.int (vX5_choose_l_1 x0_ x1_ x2_ (nI i_) x3_))]) dX5_choose_53 (Nat.le_of_ble_eq_true rfl) rfl ?_
        refine z_aloadr_n dX5_choose_55 rfl ?_
        refine z_get (ci := 5) (r := (RX5, TX5, 4)) (j := 0) (v := .ref 17) dX5_choose_56 (Nat.le_of_ble_eq_true rfl) (zN rfl) rfl rfl (Nat.le_of_ble_eq_true rfl) fl_X5_9 rfl ?_
        refine z_iload dX5_choose_59 rfl ?_
        refine z_iald (v := (((wX5_choose_l_30 (nI i_) (x0_, x1_, x2_, (0 : Int32), x3_)).2.2.2.2 17) (nI i_).toNatClampNeg)) dX5_choose_61 (zN rfl) rfl (((W3_.2.2 c_2).2.1 c_3).1) rfl ?_
        refine z_iload_n dX5_choose_62 rfl ?_
        refine z_iand (v := ((((wX5_choose_l_30 (nI i_) (x0_, x1_, x2_, (0 : Int32), x3_)).2.2.2.2 17) (nI i_).toNatClampNeg) &&& (wX5_choose_l_30 (nI i_) (x0_, x1_, x2_, (0 : Int32), x3_)).1)) dX5_choose_63 rfl ?_
        refine z_iload dX5_choose_64 rfl ?_
        refine z_iconst dX5_choose_66 k_iconst_m1 ?_
        refine z_ixor (v := ((vX5_choose_l_1 x0_ x1_ x2_ (nI i_) x3_) ^^^ (-1 : Int32))) dX5_choose_67 rfl ?_
        refine z_iand (v := (((((wX5_choose_l_30 (nI i_) (x0_, x1_, x2_, (0 : Int32), x3_)).2.2.2.2 17) (nI i_).toNatClampNeg) &&& (wX5_choose_l_30 (nI i_) (x0_, x1_, x2_, (0 : Int32), x3_)).1) &&& ((vX5_choose_l_1 x0_ x1_ x2_ (nI i_) x3_) ^^^ (-1 : Int32)))) dX5_choose_68 rfl ?_
        refine z_if_eq (tgt := 110) dX5_choose_69 (by decide) (fun c_4 => ?_) (fun c_4 => ?_)
        · refine z_iinc (v := ((wX5_choose_l_30 (nI i_) (x0_, x1_, x2_, (0 : Int32), x3_)).2.2.2.1 + (1 : Int32))) (lv' := [some (.ref 16), none, some (.ref 24), some (.int (wX5_choose_l_30 (nI i_) (x0_, x1_, x2_, (0 : Int32), x3_)).1), some (.int (wX5_choose_l_30 (nI i_) (x0_, x1_, x2_, (0 : Int32), x3_)).2.1), some (.int (wX5_choose_l_30 (nI i_) (x0_, x1_, x2_, (0 : Int32), x3_)).2.2.1), some (.int (nI i_)), some (.int ((wX5_choose_l_30 (nI i_) (x0_, x1_, x2_, (0 : Int32), x3_)).2.2.2.1 + (1 : Int32))), some (.int (vX5_choose_l_1 x0_ x1_ x2_ (nI i_) x3_))]) dX5_choose_110 (Nat.le_of_ble_eq_true rfl) rfl (by rw [k_iconst_1]) rfl ?_
          refine z_goto (tgt := 30) dX5_choose_113 (by decide) ?_
          exact (ex_l (ex_l (ex_r hX30_ c_2) c_3) c_4).elim
        · refine z_aloadr_n dX5_choose_72 rfl ?_
          refine z_iload dX5_choose_73 rfl ?_
          refine z_iconst dX5_choose_75 k_iconst_1 ?_
          refine z_iadd (v := ((nI i_) + (1 : Int32))) dX5_choose_76 rfl ?_
          refine z_iload dX5_choose_77 rfl ?_
          refine z_callV (ci := 5) (r := (RX5, TX5, 4)) (b := 16) (As := [.int ((nI i_) + (1 : Int32)), .int (vX5_choose_l_1 x0_ x1_ x2_ (nI i_) x3_)]) (rest := []) (ctX5_most P ((wX5_choose_l_30 (nI i_) (x0_, x1_, x2_, (0 : Int32), x3_)).2.2.2.2) ((nI i_) + (1 : Int32)) (vX5_choose_l_1 x0_ x1_ x2_ (nI i_) x3_) ((((W3_.2.2 c_2).2.1 c_3).2.2 c_4).1)) dX5_choose_79 lk_X5_47 lv_X5_most (Nat.le_of_ble_eq_true rfl) (zN rfl) rfl rfl rfl rfl (Nat.le_of_ble_eq_true rfl) (Nat.le_of_ble_eq_true rfl) (Nat.le_of_ble_eq_true rfl) (Nat.le_of_ble_eq_true rfl) (fun r_ h_ e_ => ?_)
          obtain ⟨e1_, e2_⟩ := e_
          subst e1_
          subst e2_
          show zz G mX5_choose 16 0 0 Q 82 [some (.ref 16), none, some (.ref 24), some (.int (wX5_choose_l_30 (nI i_) (x0_, x1_, x2_, (0 : Int32), x3_)).1), some (.int (wX5_choose_l_30 (nI i_) (x0_, x1_, x2_, (0 : Int32), x3_)).2.1), some (.int (wX5_choose_l_30 (nI i_) (x0_, x1_, x2_, (0 : Int32), x3_)).2.2.1), some (.int (nI i_)), some (.int (wX5_choose_l_30 (nI i_) (x0_, x1_, x2_, (0 : Int32), x3_)).2.2.2.1), some (.int (vX5_choose_l_1 x0_ x1_ x2_ (nI i_) x3_))] [.int (rX5_most ((wX5_choose_l_30 (nI i_) (x0_, x1_, x2_, (0 : Int32), x3_)).2.2.2.2) ((nI i_) + (1 : Int32)) (vX5_choose_l_1 x0_ x1_ x2_ (nI i_) x3_))] (hh P (vX5_choose_l_2 x0_ x1_ x2_ (nI i_) x3_)) 0 0
          refine z_iload dX5_choose_82 rfl ?_
          refine z_iconst dX5_choose_84 k_iconst_1 ?_
          refine z_isub (v := ((wX5_choose_l_30 (nI i_) (x0_, x1_, x2_, (0 : Int32), x3_)).2.1 - (1 : Int32))) dX5_choose_85 rfl ?_
          refine z_icmp_ne (tgt := 110) dX5_choose_86 (by decide) (fun c_5 => ?_) (fun c_5 => ?_)
          · refine z_iinc (v := ((wX5_choose_l_30 (nI i_) (x0_, x1_, x2_, (0 : Int32), x3_)).2.2.2.1 + (1 : Int32))) (lv' := [some (.ref 16), none, some (.ref 24), some (.int (wX5_choose_l_30 (nI i_) (x0_, x1_, x2_, (0 : Int32), x3_)).1), some (.int (wX5_choose_l_30 (nI i_) (x0_, x1_, x2_, (0 : Int32), x3_)).2.1), some (.int (wX5_choose_l_30 (nI i_) (x0_, x1_, x2_, (0 : Int32), x3_)).2.2.1), some (.int (nI i_)), some (.int ((wX5_choose_l_30 (nI i_) (x0_, x1_, x2_, (0 : Int32), x3_)).2.2.2.1 + (1 : Int32))), some (.int (vX5_choose_l_1 x0_ x1_ x2_ (nI i_) x3_))]) dX5_choose_110 (Nat.le_of_ble_eq_true rfl) rfl (by rw [k_iconst_1]) rfl ?_
            refine z_goto (tgt := 30) dX5_choose_113 (by decide) ?_
            exact (ex_r (ex_r (ex_l (ex_r hX30_ c_2) c_3) c_4) c_5).elim
          · refine z_aloadr_n dX5_choose_89 rfl ?_
            refine z_iload dX5_choose_90 rfl ?_
            refine z_iload dX5_choose_92 rfl ?_
            refine z_iast (σ' := (zu (vX5_choose_l_2 x0_ x1_ x2_ (nI i_) x3_) 24 (zu ((vX5_choose_l_2 x0_ x1_ x2_ (nI i_) x3_) 24) (nI i_).toNatClampNeg ((wX5_choose_l_30 (nI i_) (x0_, x1_, x2_, (0 : Int32), x3_)).2.2.2.1)))) dX5_choose_94 (Nat.le_of_ble_eq_true rfl) (zN rfl) rfl ((((W3_.2.2 c_2).2.1 c_3).2.2 c_4).2.1 c_5) rfl ?_
            refine z_iload dX5_choose_95 rfl ?_
            refine z_iconst dX5_choose_97 k_iconst_1 ?_
            refine z_iload dX5_choose_98 rfl ?_
            refine z_ishl (v := (zshl (1 : Int32) (nI i_))) dX5_choose_100 rfl ?_
            refine z_ior (v := ((wX5_choose_l_30 (nI i_) (x0_, x1_, x2_, (0 : Int32), x3_)).2.2.1 ||| (zshl (1 : Int32) (nI i_)))) dX5_choose_101 rfl ?_
            refine z_istore (lv' := [some (.ref 16), none, some (.ref 24), some (.int (wX5_choose_l_30 (nI i_) (x0_, x1_, x2_, (0 : Int32), x3_)).1), some (.int (wX5_choose_l_30 (nI i_) (x0_, x1_, x2_, (0 : Int32), x3_)).2.1), some (.int ((wX5_choose_l_30 (nI i_) (x0_, x1_, x2_, (0 : Int32), x3_)).2.2.1 ||| (zshl (1 : Int32) (nI i_)))), some (.int (nI i_)), some (.int (wX5_choose_l_30 (nI i_) (x0_, x1_, x2_, (0 : Int32), x3_)).2.2.2.1), some (.int (vX5_choose_l_1 x0_ x1_ x2_ (nI i_) x3_))]) dX5_choose_102 (Nat.le_of_ble_eq_true rfl) rfl ?_
            refine z_iload dX5_choose_104 rfl ?_
            refine z_istore_n (lv' := [some (.ref 16), none, some (.ref 24), some (.int (vX5_choose_l_1 x0_ x1_ x2_ (nI i_) x3_)), some (.int (wX5_choose_l_30 (nI i_) (x0_, x1_, x2_, (0 : Int32), x3_)).2.1), some (.int ((wX5_choose_l_30 (nI i_) (x0_, x1_, x2_, (0 : Int32), x3_)).2.2.1 ||| (zshl (1 : Int32) (nI i_)))), some (.int (nI i_)), some (.int (wX5_choose_l_30 (nI i_) (x0_, x1_, x2_, (0 : Int32), x3_)).2.2.2.1), some (.int (vX5_choose_l_1 x0_ x1_ x2_ (nI i_) x3_))]) dX5_choose_106 (Nat.le_of_ble_eq_true rfl) rfl ?_
            refine z_iinc (v := ((wX5_choose_l_30 (nI i_) (x0_, x1_, x2_, (0 : Int32), x3_)).2.1 + (-1 : Int32))) (lv' := [some (.ref 16), none, some (.ref 24), some (.int (vX5_choose_l_1 x0_ x1_ x2_ (nI i_) x3_)), some (.int ((wX5_choose_l_30 (nI i_) (x0_, x1_, x2_, (0 : Int32), x3_)).2.1 + (-1 : Int32))), some (.int ((wX5_choose_l_30 (nI i_) (x0_, x1_, x2_, (0 : Int32), x3_)).2.2.1 ||| (zshl (1 : Int32) (nI i_)))), some (.int (nI i_)), some (.int (wX5_choose_l_30 (nI i_) (x0_, x1_, x2_, (0 : Int32), x3_)).2.2.2.1), some (.int (vX5_choose_l_1 x0_ x1_ x2_ (nI i_) x3_))]) dX5_choose_107 (Nat.le_of_ble_eq_true rfl) rfl (by rw [k_iconst_m1]) rfl ?_
            refine z_iinc (v := ((wX5_choose_l_30 (nI i_) (x0_, x1_, x2_, (0 : Int32), x3_)).2.2.2.1 + (1 : Int32))) (lv' := [some (.ref 16), none, some (.ref 24), some (.int (vX5_choose_l_1 x0_ x1_ x2_ (nI i_) x3_)), some (.int ((wX5_choose_l_30 (nI i_) (x0_, x1_, x2_, (0 : Int32), x3_)).2.1 + (-1 : Int32))), some (.int ((wX5_choose_l_30 (nI i_) (x0_, x1_, x2_, (0 : Int32), x3_)).2.2.1 ||| (zshl (1 : Int32) (nI i_)))), some (.int (nI i_)), some (.int ((wX5_choose_l_30 (nI i_) (x0_, x1_, x2_, (0 : Int32), x3_)).2.2.2.1 + (1 : Int32))), some (.int (vX5_choose_l_1 x0_ x1_ x2_ (nI i_) x3_))]) dX5_choose_110 (Nat.le_of_ble_eq_true rfl) rfl (by rw [k_iconst_1]) rfl ?_
            refine z_goto (tgt := 30) dX5_choose_113 (by decide) ?_
            exact (ex_l (ex_r (ex_l (ex_r hX30_ c_2) c_3) c_4) c_5).elim
  · have hD_ := hC_ n_ (Nat.le_refl _)
    generalize zfor fX5_choose_l_18 n_ (l3, l4, l5, σ) = g_ at W2_ hD_ ⊢
    obtain ⟨x0_, x1_, x2_, x3_⟩ := g_
    dsimp only at W2_ hD_ ⊢
    refine z_iload dX5_choose_18 rfl ?_
    refine z_aloadr_n dX5_choose_20 rfl ?_
    refine z_get (ci := 5) (r := (RX5, TX5, 4)) (j := 1) (v := .int ((x3_ 16) 1)) dX5_choose_21 (Nat.le_of_ble_eq_true rfl) (zN rfl) rfl rfl (Nat.le_of_ble_eq_true rfl) fl_X5_15 rfl ?_
    refine z_icmp_ge (tgt := 122) dX5_choose_24 (by decide) (fun c_ => ?_) (fun c_ => absurd (hD_.mpr (Nat.le_refl _)) c_)
    exact zz_sub (lv' := [none, none, none, none, none, some (.int x2_), none, none, none]) ⟨rfl, trivial⟩ W2_

theorem dX5_choose_0 : decode cX5_choose 0 = .ok (.aload_n 2, 1) := by decide +kernel
theorem dX5_choose_1 : decode cX5_choose 1 = .ok (.iconst (-1), 1) := by decide +kernel
theorem dX5_choose_2 : decode cX5_choose 2 = .ok (.invokestatic 37, 3) := by decide +kernel
theorem dX5_choose_5 : decode cX5_choose 5 = .ok (.sipush 4095, 3) := by decide +kernel
theorem dX5_choose_8 : decode cX5_choose 8 = .ok (.istore_n 3, 1) := by decide +kernel
theorem dX5_choose_9 : decode cX5_choose 9 = .ok (.iload_n 1, 1) := by decide +kernel
theorem dX5_choose_10 : decode cX5_choose 10 = .ok (.istore 4, 2) := by decide +kernel
theorem dX5_choose_12 : decode cX5_choose 12 = .ok (.iconst 0, 1) := by decide +kernel
theorem dX5_choose_13 : decode cX5_choose 13 = .ok (.istore 5, 2) := by decide +kernel
theorem dX5_choose_15 : decode cX5_choose 15 = .ok (.iconst 0, 1) := by decide +kernel
theorem dX5_choose_16 : decode cX5_choose 16 = .ok (.istore 6, 2) := by decide +kernel
theorem dX5_choose_124 : decode cX5_choose 124 = .ok (.ireturn, 1) := by decide +kernel
noncomputable def vX5_choose_l_3 (a1 : Int32) (σ : zc_N) : zc_N := (zfor fX5_choose_l_18 (((((sJ7_fill_53178_24 σ (-1 : Int32)) 16) 1)).toNatClampNeg) ((4095 : Int32), a1, (0 : Int32), (sJ7_fill_53178_24 σ (-1 : Int32)))).2.2.2
noncomputable def vX5_choose_l_4 (a1 : Int32) (σ : zc_N) : Int32 := (zfor fX5_choose_l_18 (((((sJ7_fill_53178_24 σ (-1 : Int32)) 16) 1)).toNatClampNeg) ((4095 : Int32), a1, (0 : Int32), (sJ7_fill_53178_24 σ (-1 : Int32)))).2.2.1
def pX5_choose_l (σ : zc_N) (a1 : Int32) : Prop := ((pJ7_fill_53178_24 σ (-1 : Int32)) ∧ ((∀ i18_ : Nat, i18_ ≤ (((((sJ7_fill_53178_24 σ (-1 : Int32)) 16) 1)).toNatClampNeg) → ((((zfor fX5_choose_l_18 i18_ ((4095 : Int32), a1, (0 : Int32), (sJ7_fill_53178_24 σ (-1 : Int32)))).2.2.2 16) 1) ≤ (nI i18_) ↔ (((((sJ7_fill_53178_24 σ (-1 : Int32)) 16) 1)).toNatClampNeg) ≤ i18_)) ∧ (∀ i18_ : Nat, i18_ < (((((sJ7_fill_53178_24 σ (-1 : Int32)) 16) 1)).toNatClampNeg) → qX5_choose_l_18 i18_ (zfor fX5_choose_l_18 i18_ ((4095 : Int32), a1, (0 : Int32), (sJ7_fill_53178_24 σ (-1 : Int32)))))))
noncomputable def rX5_choose_l (σ : zc_N) (a1 : Int32) : Int32 := (vX5_choose_l_4 a1 σ)
noncomputable def sX5_choose_l (σ : zc_N) (a1 : Int32) : zc_N := (vX5_choose_l_3 a1 σ)
set_option maxHeartbeats 1000000 in
theorem ctX5_choose_l (P : zp) (σ : zc_N) (a1 : Int32) (W_ : (pX5_choose_l σ a1)) : sp mX5_choose 16 0 0 [.ref 16, .int a1, .ref 24] (hh P σ) (fun r_ h_ => r_ = some (.int (rX5_choose_l σ a1)) ∧ h_ = hh P (sX5_choose_l σ a1)) := by
  refine sp_of (lv := [some (.ref 16), some (.int a1), some (.ref 24), none, none, none, none, none, none]) (by decide) (zcats_ok _ rfl) (Nat.le_of_ble_eq_true rfl) (zlv_ok _ 6 rfl) (fun G => ?_)
  generalize hQ_ : (fun (r_ : Option Value) (h_ : zc_H) => r_ = some (.int (rX5_choose_l σ a1)) ∧ h_ = hh P (sX5_choose_l σ a1)) = Q_
  unfold pX5_choose_l at W_
  refine z_aloadr_n dX5_choose_0 rfl ?_
  refine z_iconst dX5_choose_1 k_iconst_m1 ?_
  refine z_callS (As := [.ref 24, .int (-1 : Int32)]) (rest := []) (ctJ7_fill_53178_24 P σ (-1 : Int32) W_.1) dX5_choose_2 lk_X5_37 ls_J7_fill_53178 rfl (Nat.le_of_ble_eq_true rfl) (Nat.le_of_ble_eq_true rfl) (Nat.le_of_ble_eq_true rfl) (Nat.le_of_ble_eq_true rfl) (fun r_ h_ e_ => ?_)
  obtain ⟨e1_, e2_⟩ := e_
  subst e1_
  subst e2_
  show zz G mX5_choose 16 0 0 Q_ 5 [some (.ref 16), some (.int a1), some (.ref 24), none, none, none, none, none, none] [] (hh P (sJ7_fill_53178_24 σ (-1 : Int32))) 0 0
  refine z_sipush dX5_choose_5 k_sipush_4095 ?_
  refine z_istore_n (lv' := [some (.ref 16), some (.int a1), some (.ref 24), some (.int (4095 : Int32)), none, none, none, none, none]) dX5_choose_8 (Nat.le_of_ble_eq_true rfl) rfl ?_
  refine z_iload_n dX5_choose_9 rfl ?_
  refine z_istore (lv' := [some (.ref 16), some (.int a1), some (.ref 24), some (.int (4095 : Int32)), some (.int a1), none, none, none, none]) dX5_choose_10 (Nat.le_of_ble_eq_true rfl) rfl ?_
  refine z_iconst dX5_choose_12 k_iconst_0 ?_
  refine z_istore (lv' := [some (.ref 16), some (.int a1), some (.ref 24), some (.int (4095 : Int32)), some (.int a1), some (.int (0 : Int32)), none, none, none]) dX5_choose_13 (Nat.le_of_ble_eq_true rfl) rfl ?_
  refine z_iconst dX5_choose_15 k_iconst_0 ?_
  refine z_istore (lv' := [some (.ref 16), some (.int a1), some (.ref 24), some (.int (4095 : Int32)), some (.int a1), some (.int (0 : Int32)), some (.int (0 : Int32)), none, none]) dX5_choose_16 (Nat.le_of_ble_eq_true rfl) rfl ?_
  refine zz_sub (lv' := [some (.ref 16), none, some (.ref 24), some (.int (4095 : Int32)), some (.int a1), some (.int (0 : Int32)), some (.int (0 : Int32)), none, none]) ⟨rfl, ⟨rfl, ⟨rfl, ⟨rfl, ⟨rfl, ⟨rfl, trivial⟩⟩⟩⟩⟩⟩ ?_
  refine lpX5_choose_l_18 P (sJ7_fill_53178_24 σ (-1 : Int32)) (4095 : Int32) a1 (0 : Int32) (((((sJ7_fill_53178_24 σ (-1 : Int32)) 16) 1)).toNatClampNeg) W_.2.1 W_.2.2 ?_
  show zz G mX5_choose 16 0 0 Q_ 122 [none, none, none, none, none, some (.int (vX5_choose_l_4 a1 σ)), none, none, none] [] (hh P (vX5_choose_l_3 a1 σ)) 0 0
  refine z_iload dX5_choose_122 rfl ?_
  exact z_ireturn dX5_choose_124 rfl rfl (Nat.le_of_ble_eq_true rfl) (Nat.le_of_ble_eq_true rfl) (by rw [← hQ_]; exact ⟨(by rw [rX5_choose_l]), (by rw [sX5_choose_l])⟩)


noncomputable def fX5_choose_t_30 (l6 : Int32) (a_ : Int32 × Int32 × Int32 × Int32 × zc_N) : Int32 × Int32 × Int32 × Int32 × zc_N := ((if ((((a_.2.2.2.2 17) l6.toNatClampNeg) &&& a_.1) &&& ((a_.1 &&& ((zshl (1 : Int32) a_.2.2.2.1) ^^^ (-1 : Int32))) ^^^ (-1 : Int32))) = (0 : Int32) then a_.1 else (if (rX5_most a_.2.2.2.2 (l6 + (1 : Int32)) (a_.1 &&& ((zshl (1 : Int32) a_.2.2.2.1) ^^^ (-1 : Int32)))) = (a_.2.1 - (1 : Int32)) then (a_.1 &&& ((zshl (1 : Int32) a_.2.2.2.1) ^^^ (-1 : Int32))) else a_.1)), (if ((((a_.2.2.2.2 17) l6.toNatClampNeg) &&& a_.1) &&& ((a_.1 &&& ((zshl (1 : Int32) a_.2.2.2.1) ^^^ (-1 : Int32))) ^^^ (-1 : Int32))) = (0 : Int32) then a_.2.1 else (if (rX5_most a_.2.2.2.2 (l6 + (1 : Int32)) (a_.1 &&& ((zshl (1 : Int32) a_.2.2.2.1) ^^^ (-1 : Int32)))) = (a_.2.1 - (1 : Int32)) then (a_.2.1 + (-1 : Int32)) else a_.2.1)), (if ((((a_.2.2.2.2 17) l6.toNatClampNeg) &&& a_.1) &&& ((a_.1 &&& ((zshl (1 : Int32) a_.2.2.2.1) ^^^ (-1 : Int32))) ^^^ (-1 : Int32))) = (0 : Int32) then a_.2.2.1 else (if (rX5_most a_.2.2.2.2 (l6 + (1 : Int32)) (a_.1 &&& ((zshl (1 : Int32) a_.2.2.2.1) ^^^ (-1 : Int32)))) = (a_.2.1 - (1 : Int32)) then (a_.2.2.1 ||| (zshl (1 : Int32) l6)) else a_.2.2.1)), (a_.2.2.2.1 + (1 : Int32)), (if ((((a_.2.2.2.2 17) l6.toNatClampNeg) &&& a_.1) &&& ((a_.1 &&& ((zshl (1 : Int32) a_.2.2.2.1) ^^^ (-1 : Int32))) ^^^ (-1 : Int32))) = (0 : Int32) then a_.2.2.2.2 else (if (rX5_most a_.2.2.2.2 (l6 + (1 : Int32)) (a_.1 &&& ((zshl (1 : Int32) a_.2.2.2.1) ^^^ (-1 : Int32)))) = (a_.2.1 - (1 : Int32)) then (zu (sX5_most a_.2.2.2.2 (l6 + (1 : Int32)) (a_.1 &&& ((zshl (1 : Int32) a_.2.2.2.1) ^^^ (-1 : Int32)))) 26 (zu ((sX5_most a_.2.2.2.2 (l6 + (1 : Int32)) (a_.1 &&& ((zshl (1 : Int32) a_.2.2.2.1) ^^^ (-1 : Int32)))) 26) l6.toNatClampNeg a_.2.2.2.1)) else (sX5_most a_.2.2.2.2 (l6 + (1 : Int32)) (a_.1 &&& ((zshl (1 : Int32) a_.2.2.2.1) ^^^ (-1 : Int32)))))))
def eX5_choose_t_30 (l6 : Int32) (a_ : Int32 × Int32 × Int32 × Int32 × zc_N) : Prop := (((12 : Int32) ≤ a_.2.2.2.1 ∧ True) ∨ (¬ (12 : Int32) ≤ a_.2.2.2.1 ∧ ((((a_.2.2.2.2 26) l6.toNatClampNeg) = (-1 : Int32) ∧ ((((((a_.2.2.2.2 17) l6.toNatClampNeg) &&& a_.1) &&& ((a_.1 &&& ((zshl (1 : Int32) a_.2.2.2.1) ^^^ (-1 : Int32))) ^^^ (-1 : Int32))) = (0 : Int32) ∧ False) ∨ (¬ ((((a_.2.2.2.2 17) l6.toNatClampNeg) &&& a_.1) &&& ((a_.1 &&& ((zshl (1 : Int32) a_.2.2.2.1) ^^^ (-1 : Int32))) ^^^ (-1 : Int32))) = (0 : Int32) ∧ (((rX5_most a_.2.2.2.2 (l6 + (1 : Int32)) (a_.1 &&& ((zshl (1 : Int32) a_.2.2.2.1) ^^^ (-1 : Int32)))) = (a_.2.1 - (1 : Int32)) ∧ False) ∨ (¬ (rX5_most a_.2.2.2.2 (l6 + (1 : Int32)) (a_.1 &&& ((zshl (1 : Int32) a_.2.2.2.1) ^^^ (-1 : Int32)))) = (a_.2.1 - (1 : Int32)) ∧ False))))) ∨ (¬ ((a_.2.2.2.2 26) l6.toNatClampNeg) = (-1 : Int32) ∧ True))))
def qX5_choose_t_30 (l6 : Int32) (a_ : Int32 × Int32 × Int32 × Int32 × zc_N) : Prop := (((12 : Int32) ≤ a_.2.2.2.1 → True) ∧ (¬ (12 : Int32) ≤ a_.2.2.2.1 → (vp_in l6 12 ∧ ((((a_.2.2.2.2 26) l6.toNatClampNeg) = (-1 : Int32) → (vp_in l6 12 ∧ ((((((a_.2.2.2.2 17) l6.toNatClampNeg) &&& a_.1) &&& ((a_.1 &&& ((zshl (1 : Int32) a_.2.2.2.1) ^^^ (-1 : Int32))) ^^^ (-1 : Int32))) = (0 : Int32) → True) ∧ (¬ ((((a_.2.2.2.2 17) l6.toNatClampNeg) &&& a_.1) &&& ((a_.1 &&& ((zshl (1 : Int32) a_.2.2.2.1) ^^^ (-1 : Int32))) ^^^ (-1 : Int32))) = (0 : Int32) → ((pX5_most a_.2.2.2.2 (l6 + (1 : Int32)) (a_.1 &&& ((zshl (1 : Int32) a_.2.2.2.1) ^^^ (-1 : Int32)))) ∧ (((rX5_most a_.2.2.2.2 (l6 + (1 : Int32)) (a_.1 &&& ((zshl (1 : Int32) a_.2.2.2.1) ^^^ (-1 : Int32)))) = (a_.2.1 - (1 : Int32)) → vp_in l6 12) ∧ (¬ (rX5_most a_.2.2.2.2 (l6 + (1 : Int32)) (a_.1 &&& ((zshl (1 : Int32) a_.2.2.2.1) ^^^ (-1 : Int32)))) = (a_.2.1 - (1 : Int32)) → True))))))) ∧ (¬ ((a_.2.2.2.2 26) l6.toNatClampNeg) = (-1 : Int32) → True)))))
noncomputable def wX5_choose_t_30 (l6 : Int32) (a_ : Int32 × Int32 × Int32 × Int32 × zc_N) : Int32 × Int32 × Int32 × Int32 × zc_N := zit (fX5_choose_t_30 l6) (zwn (fun n_ => (eX5_choose_t_30 l6) (zit (fX5_choose_t_30 l6) n_ a_))) a_
set_option maxHeartbeats 2000000 in
theorem whX5_choose_t_30 {G : zc_G} {Q : Option Value → zc_H → Prop} (P : zp) (σ : zc_N) (l3 : Int32) (l4 : Int32) (l5 : Int32) (l6 : Int32) (l7 : Int32)
    (hT_ : ∃ n_ : Nat, (eX5_choose_t_30 l6) (zit (fX5_choose_t_30 l6) n_ (l3, l4, l5, l7, σ))) (W1_ : ∀ i30_ : Nat, i30_ < (zwn (fun n_ => (eX5_choose_t_30 l6) (zit (fX5_choose_t_30 l6) n_ (l3, l4, l5, l7, σ)))) → qX5_choose_t_30 l6 (zit (fX5_choose_t_30 l6) i30_ (l3, l4, l5, l7, σ)))
    (W2_ : (eX5_choose_t_30 l6) (wX5_choose_t_30 l6 (l3, l4, l5, l7, σ)) → zz G mX5_choose 16 0 0 Q 30 [some (.ref 16), none, some (.ref 26), some (.int (wX5_choose_t_30 l6 (l3, l4, l5, l7, σ)).1), some (.int (wX5_choose_t_30 l6 (l3, l4, l5, l7, σ)).2.1), some (.int (wX5_choose_t_30 l6 (l3, l4, l5, l7, σ)).2.2.1), some (.int l6), some (.int (wX5_choose_t_30 l6 (l3, l4, l5, l7, σ)).2.2.2.1), none] [] (hh P (wX5_choose_t_30 l6 (l3, l4, l5, l7, σ)).2.2.2.2) 0 0) :
    zz G mX5_choose 16 0 0 Q 30 [some (.ref 16), none, some (.ref 26), some (.int l3), some (.int l4), some (.int l5), some (.int l6), some (.int l7), none] [] (hh P σ) 0 0 := by
  unfold wX5_choose_t_30 at W2_
  have hs_ := zwn_spec hT_
  refine zit_Z (fun a_ => zz G mX5_choose 16 0 0 Q 30 [some (.ref 16), none, some (.ref 26), some (.int a_.1), some (.int a_.2.1), some (.int a_.2.2.1), some (.int l6), some (.int a_.2.2.2.1), none] [] (hh P a_.2.2.2.2) 0 0) (fX5_choose_t_30 l6) (zwn (fun n_ => (eX5_choose_t_30 l6) (zit (fX5_choose_t_30 l6) n_ (l3, l4, l5, l7, σ)))) (l3, l4, l5, l7, σ) (fun i_ hi_ k_ => ?_) (W2_ hs_.1)
  have hn_ := hs_.2 i_ hi_
  have W3_ := W1_ i_ hi_
  generalize zit (fX5_choose_t_30 l6) i_ (l3, l4, l5, l7, σ) = g_ at k_ hn_ W3_ ⊢
  obtain ⟨x0_, x1_, x2_, x3_, x4_⟩ := g_
  try dsimp only at k_ hn_ W3_ ⊢
  rw [fX5_choose_t_30] at k_
  rw [eX5_choose_t_30] at hn_
  try dsimp only at k_ hn_
  rw [qX5_choose_t_30] at W3_
  try dsimp only at W3_
  refine z_iload dX5_choose_30 rfl ?_
  refine z_bipush dX5_choose_32 k_bipush_12 ?_
  refine z_icmp_ge (tgt := 116) dX5_choose_34 (by decide) (fun c_1 => ?_) (fun c_1 => ?_)
  · exact absurd (Or.inl ⟨c_1, trivial⟩) hn_
  · refine z_aloadr_n dX5_choose_37 rfl ?_
    refine z_iload dX5_choose_38 rfl ?_
    refine z_iald (v := ((x4_ 26) l6.toNatClampNeg)) dX5_choose_40 (zN rfl) rfl ((W3_.2 c_1).1) rfl ?_
    refine z_iconst dX5_choose_41 k_iconst_m1 ?_
    refine z_icmp_ne (tgt := 116) dX5_choose_42 (by decide) (fun c_2 => ?_) (fun c_2 => ?_)
    · exact absurd (Or.inr ⟨c_1, (Or.inr ⟨c_2, trivial⟩)⟩) hn_
    · refine z_iload_n dX5_choose_45 rfl ?_
      refine z_iconst dX5_choose_46 k_iconst_1 ?_
      refine z_iload dX5_choose_47 rfl ?_
      refine z_ishl (v := (zshl (1 : Int32) x3_)) dX5_choose_49 rfl ?_
      refine z_iconst dX5_choose_50 k_iconst_m1 ?_
      refine z_ixor (v := ((zshl (1 : Int32) x3_) ^^^ (-1 : Int32))) dX5_choose_51 rfl ?_
      refine z_iand (v := (x0_ &&& ((zshl (1 : Int32) x3_) ^^^ (-1 : Int32)))) dX5_choose_52 rfl ?_
      refine z_istore (lv' := [some (.ref 16), none, some (.ref 26), some (.int x0_), some (.int x1_), some (.int x2_), some (.int l6), some (.int x3_), some (.int (x0_ &&& ((zshl (1 : Int32) x3_) ^^^ (-1 : Int32))))]) dX5_choose_53 (Nat.le_of_ble_eq_true rfl) rfl ?_
      refine z_aloadr_n dX5_choose_55 rfl ?_
      refine z_get (ci := 5) (r := (RX5, TX5, 4)) (j := 0) (v := .ref 17) dX5_choose_56 (Nat.le_of_ble_eq_true rfl) (zN rfl) rfl rfl (Nat.le_of_ble_eq_true rfl) fl_X5_9 rfl ?_
      refine z_iload dX5_choose_59 rfl ?_
      refine z_iald (v := ((x4_ 17) l6.toNatClampNeg)) dX5_choose_61 (zN rfl) rfl (((W3_.2 c_1).2.1 c_2).1) rfl ?_
      refine z_iload_n dX5_choose_62 rfl ?_
      refine z_iand (v := (((x4_ 17) l6.toNatClampNeg) &&& x0_)) dX5_choose_63 rfl ?_
      refine z_iload dX5_choose_64 rfl ?_
      refine z_iconst dX5_choose_66 k_iconst_m1 ?_
      refine z_ixor (v := ((x0_ &&& ((zshl (1 : Int32) x3_) ^^^ (-1 : Int32))) ^^^ (-1 : Int32))) dX5_choose_67 rfl ?_
      refine z_iand (v := ((((x4_ 17) l6.toNatClampNeg) &&& x0_) &&& ((x0_ &&& ((zshl (1 : Int32) x3_) ^^^ (-1 : Int32))) ^^^ (-1 : Int32)))) dX5_choose_68 rfl ?_
      refine z_if_eq (tgt := 110) dX5_choose_69 (by decide) (fun c_3 => ?_) (fun c_3 => ?_)
      · refine z_iinc (v := (x3_ + (1 : Int32))) (lv' := [some (.ref 16), none, some (.ref 26), some (.int x0_), some (.int x1_), some (.int x2_), some (.int l6), some (.int (x3_ + (1 : Int32))), some (.int (x0_ &&& ((zshl (1 : Int32) x3_) ^^^ (-1 : Int32))))]) dX5_choose_110 (Nat.le_of_ble_eq_true rfl) rfl (by rw [k_iconst_1]) rfl ?_
        refine z_goto (tgt := 30) dX5_choose_113 (by decide) ?_
        refine zz_sub (lv' := [some (.ref 16), none, some (.ref 26), some (.int x0_), some (.int x1_), some (.int x2_), some (.int l6), some (.int (x3_ + (1 : Int32))), none]) ⟨rfl, ⟨rfl, ⟨rfl, ⟨rfl, ⟨rfl, ⟨rfl, ⟨rfl, trivial⟩⟩⟩⟩⟩⟩⟩ ?_
        simpa only [if_neg c_1, if_pos c_2, if_pos c_3] using k_
      · refine z_aloadr_n dX5_choose_72 rfl ?_
        refine z_iload dX5_choose_73 rfl ?_
        refine z_iconst dX5_choose_75 k_iconst_1 ?_
        refine z_iadd (v := (l6 + (1 : Int32))) dX5_choose_76 rfl ?_
        refine z_iload dX5_choose_77 rfl ?_
        refine z_callV (ci := 5) (r := (RX5, TX5, 4)) (b := 16) (As := [.int (l6 + (1 : Int32)), .int (x0_ &&& ((zshl (1 : Int32) x3_) ^^^ (-1 : Int32)))]) (rest := []) (ctX5_most P x4_ (l6 + (1 : Int32)) (x0_ &&& ((zshl (1 : Int32) x3_) ^^^ (-1 : Int32))) ((((W3_.2 c_1).2.1 c_2).2.2 c_3).1)) dX5_choose_79 lk_X5_47 lv_X5_most (Nat.le_of_ble_eq_true rfl) (zN rfl) rfl rfl rfl rfl (Nat.le_of_ble_eq_true rfl) (Nat.le_of_ble_eq_true rfl) (Nat.le_of_ble_eq_true rfl) (Nat.le_of_ble_eq_true rfl) (fun r_ h_ e_ => ?_)
        obtain ⟨e1_, e2_⟩ := e_
        subst e1_
        subst e2_
        show zz G mX5_choose 16 0 0 Q 82 [some (.ref 16), none, some (.ref 26), some (.int x0_), some (.int x1_), some (.int x2_), some (.int l6), some (.int x3_), some (.int (x0_ &&& ((zshl (1 : Int32) x3_) ^^^ (-1 : Int32))))] [.int (rX5_most x4_ (l6 + (1 : Int32)) (x0_ &&& ((zshl (1 : Int32) x3_) ^^^ (-1 : Int32))))] (hh P (sX5_most x4_ (l6 + (1 : Int32)) (x0_ &&& ((zshl (1 : Int32) x3_) ^^^ (-1 : Int32))))) 0 0
        refine z_iload dX5_choose_82 rfl ?_
        refine z_iconst dX5_choose_84 k_iconst_1 ?_
        refine z_isub (v := (x1_ - (1 : Int32))) dX5_choose_85 rfl ?_
        refine z_icmp_ne (tgt := 110) dX5_choose_86 (by decide) (fun c_4 => ?_) (fun c_4 => ?_)
        · refine z_iinc (v := (x3_ + (1 : Int32))) (lv' := [some (.ref 16), none, some (.ref 26), some (.int x0_), some (.int x1_), some (.int x2_), some (.int l6), some (.int (x3_ + (1 : Int32))), some (.int (x0_ &&& ((zshl (1 : Int32) x3_) ^^^ (-1 : Int32))))]) dX5_choose_110 (Nat.le_of_ble_eq_true rfl) rfl (by rw [k_iconst_1]) rfl ?_
          refine z_goto (tgt := 30) dX5_choose_113 (by decide) ?_
          refine zz_sub (lv' := [some (.ref 16), none, some (.ref 26), some (.int x0_), some (.int x1_), some (.int x2_), some (.int l6), some (.int (x3_ + (1 : Int32))), none]) ⟨rfl, ⟨rfl, ⟨rfl, ⟨rfl, ⟨rfl, ⟨rfl, ⟨rfl, trivial⟩⟩⟩⟩⟩⟩⟩ ?_
          simpa only [if_neg c_1, if_pos c_2, if_neg c_3, if_neg c_4] using k_
        · refine z_aloadr_n dX5_choose_89 rfl ?_
          refine z_iload dX5_choose_90 rfl ?_
          refine z_iload dX5_choose_92 rfl ?_
          refine z_iast (σ' := (zu (sX5_most x4_ (l6 + (1 : Int32)) (x0_ &&& ((zshl (1 : Int32) x3_) ^^^ (-1 : Int32)))) 26 (zu ((sX5_most x4_ (l6 + (1 : Int32)) (x0_ &&& ((zshl (1 : Int32) x3_) ^^^ (-1 : Int32)))) 26) l6.toNatClampNeg x3_))) dX5_choose_94 (Nat.le_of_ble_eq_true rfl) (zN rfl) rfl ((((W3_.2 c_1).2.1 c_2).2.2 c_3).2.1 c_4) rfl ?_
          refine z_iload dX5_choose_95 rfl ?_
          refine z_iconst dX5_choose_97 k_iconst_1 ?_
          refine z_iload dX5_choose_98 rfl ?_
          refine z_ishl (v := (zshl (1 : Int32) l6)) dX5_choose_100 rfl ?_
          refine z_ior (v := (x2_ ||| (zshl (1 : Int32) l6))) dX5_choose_101 rfl ?_
          refine z_istore (lv' := [some (.ref 16), none, some (.ref 26), some (.int x0_), some (.int x1_), some (.int (x2_ ||| (zshl (1 : Int32) l6))), some (.int l6), some (.int x3_), some (.int (x0_ &&& ((zshl (1 : Int32) x3_) ^^^ (-1 : Int32))))]) dX5_choose_102 (Nat.le_of_ble_eq_true rfl) rfl ?_
          refine z_iload dX5_choose_104 rfl ?_
          refine z_istore_n (lv' := [some (.ref 16), none, some (.ref 26), some (.int (x0_ &&& ((zshl (1 : Int32) x3_) ^^^ (-1 : Int32)))), some (.int x1_), some (.int (x2_ ||| (zshl (1 : Int32) l6))), some (.int l6), some (.int x3_), some (.int (x0_ &&& ((zshl (1 : Int32) x3_) ^^^ (-1 : Int32))))]) dX5_choose_106 (Nat.le_of_ble_eq_true rfl) rfl ?_
          refine z_iinc (v := (x1_ + (-1 : Int32))) (lv' := [some (.ref 16), none, some (.ref 26), some (.int (x0_ &&& ((zshl (1 : Int32) x3_) ^^^ (-1 : Int32)))), some (.int (x1_ + (-1 : Int32))), some (.int (x2_ ||| (zshl (1 : Int32) l6))), some (.int l6), some (.int x3_), some (.int (x0_ &&& ((zshl (1 : Int32) x3_) ^^^ (-1 : Int32))))]) dX5_choose_107 (Nat.le_of_ble_eq_true rfl) rfl (by rw [k_iconst_m1]) rfl ?_
          refine z_iinc (v := (x3_ + (1 : Int32))) (lv' := [some (.ref 16), none, some (.ref 26), some (.int (x0_ &&& ((zshl (1 : Int32) x3_) ^^^ (-1 : Int32)))), some (.int (x1_ + (-1 : Int32))), some (.int (x2_ ||| (zshl (1 : Int32) l6))), some (.int l6), some (.int (x3_ + (1 : Int32))), some (.int (x0_ &&& ((zshl (1 : Int32) x3_) ^^^ (-1 : Int32))))]) dX5_choose_110 (Nat.le_of_ble_eq_true rfl) rfl (by rw [k_iconst_1]) rfl ?_
          refine z_goto (tgt := 30) dX5_choose_113 (by decide) ?_
          refine zz_sub (lv' := [some (.ref 16), none, some (.ref 26), some (.int (x0_ &&& ((zshl (1 : Int32) x3_) ^^^ (-1 : Int32)))), some (.int (x1_ + (-1 : Int32))), some (.int (x2_ ||| (zshl (1 : Int32) l6))), some (.int l6), some (.int (x3_ + (1 : Int32))), none]) ⟨rfl, ⟨rfl, ⟨rfl, ⟨rfl, ⟨rfl, ⟨rfl, ⟨rfl, trivial⟩⟩⟩⟩⟩⟩⟩ ?_
          simpa only [if_neg c_1, if_pos c_2, if_neg c_3, if_pos c_4] using k_


noncomputable def vX5_choose_t_5 (l3 : Int32) (l4 : Int32) (l5 : Int32) (l6 : Int32) (σ : zc_N) : Int32 := ((wX5_choose_t_30 l6 (l3, l4, l5, (0 : Int32), σ)).1 &&& ((zshl (1 : Int32) (wX5_choose_t_30 l6 (l3, l4, l5, (0 : Int32), σ)).2.2.2.1) ^^^ (-1 : Int32)))
noncomputable def vX5_choose_t_6 (l3 : Int32) (l4 : Int32) (l5 : Int32) (l6 : Int32) (σ : zc_N) : zc_N := (sX5_most ((wX5_choose_t_30 l6 (l3, l4, l5, (0 : Int32), σ)).2.2.2.2) (l6 + (1 : Int32)) (vX5_choose_t_5 l3 l4 l5 l6 σ))
noncomputable def fX5_choose_t_18 (i_ : Nat) (a_ : Int32 × Int32 × Int32 × zc_N) : Int32 × Int32 × Int32 × zc_N := ((wX5_choose_t_30 (nI i_) (a_.1, a_.2.1, a_.2.2.1, (0 : Int32), a_.2.2.2)).1, (wX5_choose_t_30 (nI i_) (a_.1, a_.2.1, a_.2.2.1, (0 : Int32), a_.2.2.2)).2.1, (wX5_choose_t_30 (nI i_) (a_.1, a_.2.1, a_.2.2.1, (0 : Int32), a_.2.2.2)).2.2.1, (wX5_choose_t_30 (nI i_) (a_.1, a_.2.1, a_.2.2.1, (0 : Int32), a_.2.2.2)).2.2.2.2)
def qX5_choose_t_18 (i_ : Nat) (a_ : Int32 × Int32 × Int32 × zc_N) : Prop := (((∃ n_ : Nat, (eX5_choose_t_30 (nI i_)) (zit (fX5_choose_t_30 (nI i_)) n_ (a_.1, a_.2.1, a_.2.2.1, (0 : Int32), a_.2.2.2))) ∧ (∀ i30_ : Nat, i30_ < (zwn (fun n_ => (eX5_choose_t_30 (nI i_)) (zit (fX5_choose_t_30 (nI i_)) n_ (a_.1, a_.2.1, a_.2.2.1, (0 : Int32), a_.2.2.2)))) → qX5_choose_t_30 (nI i_) (zit (fX5_choose_t_30 (nI i_)) i30_ (a_.1, a_.2.1, a_.2.2.1, (0 : Int32), a_.2.2.2)))) ∧ (((12 : Int32) ≤ (wX5_choose_t_30 (nI i_) (a_.1, a_.2.1, a_.2.2.1, (0 : Int32), a_.2.2.2)).2.2.2.1 → True) ∧ (¬ (12 : Int32) ≤ (wX5_choose_t_30 (nI i_) (a_.1, a_.2.1, a_.2.2.1, (0 : Int32), a_.2.2.2)).2.2.2.1 → (vp_in (nI i_) 12 ∧ (((((wX5_choose_t_30 (nI i_) (a_.1, a_.2.1, a_.2.2.1, (0 : Int32), a_.2.2.2)).2.2.2.2 26) (nI i_).toNatClampNeg) = (-1 : Int32) → (vp_in (nI i_) 12 ∧ (((((((wX5_choose_t_30 (nI i_) (a_.1, a_.2.1, a_.2.2.1, (0 : Int32), a_.2.2.2)).2.2.2.2 17) (nI i_).toNatClampNeg) &&& (wX5_choose_t_30 (nI i_) (a_.1, a_.2.1, a_.2.2.1, (0 : Int32), a_.2.2.2)).1) &&& ((vX5_choose_t_5 a_.1 a_.2.1 a_.2.2.1 (nI i_) a_.2.2.2) ^^^ (-1 : Int32))) = (0 : Int32) → True) ∧ (¬ (((((wX5_choose_t_30 (nI i_) (a_.1, a_.2.1, a_.2.2.1, (0 : Int32), a_.2.2.2)).2.2.2.2 17) (nI i_).toNatClampNeg) &&& (wX5_choose_t_30 (nI i_) (a_.1, a_.2.1, a_.2.2.1, (0 : Int32), a_.2.2.2)).1) &&& ((vX5_choose_t_5 a_.1 a_.2.1 a_.2.2.1 (nI i_) a_.2.2.2) ^^^ (-1 : Int32))) = (0 : Int32) → ((pX5_most ((wX5_choose_t_30 (nI i_) (a_.1, a_.2.1, a_.2.2.1, (0 : Int32), a_.2.2.2)).2.2.2.2) ((nI i_) + (1 : Int32)) (vX5_choose_t_5 a_.1 a_.2.1 a_.2.2.1 (nI i_) a_.2.2.2)) ∧ (((rX5_most ((wX5_choose_t_30 (nI i_) (a_.1, a_.2.1, a_.2.2.1, (0 : Int32), a_.2.2.2)).2.2.2.2) ((nI i_) + (1 : Int32)) (vX5_choose_t_5 a_.1 a_.2.1 a_.2.2.1 (nI i_) a_.2.2.2)) = ((wX5_choose_t_30 (nI i_) (a_.1, a_.2.1, a_.2.2.1, (0 : Int32), a_.2.2.2)).2.1 - (1 : Int32)) → vp_in (nI i_) 12) ∧ (¬ (rX5_most ((wX5_choose_t_30 (nI i_) (a_.1, a_.2.1, a_.2.2.1, (0 : Int32), a_.2.2.2)).2.2.2.2) ((nI i_) + (1 : Int32)) (vX5_choose_t_5 a_.1 a_.2.1 a_.2.2.1 (nI i_) a_.2.2.2)) = ((wX5_choose_t_30 (nI i_) (a_.1, a_.2.1, a_.2.2.1, (0 : Int32), a_.2.2.2)).2.1 - (1 : Int32)) → True))))))) ∧ (¬ (((wX5_choose_t_30 (nI i_) (a_.1, a_.2.1, a_.2.2.1, (0 : Int32), a_.2.2.2)).2.2.2.2 26) (nI i_).toNatClampNeg) = (-1 : Int32) → True))))))
set_option maxHeartbeats 2000000 in
theorem lpX5_choose_t_18 {G : zc_G} {Q : Option Value → zc_H → Prop} (P : zp) (σ : zc_N) (l3 : Int32) (l4 : Int32) (l5 : Int32) (n_ : Nat) (hC_ : ∀ i18_ : Nat, i18_ ≤ n_ → ((((zfor fX5_choose_t_18 i18_ (l3, l4, l5, σ)).2.2.2 16) 1) ≤ (nI i18_) ↔ n_ ≤ i18_)) (W1_ : ∀ i18_ : Nat, i18_ < n_ → qX5_choose_t_18 i18_ (zfor fX5_choose_t_18 i18_ (l3, l4, l5, σ)))
    (W2_ : zz G mX5_choose 16 0 0 Q 122 [none, none, none, none, none, some (.int (zfor fX5_choose_t_18 n_ (l3, l4, l5, σ)).2.2.1), none, none, none] [] (hh P (zfor fX5_choose_t_18 n_ (l3, l4, l5, σ)).2.2.2) 0 0) :
    zz G mX5_choose 16 0 0 Q 18 [some (.ref 16), none, some (.ref 26), some (.int l3), some (.int l4), some (.int l5), some (.int (nI 0)), none, none] [] (hh P σ) 0 0 := by
  refine zfor_nI (fun i_ a_ => zz G mX5_choose 16 0 0 Q 18 [some (.ref 16), none, some (.ref 26), some (.int a_.1), some (.int a_.2.1), some (.int a_.2.2.1), some (.int i_), none, none] [] (hh P a_.2.2.2) 0 0) fX5_choose_t_18 n_ (l3, l4, l5, σ) (fun i_ hi_ k_ => ?_) ?_
  all_goals try dsimp only
  · have W3_ := W1_ i_ hi_
    have hD_ := hC_ i_ (Nat.le_of_lt hi_)
    generalize zfor fX5_choose_t_18 i_ (l3, l4, l5, σ) = g_ at k_ W3_ hD_ ⊢
    obtain ⟨x0_, x1_, x2_, x3_⟩ := g_
    dsimp only at k_ W3_ hD_ ⊢
    rw [fX5_choose_t_18] at k_
    rw [qX5_choose_t_18] at W3_
    try dsimp only at W3_
    dsimp only at k_
    refine z_iload dX5_choose_18 rfl ?_
    refine z_aloadr_n dX5_choose_20 rfl ?_
    refine z_get (ci := 5) (r := (RX5, TX5, 4)) (j := 1) (v := .int ((x3_ 16) 1)) dX5_choose_21 (Nat.le_of_ble_eq_true rfl) (zN rfl) rfl rfl (Nat.le_of_ble_eq_true rfl) fl_X5_15 rfl ?_
    refine z_icmp_ge (tgt := 122) dX5_choose_24 (by decide) (fun c_ => absurd c_ (fun q_ => Nat.not_le_of_lt hi_ (hD_.mp q_))) (fun c_ => ?_)
    refine z_iconst dX5_choose_27 k_iconst_0 ?_
    refine z_istore (lv' := [some (.ref 16), none, some (.ref 26), some (.int x0_), some (.int x1_), some (.int x2_), some (.int (nI i_)), some (.int (0 : Int32)), none]) dX5_choose_28 (Nat.le_of_ble_eq_true rfl) rfl ?_
    refine whX5_choose_t_30 P x3_ x0_ x1_ x2_ (nI i_) (0 : Int32) W3_.1.1 W3_.1.2 (fun hX30_ => ?_)
    rw [eX5_choose_t_30] at hX30_
    try dsimp only at hX30_
    show zz G mX5_choose 16 0 0 Q 30 [some (.ref 16), none, some (.ref 26), some (.int (wX5_choose_t_30 (nI i_) (x0_, x1_, x2_, (0 : Int32), x3_)).1), some (.int (wX5_choose_t_30 (nI i_) (x0_, x1_, x2_, (0 : Int32), x3_)).2.1), some (.int (wX5_choose_t_30 (nI i_) (x0_, x1_, x2_, (0 : Int32), x3_)).2.2.1), some (.int (nI i_)), some (.int (wX5_choose_t_30 (nI i_) (x0_, x1_, x2_, (0 : Int32), x3_)).2.2.2.1), none] [] (hh P (wX5_choose_t_30 (nI i_) (x0_, x1_, x2_, (0 : Int32), x3_)).2.2.2.2) 0 0
    refine z_iload dX5_choose_30 rfl ?_
    refine z_bipush dX5_choose_32 k_bipush_12 ?_
    refine z_icmp_ge (tgt := 116) dX5_choose_34 (by decide) (fun c_2 => ?_) (fun c_2 => ?_)
    · refine z_iinc (v := ((nI i_) + (1 : Int32))) (lv' := [some (.ref 16), none, some (.ref 26), some (.int (wX5_choose_t_30 (nI i_) (x0_, x1_, x2_, (0 : Int32), x3_)).1), some (.int (wX5_choose_t_30 (nI i_) (x0_, x1_, x2_, (0 : Int32), x3_)).2.1), some (.int (wX5_choose_t_30 (nI i_) (x0_, x1_, x2_, (0 : Int32), x3_)).2.2.1), some (.int ((nI i_) + (1 : Int32))), some (.int (wX5_choose_t_30 (nI i_) (x0_, x1_, x2_, (0 : Int32), x3_)).2.2.2.1), none]) dX5_choose_116 (Nat.le_of_ble_eq_true rfl) rfl (by rw [k_iconst_1]) rfl ?_
      refine z_goto (tgt := 18) dX5_choose_119 (by decide) ?_
      refine zz_sub (lv' := [some (.ref 16), none, some (.ref 26), some (.int (wX5_choose_t_30 (nI i_) (x0_, x1_, x2_, (0 : Int32), x3_)).1), some (.int (wX5_choose_t_30 (nI i_) (x0_, x1_, x2_, (0 : Int32), x3_)).2.1), some (.int (wX5_choose_t_30 (nI i_) (x0_, x1_, x2_, (0 : Int32), x3_)).2.2.1), some (.int ((nI i_) + (1 : Int32))), none, none]) ⟨rfl, ⟨rfl, ⟨rfl, ⟨rfl, ⟨rfl, ⟨rfl, trivial⟩⟩⟩⟩⟩⟩ ?_
      rw [nI_1]
      simpa only [if_pos c_2] using k_
    · refine z_aloadr_n dX5_choose_37 rfl ?_
      refine z_iload dX5_choose_38 rfl ?_
      refine z_iald (v := (((wX5_choose_t_30 (nI i_) (x0_, x1_, x2_, (0 : Int32), x3_)).2.2.2.2 26) (nI i_).toNatClampNeg)) dX5_choose_40 (zN rfl) rfl ((W3_.2.2 c_2).1) rfl ?_
      refine z_iconst dX5_choose_41 k_iconst_m1 ?_
      refine z_icmp_ne (tgt := 116) dX5_choose_42 (by decide) (fun c_3 => ?_) (fun c_3 => ?_)
      · refine z_iinc (v := ((nI i_) + (1 : Int32))) (lv' := [some (.ref 16), none, some (.ref 26), some (.int (wX5_choose_t_30 (nI i_) (x0_, x1_, x2_, (0 : Int32), x3_)).1), some (.int (wX5_choose_t_30 (nI i_) (x0_, x1_, x2_, (0 : Int32), x3_)).2.1), some (.int (wX5_choose_t_30 (nI i_) (x0_, x1_, x2_, (0 : Int32), x3_)).2.2.1), some (.int ((nI i_) + (1 : Int32))), some (.int (wX5_choose_t_30 (nI i_) (x0_, x1_, x2_, (0 : Int32), x3_)).2.2.2.1), none]) dX5_choose_116 (Nat.le_of_ble_eq_true rfl) rfl (by rw [k_iconst_1]) rfl ?_
        refine z_goto (tgt := 18) dX5_choose_119 (by decide) ?_
        refine zz_sub (lv' := [some (.ref 16), none, some (.ref 26), some (.int (wX5_choose_t_30 (nI i_) (x0_, x1_, x2_, (0 : Int32), x3_)).1), some (.int (wX5_choose_t_30 (nI i_) (x0_, x1_, x2_, (0 : Int32), x3_)).2.1), some (.int (wX5_choose_t_30 (nI i_) (x0_, x1_, x2_, (0 : Int32), x3_)).2.2.1), some (.int ((nI i_) + (1 : Int32))), none, none]) ⟨rfl, ⟨rfl, ⟨rfl, ⟨rfl, ⟨rfl, ⟨rfl, trivial⟩⟩⟩⟩⟩⟩ ?_
        rw [nI_1]
        simpa only [if_neg c_2, if_neg c_3] using k_
      · refine z_iload_n dX5_choose_45 rfl ?_
        refine z_iconst dX5_choose_46 k_iconst_1 ?_
        refine z_iload dX5_choose_47 rfl ?_
        refine z_ishl (v := (zshl (1 : Int32) (wX5_choose_t_30 (nI i_) (x0_, x1_, x2_, (0 : Int32), x3_)).2.2.2.1)) dX5_choose_49 rfl ?_
        refine z_iconst dX5_choose_50 k_iconst_m1 ?_
        refine z_ixor (v := ((zshl (1 : Int32) (wX5_choose_t_30 (nI i_) (x0_, x1_, x2_, (0 : Int32), x3_)).2.2.2.1) ^^^ (-1 : Int32))) dX5_choose_51 rfl ?_
        refine z_iand (v := ((wX5_choose_t_30 (nI i_) (x0_, x1_, x2_, (0 : Int32), x3_)).1 &&& ((zshl (1 : Int32) (wX5_choose_t_30 (nI i_) (x0_, x1_, x2_, (0 : Int32), x3_)).2.2.2.1) ^^^ (-1 : Int32)))) dX5_choose_52 rfl ?_
        refine z_istore (lv' := [some (.ref 16), none, some (.ref 26), some (.int (wX5_choose_t_30 (nI i_) (x0_, x1_, x2_, (0 : Int32), x3_)).1), some (.int (wX5_choose_t_30 (nI i_) (x0_, x1_, x2_, (0 : Int32), x3_)).2.1), some (.int (wX5_choose_t_30 (nI i_) (x0_, x1_, x2_, (0 : Int32), x3_)).2.2.1), some (.int (nI i_)), some (.int (wX5_choose_t_30 (nI i_) (x0_, x1_, x2_, (0 : Int32), x3_)).2.2.2.1), some (.int (vX5_choose_t_5 x0_ x1_ x2_ (nI i_) x3_))]) dX5_choose_53 (Nat.le_of_ble_eq_true rfl) rfl ?_
        refine z_aloadr_n dX5_choose_55 rfl ?_
        refine z_get (ci := 5) (r := (RX5, TX5, 4)) (j := 0) (v := .ref 17) dX5_choose_56 (Nat.le_of_ble_eq_true rfl) (zN rfl) rfl rfl (Nat.le_of_ble_eq_true rfl) fl_X5_9 rfl ?_
        refine z_iload dX5_choose_59 rfl ?_
        refine z_iald (v := (((wX5_choose_t_30 (nI i_) (x0_, x1_, x2_, (0 : Int32), x3_)).2.2.2.2 17) (nI i_).toNatClampNeg)) dX5_choose_61 (zN rfl) rfl (((W3_.2.2 c_2).2.1 c_3).1) rfl ?_
        refine z_iload_n dX5_choose_62 rfl ?_
        refine z_iand (v := ((((wX5_choose_t_30 (nI i_) (x0_, x1_, x2_, (0 : Int32), x3_)).2.2.2.2 17) (nI i_).toNatClampNeg) &&& (wX5_choose_t_30 (nI i_) (x0_, x1_, x2_, (0 : Int32), x3_)).1)) dX5_choose_63 rfl ?_
        refine z_iload dX5_choose_64 rfl ?_
        refine z_iconst dX5_choose_66 k_iconst_m1 ?_
        refine z_ixor (v := ((vX5_choose_t_5 x0_ x1_ x2_ (nI i_) x3_) ^^^ (-1 : Int32))) dX5_choose_67 rfl ?_
        refine z_iand (v := (((((wX5_choose_t_30 (nI i_) (x0_, x1_, x2_, (0 : Int32), x3_)).2.2.2.2 17) (nI i_).toNatClampNeg) &&& (wX5_choose_t_30 (nI i_) (x0_, x1_, x2_, (0 : Int32), x3_)).1) &&& ((vX5_choose_t_5 x0_ x1_ x2_ (nI i_) x3_) ^^^ (-1 : Int32)))) dX5_choose_68 rfl ?_
        refine z_if_eq (tgt := 110) dX5_choose_69 (by decide) (fun c_4 => ?_) (fun c_4 => ?_)
        · refine z_iinc (v := ((wX5_choose_t_30 (nI i_) (x0_, x1_, x2_, (0 : Int32), x3_)).2.2.2.1 + (1 : Int32))) (lv' := [some (.ref 16), none, some (.ref 26), some (.int (wX5_choose_t_30 (nI i_) (x0_, x1_, x2_, (0 : Int32), x3_)).1), some (.int (wX5_choose_t_30 (nI i_) (x0_, x1_, x2_, (0 : Int32), x3_)).2.1), some (.int (wX5_choose_t_30 (nI i_) (x0_, x1_, x2_, (0 : Int32), x3_)).2.2.1), some (.int (nI i_)), some (.int ((wX5_choose_t_30 (nI i_) (x0_, x1_, x2_, (0 : Int32), x3_)).2.2.2.1 + (1 : Int32))), some (.int (vX5_choose_t_5 x0_ x1_ x2_ (nI i_) x3_))]) dX5_choose_110 (Nat.le_of_ble_eq_true rfl) rfl (by rw [k_iconst_1]) rfl ?_
          refine z_goto (tgt := 30) dX5_choose_113 (by decide) ?_
          exact (ex_l (ex_l (ex_r hX30_ c_2) c_3) c_4).elim
        · refine z_aloadr_n dX5_choose_72 rfl ?_
          refine z_iload dX5_choose_73 rfl ?_
          refine z_iconst dX5_choose_75 k_iconst_1 ?_
          refine z_iadd (v := ((nI i_) + (1 : Int32))) dX5_choose_76 rfl ?_
          refine z_iload dX5_choose_77 rfl ?_
          refine z_callV (ci := 5) (r := (RX5, TX5, 4)) (b := 16) (As := [.int ((nI i_) + (1 : Int32)), .int (vX5_choose_t_5 x0_ x1_ x2_ (nI i_) x3_)]) (rest := []) (ctX5_most P ((wX5_choose_t_30 (nI i_) (x0_, x1_, x2_, (0 : Int32), x3_)).2.2.2.2) ((nI i_) + (1 : Int32)) (vX5_choose_t_5 x0_ x1_ x2_ (nI i_) x3_) ((((W3_.2.2 c_2).2.1 c_3).2.2 c_4).1)) dX5_choose_79 lk_X5_47 lv_X5_most (Nat.le_of_ble_eq_true rfl) (zN rfl) rfl rfl rfl rfl (Nat.le_of_ble_eq_true rfl) (Nat.le_of_ble_eq_true rfl) (Nat.le_of_ble_eq_true rfl) (Nat.le_of_ble_eq_true rfl) (fun r_ h_ e_ => ?_)
          obtain ⟨e1_, e2_⟩ := e_
          subst e1_
          subst e2_
          show zz G mX5_choose 16 0 0 Q 82 [some (.ref 16), none, some (.ref 26), some (.int (wX5_choose_t_30 (nI i_) (x0_, x1_, x2_, (0 : Int32), x3_)).1), some (.int (wX5_choose_t_30 (nI i_) (x0_, x1_, x2_, (0 : Int32), x3_)).2.1), some (.int (wX5_choose_t_30 (nI i_) (x0_, x1_, x2_, (0 : Int32), x3_)).2.2.1), some (.int (nI i_)), some (.int (wX5_choose_t_30 (nI i_) (x0_, x1_, x2_, (0 : Int32), x3_)).2.2.2.1), some (.int (vX5_choose_t_5 x0_ x1_ x2_ (nI i_) x3_))] [.int (rX5_most ((wX5_choose_t_30 (nI i_) (x0_, x1_, x2_, (0 : Int32), x3_)).2.2.2.2) ((nI i_) + (1 : Int32)) (vX5_choose_t_5 x0_ x1_ x2_ (nI i_) x3_))] (hh P (vX5_choose_t_6 x0_ x1_ x2_ (nI i_) x3_)) 0 0
          refine z_iload dX5_choose_82 rfl ?_
          refine z_iconst dX5_choose_84 k_iconst_1 ?_
          refine z_isub (v := ((wX5_choose_t_30 (nI i_) (x0_, x1_, x2_, (0 : Int32), x3_)).2.1 - (1 : Int32))) dX5_choose_85 rfl ?_
          refine z_icmp_ne (tgt := 110) dX5_choose_86 (by decide) (fun c_5 => ?_) (fun c_5 => ?_)
          · refine z_iinc (v := ((wX5_choose_t_30 (nI i_) (x0_, x1_, x2_, (0 : Int32), x3_)).2.2.2.1 + (1 : Int32))) (lv' := [some (.ref 16), none, some (.ref 26), some (.int (wX5_choose_t_30 (nI i_) (x0_, x1_, x2_, (0 : Int32), x3_)).1), some (.int (wX5_choose_t_30 (nI i_) (x0_, x1_, x2_, (0 : Int32), x3_)).2.1), some (.int (wX5_choose_t_30 (nI i_) (x0_, x1_, x2_, (0 : Int32), x3_)).2.2.1), some (.int (nI i_)), some (.int ((wX5_choose_t_30 (nI i_) (x0_, x1_, x2_, (0 : Int32), x3_)).2.2.2.1 + (1 : Int32))), some (.int (vX5_choose_t_5 x0_ x1_ x2_ (nI i_) x3_))]) dX5_choose_110 (Nat.le_of_ble_eq_true rfl) rfl (by rw [k_iconst_1]) rfl ?_
            refine z_goto (tgt := 30) dX5_choose_113 (by decide) ?_
            exact (ex_r (ex_r (ex_l (ex_r hX30_ c_2) c_3) c_4) c_5).elim
          · refine z_aloadr_n dX5_choose_89 rfl ?_
            refine z_iload dX5_choose_90 rfl ?_
            refine z_iload dX5_choose_92 rfl ?_
            refine z_iast (σ' := (zu (vX5_choose_t_6 x0_ x1_ x2_ (nI i_) x3_) 26 (zu ((vX5_choose_t_6 x0_ x1_ x2_ (nI i_) x3_) 26) (nI i_).toNatClampNeg ((wX5_choose_t_30 (nI i_) (x0_, x1_, x2_, (0 : Int32), x3_)).2.2.2.1)))) dX5_choose_94 (Nat.le_of_ble_eq_true rfl) (zN rfl) rfl ((((W3_.2.2 c_2).2.1 c_3).2.2 c_4).2.1 c_5) rfl ?_
            refine z_iload dX5_choose_95 rfl ?_
            refine z_iconst dX5_choose_97 k_iconst_1 ?_
            refine z_iload dX5_choose_98 rfl ?_
            refine z_ishl (v := (zshl (1 : Int32) (nI i_))) dX5_choose_100 rfl ?_
            refine z_ior (v := ((wX5_choose_t_30 (nI i_) (x0_, x1_, x2_, (0 : Int32), x3_)).2.2.1 ||| (zshl (1 : Int32) (nI i_)))) dX5_choose_101 rfl ?_
            refine z_istore (lv' := [some (.ref 16), none, some (.ref 26), some (.int (wX5_choose_t_30 (nI i_) (x0_, x1_, x2_, (0 : Int32), x3_)).1), some (.int (wX5_choose_t_30 (nI i_) (x0_, x1_, x2_, (0 : Int32), x3_)).2.1), some (.int ((wX5_choose_t_30 (nI i_) (x0_, x1_, x2_, (0 : Int32), x3_)).2.2.1 ||| (zshl (1 : Int32) (nI i_)))), some (.int (nI i_)), some (.int (wX5_choose_t_30 (nI i_) (x0_, x1_, x2_, (0 : Int32), x3_)).2.2.2.1), some (.int (vX5_choose_t_5 x0_ x1_ x2_ (nI i_) x3_))]) dX5_choose_102 (Nat.le_of_ble_eq_true rfl) rfl ?_
            refine z_iload dX5_choose_104 rfl ?_
            refine z_istore_n (lv' := [some (.ref 16), none, some (.ref 26), some (.int (vX5_choose_t_5 x0_ x1_ x2_ (nI i_) x3_)), some (.int (wX5_choose_t_30 (nI i_) (x0_, x1_, x2_, (0 : Int32), x3_)).2.1), some (.int ((wX5_choose_t_30 (nI i_) (x0_, x1_, x2_, (0 : Int32), x3_)).2.2.1 ||| (zshl (1 : Int32) (nI i_)))), some (.int (nI i_)), some (.int (wX5_choose_t_30 (nI i_) (x0_, x1_, x2_, (0 : Int32), x3_)).2.2.2.1), some (.int (vX5_choose_t_5 x0_ x1_ x2_ (nI i_) x3_))]) dX5_choose_106 (Nat.le_of_ble_eq_true rfl) rfl ?_
            refine z_iinc (v := ((wX5_choose_t_30 (nI i_) (x0_, x1_, x2_, (0 : Int32), x3_)).2.1 + (-1 : Int32))) (lv' := [some (.ref 16), none, some (.ref 26), some (.int (vX5_choose_t_5 x0_ x1_ x2_ (nI i_) x3_)), some (.int ((wX5_choose_t_30 (nI i_) (x0_, x1_, x2_, (0 : Int32), x3_)).2.1 + (-1 : Int32))), some (.int ((wX5_choose_t_30 (nI i_) (x0_, x1_, x2_, (0 : Int32), x3_)).2.2.1 ||| (zshl (1 : Int32) (nI i_)))), some (.int (nI i_)), some (.int (wX5_choose_t_30 (nI i_) (x0_, x1_, x2_, (0 : Int32), x3_)).2.2.2.1), some (.int (vX5_choose_t_5 x0_ x1_ x2_ (nI i_) x3_))]) dX5_choose_107 (Nat.le_of_ble_eq_true rfl) rfl (by rw [k_iconst_m1]) rfl ?_
            refine z_iinc (v := ((wX5_choose_t_30 (nI i_) (x0_, x1_, x2_, (0 : Int32), x3_)).2.2.2.1 + (1 : Int32))) (lv' := [some (.ref 16), none, some (.ref 26), some (.int (vX5_choose_t_5 x0_ x1_ x2_ (nI i_) x3_)), some (.int ((wX5_choose_t_30 (nI i_) (x0_, x1_, x2_, (0 : Int32), x3_)).2.1 + (-1 : Int32))), some (.int ((wX5_choose_t_30 (nI i_) (x0_, x1_, x2_, (0 : Int32), x3_)).2.2.1 ||| (zshl (1 : Int32) (nI i_)))), some (.int (nI i_)), some (.int ((wX5_choose_t_30 (nI i_) (x0_, x1_, x2_, (0 : Int32), x3_)).2.2.2.1 + (1 : Int32))), some (.int (vX5_choose_t_5 x0_ x1_ x2_ (nI i_) x3_))]) dX5_choose_110 (Nat.le_of_ble_eq_true rfl) rfl (by rw [k_iconst_1]) rfl ?_
            refine z_goto (tgt := 30) dX5_choose_113 (by decide) ?_
            exact (ex_l (ex_r (ex_l (ex_r hX30_ c_2) c_3) c_4) c_5).elim
  · have hD_ := hC_ n_ (Nat.le_refl _)
    generalize zfor fX5_choose_t_18 n_ (l3, l4, l5, σ) = g_ at W2_ hD_ ⊢
    obtain ⟨x0_, x1_, x2_, x3_⟩ := g_
    dsimp only at W2_ hD_ ⊢
    refine z_iload dX5_choose_18 rfl ?_
    refine z_aloadr_n dX5_choose_20 rfl ?_
    refine z_get (ci := 5) (r := (RX5, TX5, 4)) (j := 1) (v := .int ((x3_ 16) 1)) dX5_choose_21 (Nat.le_of_ble_eq_true rfl) (zN rfl) rfl rfl (Nat.le_of_ble_eq_true rfl) fl_X5_15 rfl ?_
    refine z_icmp_ge (tgt := 122) dX5_choose_24 (by decide) (fun c_ => ?_) (fun c_ => absurd (hD_.mpr (Nat.le_refl _)) c_)
    exact zz_sub (lv' := [none, none, none, none, none, some (.int x2_), none, none, none]) ⟨rfl, trivial⟩ W2_


noncomputable def vX5_choose_t_7 (a1 : Int32) (σ : zc_N) : zc_N := (zfor fX5_choose_t_18 (((((sJ7_fill_53178_26 σ (-1 : Int32)) 16) 1)).toNatClampNeg) ((4095 : Int32), a1, (0 : Int32), (sJ7_fill_53178_26 σ (-1 : Int32)))).2.2.2
noncomputable def vX5_choose_t_8 (a1 : Int32) (σ : zc_N) : Int32 := (zfor fX5_choose_t_18 (((((sJ7_fill_53178_26 σ (-1 : Int32)) 16) 1)).toNatClampNeg) ((4095 : Int32), a1, (0 : Int32), (sJ7_fill_53178_26 σ (-1 : Int32)))).2.2.1
def pX5_choose_t (σ : zc_N) (a1 : Int32) : Prop := ((pJ7_fill_53178_26 σ (-1 : Int32)) ∧ ((∀ i18_ : Nat, i18_ ≤ (((((sJ7_fill_53178_26 σ (-1 : Int32)) 16) 1)).toNatClampNeg) → ((((zfor fX5_choose_t_18 i18_ ((4095 : Int32), a1, (0 : Int32), (sJ7_fill_53178_26 σ (-1 : Int32)))).2.2.2 16) 1) ≤ (nI i18_) ↔ (((((sJ7_fill_53178_26 σ (-1 : Int32)) 16) 1)).toNatClampNeg) ≤ i18_)) ∧ (∀ i18_ : Nat, i18_ < (((((sJ7_fill_53178_26 σ (-1 : Int32)) 16) 1)).toNatClampNeg) → qX5_choose_t_18 i18_ (zfor fX5_choose_t_18 i18_ ((4095 : Int32), a1, (0 : Int32), (sJ7_fill_53178_26 σ (-1 : Int32)))))))
noncomputable def rX5_choose_t (σ : zc_N) (a1 : Int32) : Int32 := (vX5_choose_t_8 a1 σ)
noncomputable def sX5_choose_t (σ : zc_N) (a1 : Int32) : zc_N := (vX5_choose_t_7 a1 σ)
set_option maxHeartbeats 1000000 in
theorem ctX5_choose_t (P : zp) (σ : zc_N) (a1 : Int32) (W_ : (pX5_choose_t σ a1)) : sp mX5_choose 16 0 0 [.ref 16, .int a1, .ref 26] (hh P σ) (fun r_ h_ => r_ = some (.int (rX5_choose_t σ a1)) ∧ h_ = hh P (sX5_choose_t σ a1)) := by
  refine sp_of (lv := [some (.ref 16), some (.int a1), some (.ref 26), none, none, none, none, none, none]) (by decide) (zcats_ok _ rfl) (Nat.le_of_ble_eq_true rfl) (zlv_ok _ 6 rfl) (fun G => ?_)
  generalize hQ_ : (fun (r_ : Option Value) (h_ : zc_H) => r_ = some (.int (rX5_choose_t σ a1)) ∧ h_ = hh P (sX5_choose_t σ a1)) = Q_
  unfold pX5_choose_t at W_
  refine z_aloadr_n dX5_choose_0 rfl ?_
  refine z_iconst dX5_choose_1 k_iconst_m1 ?_
  refine z_callS (As := [.ref 26, .int (-1 : Int32)]) (rest := []) (ctJ7_fill_53178_26 P σ (-1 : Int32) W_.1) dX5_choose_2 lk_X5_37 ls_J7_fill_53178 rfl (Nat.le_of_ble_eq_true rfl) (Nat.le_of_ble_eq_true rfl) (Nat.le_of_ble_eq_true rfl) (Nat.le_of_ble_eq_true rfl) (fun r_ h_ e_ => ?_)
  obtain ⟨e1_, e2_⟩ := e_
  subst e1_
  subst e2_
  show zz G mX5_choose 16 0 0 Q_ 5 [some (.ref 16), some (.int a1), some (.ref 26), none, none, none, none, none, none] [] (hh P (sJ7_fill_53178_26 σ (-1 : Int32))) 0 0
  refine z_sipush dX5_choose_5 k_sipush_4095 ?_
  refine z_istore_n (lv' := [some (.ref 16), some (.int a1), some (.ref 26), some (.int (4095 : Int32)), none, none, none, none, none]) dX5_choose_8 (Nat.le_of_ble_eq_true rfl) rfl ?_
  refine z_iload_n dX5_choose_9 rfl ?_
  refine z_istore (lv' := [some (.ref 16), some (.int a1), some (.ref 26), some (.int (4095 : Int32)), some (.int a1), none, none, none, none]) dX5_choose_10 (Nat.le_of_ble_eq_true rfl) rfl ?_
  refine z_iconst dX5_choose_12 k_iconst_0 ?_
  refine z_istore (lv' := [some (.ref 16), some (.int a1), some (.ref 26), some (.int (4095 : Int32)), some (.int a1), some (.int (0 : Int32)), none, none, none]) dX5_choose_13 (Nat.le_of_ble_eq_true rfl) rfl ?_
  refine z_iconst dX5_choose_15 k_iconst_0 ?_
  refine z_istore (lv' := [some (.ref 16), some (.int a1), some (.ref 26), some (.int (4095 : Int32)), some (.int a1), some (.int (0 : Int32)), some (.int (0 : Int32)), none, none]) dX5_choose_16 (Nat.le_of_ble_eq_true rfl) rfl ?_
  refine zz_sub (lv' := [some (.ref 16), none, some (.ref 26), some (.int (4095 : Int32)), some (.int a1), some (.int (0 : Int32)), some (.int (0 : Int32)), none, none]) ⟨rfl, ⟨rfl, ⟨rfl, ⟨rfl, ⟨rfl, ⟨rfl, trivial⟩⟩⟩⟩⟩⟩ ?_
  refine lpX5_choose_t_18 P (sJ7_fill_53178_26 σ (-1 : Int32)) (4095 : Int32) a1 (0 : Int32) (((((sJ7_fill_53178_26 σ (-1 : Int32)) 16) 1)).toNatClampNeg) W_.2.1 W_.2.2 ?_
  show zz G mX5_choose 16 0 0 Q_ 122 [none, none, none, none, none, some (.int (vX5_choose_t_8 a1 σ)), none, none, none] [] (hh P (vX5_choose_t_7 a1 σ)) 0 0
  refine z_iload dX5_choose_122 rfl ?_
  exact z_ireturn dX5_choose_124 rfl rfl (Nat.le_of_ble_eq_true rfl) (Nat.le_of_ble_eq_true rfl) (by rw [← hQ_]; exact ⟨(by rw [rX5_choose_t]), (by rw [sX5_choose_t])⟩)

theorem dX4_fillIn_0 : decode cX4_fillIn 0 = .ok (.aload_n 0, 1) := by decide +kernel
theorem dX4_fillIn_1 : decode cX4_fillIn 1 = .ok (.getfield 22, 3) := by decide +kernel
theorem dX4_fillIn_4 : decode cX4_fillIn 4 = .ok (.aload_n 2, 1) := by decide +kernel
theorem dX4_fillIn_5 : decode cX4_fillIn 5 = .ok (.aload_n 0, 1) := by decide +kernel
theorem dX4_fillIn_6 : decode cX4_fillIn 6 = .ok (.getfield 9, 3) := by decide +kernel
theorem dX4_fillIn_9 : decode cX4_fillIn 9 = .ok (.invokevirtual 87, 3) := by decide +kernel
theorem dX4_fillIn_12 : decode cX4_fillIn 12 = .ok (.aload_n 0, 1) := by decide +kernel
theorem dX4_fillIn_13 : decode cX4_fillIn 13 = .ok (.aload_n 1, 1) := by decide +kernel
theorem dX4_fillIn_14 : decode cX4_fillIn 14 = .ok (.aload_n 3, 1) := by decide +kernel
theorem dX4_fillIn_15 : decode cX4_fillIn 15 = .ok (.getfield 91, 3) := by decide +kernel
theorem dX4_fillIn_18 : decode cX4_fillIn 18 = .ok (.invokevirtual 94, 3) := by decide +kernel
theorem dX4_fillIn_21 : decode cX4_fillIn 21 = .ok (.aload_n 0, 1) := by decide +kernel
theorem dX4_fillIn_22 : decode cX4_fillIn 22 = .ok (.aload_n 1, 1) := by decide +kernel
theorem dX4_fillIn_23 : decode cX4_fillIn 23 = .ok (.aload_n 2, 1) := by decide +kernel
theorem dX4_fillIn_24 : decode cX4_fillIn 24 = .ok (.aload_n 3, 1) := by decide +kernel
theorem dX4_fillIn_25 : decode cX4_fillIn 25 = .ok (.getfield 97, 3) := by decide +kernel
theorem dX4_fillIn_28 : decode cX4_fillIn 28 = .ok (.aload_n 3, 1) := by decide +kernel
theorem dX4_fillIn_29 : decode cX4_fillIn 29 = .ok (.getfield 100, 3) := by decide +kernel
theorem dX4_fillIn_32 : decode cX4_fillIn 32 = .ok (.invokevirtual 103, 3) := by decide +kernel
theorem dX4_fillIn_35 : decode cX4_fillIn 35 = .ok (.aload_n 3, 1) := by decide +kernel
theorem dX4_fillIn_36 : decode cX4_fillIn 36 = .ok (.aload_n 0, 1) := by decide +kernel
theorem dX4_fillIn_37 : decode cX4_fillIn 37 = .ok (.getfield 29, 3) := by decide +kernel
theorem dX4_fillIn_40 : decode cX4_fillIn 40 = .ok (.iconst 0, 1) := by decide +kernel
theorem dX4_fillIn_41 : decode cX4_fillIn 41 = .ok (.sipush 4095, 3) := by decide +kernel
theorem dX4_fillIn_44 : decode cX4_fillIn 44 = .ok (.invokevirtual 107, 3) := by decide +kernel
theorem dX4_fillIn_47 : decode cX4_fillIn 47 = .ok (.putfield 111, 3) := by decide +kernel
theorem dX4_fillIn_50 : decode cX4_fillIn 50 = .ok (.aload_n 3, 1) := by decide +kernel
theorem dX4_fillIn_51 : decode cX4_fillIn 51 = .ok (.aload_n 0, 1) := by decide +kernel
theorem dX4_fillIn_52 : decode cX4_fillIn 52 = .ok (.aload_n 3, 1) := by decide +kernel
theorem dX4_fillIn_53 : decode cX4_fillIn 53 = .ok (.getfield 111, 3) := by decide +kernel
theorem dX4_fillIn_56 : decode cX4_fillIn 56 = .ok (.invokevirtual 114, 3) := by decide +kernel
theorem dX4_fillIn_59 : decode cX4_fillIn 59 = .ok (.putfield 117, 3) := by decide +kernel
theorem dX4_fillIn_62 : decode cX4_fillIn 62 = .ok (.aload_n 3, 1) := by decide +kernel
theorem dX4_fillIn_63 : decode cX4_fillIn 63 = .ok (.aload_n 0, 1) := by decide +kernel
theorem dX4_fillIn_64 : decode cX4_fillIn 64 = .ok (.aload_n 3, 1) := by decide +kernel
theorem dX4_fillIn_65 : decode cX4_fillIn 65 = .ok (.getfield 111, 3) := by decide +kernel
theorem dX4_fillIn_68 : decode cX4_fillIn 68 = .ok (.invokevirtual 120, 3) := by decide +kernel
theorem dX4_fillIn_71 : decode cX4_fillIn 71 = .ok (.putfield 123, 3) := by decide +kernel
theorem dX4_fillIn_74 : decode cX4_fillIn 74 = .ok (.aload_n 3, 1) := by decide +kernel
theorem dX4_fillIn_75 : decode cX4_fillIn 75 = .ok (.aload_n 0, 1) := by decide +kernel
theorem dX4_fillIn_76 : decode cX4_fillIn 76 = .ok (.getfield 51, 3) := by decide +kernel
theorem dX4_fillIn_79 : decode cX4_fillIn 79 = .ok (.putfield 126, 3) := by decide +kernel
theorem dX4_fillIn_82 : decode cX4_fillIn 82 = .ok (.aload_n 3, 1) := by decide +kernel
theorem dX4_fillIn_83 : decode cX4_fillIn 83 = .ok (.aload_n 0, 1) := by decide +kernel
theorem dX4_fillIn_84 : decode cX4_fillIn 84 = .ok (.getfield 29, 3) := by decide +kernel
theorem dX4_fillIn_87 : decode cX4_fillIn 87 = .ok (.aload_n 3, 1) := by decide +kernel
theorem dX4_fillIn_88 : decode cX4_fillIn 88 = .ok (.getfield 111, 3) := by decide +kernel
theorem dX4_fillIn_91 : decode cX4_fillIn 91 = .ok (.aload_n 3, 1) := by decide +kernel
theorem dX4_fillIn_92 : decode cX4_fillIn 92 = .ok (.getfield 127, 3) := by decide +kernel
theorem dX4_fillIn_95 : decode cX4_fillIn 95 = .ok (.invokevirtual 130, 3) := by decide +kernel
theorem dX4_fillIn_98 : decode cX4_fillIn 98 = .ok (.putfield 134, 3) := by decide +kernel
theorem dX4_fillIn_101 : decode cX4_fillIn 101 = .ok (.return_, 1) := by decide +kernel
noncomputable def vX4_fillIn_l_1 (P : zp) (i1 : Nat) (i2 : Nat) (σ : zc_N) : zc_N := (sX4_shiftBy P (sX4_turnBy P (sX0_learn P σ i2 ((σ 10) 0)) i1 (((sX0_learn P σ i2 ((σ 10) 0)) 23) 1)) i1 i2 (((sX4_turnBy P (sX0_learn P σ i2 ((σ 10) 0)) i1 (((sX0_learn P σ i2 ((σ 10) 0)) 23) 1)) 23) 2) (((sX4_turnBy P (sX0_learn P σ i2 ((σ 10) 0)) i1 (((sX0_learn P σ i2 ((σ 10) 0)) 23) 1)) 23) 3))
noncomputable def vX4_fillIn_l_2 (P : zp) (i1 : Nat) (i2 : Nat) (σ : zc_N) : zc_N := (zu (sX5_most (vX4_fillIn_l_1 P i1 i2 σ) (0 : Int32) (4095 : Int32)) 23 (zu (zu (zu ((sX5_most (vX4_fillIn_l_1 P i1 i2 σ) (0 : Int32) (4095 : Int32)) 23) 4 (rX5_most (vX4_fillIn_l_1 P i1 i2 σ) (0 : Int32) (4095 : Int32))) 5 (rX4_bareWith (zu (sX5_most (vX4_fillIn_l_1 P i1 i2 σ) (0 : Int32) (4095 : Int32)) 23 (zu ((sX5_most (vX4_fillIn_l_1 P i1 i2 σ) (0 : Int32) (4095 : Int32)) 23) 4 (rX5_most (vX4_fillIn_l_1 P i1 i2 σ) (0 : Int32) (4095 : Int32)))) ((zu ((sX5_most (vX4_fillIn_l_1 P i1 i2 σ) (0 : Int32) (4095 : Int32)) 23) 4 (rX5_most (vX4_fillIn_l_1 P i1 i2 σ) (0 : Int32) (4095 : Int32))) 4))) 6 (rX4_scoreWith (zu (sX5_most (vX4_fillIn_l_1 P i1 i2 σ) (0 : Int32) (4095 : Int32)) 23 (zu (zu ((sX5_most (vX4_fillIn_l_1 P i1 i2 σ) (0 : Int32) (4095 : Int32)) 23) 4 (rX5_most (vX4_fillIn_l_1 P i1 i2 σ) (0 : Int32) (4095 : Int32))) 5 (rX4_bareWith (zu (sX5_most (vX4_fillIn_l_1 P i1 i2 σ) (0 : Int32) (4095 : Int32)) 23 (zu ((sX5_most (vX4_fillIn_l_1 P i1 i2 σ) (0 : Int32) (4095 : Int32)) 23) 4 (rX5_most (vX4_fillIn_l_1 P i1 i2 σ) (0 : Int32) (4095 : Int32)))) ((zu ((sX5_most (vX4_fillIn_l_1 P i1 i2 σ) (0 : Int32) (4095 : Int32)) 23) 4 (rX5_most (vX4_fillIn_l_1 P i1 i2 σ) (0 : Int32) (4095 : Int32))) 4)))) ((zu (zu ((sX5_most (vX4_fillIn_l_1 P i1 i2 σ) (0 : Int32) (4095 : Int32)) 23) 4 (rX5_most (vX4_fillIn_l_1 P i1 i2 σ) (0 : Int32) (4095 : Int32))) 5 (rX4_bareWith (zu (sX5_most (vX4_fillIn_l_1 P i1 i2 σ) (0 : Int32) (4095 : Int32)) 23 (zu ((sX5_most (vX4_fillIn_l_1 P i1 i2 σ) (0 : Int32) (4095 : Int32)) 23) 4 (rX5_most (vX4_fillIn_l_1 P i1 i2 σ) (0 : Int32) (4095 : Int32)))) ((zu ((sX5_most (vX4_fillIn_l_1 P i1 i2 σ) (0 : Int32) (4095 : Int32)) 23) 4 (rX5_most (vX4_fillIn_l_1 P i1 i2 σ) (0 : Int32) (4095 : Int32))) 4))) 4))))
noncomputable def vX4_fillIn_l_3 (P : zp) (i1 : Nat) (i2 : Nat) (σ : zc_N) : zc_N := (sX5_choose_l (zu (vX4_fillIn_l_2 P i1 i2 σ) 23 (zu ((vX4_fillIn_l_2 P i1 i2 σ) 23) 8 (((vX4_fillIn_l_2 P i1 i2 σ) 10) 8))) ((zu ((vX4_fillIn_l_2 P i1 i2 σ) 23) 8 (((vX4_fillIn_l_2 P i1 i2 σ) 10) 8)) 4))
def pX4_fillIn_l (P : zp) (σ : zc_N) (i1 : Nat) (i2 : Nat) : Prop := ((pX0_learn P σ i2 ((σ 10) 0)) ∧ ((pX4_turnBy P (sX0_learn P σ i2 ((σ 10) 0)) i1 (((sX0_learn P σ i2 ((σ 10) 0)) 23) 1)) ∧ ((pX4_shiftBy P (sX4_turnBy P (sX0_learn P σ i2 ((σ 10) 0)) i1 (((sX0_learn P σ i2 ((σ 10) 0)) 23) 1)) i1 i2 (((sX4_turnBy P (sX0_learn P σ i2 ((σ 10) 0)) i1 (((sX0_learn P σ i2 ((σ 10) 0)) 23) 1)) 23) 2) (((sX4_turnBy P (sX0_learn P σ i2 ((σ 10) 0)) i1 (((sX0_learn P σ i2 ((σ 10) 0)) 23) 1)) 23) 3)) ∧ ((pX5_most (vX4_fillIn_l_1 P i1 i2 σ) (0 : Int32) (4095 : Int32)) ∧ (pX5_choose_l (zu (vX4_fillIn_l_2 P i1 i2 σ) 23 (zu ((vX4_fillIn_l_2 P i1 i2 σ) 23) 8 (((vX4_fillIn_l_2 P i1 i2 σ) 10) 8))) ((zu ((vX4_fillIn_l_2 P i1 i2 σ) 23) 8 (((vX4_fillIn_l_2 P i1 i2 σ) 10) 8)) 4))))))
noncomputable def sX4_fillIn_l (P : zp) (σ : zc_N) (i1 : Nat) (i2 : Nat) : zc_N := (zu (vX4_fillIn_l_3 P i1 i2 σ) 23 (zu ((vX4_fillIn_l_3 P i1 i2 σ) 23) 7 (rX5_choose_l (zu (vX4_fillIn_l_2 P i1 i2 σ) 23 (zu ((vX4_fillIn_l_2 P i1 i2 σ) 23) 8 (((vX4_fillIn_l_2 P i1 i2 σ) 10) 8))) ((zu ((vX4_fillIn_l_2 P i1 i2 σ) 23) 8 (((vX4_fillIn_l_2 P i1 i2 σ) 10) 8)) 4))))
set_option maxHeartbeats 1000000 in
theorem ctX4_fillIn_l (P : zp) (σ : zc_N) (i1 : Nat) (h1 : i1 < P.2.1) (i2 : Nat) (h2 : i2 < P.2.1) (W_ : (pX4_fillIn_l P σ i1 i2)) : sp mX4_fillIn 17 0 0 [.ref 10, .ref (pO i1), .ref (pO i2), .ref 23] (hh P σ) (fun r_ h_ => r_ = none ∧ h_ = hh P (sX4_fillIn_l P σ i1 i2)) := by
  refine sp_of (lv := [some (.ref 10), some (.ref (pO i1)), some (.ref (pO i2)), some (.ref 23)]) (by decide) (zcats_ok _ rfl) (Nat.le_of_ble_eq_true rfl) (zlv_ok _ 0 rfl) (fun G => ?_)
  generalize hQ_ : (fun (r_ : Option Value) (h_ : zc_H) => r_ = none ∧ h_ = hh P (sX4_fillIn_l P σ i1 i2)) = Q_
  unfold pX4_fillIn_l at W_
  refine z_aloadr_n dX4_fillIn_0 rfl ?_
  refine z_get (ci := 4) (r := (RX4, TX4, 10)) (j := 2) (v := .ref 12) dX4_fillIn_1 (Nat.le_of_ble_eq_true rfl) (zN rfl) rfl rfl (Nat.le_of_ble_eq_true rfl) fl_X4_22 rfl ?_
  refine z_aloadr_n dX4_fillIn_4 rfl ?_
  refine z_aloadr_n dX4_fillIn_5 rfl ?_
  refine z_get (ci := 4) (r := (RX4, TX4, 10)) (j := 0) (v := .int ((σ 10) 0)) dX4_fillIn_6 (Nat.le_of_ble_eq_true rfl) (zN rfl) rfl rfl (Nat.le_of_ble_eq_true rfl) fl_X4_9 rfl ?_
  refine z_callV (ci := 0) (r := (RX0, TX0, 3)) (b := 12) (As := [.ref (pO i2), .int ((σ 10) 0)]) (rest := []) (ctX0_learn P σ i2 h2 ((σ 10) 0) W_.1) dX4_fillIn_9 lk_X4_87 lv_X0_learn (Nat.le_of_ble_eq_true rfl) (zN rfl) rfl rfl rfl rfl (Nat.le_of_ble_eq_true rfl) (Nat.le_of_ble_eq_true rfl) (Nat.le_of_ble_eq_true rfl) (Nat.le_of_ble_eq_true rfl) (fun r_ h_ e_ => ?_)
  obtain ⟨e1_, e2_⟩ := e_
  subst e1_
  subst e2_
  show zz G mX4_fillIn 17 0 0 Q_ 12 [some (.ref 10), some (.ref (pO i1)), some (.ref (pO i2)), some (.ref 23)] [] (hh P (sX0_learn P σ i2 ((σ 10) 0))) 0 0
  refine z_aloadr_n dX4_fillIn_12 rfl ?_
  refine z_aloadr_n dX4_fillIn_13 rfl ?_
  refine z_aloadr_n dX4_fillIn_14 rfl ?_
  refine z_get (ci := 3) (r := (RX3, TX3, 10)) (j := 1) (v := .int (((sX0_learn P σ i2 ((σ 10) 0)) 23) 1)) dX4_fillIn_15 (Nat.le_of_ble_eq_true rfl) (zN rfl) rfl rfl (Nat.le_of_ble_eq_true rfl) fl_X4_91 rfl ?_
  refine z_callV (ci := 4) (r := (RX4, TX4, 10)) (b := 10) (As := [.ref (pO i1), .int (((sX0_learn P σ i2 ((σ 10) 0)) 23) 1)]) (rest := []) (ctX4_turnBy P (sX0_learn P σ i2 ((σ 10) 0)) i1 h1 (((sX0_learn P σ i2 ((σ 10) 0)) 23) 1) W_.2.1) dX4_fillIn_18 lk_X4_94 lv_X4_turnBy (Nat.le_of_ble_eq_true rfl) (zN rfl) rfl rfl rfl rfl (Nat.le_of_ble_eq_true rfl) (Nat.le_of_ble_eq_true rfl) (Nat.le_of_ble_eq_true rfl) (Nat.le_of_ble_eq_true rfl) (fun r_ h_ e_ => ?_)
  obtain ⟨e1_, e2_⟩ := e_
  subst e1_
  subst e2_
  show zz G mX4_fillIn 17 0 0 Q_ 21 [some (.ref 10), some (.ref (pO i1)), some (.ref (pO i2)), some (.ref 23)] [] (hh P (sX4_turnBy P (sX0_learn P σ i2 ((σ 10) 0)) i1 (((sX0_learn P σ i2 ((σ 10) 0)) 23) 1))) 0 0
  refine z_aloadr_n dX4_fillIn_21 rfl ?_
  refine z_aloadr_n dX4_fillIn_22 rfl ?_
  refine z_aloadr_n dX4_fillIn_23 rfl ?_
  refine z_aloadr_n dX4_fillIn_24 rfl ?_
  refine z_get (ci := 3) (r := (RX3, TX3, 10)) (j := 2) (v := .int (((sX4_turnBy P (sX0_learn P σ i2 ((σ 10) 0)) i1 (((sX0_learn P σ i2 ((σ 10) 0)) 23) 1)) 23) 2)) dX4_fillIn_25 (Nat.le_of_ble_eq_true rfl) (zN rfl) rfl rfl (Nat.le_of_ble_eq_true rfl) fl_X4_97 rfl ?_
  refine z_aloadr_n dX4_fillIn_28 rfl ?_
  refine z_get (ci := 3) (r := (RX3, TX3, 10)) (j := 3) (v := .int (((sX4_turnBy P (sX0_learn P σ i2 ((σ 10) 0)) i1 (((sX0_learn P σ i2 ((σ 10) 0)) 23) 1)) 23) 3)) dX4_fillIn_29 (Nat.le_of_ble_eq_true rfl) (zN rfl) rfl rfl (Nat.le_of_ble_eq_true rfl) fl_X4_100 rfl ?_
  refine z_callV (ci := 4) (r := (RX4, TX4, 10)) (b := 10) (As := [.ref (pO i1), .ref (pO i2), .int (((sX4_turnBy P (sX0_learn P σ i2 ((σ 10) 0)) i1 (((sX0_learn P σ i2 ((σ 10) 0)) 23) 1)) 23) 2), .int (((sX4_turnBy P (sX0_learn P σ i2 ((σ 10) 0)) i1 (((sX0_learn P σ i2 ((σ 10) 0)) 23) 1)) 23) 3)]) (rest := []) (ctX4_shiftBy P (sX4_turnBy P (sX0_learn P σ i2 ((σ 10) 0)) i1 (((sX0_learn P σ i2 ((σ 10) 0)) 23) 1)) i1 h1 i2 h2 (((sX4_turnBy P (sX0_learn P σ i2 ((σ 10) 0)) i1 (((sX0_learn P σ i2 ((σ 10) 0)) 23) 1)) 23) 2) (((sX4_turnBy P (sX0_learn P σ i2 ((σ 10) 0)) i1 (((sX0_learn P σ i2 ((σ 10) 0)) 23) 1)) 23) 3) W_.2.2.1) dX4_fillIn_32 lk_X4_103 lv_X4_shiftBy (Nat.le_of_ble_eq_true rfl) (zN rfl) rfl rfl rfl rfl (Nat.le_of_ble_eq_true rfl) (Nat.le_of_ble_eq_true rfl) (Nat.le_of_ble_eq_true rfl) (Nat.le_of_ble_eq_true rfl) (fun r_ h_ e_ => ?_)
  obtain ⟨e1_, e2_⟩ := e_
  subst e1_
  subst e2_
  show zz G mX4_fillIn 17 0 0 Q_ 35 [some (.ref 10), some (.ref (pO i1)), some (.ref (pO i2)), some (.ref 23)] [] (hh P (vX4_fillIn_l_1 P i1 i2 σ)) 0 0
  refine z_aloadr_n dX4_fillIn_35 rfl ?_
  refine z_aloadr_n dX4_fillIn_36 rfl ?_
  refine z_get (ci := 4) (r := (RX4, TX4, 10)) (j := 3) (v := .ref 16) dX4_fillIn_37 (Nat.le_of_ble_eq_true rfl) (zN rfl) rfl rfl (Nat.le_of_ble_eq_true rfl) fl_X4_29 rfl ?_
  refine z_iconst dX4_fillIn_40 k_iconst_0 ?_
  refine z_sipush dX4_fillIn_41 k_sipush_4095 ?_
  refine z_callV (ci := 5) (r := (RX5, TX5, 4)) (b := 16) (As := [.int (0 : Int32), .int (4095 : Int32)]) (rest := [.ref 23]) (ctX5_most P (vX4_fillIn_l_1 P i1 i2 σ) (0 : Int32) (4095 : Int32) W_.2.2.2.1) dX4_fillIn_44 lk_X4_107 lv_X5_most (Nat.le_of_ble_eq_true rfl) (zN rfl) rfl rfl rfl rfl (Nat.le_of_ble_eq_true rfl) (Nat.le_of_ble_eq_true rfl) (Nat.le_of_ble_eq_true rfl) (Nat.le_of_ble_eq_true rfl) (fun r_ h_ e_ => ?_)
  obtain ⟨e1_, e2_⟩ := e_
  subst e1_
  subst e2_
  show zz G mX4_fillIn 17 0 0 Q_ 47 [some (.ref 10), some (.ref (pO i1)), some (.ref (pO i2)), some (.ref 23)] [.int (rX5_most (vX4_fillIn_l_1 P i1 i2 σ) (0 : Int32) (4095 : Int32)), .ref 23] (hh P (sX5_most (vX4_fillIn_l_1 P i1 i2 σ) (0 : Int32) (4095 : Int32))) 0 0
  refine z_put (ci := 3) (r := (RX3, TX3, 10)) (j := 4) (σ' := (zu (sX5_most (vX4_fillIn_l_1 P i1 i2 σ) (0 : Int32) (4095 : Int32)) 23 (zu ((sX5_most (vX4_fillIn_l_1 P i1 i2 σ) (0 : Int32) (4095 : Int32)) 23) 4 (rX5_most (vX4_fillIn_l_1 P i1 i2 σ) (0 : Int32) (4095 : Int32))))) dX4_fillIn_47 (Nat.le_of_ble_eq_true rfl) (zN rfl) rfl rfl (Nat.le_of_ble_eq_true rfl) fl_X4_111 rfl rfl rfl rfl rfl ?_
  refine z_aloadr_n dX4_fillIn_50 rfl ?_
  refine z_aloadr_n dX4_fillIn_51 rfl ?_
  refine z_aloadr_n dX4_fillIn_52 rfl ?_
  refine z_get (ci := 3) (r := (RX3, TX3, 10)) (j := 4) (v := .int ((zu ((sX5_most (vX4_fillIn_l_1 P i1 i2 σ) (0 : Int32) (4095 : Int32)) 23) 4 (rX5_most (vX4_fillIn_l_1 P i1 i2 σ) (0 : Int32) (4095 : Int32))) 4)) dX4_fillIn_53 (Nat.le_of_ble_eq_true rfl) (zN rfl) rfl rfl (Nat.le_of_ble_eq_true rfl) fl_X4_111 (congrArg Value.int (congrFun (zu_self _ _ _) _)) ?_
  refine z_callV (ci := 4) (r := (RX4, TX4, 10)) (b := 10) (As := [.int ((zu ((sX5_most (vX4_fillIn_l_1 P i1 i2 σ) (0 : Int32) (4095 : Int32)) 23) 4 (rX5_most (vX4_fillIn_l_1 P i1 i2 σ) (0 : Int32) (4095 : Int32))) 4)]) (rest := [.ref 23]) (ctX4_bareWith P (zu (sX5_most (vX4_fillIn_l_1 P i1 i2 σ) (0 : Int32) (4095 : Int32)) 23 (zu ((sX5_most (vX4_fillIn_l_1 P i1 i2 σ) (0 : Int32) (4095 : Int32)) 23) 4 (rX5_most (vX4_fillIn_l_1 P i1 i2 σ) (0 : Int32) (4095 : Int32)))) ((zu ((sX5_most (vX4_fillIn_l_1 P i1 i2 σ) (0 : Int32) (4095 : Int32)) 23) 4 (rX5_most (vX4_fillIn_l_1 P i1 i2 σ) (0 : Int32) (4095 : Int32))) 4)) dX4_fillIn_56 lk_X4_114 lv_X4_bareWith (Nat.le_of_ble_eq_true rfl) (zN rfl) rfl rfl rfl rfl (Nat.le_of_ble_eq_true rfl) (Nat.le_of_ble_eq_true rfl) (Nat.le_of_ble_eq_true rfl) (Nat.le_of_ble_eq_true rfl) (fun r_ h_ e_ => ?_)
  obtain ⟨e1_, e2_⟩ := e_
  subst e1_
  subst e2_
  show zz G mX4_fillIn 17 0 0 Q_ 59 [some (.ref 10), some (.ref (pO i1)), some (.ref (pO i2)), some (.ref 23)] [.int (rX4_bareWith (zu (sX5_most (vX4_fillIn_l_1 P i1 i2 σ) (0 : Int32) (4095 : Int32)) 23 (zu ((sX5_most (vX4_fillIn_l_1 P i1 i2 σ) (0 : Int32) (4095 : Int32)) 23) 4 (rX5_most (vX4_fillIn_l_1 P i1 i2 σ) (0 : Int32) (4095 : Int32)))) ((zu ((sX5_most (vX4_fillIn_l_1 P i1 i2 σ) (0 : Int32) (4095 : Int32)) 23) 4 (rX5_most (vX4_fillIn_l_1 P i1 i2 σ) (0 : Int32) (4095 : Int32))) 4)), .ref 23] (hh P (zu (sX5_most (vX4_fillIn_l_1 P i1 i2 σ) (0 : Int32) (4095 : Int32)) 23 (zu ((sX5_most (vX4_fillIn_l_1 P i1 i2 σ) (0 : Int32) (4095 : Int32)) 23) 4 (rX5_most (vX4_fillIn_l_1 P i1 i2 σ) (0 : Int32) (4095 : Int32))))) 0 0
  refine z_put (ci := 3) (r := (RX3, TX3, 10)) (j := 5) (σ' := (zu (sX5_most (vX4_fillIn_l_1 P i1 i2 σ) (0 : Int32) (4095 : Int32)) 23 (zu (zu ((sX5_most (vX4_fillIn_l_1 P i1 i2 σ) (0 : Int32) (4095 : Int32)) 23) 4 (rX5_most (vX4_fillIn_l_1 P i1 i2 σ) (0 : Int32) (4095 : Int32))) 5 (rX4_bareWith (zu (sX5_most (vX4_fillIn_l_1 P i1 i2 σ) (0 : Int32) (4095 : Int32)) 23 (zu ((sX5_most (vX4_fillIn_l_1 P i1 i2 σ) (0 : Int32) (4095 : Int32)) 23) 4 (rX5_most (vX4_fillIn_l_1 P i1 i2 σ) (0 : Int32) (4095 : Int32)))) ((zu ((sX5_most (vX4_fillIn_l_1 P i1 i2 σ) (0 : Int32) (4095 : Int32)) 23) 4 (rX5_most (vX4_fillIn_l_1 P i1 i2 σ) (0 : Int32) (4095 : Int32))) 4))))) dX4_fillIn_59 (Nat.le_of_ble_eq_true rfl) (zN rfl) rfl rfl (Nat.le_of_ble_eq_true rfl) fl_X4_117 rfl rfl rfl rfl ((congrArg (fun g_ => zu _ _ (zu g_ _ _)) (zu_self _ _ _)).trans (zu_zu _ _ _ _)) ?_
  refine z_aloadr_n dX4_fillIn_62 rfl ?_
  refine z_aloadr_n dX4_fillIn_63 rfl ?_
  refine z_aloadr_n dX4_fillIn_64 rfl ?_
  refine z_get (ci := 3) (r := (RX3, TX3, 10)) (j := 4) (v := .int ((zu (zu ((sX5_most (vX4_fillIn_l_1 P i1 i2 σ) (0 : Int32) (4095 : Int32)) 23) 4 (rX5_most (vX4_fillIn_l_1 P i1 i2 σ) (0 : Int32) (4095 : Int32))) 5 (rX4_bareWith (zu (sX5_most (vX4_fillIn_l_1 P i1 i2 σ) (0 : Int32) (4095 : Int32)) 23 (zu ((sX5_most (vX4_fillIn_l_1 P i1 i2 σ) (0 : Int32) (4095 : Int32)) 23) 4 (rX5_most (vX4_fillIn_l_1 P i1 i2 σ) (0 : Int32) (4095 : Int32)))) ((zu ((sX5_most (vX4_fillIn_l_1 P i1 i2 σ) (0 : Int32) (4095 : Int32)) 23) 4 (rX5_most (vX4_fillIn_l_1 P i1 i2 σ) (0 : Int32) (4095 : Int32))) 4))) 4)) dX4_fillIn_65 (Nat.le_of_ble_eq_true rfl) (zN rfl) rfl rfl (Nat.le_of_ble_eq_true rfl) fl_X4_111 (congrArg Value.int (congrFun (zu_self _ _ _) _)) ?_
  refine z_callV (ci := 4) (r := (RX4, TX4, 10)) (b := 10) (As := [.int ((zu (zu ((sX5_most (vX4_fillIn_l_1 P i1 i2 σ) (0 : Int32) (4095 : Int32)) 23) 4 (rX5_most (vX4_fillIn_l_1 P i1 i2 σ) (0 : Int32) (4095 : Int32))) 5 (rX4_bareWith (zu (sX5_most (vX4_fillIn_l_1 P i1 i2 σ) (0 : Int32) (4095 : Int32)) 23 (zu ((sX5_most (vX4_fillIn_l_1 P i1 i2 σ) (0 : Int32) (4095 : Int32)) 23) 4 (rX5_most (vX4_fillIn_l_1 P i1 i2 σ) (0 : Int32) (4095 : Int32)))) ((zu ((sX5_most (vX4_fillIn_l_1 P i1 i2 σ) (0 : Int32) (4095 : Int32)) 23) 4 (rX5_most (vX4_fillIn_l_1 P i1 i2 σ) (0 : Int32) (4095 : Int32))) 4))) 4)]) (rest := [.ref 23]) (ctX4_scoreWith P (zu (sX5_most (vX4_fillIn_l_1 P i1 i2 σ) (0 : Int32) (4095 : Int32)) 23 (zu (zu ((sX5_most (vX4_fillIn_l_1 P i1 i2 σ) (0 : Int32) (4095 : Int32)) 23) 4 (rX5_most (vX4_fillIn_l_1 P i1 i2 σ) (0 : Int32) (4095 : Int32))) 5 (rX4_bareWith (zu (sX5_most (vX4_fillIn_l_1 P i1 i2 σ) (0 : Int32) (4095 : Int32)) 23 (zu ((sX5_most (vX4_fillIn_l_1 P i1 i2 σ) (0 : Int32) (4095 : Int32)) 23) 4 (rX5_most (vX4_fillIn_l_1 P i1 i2 σ) (0 : Int32) (4095 : Int32)))) ((zu ((sX5_most (vX4_fillIn_l_1 P i1 i2 σ) (0 : Int32) (4095 : Int32)) 23) 4 (rX5_most (vX4_fillIn_l_1 P i1 i2 σ) (0 : Int32) (4095 : Int32))) 4)))) ((zu (zu ((sX5_most (vX4_fillIn_l_1 P i1 i2 σ) (0 : Int32) (4095 : Int32)) 23) 4 (rX5_most (vX4_fillIn_l_1 P i1 i2 σ) (0 : Int32) (4095 : Int32))) 5 (rX4_bareWith (zu (sX5_most (vX4_fillIn_l_1 P i1 i2 σ) (0 : Int32) (4095 : Int32)) 23 (zu ((sX5_most (vX4_fillIn_l_1 P i1 i2 σ) (0 : Int32) (4095 : Int32)) 23) 4 (rX5_most (vX4_fillIn_l_1 P i1 i2 σ) (0 : Int32) (4095 : Int32)))) ((zu ((sX5_most (vX4_fillIn_l_1 P i1 i2 σ) (0 : Int32) (4095 : Int32)) 23) 4 (rX5_most (vX4_fillIn_l_1 P i1 i2 σ) (0 : Int32) (4095 : Int32))) 4))) 4)) dX4_fillIn_68 lk_X4_120 lv_X4_scoreWith (Nat.le_of_ble_eq_true rfl) (zN rfl) rfl rfl rfl rfl (Nat.le_of_ble_eq_true rfl) (Nat.le_of_ble_eq_true rfl) (Nat.le_of_ble_eq_true rfl) (Nat.le_of_ble_eq_true rfl) (fun r_ h_ e_ => ?_)
  obtain ⟨e1_, e2_⟩ := e_
  subst e1_
  subst e2_
  show zz G mX4_fillIn 17 0 0 Q_ 71 [some (.ref 10), some (.ref (pO i1)), some (.ref (pO i2)), some (.ref 23)] [.int (rX4_scoreWith (zu (sX5_most (vX4_fillIn_l_1 P i1 i2 σ) (0 : Int32) (4095 : Int32)) 23 (zu (zu ((sX5_most (vX4_fillIn_l_1 P i1 i2 σ) (0 : Int32) (4095 : Int32)) 23) 4 (rX5_most (vX4_fillIn_l_1 P i1 i2 σ) (0 : Int32) (4095 : Int32))) 5 (rX4_bareWith (zu (sX5_most (vX4_fillIn_l_1 P i1 i2 σ) (0 : Int32) (4095 : Int32)) 23 (zu ((sX5_most (vX4_fillIn_l_1 P i1 i2 σ) (0 : Int32) (4095 : Int32)) 23) 4 (rX5_most (vX4_fillIn_l_1 P i1 i2 σ) (0 : Int32) (4095 : Int32)))) ((zu ((sX5_most (vX4_fillIn_l_1 P i1 i2 σ) (0 : Int32) (4095 : Int32)) 23) 4 (rX5_most (vX4_fillIn_l_1 P i1 i2 σ) (0 : Int32) (4095 : Int32))) 4)))) ((zu (zu ((sX5_most (vX4_fillIn_l_1 P i1 i2 σ) (0 : Int32) (4095 : Int32)) 23) 4 (rX5_most (vX4_fillIn_l_1 P i1 i2 σ) (0 : Int32) (4095 : Int32))) 5 (rX4_bareWith (zu (sX5_most (vX4_fillIn_l_1 P i1 i2 σ) (0 : Int32) (4095 : Int32)) 23 (zu ((sX5_most (vX4_fillIn_l_1 P i1 i2 σ) (0 : Int32) (4095 : Int32)) 23) 4 (rX5_most (vX4_fillIn_l_1 P i1 i2 σ) (0 : Int32) (4095 : Int32)))) ((zu ((sX5_most (vX4_fillIn_l_1 P i1 i2 σ) (0 : Int32) (4095 : Int32)) 23) 4 (rX5_most (vX4_fillIn_l_1 P i1 i2 σ) (0 : Int32) (4095 : Int32))) 4))) 4)), .ref 23] (hh P (zu (sX5_most (vX4_fillIn_l_1 P i1 i2 σ) (0 : Int32) (4095 : Int32)) 23 (zu (zu ((sX5_most (vX4_fillIn_l_1 P i1 i2 σ) (0 : Int32) (4095 : Int32)) 23) 4 (rX5_most (vX4_fillIn_l_1 P i1 i2 σ) (0 : Int32) (4095 : Int32))) 5 (rX4_bareWith (zu (sX5_most (vX4_fillIn_l_1 P i1 i2 σ) (0 : Int32) (4095 : Int32)) 23 (zu ((sX5_most (vX4_fillIn_l_1 P i1 i2 σ) (0 : Int32) (4095 : Int32)) 23) 4 (rX5_most (vX4_fillIn_l_1 P i1 i2 σ) (0 : Int32) (4095 : Int32)))) ((zu ((sX5_most (vX4_fillIn_l_1 P i1 i2 σ) (0 : Int32) (4095 : Int32)) 23) 4 (rX5_most (vX4_fillIn_l_1 P i1 i2 σ) (0 : Int32) (4095 : Int32))) 4))))) 0 0
  refine z_put (ci := 3) (r := (RX3, TX3, 10)) (j := 6) (σ' := (zu (sX5_most (vX4_fillIn_l_1 P i1 i2 σ) (0 : Int32) (4095 : Int32)) 23 (zu (zu (zu ((sX5_most (vX4_fillIn_l_1 P i1 i2 σ) (0 : Int32) (4095 : Int32)) 23) 4 (rX5_most (vX4_fillIn_l_1 P i1 i2 σ) (0 : Int32) (4095 : Int32))) 5 (rX4_bareWith (zu (sX5_most (vX4_fillIn_l_1 P i1 i2 σ) (0 : Int32) (4095 : Int32)) 23 (zu ((sX5_most (vX4_fillIn_l_1 P i1 i2 σ) (0 : Int32) (4095 : Int32)) 23) 4 (rX5_most (vX4_fillIn_l_1 P i1 i2 σ) (0 : Int32) (4095 : Int32)))) ((zu ((sX5_most (vX4_fillIn_l_1 P i1 i2 σ) (0 : Int32) (4095 : Int32)) 23) 4 (rX5_most (vX4_fillIn_l_1 P i1 i2 σ) (0 : Int32) (4095 : Int32))) 4))) 6 (rX4_scoreWith (zu (sX5_most (vX4_fillIn_l_1 P i1 i2 σ) (0 : Int32) (4095 : Int32)) 23 (zu (zu ((sX5_most (vX4_fillIn_l_1 P i1 i2 σ) (0 : Int32) (4095 : Int32)) 23) 4 (rX5_most (vX4_fillIn_l_1 P i1 i2 σ) (0 : Int32) (4095 : Int32))) 5 (rX4_bareWith (zu (sX5_most (vX4_fillIn_l_1 P i1 i2 σ) (0 : Int32) (4095 : Int32)) 23 (zu ((sX5_most (vX4_fillIn_l_1 P i1 i2 σ) (0 : Int32) (4095 : Int32)) 23) 4 (rX5_most (vX4_fillIn_l_1 P i1 i2 σ) (0 : Int32) (4095 : Int32)))) ((zu ((sX5_most (vX4_fillIn_l_1 P i1 i2 σ) (0 : Int32) (4095 : Int32)) 23) 4 (rX5_most (vX4_fillIn_l_1 P i1 i2 σ) (0 : Int32) (4095 : Int32))) 4)))) ((zu (zu ((sX5_most (vX4_fillIn_l_1 P i1 i2 σ) (0 : Int32) (4095 : Int32)) 23) 4 (rX5_most (vX4_fillIn_l_1 P i1 i2 σ) (0 : Int32) (4095 : Int32))) 5 (rX4_bareWith (zu (sX5_most (vX4_fillIn_l_1 P i1 i2 σ) (0 : Int32) (4095 : Int32)) 23 (zu ((sX5_most (vX4_fillIn_l_1 P i1 i2 σ) (0 : Int32) (4095 : Int32)) 23) 4 (rX5_most (vX4_fillIn_l_1 P i1 i2 σ) (0 : Int32) (4095 : Int32)))) ((zu ((sX5_most (vX4_fillIn_l_1 P i1 i2 σ) (0 : Int32) (4095 : Int32)) 23) 4 (rX5_most (vX4_fillIn_l_1 P i1 i2 σ) (0 : Int32) (4095 : Int32))) 4))) 4))))) dX4_fillIn_71 (Nat.le_of_ble_eq_true rfl) (zN rfl) rfl rfl (Nat.le_of_ble_eq_true rfl) fl_X4_123 rfl rfl rfl rfl ((congrArg (fun g_ => zu _ _ (zu g_ _ _)) (zu_self _ _ _)).trans (zu_zu _ _ _ _)) ?_
  show zz G mX4_fillIn 17 0 0 Q_ 74 [some (.ref 10), some (.ref (pO i1)), some (.ref (pO i2)), some (.ref 23)] [] (hh P (vX4_fillIn_l_2 P i1 i2 σ)) 0 0
  refine z_aloadr_n dX4_fillIn_74 rfl ?_
  refine z_aloadr_n dX4_fillIn_75 rfl ?_
  refine z_get (ci := 4) (r := (RX4, TX4, 10)) (j := 8) (v := .int (((vX4_fillIn_l_2 P i1 i2 σ) 10) 8)) dX4_fillIn_76 (Nat.le_of_ble_eq_true rfl) (zN rfl) rfl rfl (Nat.le_of_ble_eq_true rfl) fl_X4_51 rfl ?_
  refine z_put (ci := 3) (r := (RX3, TX3, 10)) (j := 8) (σ' := (zu (vX4_fillIn_l_2 P i1 i2 σ) 23 (zu ((vX4_fillIn_l_2 P i1 i2 σ) 23) 8 (((vX4_fillIn_l_2 P i1 i2 σ) 10) 8)))) dX4_fillIn_79 (Nat.le_of_ble_eq_true rfl) (zN rfl) rfl rfl (Nat.le_of_ble_eq_true rfl) fl_X4_126 rfl rfl rfl rfl rfl ?_
  refine z_aloadr_n dX4_fillIn_82 rfl ?_
  refine z_aloadr_n dX4_fillIn_83 rfl ?_
  refine z_get (ci := 4) (r := (RX4, TX4, 10)) (j := 3) (v := .ref 16) dX4_fillIn_84 (Nat.le_of_ble_eq_true rfl) (zN rfl) rfl rfl (Nat.le_of_ble_eq_true rfl) fl_X4_29 rfl ?_
  refine z_aloadr_n dX4_fillIn_87 rfl ?_
  refine z_get (ci := 3) (r := (RX3, TX3, 10)) (j := 4) (v := .int ((zu ((vX4_fillIn_l_2 P i1 i2 σ) 23) 8 (((vX4_fillIn_l_2 P i1 i2 σ) 10) 8)) 4)) dX4_fillIn_88 (Nat.le_of_ble_eq_true rfl) (zN rfl) rfl rfl (Nat.le_of_ble_eq_true rfl) fl_X4_111 (congrArg Value.int (congrFun (zu_self _ _ _) _)) ?_
  refine z_aloadr_n dX4_fillIn_91 rfl ?_
  refine z_get (ci := 3) (r := (RX3, TX3, 10)) (j := 9) (v := .ref 24) dX4_fillIn_92 (Nat.le_of_ble_eq_true rfl) (zN rfl) rfl rfl (Nat.le_of_ble_eq_true rfl) fl_X4_127 rfl ?_
  refine z_callV (ci := 5) (r := (RX5, TX5, 4)) (b := 16) (As := [.int ((zu ((vX4_fillIn_l_2 P i1 i2 σ) 23) 8 (((vX4_fillIn_l_2 P i1 i2 σ) 10) 8)) 4), .ref 24]) (rest := [.ref 23]) (ctX5_choose_l P (zu (vX4_fillIn_l_2 P i1 i2 σ) 23 (zu ((vX4_fillIn_l_2 P i1 i2 σ) 23) 8 (((vX4_fillIn_l_2 P i1 i2 σ) 10) 8))) ((zu ((vX4_fillIn_l_2 P i1 i2 σ) 23) 8 (((vX4_fillIn_l_2 P i1 i2 σ) 10) 8)) 4) W_.2.2.2.2) dX4_fillIn_95 lk_X4_130 lv_X5_choose (Nat.le_of_ble_eq_true rfl) (zN rfl) rfl rfl rfl rfl (Nat.le_of_ble_eq_true rfl) (Nat.le_of_ble_eq_true rfl) (Nat.le_of_ble_eq_true rfl) (Nat.le_of_ble_eq_true rfl) (fun r_ h_ e_ => ?_)
  obtain ⟨e1_, e2_⟩ := e_
  subst e1_
  subst e2_
  show zz G mX4_fillIn 17 0 0 Q_ 98 [some (.ref 10), some (.ref (pO i1)), some (.ref (pO i2)), some (.ref 23)] [.int (rX5_choose_l (zu (vX4_fillIn_l_2 P i1 i2 σ) 23 (zu ((vX4_fillIn_l_2 P i1 i2 σ) 23) 8 (((vX4_fillIn_l_2 P i1 i2 σ) 10) 8))) ((zu ((vX4_fillIn_l_2 P i1 i2 σ) 23) 8 (((vX4_fillIn_l_2 P i1 i2 σ) 10) 8)) 4)), .ref 23] (hh P (vX4_fillIn_l_3 P i1 i2 σ)) 0 0
  refine z_put (ci := 3) (r := (RX3, TX3, 10)) (j := 7) (σ' := (zu (vX4_fillIn_l_3 P i1 i2 σ) 23 (zu ((vX4_fillIn_l_3 P i1 i2 σ) 23) 7 (rX5_choose_l (zu (vX4_fillIn_l_2 P i1 i2 σ) 23 (zu ((vX4_fillIn_l_2 P i1 i2 σ) 23) 8 (((vX4_fillIn_l_2 P i1 i2 σ) 10) 8))) ((zu ((vX4_fillIn_l_2 P i1 i2 σ) 23) 8 (((vX4_fillIn_l_2 P i1 i2 σ) 10) 8)) 4))))) dX4_fillIn_98 (Nat.le_of_ble_eq_true rfl) (zN rfl) rfl rfl (Nat.le_of_ble_eq_true rfl) fl_X4_134 rfl rfl rfl rfl rfl ?_
  exact z_return dX4_fillIn_101 rfl (Nat.le_of_ble_eq_true rfl) (Nat.le_of_ble_eq_true rfl) (by rw [← hQ_]; exact ⟨rfl, (by rw [sX4_fillIn_l])⟩)


noncomputable def vX4_fillIn_t_4 (P : zp) (i1 : Nat) (i2 : Nat) (σ : zc_N) : zc_N := (sX4_shiftBy P (sX4_turnBy P (sX0_learn P σ i2 ((σ 10) 0)) i1 (((sX0_learn P σ i2 ((σ 10) 0)) 25) 1)) i1 i2 (((sX4_turnBy P (sX0_learn P σ i2 ((σ 10) 0)) i1 (((sX0_learn P σ i2 ((σ 10) 0)) 25) 1)) 25) 2) (((sX4_turnBy P (sX0_learn P σ i2 ((σ 10) 0)) i1 (((sX0_learn P σ i2 ((σ 10) 0)) 25) 1)) 25) 3))
noncomputable def vX4_fillIn_t_5 (P : zp) (i1 : Nat) (i2 : Nat) (σ : zc_N) : zc_N := (zu (sX5_most (vX4_fillIn_t_4 P i1 i2 σ) (0 : Int32) (4095 : Int32)) 25 (zu (zu (zu ((sX5_most (vX4_fillIn_t_4 P i1 i2 σ) (0 : Int32) (4095 : Int32)) 25) 4 (rX5_most (vX4_fillIn_t_4 P i1 i2 σ) (0 : Int32) (4095 : Int32))) 5 (rX4_bareWith (zu (sX5_most (vX4_fillIn_t_4 P i1 i2 σ) (0 : Int32) (4095 : Int32)) 25 (zu ((sX5_most (vX4_fillIn_t_4 P i1 i2 σ) (0 : Int32) (4095 : Int32)) 25) 4 (rX5_most (vX4_fillIn_t_4 P i1 i2 σ) (0 : Int32) (4095 : Int32)))) ((zu ((sX5_most (vX4_fillIn_t_4 P i1 i2 σ) (0 : Int32) (4095 : Int32)) 25) 4 (rX5_most (vX4_fillIn_t_4 P i1 i2 σ) (0 : Int32) (4095 : Int32))) 4))) 6 (rX4_scoreWith (zu (sX5_most (vX4_fillIn_t_4 P i1 i2 σ) (0 : Int32) (4095 : Int32)) 25 (zu (zu ((sX5_most (vX4_fillIn_t_4 P i1 i2 σ) (0 : Int32) (4095 : Int32)) 25) 4 (rX5_most (vX4_fillIn_t_4 P i1 i2 σ) (0 : Int32) (4095 : Int32))) 5 (rX4_bareWith (zu (sX5_most (vX4_fillIn_t_4 P i1 i2 σ) (0 : Int32) (4095 : Int32)) 25 (zu ((sX5_most (vX4_fillIn_t_4 P i1 i2 σ) (0 : Int32) (4095 : Int32)) 25) 4 (rX5_most (vX4_fillIn_t_4 P i1 i2 σ) (0 : Int32) (4095 : Int32)))) ((zu ((sX5_most (vX4_fillIn_t_4 P i1 i2 σ) (0 : Int32) (4095 : Int32)) 25) 4 (rX5_most (vX4_fillIn_t_4 P i1 i2 σ) (0 : Int32) (4095 : Int32))) 4)))) ((zu (zu ((sX5_most (vX4_fillIn_t_4 P i1 i2 σ) (0 : Int32) (4095 : Int32)) 25) 4 (rX5_most (vX4_fillIn_t_4 P i1 i2 σ) (0 : Int32) (4095 : Int32))) 5 (rX4_bareWith (zu (sX5_most (vX4_fillIn_t_4 P i1 i2 σ) (0 : Int32) (4095 : Int32)) 25 (zu ((sX5_most (vX4_fillIn_t_4 P i1 i2 σ) (0 : Int32) (4095 : Int32)) 25) 4 (rX5_most (vX4_fillIn_t_4 P i1 i2 σ) (0 : Int32) (4095 : Int32)))) ((zu ((sX5_most (vX4_fillIn_t_4 P i1 i2 σ) (0 : Int32) (4095 : Int32)) 25) 4 (rX5_most (vX4_fillIn_t_4 P i1 i2 σ) (0 : Int32) (4095 : Int32))) 4))) 4))))
noncomputable def vX4_fillIn_t_6 (P : zp) (i1 : Nat) (i2 : Nat) (σ : zc_N) : zc_N := (sX5_choose_t (zu (vX4_fillIn_t_5 P i1 i2 σ) 25 (zu ((vX4_fillIn_t_5 P i1 i2 σ) 25) 8 (((vX4_fillIn_t_5 P i1 i2 σ) 10) 8))) ((zu ((vX4_fillIn_t_5 P i1 i2 σ) 25) 8 (((vX4_fillIn_t_5 P i1 i2 σ) 10) 8)) 4))
def pX4_fillIn_t (P : zp) (σ : zc_N) (i1 : Nat) (i2 : Nat) : Prop := ((pX0_learn P σ i2 ((σ 10) 0)) ∧ ((pX4_turnBy P (sX0_learn P σ i2 ((σ 10) 0)) i1 (((sX0_learn P σ i2 ((σ 10) 0)) 25) 1)) ∧ ((pX4_shiftBy P (sX4_turnBy P (sX0_learn P σ i2 ((σ 10) 0)) i1 (((sX0_learn P σ i2 ((σ 10) 0)) 25) 1)) i1 i2 (((sX4_turnBy P (sX0_learn P σ i2 ((σ 10) 0)) i1 (((sX0_learn P σ i2 ((σ 10) 0)) 25) 1)) 25) 2) (((sX4_turnBy P (sX0_learn P σ i2 ((σ 10) 0)) i1 (((sX0_learn P σ i2 ((σ 10) 0)) 25) 1)) 25) 3)) ∧ ((pX5_most (vX4_fillIn_t_4 P i1 i2 σ) (0 : Int32) (4095 : Int32)) ∧ (pX5_choose_t (zu (vX4_fillIn_t_5 P i1 i2 σ) 25 (zu ((vX4_fillIn_t_5 P i1 i2 σ) 25) 8 (((vX4_fillIn_t_5 P i1 i2 σ) 10) 8))) ((zu ((vX4_fillIn_t_5 P i1 i2 σ) 25) 8 (((vX4_fillIn_t_5 P i1 i2 σ) 10) 8)) 4))))))
noncomputable def sX4_fillIn_t (P : zp) (σ : zc_N) (i1 : Nat) (i2 : Nat) : zc_N := (zu (vX4_fillIn_t_6 P i1 i2 σ) 25 (zu ((vX4_fillIn_t_6 P i1 i2 σ) 25) 7 (rX5_choose_t (zu (vX4_fillIn_t_5 P i1 i2 σ) 25 (zu ((vX4_fillIn_t_5 P i1 i2 σ) 25) 8 (((vX4_fillIn_t_5 P i1 i2 σ) 10) 8))) ((zu ((vX4_fillIn_t_5 P i1 i2 σ) 25) 8 (((vX4_fillIn_t_5 P i1 i2 σ) 10) 8)) 4))))
set_option maxHeartbeats 1000000 in
theorem ctX4_fillIn_t (P : zp) (σ : zc_N) (i1 : Nat) (h1 : i1 < P.2.1) (i2 : Nat) (h2 : i2 < P.2.1) (W_ : (pX4_fillIn_t P σ i1 i2)) : sp mX4_fillIn 17 0 0 [.ref 10, .ref (pO i1), .ref (pO i2), .ref 25] (hh P σ) (fun r_ h_ => r_ = none ∧ h_ = hh P (sX4_fillIn_t P σ i1 i2)) := by
  refine sp_of (lv := [some (.ref 10), some (.ref (pO i1)), some (.ref (pO i2)), some (.ref 25)]) (by decide) (zcats_ok _ rfl) (Nat.le_of_ble_eq_true rfl) (zlv_ok _ 0 rfl) (fun G => ?_)
  generalize hQ_ : (fun (r_ : Option Value) (h_ : zc_H) => r_ = none ∧ h_ = hh P (sX4_fillIn_t P σ i1 i2)) = Q_
  unfold pX4_fillIn_t at W_
  refine z_aloadr_n dX4_fillIn_0 rfl ?_
  refine z_get (ci := 4) (r := (RX4, TX4, 10)) (j := 2) (v := .ref 12) dX4_fillIn_1 (Nat.le_of_ble_eq_true rfl) (zN rfl) rfl rfl (Nat.le_of_ble_eq_true rfl) fl_X4_22 rfl ?_
  refine z_aloadr_n dX4_fillIn_4 rfl ?_
  refine z_aloadr_n dX4_fillIn_5 rfl ?_
  refine z_get (ci := 4) (r := (RX4, TX4, 10)) (j := 0) (v := .int ((σ 10) 0)) dX4_fillIn_6 (Nat.le_of_ble_eq_true rfl) (zN rfl) rfl rfl (Nat.le_of_ble_eq_true rfl) fl_X4_9 rfl ?_
  refine z_callV (ci := 0) (r := (RX0, TX0, 3)) (b := 12) (As := [.ref (pO i2), .int ((σ 10) 0)]) (rest := []) (ctX0_learn P σ i2 h2 ((σ 10) 0) W_.1) dX4_fillIn_9 lk_X4_87 lv_X0_learn (Nat.le_of_ble_eq_true rfl) (zN rfl) rfl rfl rfl rfl (Nat.le_of_ble_eq_true rfl) (Nat.le_of_ble_eq_true rfl) (Nat.le_of_ble_eq_true rfl) (Nat.le_of_ble_eq_true rfl) (fun r_ h_ e_ => ?_)
  obtain ⟨e1_, e2_⟩ := e_
  subst e1_
  subst e2_
  show zz G mX4_fillIn 17 0 0 Q_ 12 [some (.ref 10), some (.ref (pO i1)), some (.ref (pO i2)), some (.ref 25)] [] (hh P (sX0_learn P σ i2 ((σ 10) 0))) 0 0
  refine z_aloadr_n dX4_fillIn_12 rfl ?_
  refine z_aloadr_n dX4_fillIn_13 rfl ?_
  refine z_aloadr_n dX4_fillIn_14 rfl ?_
  refine z_get (ci := 3) (r := (RX3, TX3, 10)) (j := 1) (v := .int (((sX0_learn P σ i2 ((σ 10) 0)) 25) 1)) dX4_fillIn_15 (Nat.le_of_ble_eq_true rfl) (zN rfl) rfl rfl (Nat.le_of_ble_eq_true rfl) fl_X4_91 rfl ?_
  refine z_callV (ci := 4) (r := (RX4, TX4, 10)) (b := 10) (As := [.ref (pO i1), .int (((sX0_learn P σ i2 ((σ 10) 0)) 25) 1)]) (rest := []) (ctX4_turnBy P (sX0_learn P σ i2 ((σ 10) 0)) i1 h1 (((sX0_learn P σ i2 ((σ 10) 0)) 25) 1) W_.2.1) dX4_fillIn_18 lk_X4_94 lv_X4_turnBy (Nat.le_of_ble_eq_true rfl) (zN rfl) rfl rfl rfl rfl (Nat.le_of_ble_eq_true rfl) (Nat.le_of_ble_eq_true rfl) (Nat.le_of_ble_eq_true rfl) (Nat.le_of_ble_eq_true rfl) (fun r_ h_ e_ => ?_)
  obtain ⟨e1_, e2_⟩ := e_
  subst e1_
  subst e2_
  show zz G mX4_fillIn 17 0 0 Q_ 21 [some (.ref 10), some (.ref (pO i1)), some (.ref (pO i2)), some (.ref 25)] [] (hh P (sX4_turnBy P (sX0_learn P σ i2 ((σ 10) 0)) i1 (((sX0_learn P σ i2 ((σ 10) 0)) 25) 1))) 0 0
  refine z_aloadr_n dX4_fillIn_21 rfl ?_
  refine z_aloadr_n dX4_fillIn_22 rfl ?_
  refine z_aloadr_n dX4_fillIn_23 rfl ?_
  refine z_aloadr_n dX4_fillIn_24 rfl ?_
  refine z_get (ci := 3) (r := (RX3, TX3, 10)) (j := 2) (v := .int (((sX4_turnBy P (sX0_learn P σ i2 ((σ 10) 0)) i1 (((sX0_learn P σ i2 ((σ 10) 0)) 25) 1)) 25) 2)) dX4_fillIn_25 (Nat.le_of_ble_eq_true rfl) (zN rfl) rfl rfl (Nat.le_of_ble_eq_true rfl) fl_X4_97 rfl ?_
  refine z_aloadr_n dX4_fillIn_28 rfl ?_
  refine z_get (ci := 3) (r := (RX3, TX3, 10)) (j := 3) (v := .int (((sX4_turnBy P (sX0_learn P σ i2 ((σ 10) 0)) i1 (((sX0_learn P σ i2 ((σ 10) 0)) 25) 1)) 25) 3)) dX4_fillIn_29 (Nat.le_of_ble_eq_true rfl) (zN rfl) rfl rfl (Nat.le_of_ble_eq_true rfl) fl_X4_100 rfl ?_
  refine z_callV (ci := 4) (r := (RX4, TX4, 10)) (b := 10) (As := [.ref (pO i1), .ref (pO i2), .int (((sX4_turnBy P (sX0_learn P σ i2 ((σ 10) 0)) i1 (((sX0_learn P σ i2 ((σ 10) 0)) 25) 1)) 25) 2), .int (((sX4_turnBy P (sX0_learn P σ i2 ((σ 10) 0)) i1 (((sX0_learn P σ i2 ((σ 10) 0)) 25) 1)) 25) 3)]) (rest := []) (ctX4_shiftBy P (sX4_turnBy P (sX0_learn P σ i2 ((σ 10) 0)) i1 (((sX0_learn P σ i2 ((σ 10) 0)) 25) 1)) i1 h1 i2 h2 (((sX4_turnBy P (sX0_learn P σ i2 ((σ 10) 0)) i1 (((sX0_learn P σ i2 ((σ 10) 0)) 25) 1)) 25) 2) (((sX4_turnBy P (sX0_learn P σ i2 ((σ 10) 0)) i1 (((sX0_learn P σ i2 ((σ 10) 0)) 25) 1)) 25) 3) W_.2.2.1) dX4_fillIn_32 lk_X4_103 lv_X4_shiftBy (Nat.le_of_ble_eq_true rfl) (zN rfl) rfl rfl rfl rfl (Nat.le_of_ble_eq_true rfl) (Nat.le_of_ble_eq_true rfl) (Nat.le_of_ble_eq_true rfl) (Nat.le_of_ble_eq_true rfl) (fun r_ h_ e_ => ?_)
  obtain ⟨e1_, e2_⟩ := e_
  subst e1_
  subst e2_
  show zz G mX4_fillIn 17 0 0 Q_ 35 [some (.ref 10), some (.ref (pO i1)), some (.ref (pO i2)), some (.ref 25)] [] (hh P (vX4_fillIn_t_4 P i1 i2 σ)) 0 0
  refine z_aloadr_n dX4_fillIn_35 rfl ?_
  refine z_aloadr_n dX4_fillIn_36 rfl ?_
  refine z_get (ci := 4) (r := (RX4, TX4, 10)) (j := 3) (v := .ref 16) dX4_fillIn_37 (Nat.le_of_ble_eq_true rfl) (zN rfl) rfl rfl (Nat.le_of_ble_eq_true rfl) fl_X4_29 rfl ?_
  refine z_iconst dX4_fillIn_40 k_iconst_0 ?_
  refine z_sipush dX4_fillIn_41 k_sipush_4095 ?_
  refine z_callV (ci := 5) (r := (RX5, TX5, 4)) (b := 16) (As := [.int (0 : Int32), .int (4095 : Int32)]) (rest := [.ref 25]) (ctX5_most P (vX4_fillIn_t_4 P i1 i2 σ) (0 : Int32) (4095 : Int32) W_.2.2.2.1) dX4_fillIn_44 lk_X4_107 lv_X5_most (Nat.le_of_ble_eq_true rfl) (zN rfl) rfl rfl rfl rfl (Nat.le_of_ble_eq_true rfl) (Nat.le_of_ble_eq_true rfl) (Nat.le_of_ble_eq_true rfl) (Nat.le_of_ble_eq_true rfl) (fun r_ h_ e_ => ?_)
  obtain ⟨e1_, e2_⟩ := e_
  subst e1_
  subst e2_
  show zz G mX4_fillIn 17 0 0 Q_ 47 [some (.ref 10), some (.ref (pO i1)), some (.ref (pO i2)), some (.ref 25)] [.int (rX5_most (vX4_fillIn_t_4 P i1 i2 σ) (0 : Int32) (4095 : Int32)), .ref 25] (hh P (sX5_most (vX4_fillIn_t_4 P i1 i2 σ) (0 : Int32) (4095 : Int32))) 0 0
  refine z_put (ci := 3) (r := (RX3, TX3, 10)) (j := 4) (σ' := (zu (sX5_most (vX4_fillIn_t_4 P i1 i2 σ) (0 : Int32) (4095 : Int32)) 25 (zu ((sX5_most (vX4_fillIn_t_4 P i1 i2 σ) (0 : Int32) (4095 : Int32)) 25) 4 (rX5_most (vX4_fillIn_t_4 P i1 i2 σ) (0 : Int32) (4095 : Int32))))) dX4_fillIn_47 (Nat.le_of_ble_eq_true rfl) (zN rfl) rfl rfl (Nat.le_of_ble_eq_true rfl) fl_X4_111 rfl rfl rfl rfl rfl ?_
  refine z_aloadr_n dX4_fillIn_50 rfl ?_
  refine z_aloadr_n dX4_fillIn_51 rfl ?_
  refine z_aloadr_n dX4_fillIn_52 rfl ?_
  refine z_get (ci := 3) (r := (RX3, TX3, 10)) (j := 4) (v := .int ((zu ((sX5_most (vX4_fillIn_t_4 P i1 i2 σ) (0 : Int32) (4095 : Int32)) 25) 4 (rX5_most (vX4_fillIn_t_4 P i1 i2 σ) (0 : Int32) (4095 : Int32))) 4)) dX4_fillIn_53 (Nat.le_of_ble_eq_true rfl) (zN rfl) rfl rfl (Nat.le_of_ble_eq_true rfl) fl_X4_111 (congrArg Value.int (congrFun (zu_self _ _ _) _)) ?_
  refine z_callV (ci := 4) (r := (RX4, TX4, 10)) (b := 10) (As := [.int ((zu ((sX5_most (vX4_fillIn_t_4 P i1 i2 σ) (0 : Int32) (4095 : Int32)) 25) 4 (rX5_most (vX4_fillIn_t_4 P i1 i2 σ) (0 : Int32) (4095 : Int32))) 4)]) (rest := [.ref 25]) (ctX4_bareWith P (zu (sX5_most (vX4_fillIn_t_4 P i1 i2 σ) (0 : Int32) (4095 : Int32)) 25 (zu ((sX5_most (vX4_fillIn_t_4 P i1 i2 σ) (0 : Int32) (4095 : Int32)) 25) 4 (rX5_most (vX4_fillIn_t_4 P i1 i2 σ) (0 : Int32) (4095 : Int32)))) ((zu ((sX5_most (vX4_fillIn_t_4 P i1 i2 σ) (0 : Int32) (4095 : Int32)) 25) 4 (rX5_most (vX4_fillIn_t_4 P i1 i2 σ) (0 : Int32) (4095 : Int32))) 4)) dX4_fillIn_56 lk_X4_114 lv_X4_bareWith (Nat.le_of_ble_eq_true rfl) (zN rfl) rfl rfl rfl rfl (Nat.le_of_ble_eq_true rfl) (Nat.le_of_ble_eq_true rfl) (Nat.le_of_ble_eq_true rfl) (Nat.le_of_ble_eq_true rfl) (fun r_ h_ e_ => ?_)
  obtain ⟨e1_, e2_⟩ := e_
  subst e1_
  subst e2_
  show zz G mX4_fillIn 17 0 0 Q_ 59 [some (.ref 10), some (.ref (pO i1)), some (.ref (pO i2)), some (.ref 25)] [.int (rX4_bareWith (zu (sX5_most (vX4_fillIn_t_4 P i1 i2 σ) (0 : Int32) (4095 : Int32)) 25 (zu ((sX5_most (vX4_fillIn_t_4 P i1 i2 σ) (0 : Int32) (4095 : Int32)) 25) 4 (rX5_most (vX4_fillIn_t_4 P i1 i2 σ) (0 : Int32) (4095 : Int32)))) ((zu ((sX5_most (vX4_fillIn_t_4 P i1 i2 σ) (0 : Int32) (4095 : Int32)) 25) 4 (rX5_most (vX4_fillIn_t_4 P i1 i2 σ) (0 : Int32) (4095 : Int32))) 4)), .ref 25] (hh P (zu (sX5_most (vX4_fillIn_t_4 P i1 i2 σ) (0 : Int32) (4095 : Int32)) 25 (zu ((sX5_most (vX4_fillIn_t_4 P i1 i2 σ) (0 : Int32) (4095 : Int32)) 25) 4 (rX5_most (vX4_fillIn_t_4 P i1 i2 σ) (0 : Int32) (4095 : Int32))))) 0 0
  refine z_put (ci := 3) (r := (RX3, TX3, 10)) (j := 5) (σ' := (zu (sX5_most (vX4_fillIn_t_4 P i1 i2 σ) (0 : Int32) (4095 : Int32)) 25 (zu (zu ((sX5_most (vX4_fillIn_t_4 P i1 i2 σ) (0 : Int32) (4095 : Int32)) 25) 4 (rX5_most (vX4_fillIn_t_4 P i1 i2 σ) (0 : Int32) (4095 : Int32))) 5 (rX4_bareWith (zu (sX5_most (vX4_fillIn_t_4 P i1 i2 σ) (0 : Int32) (4095 : Int32)) 25 (zu ((sX5_most (vX4_fillIn_t_4 P i1 i2 σ) (0 : Int32) (4095 : Int32)) 25) 4 (rX5_most (vX4_fillIn_t_4 P i1 i2 σ) (0 : Int32) (4095 : Int32)))) ((zu ((sX5_most (vX4_fillIn_t_4 P i1 i2 σ) (0 : Int32) (4095 : Int32)) 25) 4 (rX5_most (vX4_fillIn_t_4 P i1 i2 σ) (0 : Int32) (4095 : Int32))) 4))))) dX4_fillIn_59 (Nat.le_of_ble_eq_true rfl) (zN rfl) rfl rfl (Nat.le_of_ble_eq_true rfl) fl_X4_117 rfl rfl rfl rfl ((congrArg (fun g_ => zu _ _ (zu g_ _ _)) (zu_self _ _ _)).trans (zu_zu _ _ _ _)) ?_
  refine z_aloadr_n dX4_fillIn_62 rfl ?_
  refine z_aloadr_n dX4_fillIn_63 rfl ?_
  refine z_aloadr_n dX4_fillIn_64 rfl ?_
  refine z_get (ci := 3) (r := (RX3, TX3, 10)) (j := 4) (v := .int ((zu (zu ((sX5_most (vX4_fillIn_t_4 P i1 i2 σ) (0 : Int32) (4095 : Int32)) 25) 4 (rX5_most (vX4_fillIn_t_4 P i1 i2 σ) (0 : Int32) (4095 : Int32))) 5 (rX4_bareWith (zu (sX5_most (vX4_fillIn_t_4 P i1 i2 σ) (0 : Int32) (4095 : Int32)) 25 (zu ((sX5_most (vX4_fillIn_t_4 P i1 i2 σ) (0 : Int32) (4095 : Int32)) 25) 4 (rX5_most (vX4_fillIn_t_4 P i1 i2 σ) (0 : Int32) (4095 : Int32)))) ((zu ((sX5_most (vX4_fillIn_t_4 P i1 i2 σ) (0 : Int32) (4095 : Int32)) 25) 4 (rX5_most (vX4_fillIn_t_4 P i1 i2 σ) (0 : Int32) (4095 : Int32))) 4))) 4)) dX4_fillIn_65 (Nat.le_of_ble_eq_true rfl) (zN rfl) rfl rfl (Nat.le_of_ble_eq_true rfl) fl_X4_111 (congrArg Value.int (congrFun (zu_self _ _ _) _)) ?_
  refine z_callV (ci := 4) (r := (RX4, TX4, 10)) (b := 10) (As := [.int ((zu (zu ((sX5_most (vX4_fillIn_t_4 P i1 i2 σ) (0 : Int32) (4095 : Int32)) 25) 4 (rX5_most (vX4_fillIn_t_4 P i1 i2 σ) (0 : Int32) (4095 : Int32))) 5 (rX4_bareWith (zu (sX5_most (vX4_fillIn_t_4 P i1 i2 σ) (0 : Int32) (4095 : Int32)) 25 (zu ((sX5_most (vX4_fillIn_t_4 P i1 i2 σ) (0 : Int32) (4095 : Int32)) 25) 4 (rX5_most (vX4_fillIn_t_4 P i1 i2 σ) (0 : Int32) (4095 : Int32)))) ((zu ((sX5_most (vX4_fillIn_t_4 P i1 i2 σ) (0 : Int32) (4095 : Int32)) 25) 4 (rX5_most (vX4_fillIn_t_4 P i1 i2 σ) (0 : Int32) (4095 : Int32))) 4))) 4)]) (rest := [.ref 25]) (ctX4_scoreWith P (zu (sX5_most (vX4_fillIn_t_4 P i1 i2 σ) (0 : Int32) (4095 : Int32)) 25 (zu (zu ((sX5_most (vX4_fillIn_t_4 P i1 i2 σ) (0 : Int32) (4095 : Int32)) 25) 4 (rX5_most (vX4_fillIn_t_4 P i1 i2 σ) (0 : Int32) (4095 : Int32))) 5 (rX4_bareWith (zu (sX5_most (vX4_fillIn_t_4 P i1 i2 σ) (0 : Int32) (4095 : Int32)) 25 (zu ((sX5_most (vX4_fillIn_t_4 P i1 i2 σ) (0 : Int32) (4095 : Int32)) 25) 4 (rX5_most (vX4_fillIn_t_4 P i1 i2 σ) (0 : Int32) (4095 : Int32)))) ((zu ((sX5_most (vX4_fillIn_t_4 P i1 i2 σ) (0 : Int32) (4095 : Int32)) 25) 4 (rX5_most (vX4_fillIn_t_4 P i1 i2 σ) (0 : Int32) (4095 : Int32))) 4)))) ((zu (zu ((sX5_most (vX4_fillIn_t_4 P i1 i2 σ) (0 : Int32) (4095 : Int32)) 25) 4 (rX5_most (vX4_fillIn_t_4 P i1 i2 σ) (0 : Int32) (4095 : Int32))) 5 (rX4_bareWith (zu (sX5_most (vX4_fillIn_t_4 P i1 i2 σ) (0 : Int32) (4095 : Int32)) 25 (zu ((sX5_most (vX4_fillIn_t_4 P i1 i2 σ) (0 : Int32) (4095 : Int32)) 25) 4 (rX5_most (vX4_fillIn_t_4 P i1 i2 σ) (0 : Int32) (4095 : Int32)))) ((zu ((sX5_most (vX4_fillIn_t_4 P i1 i2 σ) (0 : Int32) (4095 : Int32)) 25) 4 (rX5_most (vX4_fillIn_t_4 P i1 i2 σ) (0 : Int32) (4095 : Int32))) 4))) 4)) dX4_fillIn_68 lk_X4_120 lv_X4_scoreWith (Nat.le_of_ble_eq_true rfl) (zN rfl) rfl rfl rfl rfl (Nat.le_of_ble_eq_true rfl) (Nat.le_of_ble_eq_true rfl) (Nat.le_of_ble_eq_true rfl) (Nat.le_of_ble_eq_true rfl) (fun r_ h_ e_ => ?_)
  obtain ⟨e1_, e2_⟩ := e_
  subst e1_
  subst e2_
  show zz G mX4_fillIn 17 0 0 Q_ 71 [some (.ref 10), some (.ref (pO i1)), some (.ref (pO i2)), some (.ref 25)] [.int (rX4_scoreWith (zu (sX5_most (vX4_fillIn_t_4 P i1 i2 σ) (0 : Int32) (4095 : Int32)) 25 (zu (zu ((sX5_most (vX4_fillIn_t_4 P i1 i2 σ) (0 : Int32) (4095 : Int32)) 25) 4 (rX5_most (vX4_fillIn_t_4 P i1 i2 σ) (0 : Int32) (4095 : Int32))) 5 (rX4_bareWith (zu (sX5_most (vX4_fillIn_t_4 P i1 i2 σ) (0 : Int32) (4095 : Int32)) 25 (zu ((sX5_most (vX4_fillIn_t_4 P i1 i2 σ) (0 : Int32) (4095 : Int32)) 25) 4 (rX5_most (vX4_fillIn_t_4 P i1 i2 σ) (0 : Int32) (4095 : Int32)))) ((zu ((sX5_most (vX4_fillIn_t_4 P i1 i2 σ) (0 : Int32) (4095 : Int32)) 25) 4 (rX5_most (vX4_fillIn_t_4 P i1 i2 σ) (0 : Int32) (4095 : Int32))) 4)))) ((zu (zu ((sX5_most (vX4_fillIn_t_4 P i1 i2 σ) (0 : Int32) (4095 : Int32)) 25) 4 (rX5_most (vX4_fillIn_t_4 P i1 i2 σ) (0 : Int32) (4095 : Int32))) 5 (rX4_bareWith (zu (sX5_most (vX4_fillIn_t_4 P i1 i2 σ) (0 : Int32) (4095 : Int32)) 25 (zu ((sX5_most (vX4_fillIn_t_4 P i1 i2 σ) (0 : Int32) (4095 : Int32)) 25) 4 (rX5_most (vX4_fillIn_t_4 P i1 i2 σ) (0 : Int32) (4095 : Int32)))) ((zu ((sX5_most (vX4_fillIn_t_4 P i1 i2 σ) (0 : Int32) (4095 : Int32)) 25) 4 (rX5_most (vX4_fillIn_t_4 P i1 i2 σ) (0 : Int32) (4095 : Int32))) 4))) 4)), .ref 25] (hh P (zu (sX5_most (vX4_fillIn_t_4 P i1 i2 σ) (0 : Int32) (4095 : Int32)) 25 (zu (zu ((sX5_most (vX4_fillIn_t_4 P i1 i2 σ) (0 : Int32) (4095 : Int32)) 25) 4 (rX5_most (vX4_fillIn_t_4 P i1 i2 σ) (0 : Int32) (4095 : Int32))) 5 (rX4_bareWith (zu (sX5_most (vX4_fillIn_t_4 P i1 i2 σ) (0 : Int32) (4095 : Int32)) 25 (zu ((sX5_most (vX4_fillIn_t_4 P i1 i2 σ) (0 : Int32) (4095 : Int32)) 25) 4 (rX5_most (vX4_fillIn_t_4 P i1 i2 σ) (0 : Int32) (4095 : Int32)))) ((zu ((sX5_most (vX4_fillIn_t_4 P i1 i2 σ) (0 : Int32) (4095 : Int32)) 25) 4 (rX5_most (vX4_fillIn_t_4 P i1 i2 σ) (0 : Int32) (4095 : Int32))) 4))))) 0 0
  refine z_put (ci := 3) (r := (RX3, TX3, 10)) (j := 6) (σ' := (zu (sX5_most (vX4_fillIn_t_4 P i1 i2 σ) (0 : Int32) (4095 : Int32)) 25 (zu (zu (zu ((sX5_most (vX4_fillIn_t_4 P i1 i2 σ) (0 : Int32) (4095 : Int32)) 25) 4 (rX5_most (vX4_fillIn_t_4 P i1 i2 σ) (0 : Int32) (4095 : Int32))) 5 (rX4_bareWith (zu (sX5_most (vX4_fillIn_t_4 P i1 i2 σ) (0 : Int32) (4095 : Int32)) 25 (zu ((sX5_most (vX4_fillIn_t_4 P i1 i2 σ) (0 : Int32) (4095 : Int32)) 25) 4 (rX5_most (vX4_fillIn_t_4 P i1 i2 σ) (0 : Int32) (4095 : Int32)))) ((zu ((sX5_most (vX4_fillIn_t_4 P i1 i2 σ) (0 : Int32) (4095 : Int32)) 25) 4 (rX5_most (vX4_fillIn_t_4 P i1 i2 σ) (0 : Int32) (4095 : Int32))) 4))) 6 (rX4_scoreWith (zu (sX5_most (vX4_fillIn_t_4 P i1 i2 σ) (0 : Int32) (4095 : Int32)) 25 (zu (zu ((sX5_most (vX4_fillIn_t_4 P i1 i2 σ) (0 : Int32) (4095 : Int32)) 25) 4 (rX5_most (vX4_fillIn_t_4 P i1 i2 σ) (0 : Int32) (4095 : Int32))) 5 (rX4_bareWith (zu (sX5_most (vX4_fillIn_t_4 P i1 i2 σ) (0 : Int32) (4095 : Int32)) 25 (zu ((sX5_most (vX4_fillIn_t_4 P i1 i2 σ) (0 : Int32) (4095 : Int32)) 25) 4 (rX5_most (vX4_fillIn_t_4 P i1 i2 σ) (0 : Int32) (4095 : Int32)))) ((zu ((sX5_most (vX4_fillIn_t_4 P i1 i2 σ) (0 : Int32) (4095 : Int32)) 25) 4 (rX5_most (vX4_fillIn_t_4 P i1 i2 σ) (0 : Int32) (4095 : Int32))) 4)))) ((zu (zu ((sX5_most (vX4_fillIn_t_4 P i1 i2 σ) (0 : Int32) (4095 : Int32)) 25) 4 (rX5_most (vX4_fillIn_t_4 P i1 i2 σ) (0 : Int32) (4095 : Int32))) 5 (rX4_bareWith (zu (sX5_most (vX4_fillIn_t_4 P i1 i2 σ) (0 : Int32) (4095 : Int32)) 25 (zu ((sX5_most (vX4_fillIn_t_4 P i1 i2 σ) (0 : Int32) (4095 : Int32)) 25) 4 (rX5_most (vX4_fillIn_t_4 P i1 i2 σ) (0 : Int32) (4095 : Int32)))) ((zu ((sX5_most (vX4_fillIn_t_4 P i1 i2 σ) (0 : Int32) (4095 : Int32)) 25) 4 (rX5_most (vX4_fillIn_t_4 P i1 i2 σ) (0 : Int32) (4095 : Int32))) 4))) 4))))) dX4_fillIn_71 (Nat.le_of_ble_eq_true rfl) (zN rfl) rfl rfl (Nat.le_of_ble_eq_true rfl) fl_X4_123 rfl rfl rfl rfl ((congrArg (fun g_ => zu _ _ (zu g_ _ _)) (zu_self _ _ _)).trans (zu_zu _ _ _ _)) ?_
  show zz G mX4_fillIn 17 0 0 Q_ 74 [some (.ref 10), some (.ref (pO i1)), some (.ref (pO i2)), some (.ref 25)] [] (hh P (vX4_fillIn_t_5 P i1 i2 σ)) 0 0
  refine z_aloadr_n dX4_fillIn_74 rfl ?_
  refine z_aloadr_n dX4_fillIn_75 rfl ?_
  refine z_get (ci := 4) (r := (RX4, TX4, 10)) (j := 8) (v := .int (((vX4_fillIn_t_5 P i1 i2 σ) 10) 8)) dX4_fillIn_76 (Nat.le_of_ble_eq_true rfl) (zN rfl) rfl rfl (Nat.le_of_ble_eq_true rfl) fl_X4_51 rfl ?_
  refine z_put (ci := 3) (r := (RX3, TX3, 10)) (j := 8) (σ' := (zu (vX4_fillIn_t_5 P i1 i2 σ) 25 (zu ((vX4_fillIn_t_5 P i1 i2 σ) 25) 8 (((vX4_fillIn_t_5 P i1 i2 σ) 10) 8)))) dX4_fillIn_79 (Nat.le_of_ble_eq_true rfl) (zN rfl) rfl rfl (Nat.le_of_ble_eq_true rfl) fl_X4_126 rfl rfl rfl rfl rfl ?_
  refine z_aloadr_n dX4_fillIn_82 rfl ?_
  refine z_aloadr_n dX4_fillIn_83 rfl ?_
  refine z_get (ci := 4) (r := (RX4, TX4, 10)) (j := 3) (v := .ref 16) dX4_fillIn_84 (Nat.le_of_ble_eq_true rfl) (zN rfl) rfl rfl (Nat.le_of_ble_eq_true rfl) fl_X4_29 rfl ?_
  refine z_aloadr_n dX4_fillIn_87 rfl ?_
  refine z_get (ci := 3) (r := (RX3, TX3, 10)) (j := 4) (v := .int ((zu ((vX4_fillIn_t_5 P i1 i2 σ) 25) 8 (((vX4_fillIn_t_5 P i1 i2 σ) 10) 8)) 4)) dX4_fillIn_88 (Nat.le_of_ble_eq_true rfl) (zN rfl) rfl rfl (Nat.le_of_ble_eq_true rfl) fl_X4_111 (congrArg Value.int (congrFun (zu_self _ _ _) _)) ?_
  refine z_aloadr_n dX4_fillIn_91 rfl ?_
  refine z_get (ci := 3) (r := (RX3, TX3, 10)) (j := 9) (v := .ref 26) dX4_fillIn_92 (Nat.le_of_ble_eq_true rfl) (zN rfl) rfl rfl (Nat.le_of_ble_eq_true rfl) fl_X4_127 rfl ?_
  refine z_callV (ci := 5) (r := (RX5, TX5, 4)) (b := 16) (As := [.int ((zu ((vX4_fillIn_t_5 P i1 i2 σ) 25) 8 (((vX4_fillIn_t_5 P i1 i2 σ) 10) 8)) 4), .ref 26]) (rest := [.ref 25]) (ctX5_choose_t P (zu (vX4_fillIn_t_5 P i1 i2 σ) 25 (zu ((vX4_fillIn_t_5 P i1 i2 σ) 25) 8 (((vX4_fillIn_t_5 P i1 i2 σ) 10) 8))) ((zu ((vX4_fillIn_t_5 P i1 i2 σ) 25) 8 (((vX4_fillIn_t_5 P i1 i2 σ) 10) 8)) 4) W_.2.2.2.2) dX4_fillIn_95 lk_X4_130 lv_X5_choose (Nat.le_of_ble_eq_true rfl) (zN rfl) rfl rfl rfl rfl (Nat.le_of_ble_eq_true rfl) (Nat.le_of_ble_eq_true rfl) (Nat.le_of_ble_eq_true rfl) (Nat.le_of_ble_eq_true rfl) (fun r_ h_ e_ => ?_)
  obtain ⟨e1_, e2_⟩ := e_
  subst e1_
  subst e2_
  show zz G mX4_fillIn 17 0 0 Q_ 98 [some (.ref 10), some (.ref (pO i1)), some (.ref (pO i2)), some (.ref 25)] [.int (rX5_choose_t (zu (vX4_fillIn_t_5 P i1 i2 σ) 25 (zu ((vX4_fillIn_t_5 P i1 i2 σ) 25) 8 (((vX4_fillIn_t_5 P i1 i2 σ) 10) 8))) ((zu ((vX4_fillIn_t_5 P i1 i2 σ) 25) 8 (((vX4_fillIn_t_5 P i1 i2 σ) 10) 8)) 4)), .ref 25] (hh P (vX4_fillIn_t_6 P i1 i2 σ)) 0 0
  refine z_put (ci := 3) (r := (RX3, TX3, 10)) (j := 7) (σ' := (zu (vX4_fillIn_t_6 P i1 i2 σ) 25 (zu ((vX4_fillIn_t_6 P i1 i2 σ) 25) 7 (rX5_choose_t (zu (vX4_fillIn_t_5 P i1 i2 σ) 25 (zu ((vX4_fillIn_t_5 P i1 i2 σ) 25) 8 (((vX4_fillIn_t_5 P i1 i2 σ) 10) 8))) ((zu ((vX4_fillIn_t_5 P i1 i2 σ) 25) 8 (((vX4_fillIn_t_5 P i1 i2 σ) 10) 8)) 4))))) dX4_fillIn_98 (Nat.le_of_ble_eq_true rfl) (zN rfl) rfl rfl (Nat.le_of_ble_eq_true rfl) fl_X4_134 rfl rfl rfl rfl rfl ?_
  exact z_return dX4_fillIn_101 rfl (Nat.le_of_ble_eq_true rfl) (Nat.le_of_ble_eq_true rfl) (by rw [← hQ_]; exact ⟨rfl, (by rw [sX4_fillIn_t])⟩)

theorem dX4_search_54 : decode cX4_search 54 = .ok (.iload 7, 2) := by decide +kernel
theorem dX4_search_56 : decode cX4_search 56 = .ok (.bipush 31, 2) := by decide +kernel
theorem dX4_search_58 : decode cX4_search 58 = .ok (.if_icmp .ge 120, 3) := by decide +kernel
theorem dX4_search_61 : decode cX4_search 61 = .ok (.aload_n 0, 1) := by decide +kernel
theorem dX4_search_62 : decode cX4_search 62 = .ok (.getfield 48, 3) := by decide +kernel
theorem dX4_search_65 : decode cX4_search 65 = .ok (.iload 6, 2) := by decide +kernel
theorem dX4_search_67 : decode cX4_search 67 = .ok (.iaload, 1) := by decide +kernel
theorem dX4_search_68 : decode cX4_search 68 = .ok (.iload 7, 2) := by decide +kernel
theorem dX4_search_70 : decode cX4_search 70 = .ok (.ishr, 1) := by decide +kernel
theorem dX4_search_71 : decode cX4_search 71 = .ok (.ifCond .eq 107, 3) := by decide +kernel
theorem dX4_search_74 : decode cX4_search 74 = .ok (.aload_n 0, 1) := by decide +kernel
theorem dX4_search_75 : decode cX4_search 75 = .ok (.getfield 48, 3) := by decide +kernel
theorem dX4_search_78 : decode cX4_search 78 = .ok (.iload 6, 2) := by decide +kernel
theorem dX4_search_80 : decode cX4_search 80 = .ok (.iaload, 1) := by decide +kernel
theorem dX4_search_81 : decode cX4_search 81 = .ok (.iload 7, 2) := by decide +kernel
theorem dX4_search_83 : decode cX4_search 83 = .ok (.ishr, 1) := by decide +kernel
theorem dX4_search_84 : decode cX4_search 84 = .ok (.iconst 1, 1) := by decide +kernel
theorem dX4_search_85 : decode cX4_search 85 = .ok (.iand, 1) := by decide +kernel
theorem dX4_search_86 : decode cX4_search 86 = .ok (.ifCond .ne 6, 3) := by decide +kernel
theorem dX4_search_89 : decode cX4_search 89 = .ok (.goto 83, 3) := by decide +kernel
theorem dX4_search_92 : decode cX4_search 92 = .ok (.aload_n 0, 1) := by decide +kernel
theorem dX4_search_93 : decode cX4_search 93 = .ok (.aload_n 1, 1) := by decide +kernel
theorem dX4_search_94 : decode cX4_search 94 = .ok (.aload_n 2, 1) := by decide +kernel
theorem dX4_search_95 : decode cX4_search 95 = .ok (.iload 7, 2) := by decide +kernel
theorem dX4_search_97 : decode cX4_search 97 = .ok (.bipush 16, 2) := by decide +kernel
theorem dX4_search_99 : decode cX4_search 99 = .ok (.isub, 1) := by decide +kernel
theorem dX4_search_100 : decode cX4_search 100 = .ok (.iconst 1, 1) := by decide +kernel
theorem dX4_search_101 : decode cX4_search 101 = .ok (.iadd, 1) := by decide +kernel
theorem dX4_search_102 : decode cX4_search 102 = .ok (.iload 6, 2) := by decide +kernel
theorem dX4_search_104 : decode cX4_search 104 = .ok (.bipush 16, 2) := by decide +kernel
theorem dX4_search_106 : decode cX4_search 106 = .ok (.isub, 1) := by decide +kernel
theorem dX4_search_107 : decode cX4_search 107 = .ok (.iconst 1, 1) := by decide +kernel
theorem dX4_search_108 : decode cX4_search 108 = .ok (.iadd, 1) := by decide +kernel
theorem dX4_search_109 : decode cX4_search 109 = .ok (.invokevirtual 103, 3) := by decide +kernel
theorem dX4_search_112 : decode cX4_search 112 = .ok (.aload_n 0, 1) := by decide +kernel
theorem dX4_search_113 : decode cX4_search 113 = .ok (.aload_n 0, 1) := by decide +kernel
theorem dX4_search_114 : decode cX4_search 114 = .ok (.getfield 29, 3) := by decide +kernel
theorem dX4_search_117 : decode cX4_search 117 = .ok (.invokevirtual 149, 3) := by decide +kernel
theorem dX4_search_120 : decode cX4_search 120 = .ok (.invokevirtual 120, 3) := by decide +kernel
theorem dX4_search_123 : decode cX4_search 123 = .ok (.istore 8, 2) := by decide +kernel
theorem dX4_search_125 : decode cX4_search 125 = .ok (.iload 8, 2) := by decide +kernel
theorem dX4_search_127 : decode cX4_search 127 = .ok (.iload 4, 2) := by decide +kernel
theorem dX4_search_129 : decode cX4_search 129 = .ok (.if_icmp .le 20, 3) := by decide +kernel
theorem dX4_search_132 : decode cX4_search 132 = .ok (.aload_n 0, 1) := by decide +kernel
theorem dX4_search_133 : decode cX4_search 133 = .ok (.aload_n 0, 1) := by decide +kernel
theorem dX4_search_134 : decode cX4_search 134 = .ok (.getfield 29, 3) := by decide +kernel
theorem dX4_search_137 : decode cX4_search 137 = .ok (.iconst 0, 1) := by decide +kernel
theorem dX4_search_138 : decode cX4_search 138 = .ok (.sipush 4095, 3) := by decide +kernel
theorem dX4_search_141 : decode cX4_search 141 = .ok (.invokevirtual 107, 3) := by decide +kernel
theorem dX4_search_144 : decode cX4_search 144 = .ok (.invokevirtual 120, 3) := by decide +kernel
theorem dX4_search_147 : decode cX4_search 147 = .ok (.istore 8, 2) := by decide +kernel
theorem dX4_search_149 : decode cX4_search 149 = .ok (.iload 8, 2) := by decide +kernel
theorem dX4_search_151 : decode cX4_search 151 = .ok (.iload 4, 2) := by decide +kernel
theorem dX4_search_153 : decode cX4_search 153 = .ok (.if_icmp .le 19, 3) := by decide +kernel
theorem dX4_search_156 : decode cX4_search 156 = .ok (.iload 8, 2) := by decide +kernel
theorem dX4_search_158 : decode cX4_search 158 = .ok (.istore 4, 2) := by decide +kernel
theorem dX4_search_160 : decode cX4_search 160 = .ok (.iload 8, 2) := by decide +kernel
theorem dX4_search_162 : decode cX4_search 162 = .ok (.iload 5, 2) := by decide +kernel
theorem dX4_search_164 : decode cX4_search 164 = .ok (.iload 6, 2) := by decide +kernel
theorem dX4_search_166 : decode cX4_search 166 = .ok (.iload 7, 2) := by decide +kernel
theorem dX4_search_168 : decode cX4_search 168 = .ok (.invokestatic 153, 3) := by decide +kernel
theorem dX4_search_171 : decode cX4_search 171 = .ok (.istore_n 3, 1) := by decide +kernel
theorem dX4_search_172 : decode cX4_search 172 = .ok (.iinc 7 1, 3) := by decide +kernel
theorem dX4_search_175 : decode cX4_search 175 = .ok (.goto (-121), 3) := by decide +kernel
theorem dX4_search_178 : decode cX4_search 178 = .ok (.iinc 6 1, 3) := by decide +kernel
theorem dX4_search_181 : decode cX4_search 181 = .ok (.goto (-137), 3) := by decide +kernel
noncomputable def vX4_search_1 (P : zp) (i1 : Nat) (i2 : Nat) (l6 : Int32) (l7 : Int32) (σ : zc_N) : zc_N := (sX4_shiftBy P σ i1 i2 ((l7 - (16 : Int32)) + (1 : Int32)) ((l6 - (16 : Int32)) + (1 : Int32)))
noncomputable def vX4_search_2 (P : zp) (i1 : Nat) (i2 : Nat) (l6 : Int32) (l7 : Int32) (σ : zc_N) : Int32 := (rX4_scoreWith (sX5_most (vX4_search_1 P i1 i2 l6 l7 σ) (0 : Int32) (4095 : Int32)) (rX5_most (vX4_search_1 P i1 i2 l6 l7 σ) (0 : Int32) (4095 : Int32)))
noncomputable def fX4_search_54 (P : zp) (i1 : Nat) (i2 : Nat) (l5 : Int32) (l6 : Int32) (a_ : Int32 × Int32 × Int32 × zc_N) : Int32 × Int32 × Int32 × zc_N := ((if ((zshr ((a_.2.2.2 22) l6.toNatClampNeg) a_.2.2.1) &&& (1 : Int32)) = (0 : Int32) then a_.1 else (if (rX4_scoreWith (vX4_search_1 P i1 i2 l6 a_.2.2.1 a_.2.2.2) (rX5_bound (vX4_search_1 P i1 i2 l6 a_.2.2.1 a_.2.2.2))) ≤ a_.2.1 then (if (rX4_scoreWith (vX4_search_1 P i1 i2 l6 a_.2.2.1 a_.2.2.2) (rX5_bound (vX4_search_1 P i1 i2 l6 a_.2.2.1 a_.2.2.2))) ≤ a_.2.1 then a_.1 else (rX4_pack (rX4_scoreWith (vX4_search_1 P i1 i2 l6 a_.2.2.1 a_.2.2.2) (rX5_bound (vX4_search_1 P i1 i2 l6 a_.2.2.1 a_.2.2.2))) l5 l6 a_.2.2.1)) else (if (vX4_search_2 P i1 i2 l6 a_.2.2.1 a_.2.2.2) ≤ a_.2.1 then a_.1 else (rX4_pack (vX4_search_2 P i1 i2 l6 a_.2.2.1 a_.2.2.2) l5 l6 a_.2.2.1)))), (if ((zshr ((a_.2.2.2 22) l6.toNatClampNeg) a_.2.2.1) &&& (1 : Int32)) = (0 : Int32) then a_.2.1 else (if (rX4_scoreWith (vX4_search_1 P i1 i2 l6 a_.2.2.1 a_.2.2.2) (rX5_bound (vX4_search_1 P i1 i2 l6 a_.2.2.1 a_.2.2.2))) ≤ a_.2.1 then (if (rX4_scoreWith (vX4_search_1 P i1 i2 l6 a_.2.2.1 a_.2.2.2) (rX5_bound (vX4_search_1 P i1 i2 l6 a_.2.2.1 a_.2.2.2))) ≤ a_.2.1 then a_.2.1 else (rX4_scoreWith (vX4_search_1 P i1 i2 l6 a_.2.2.1 a_.2.2.2) (rX5_bound (vX4_search_1 P i1 i2 l6 a_.2.2.1 a_.2.2.2)))) else (if (vX4_search_2 P i1 i2 l6 a_.2.2.1 a_.2.2.2) ≤ a_.2.1 then a_.2.1 else (vX4_search_2 P i1 i2 l6 a_.2.2.1 a_.2.2.2)))), (a_.2.2.1 + (1 : Int32)), (if ((zshr ((a_.2.2.2 22) l6.toNatClampNeg) a_.2.2.1) &&& (1 : Int32)) = (0 : Int32) then a_.2.2.2 else (if (rX4_scoreWith (vX4_search_1 P i1 i2 l6 a_.2.2.1 a_.2.2.2) (rX5_bound (vX4_search_1 P i1 i2 l6 a_.2.2.1 a_.2.2.2))) ≤ a_.2.1 then (vX4_search_1 P i1 i2 l6 a_.2.2.1 a_.2.2.2) else (sX5_most (vX4_search_1 P i1 i2 l6 a_.2.2.1 a_.2.2.2) (0 : Int32) (4095 : Int32)))))
def eX4_search_54 (P : zp) (i1 : Nat) (i2 : Nat) (l6 : Int32) (a_ : Int32 × Int32 × Int32 × zc_N) : Prop := (((31 : Int32) ≤ a_.2.2.1 ∧ True) ∨ (¬ (31 : Int32) ≤ a_.2.2.1 ∧ (((zshr ((a_.2.2.2 22) l6.toNatClampNeg) a_.2.2.1) = (0 : Int32) ∧ True) ∨ (¬ (zshr ((a_.2.2.2 22) l6.toNatClampNeg) a_.2.2.1) = (0 : Int32) ∧ ((((zshr ((a_.2.2.2 22) l6.toNatClampNeg) a_.2.2.1) &&& (1 : Int32)) = (0 : Int32) ∧ False) ∨ (¬ ((zshr ((a_.2.2.2 22) l6.toNatClampNeg) a_.2.2.1) &&& (1 : Int32)) = (0 : Int32) ∧ (((rX4_scoreWith (vX4_search_1 P i1 i2 l6 a_.2.2.1 a_.2.2.2) (rX5_bound (vX4_search_1 P i1 i2 l6 a_.2.2.1 a_.2.2.2))) ≤ a_.2.1 ∧ False) ∨ (¬ (rX4_scoreWith (vX4_search_1 P i1 i2 l6 a_.2.2.1 a_.2.2.2) (rX5_bound (vX4_search_1 P i1 i2 l6 a_.2.2.1 a_.2.2.2))) ≤ a_.2.1 ∧ False))))))))
def qX4_search_54 (P : zp) (i1 : Nat) (i2 : Nat) (l6 : Int32) (a_ : Int32 × Int32 × Int32 × zc_N) : Prop := (((31 : Int32) ≤ a_.2.2.1 → True) ∧ (¬ (31 : Int32) ≤ a_.2.2.1 → (vp_in l6 31 ∧ (((zshr ((a_.2.2.2 22) l6.toNatClampNeg) a_.2.2.1) = (0 : Int32) → True) ∧ (¬ (zshr ((a_.2.2.2 22) l6.toNatClampNeg) a_.2.2.1) = (0 : Int32) → (vp_in l6 31 ∧ ((((zshr ((a_.2.2.2 22) l6.toNatClampNeg) a_.2.2.1) &&& (1 : Int32)) = (0 : Int32) → True) ∧ (¬ ((zshr ((a_.2.2.2 22) l6.toNatClampNeg) a_.2.2.1) &&& (1 : Int32)) = (0 : Int32) → ((pX4_shiftBy P a_.2.2.2 i1 i2 ((a_.2.2.1 - (16 : Int32)) + (1 : Int32)) ((l6 - (16 : Int32)) + (1 : Int32))) ∧ ((pX5_bound (vX4_search_1 P i1 i2 l6 a_.2.2.1 a_.2.2.2)) ∧ (((rX4_scoreWith (vX4_search_1 P i1 i2 l6 a_.2.2.1 a_.2.2.2) (rX5_bound (vX4_search_1 P i1 i2 l6 a_.2.2.1 a_.2.2.2))) ≤ a_.2.1 → True) ∧ (¬ (rX4_scoreWith (vX4_search_1 P i1 i2 l6 a_.2.2.1 a_.2.2.2) (rX5_bound (vX4_search_1 P i1 i2 l6 a_.2.2.1 a_.2.2.2))) ≤ a_.2.1 → (pX5_most (vX4_search_1 P i1 i2 l6 a_.2.2.1 a_.2.2.2) (0 : Int32) (4095 : Int32))))))))))))))
noncomputable def wX4_search_54 (P : zp) (i1 : Nat) (i2 : Nat) (l5 : Int32) (l6 : Int32) (a_ : Int32 × Int32 × Int32 × zc_N) : Int32 × Int32 × Int32 × zc_N := zit (fX4_search_54 P i1 i2 l5 l6) (zwn (fun n_ => (eX4_search_54 P i1 i2 l6) (zit (fX4_search_54 P i1 i2 l5 l6) n_ a_))) a_
set_option maxHeartbeats 2000000 in
theorem whX4_search_54 {G : zc_G} {Q : Option Value → zc_H → Prop} (P : zp) (σ : zc_N) (i1 : Nat) (h1 : i1 < P.2.1) (i2 : Nat) (h2 : i2 < P.2.1) (l3 : Int32) (l4 : Int32) (l5 : Int32) (l6 : Int32) (l7 : Int32)
    (hT_ : ∃ n_ : Nat, (eX4_search_54 P i1 i2 l6) (zit (fX4_search_54 P i1 i2 l5 l6) n_ (l3, l4, l7, σ))) (W1_ : ∀ i54_ : Nat, i54_ < (zwn (fun n_ => (eX4_search_54 P i1 i2 l6) (zit (fX4_search_54 P i1 i2 l5 l6) n_ (l3, l4, l7, σ)))) → qX4_search_54 P i1 i2 l6 (zit (fX4_search_54 P i1 i2 l5 l6) i54_ (l3, l4, l7, σ)))
    (W2_ : (eX4_search_54 P i1 i2 l6) (wX4_search_54 P i1 i2 l5 l6 (l3, l4, l7, σ)) → zz G mX4_search 16 0 0 Q 54 [some (.ref 10), some (.ref (pO i1)), some (.ref (pO i2)), some (.int (wX4_search_54 P i1 i2 l5 l6 (l3, l4, l7, σ)).1), some (.int (wX4_search_54 P i1 i2 l5 l6 (l3, l4, l7, σ)).2.1), some (.int l5), some (.int l6), some (.int (wX4_search_54 P i1 i2 l5 l6 (l3, l4, l7, σ)).2.2.1), none] [] (hh P (wX4_search_54 P i1 i2 l5 l6 (l3, l4, l7, σ)).2.2.2) 0 0) :
    zz G mX4_search 16 0 0 Q 54 [some (.ref 10), some (.ref (pO i1)), some (.ref (pO i2)), some (.int l3), some (.int l4), some (.int l5), some (.int l6), some (.int l7), none] [] (hh P σ) 0 0 := by
  unfold wX4_search_54 at W2_
  have hs_ := zwn_spec hT_
  refine zit_Z (fun a_ => zz G mX4_search 16 0 0 Q 54 [some (.ref 10), some (.ref (pO i1)), some (.ref (pO i2)), some (.int a_.1), some (.int a_.2.1), some (.int l5), some (.int l6), some (.int a_.2.2.1), none] [] (hh P a_.2.2.2) 0 0) (fX4_search_54 P i1 i2 l5 l6) (zwn (fun n_ => (eX4_search_54 P i1 i2 l6) (zit (fX4_search_54 P i1 i2 l5 l6) n_ (l3, l4, l7, σ)))) (l3, l4, l7, σ) (fun i_ hi_ k_ => ?_) (W2_ hs_.1)
  have hn_ := hs_.2 i_ hi_
  have W3_ := W1_ i_ hi_
  generalize zit (fX4_search_54 P i1 i2 l5 l6) i_ (l3, l4, l7, σ) = g_ at k_ hn_ W3_ ⊢
  obtain ⟨x0_, x1_, x2_, x3_⟩ := g_
  try dsimp only at k_ hn_ W3_ ⊢
  rw [fX4_search_54] at k_
  rw [eX4_search_54] at hn_
  try dsimp only at k_ hn_
  rw [qX4_search_54] at W3_
  try dsimp only at W3_
  refine z_iload dX4_search_54 rfl ?_
  refine z_bipush dX4_search_56 k_bipush_31 ?_
  refine z_icmp_ge (tgt := 178) dX4_search_58 (by decide) (fun c_1 => ?_) (fun c_1 => ?_)
  · exact absurd (Or.inl ⟨c_1, trivial⟩) hn_
  · refine z_aloadr_n dX4_search_61 rfl ?_
    refine z_get (ci := 4) (r := (RX4, TX4, 10)) (j := 7) (v := .ref 22) dX4_search_62 (Nat.le_of_ble_eq_true rfl) (zN rfl) rfl rfl (Nat.le_of_ble_eq_true rfl) fl_X4_48 rfl ?_
    refine z_iload dX4_search_65 rfl ?_
    refine z_iald (v := ((x3_ 22) l6.toNatClampNeg)) dX4_search_67 (zN rfl) rfl ((W3_.2 c_1).1) rfl ?_
    refine z_iload dX4_search_68 rfl ?_
    refine z_ishr (v := (zshr ((x3_ 22) l6.toNatClampNeg) x2_)) dX4_search_70 rfl ?_
    refine z_if_eq (tgt := 178) dX4_search_71 (by decide) (fun c_2 => ?_) (fun c_2 => ?_)
    · exact absurd (Or.inr ⟨c_1, (Or.inl ⟨c_2, trivial⟩)⟩) hn_
    · refine z_aloadr_n dX4_search_74 rfl ?_
      refine z_get (ci := 4) (r := (RX4, TX4, 10)) (j := 7) (v := .ref 22) dX4_search_75 (Nat.le_of_ble_eq_true rfl) (zN rfl) rfl rfl (Nat.le_of_ble_eq_true rfl) fl_X4_48 rfl ?_
      refine z_iload dX4_search_78 rfl ?_
      refine z_iald (v := ((x3_ 22) l6.toNatClampNeg)) dX4_search_80 (zN rfl) rfl (((W3_.2 c_1).2.2 c_2).1) rfl ?_
      refine z_iload dX4_search_81 rfl ?_
      refine z_ishr (v := (zshr ((x3_ 22) l6.toNatClampNeg) x2_)) dX4_search_83 rfl ?_
      refine z_iconst dX4_search_84 k_iconst_1 ?_
      refine z_iand (v := ((zshr ((x3_ 22) l6.toNatClampNeg) x2_) &&& (1 : Int32))) dX4_search_85 rfl ?_
      refine z_if_ne (tgt := 92) dX4_search_86 (by decide) (fun c_3 => ?_) (fun c_3 => ?_)
      · refine z_aloadr_n dX4_search_92 rfl ?_
        refine z_aloadr_n dX4_search_93 rfl ?_
        refine z_aloadr_n dX4_search_94 rfl ?_
        refine z_iload dX4_search_95 rfl ?_
        refine z_bipush dX4_search_97 k_bipush_16 ?_
        refine z_isub (v := (x2_ - (16 : Int32))) dX4_search_99 rfl ?_
        refine z_iconst dX4_search_100 k_iconst_1 ?_
        refine z_iadd (v := ((x2_ - (16 : Int32)) + (1 : Int32))) dX4_search_101 rfl ?_
        refine z_iload dX4_search_102 rfl ?_
        refine z_bipush dX4_search_104 k_bipush_16 ?_
        refine z_isub (v := (l6 - (16 : Int32))) dX4_search_106 rfl ?_
        refine z_iconst dX4_search_107 k_iconst_1 ?_
        refine z_iadd (v := ((l6 - (16 : Int32)) + (1 : Int32))) dX4_search_108 rfl ?_
        refine z_callV (ci := 4) (r := (RX4, TX4, 10)) (b := 10) (As := [.ref (pO i1), .ref (pO i2), .int ((x2_ - (16 : Int32)) + (1 : Int32)), .int ((l6 - (16 : Int32)) + (1 : Int32))]) (rest := []) (ctX4_shiftBy P x3_ i1 h1 i2 h2 ((x2_ - (16 : Int32)) + (1 : Int32)) ((l6 - (16 : Int32)) + (1 : Int32)) ((((W3_.2 c_1).2.2 c_2).2.2 c_3).1)) dX4_search_109 lk_X4_103 lv_X4_shiftBy (Nat.le_of_ble_eq_true rfl) (zN rfl) rfl rfl rfl rfl (Nat.le_of_ble_eq_true rfl) (Nat.le_of_ble_eq_true rfl) (Nat.le_of_ble_eq_true rfl) (Nat.le_of_ble_eq_true rfl) (fun r_ h_ e_ => ?_)
        obtain ⟨e1_, e2_⟩ := e_
        subst e1_
        subst e2_
        show zz G mX4_search 16 0 0 Q 112 [some (.ref 10), some (.ref (pO i1)), some (.ref (pO i2)), some (.int x0_), some (.int x1_), some (.int l5), some (.int l6), some (.int x2_), none] [] (hh P (vX4_search_1 P i1 i2 l6 x2_ x3_)) 0 0
        refine z_aloadr_n dX4_search_112 rfl ?_
        refine z_aloadr_n dX4_search_113 rfl ?_
        refine z_get (ci := 4) (r := (RX4, TX4, 10)) (j := 3) (v := .ref 16) dX4_search_114 (Nat.le_of_ble_eq_true rfl) (zN rfl) rfl rfl (Nat.le_of_ble_eq_true rfl) fl_X4_29 rfl ?_
        refine z_callV (ci := 5) (r := (RX5, TX5, 4)) (b := 16) (As := []) (rest := [.ref 10]) (ctX5_bound P (vX4_search_1 P i1 i2 l6 x2_ x3_) ((((W3_.2 c_1).2.2 c_2).2.2 c_3).2.1)) dX4_search_117 lk_X4_149 lv_X5_bound (Nat.le_of_ble_eq_true rfl) (zN rfl) rfl rfl rfl rfl (Nat.le_of_ble_eq_true rfl) (Nat.le_of_ble_eq_true rfl) (Nat.le_of_ble_eq_true rfl) (Nat.le_of_ble_eq_true rfl) (fun r_ h_ e_ => ?_)
        obtain ⟨e1_, e2_⟩ := e_
        subst e1_
        subst e2_
        show zz G mX4_search 16 0 0 Q 120 [some (.ref 10), some (.ref (pO i1)), some (.ref (pO i2)), some (.int x0_), some (.int x1_), some (.int l5), some (.int l6), some (.int x2_), none] [.int (rX5_bound (vX4_search_1 P i1 i2 l6 x2_ x3_)), .ref 10] (hh P (vX4_search_1 P i1 i2 l6 x2_ x3_)) 0 0
        refine z_callV (ci := 4) (r := (RX4, TX4, 10)) (b := 10) (As := [.int (rX5_bound (vX4_search_1 P i1 i2 l6 x2_ x3_))]) (rest := []) (ctX4_scoreWith P (vX4_search_1 P i1 i2 l6 x2_ x3_) (rX5_bound (vX4_search_1 P i1 i2 l6 x2_ x3_))) dX4_search_120 lk_X4_120 lv_X4_scoreWith (Nat.le_of_ble_eq_true rfl) (zN rfl) rfl rfl rfl rfl (Nat.le_of_ble_eq_true rfl) (Nat.le_of_ble_eq_true rfl) (Nat.le_of_ble_eq_true rfl) (Nat.le_of_ble_eq_true rfl) (fun r_ h_ e_ => ?_)
        obtain ⟨e1_, e2_⟩ := e_
        subst e1_
        subst e2_
        show zz G mX4_search 16 0 0 Q 123 [some (.ref 10), some (.ref (pO i1)), some (.ref (pO i2)), some (.int x0_), some (.int x1_), some (.int l5), some (.int l6), some (.int x2_), none] [.int (rX4_scoreWith (vX4_search_1 P i1 i2 l6 x2_ x3_) (rX5_bound (vX4_search_1 P i1 i2 l6 x2_ x3_)))] (hh P (vX4_search_1 P i1 i2 l6 x2_ x3_)) 0 0
        refine z_istore (lv' := [some (.ref 10), some (.ref (pO i1)), some (.ref (pO i2)), some (.int x0_), some (.int x1_), some (.int l5), some (.int l6), some (.int x2_), some (.int (rX4_scoreWith (vX4_search_1 P i1 i2 l6 x2_ x3_) (rX5_bound (vX4_search_1 P i1 i2 l6 x2_ x3_))))]) dX4_search_123 (Nat.le_of_ble_eq_true rfl) rfl ?_
        refine z_iload dX4_search_125 rfl ?_
        refine z_iload dX4_search_127 rfl ?_
        refine z_icmp_le (tgt := 149) dX4_search_129 (by decide) (fun c_4 => ?_) (fun c_4 => ?_)
        · refine z_iload dX4_search_149 rfl ?_
          refine z_iload dX4_search_151 rfl ?_
          have K_1 : zz G mX4_search 16 0 0 Q 172 [some (.ref 10), some (.ref (pO i1)), some (.ref (pO i2)), some (.int (if (rX4_scoreWith (vX4_search_1 P i1 i2 l6 x2_ x3_) (rX5_bound (vX4_search_1 P i1 i2 l6 x2_ x3_))) ≤ x1_ then x0_ else (rX4_pack (rX4_scoreWith (vX4_search_1 P i1 i2 l6 x2_ x3_) (rX5_bound (vX4_search_1 P i1 i2 l6 x2_ x3_))) l5 l6 x2_))), some (.int (if (rX4_scoreWith (vX4_search_1 P i1 i2 l6 x2_ x3_) (rX5_bound (vX4_search_1 P i1 i2 l6 x2_ x3_))) ≤ x1_ then x1_ else (rX4_scoreWith (vX4_search_1 P i1 i2 l6 x2_ x3_) (rX5_bound (vX4_search_1 P i1 i2 l6 x2_ x3_))))), some (.int l5), some (.int l6), some (.int x2_), none] [] (hh P (vX4_search_1 P i1 i2 l6 x2_ x3_)) 0 0 := by
            refine z_iinc (v := (x2_ + (1 : Int32))) (lv' := [some (.ref 10), some (.ref (pO i1)), some (.ref (pO i2)), some (.int (if (rX4_scoreWith (vX4_search_1 P i1 i2 l6 x2_ x3_) (rX5_bound (vX4_search_1 P i1 i2 l6 x2_ x3_))) ≤ x1_ then x0_ else (rX4_pack (rX4_scoreWith (vX4_search_1 P i1 i2 l6 x2_ x3_) (rX5_bound (vX4_search_1 P i1 i2 l6 x2_ x3_))) l5 l6 x2_))), some (.int (if (rX4_scoreWith (vX4_search_1 P i1 i2 l6 x2_ x3_) (rX5_bound (vX4_search_1 P i1 i2 l6 x2_ x3_))) ≤ x1_ then x1_ else (rX4_scoreWith (vX4_search_1 P i1 i2 l6 x2_ x3_) (rX5_bound (vX4_search_1 P i1 i2 l6 x2_ x3_))))), some (.int l5), some (.int l6), some (.int (x2_ + (1 : Int32))), none]) dX4_search_172 (Nat.le_of_ble_eq_true rfl) rfl (by rw [k_iconst_1]) rfl ?_
            refine z_goto (tgt := 54) dX4_search_175 (by decide) ?_
            simpa only [if_neg c_1, if_neg c_2, if_neg c_3, if_pos c_4] using k_
          refine z_icmp_le (tgt := 172) dX4_search_153 (by decide) (fun c_5 => ?_) (fun c_5 => ?_)
          · refine zz_sub (lv' := [some (.ref 10), some (.ref (pO i1)), some (.ref (pO i2)), some (.int x0_), some (.int x1_), some (.int l5), some (.int l6), some (.int x2_), none]) ⟨rfl, ⟨rfl, ⟨rfl, ⟨rfl, ⟨rfl, ⟨rfl, ⟨rfl, ⟨rfl, trivial⟩⟩⟩⟩⟩⟩⟩⟩ ?_
            rw [show (if (rX4_scoreWith (vX4_search_1 P i1 i2 l6 x2_ x3_) (rX5_bound (vX4_search_1 P i1 i2 l6 x2_ x3_))) ≤ x1_ then x0_ else (rX4_pack (rX4_scoreWith (vX4_search_1 P i1 i2 l6 x2_ x3_) (rX5_bound (vX4_search_1 P i1 i2 l6 x2_ x3_))) l5 l6 x2_)) = x0_ from (if_pos c_5)] at K_1
            rw [show (if (rX4_scoreWith (vX4_search_1 P i1 i2 l6 x2_ x3_) (rX5_bound (vX4_search_1 P i1 i2 l6 x2_ x3_))) ≤ x1_ then x1_ else (rX4_scoreWith (vX4_search_1 P i1 i2 l6 x2_ x3_) (rX5_bound (vX4_search_1 P i1 i2 l6 x2_ x3_)))) = x1_ from (if_pos c_5)] at K_1
            exact K_1
          · refine z_iload dX4_search_156 rfl ?_
            refine z_istore (lv' := [some (.ref 10), some (.ref (pO i1)), some (.ref (pO i2)), some (.int x0_), some (.int (rX4_scoreWith (vX4_search_1 P i1 i2 l6 x2_ x3_) (rX5_bound (vX4_search_1 P i1 i2 l6 x2_ x3_)))), some (.int l5), some (.int l6), some (.int x2_), some (.int (rX4_scoreWith (vX4_search_1 P i1 i2 l6 x2_ x3_) (rX5_bound (vX4_search_1 P i1 i2 l6 x2_ x3_))))]) dX4_search_158 (Nat.le_of_ble_eq_true rfl) rfl ?_
            refine z_iload dX4_search_160 rfl ?_
            refine z_iload dX4_search_162 rfl ?_
            refine z_iload dX4_search_164 rfl ?_
            refine z_iload dX4_search_166 rfl ?_
            refine z_callS (As := [.int (rX4_scoreWith (vX4_search_1 P i1 i2 l6 x2_ x3_) (rX5_bound (vX4_search_1 P i1 i2 l6 x2_ x3_))), .int l5, .int l6, .int x2_]) (rest := []) (ctX4_pack P (vX4_search_1 P i1 i2 l6 x2_ x3_) (rX4_scoreWith (vX4_search_1 P i1 i2 l6 x2_ x3_) (rX5_bound (vX4_search_1 P i1 i2 l6 x2_ x3_))) l5 l6 x2_) dX4_search_168 lk_X4_153 ls_X4_pack rfl (Nat.le_of_ble_eq_true rfl) (Nat.le_of_ble_eq_true rfl) (Nat.le_of_ble_eq_true rfl) (Nat.le_of_ble_eq_true rfl) (fun r_ h_ e_ => ?_)
            obtain ⟨e1_, e2_⟩ := e_
            subst e1_
            subst e2_
            show zz G mX4_search 16 0 0 Q 171 [some (.ref 10), some (.ref (pO i1)), some (.ref (pO i2)), some (.int x0_), some (.int (rX4_scoreWith (vX4_search_1 P i1 i2 l6 x2_ x3_) (rX5_bound (vX4_search_1 P i1 i2 l6 x2_ x3_)))), some (.int l5), some (.int l6), some (.int x2_), some (.int (rX4_scoreWith (vX4_search_1 P i1 i2 l6 x2_ x3_) (rX5_bound (vX4_search_1 P i1 i2 l6 x2_ x3_))))] [.int (rX4_pack (rX4_scoreWith (vX4_search_1 P i1 i2 l6 x2_ x3_) (rX5_bound (vX4_search_1 P i1 i2 l6 x2_ x3_))) l5 l6 x2_)] (hh P (vX4_search_1 P i1 i2 l6 x2_ x3_)) 0 0
            refine z_istore_n (lv' := [some (.ref 10), some (.ref (pO i1)), some (.ref (pO i2)), some (.int (rX4_pack (rX4_scoreWith (vX4_search_1 P i1 i2 l6 x2_ x3_) (rX5_bound (vX4_search_1 P i1 i2 l6 x2_ x3_))) l5 l6 x2_)), some (.int (rX4_scoreWith (vX4_search_1 P i1 i2 l6 x2_ x3_) (rX5_bound (vX4_search_1 P i1 i2 l6 x2_ x3_)))), some (.int l5), some (.int l6), some (.int x2_), some (.int (rX4_scoreWith (vX4_search_1 P i1 i2 l6 x2_ x3_) (rX5_bound (vX4_search_1 P i1 i2 l6 x2_ x3_))))]) dX4_search_171 (Nat.le_of_ble_eq_true rfl) rfl ?_
            refine zz_sub (lv' := [some (.ref 10), some (.ref (pO i1)), some (.ref (pO i2)), some (.int (rX4_pack (rX4_scoreWith (vX4_search_1 P i1 i2 l6 x2_ x3_) (rX5_bound (vX4_search_1 P i1 i2 l6 x2_ x3_))) l5 l6 x2_)), some (.int (rX4_scoreWith (vX4_search_1 P i1 i2 l6 x2_ x3_) (rX5_bound (vX4_search_1 P i1 i2 l6 x2_ x3_)))), some (.int l5), some (.int l6), some (.int x2_), none]) ⟨rfl, ⟨rfl, ⟨rfl, ⟨rfl, ⟨rfl, ⟨rfl, ⟨rfl, ⟨rfl, trivial⟩⟩⟩⟩⟩⟩⟩⟩ ?_
            rw [show (if (rX4_scoreWith (vX4_search_1 P i1 i2 l6 x2_ x3_) (rX5_bound (vX4_search_1 P i1 i2 l6 x2_ x3_))) ≤ x1_ then x0_ else (rX4_pack (rX4_scoreWith (vX4_search_1 P i1 i2 l6 x2_ x3_) (rX5_bound (vX4_search_1 P i1 i2 l6 x2_ x3_))) l5 l6 x2_)) = (rX4_pack (rX4_scoreWith (vX4_search_1 P i1 i2 l6 x2_ x3_) (rX5_bound (vX4_search_1 P i1 i2 l6 x2_ x3_))) l5 l6 x2_) from (if_neg c_5)] at K_1
            rw [show (if (rX4_scoreWith (vX4_search_1 P i1 i2 l6 x2_ x3_) (rX5_bound (vX4_search_1 P i1 i2 l6 x2_ x3_))) ≤ x1_ then x1_ else (rX4_scoreWith (vX4_search_1 P i1 i2 l6 x2_ x3_) (rX5_bound (vX4_search_1 P i1 i2 l6 x2_ x3_)))) = (rX4_scoreWith (vX4_search_1 P i1 i2 l6 x2_ x3_) (rX5_bound (vX4_search_1 P i1 i2 l6 x2_ x3_))) from (if_neg c_5)] at K_1
            exact K_1
        · refine z_aloadr_n dX4_search_132 rfl ?_
          refine z_aloadr_n dX4_search_133 rfl ?_
          refine z_get (ci := 4) (r := (RX4, TX4, 10)) (j := 3) (v := .ref 16) dX4_search_134 (Nat.le_of_ble_eq_true rfl) (zN rfl) rfl rfl (Nat.le_of_ble_eq_true rfl) fl_X4_29 rfl ?_
          refine z_iconst dX4_search_137 k_iconst_0 ?_
          refine z_sipush dX4_search_138 k_sipush_4095 ?_
          refine z_callV (ci := 5) (r := (RX5, TX5, 4)) (b := 16) (As := [.int (0 : Int32), .int (4095 : Int32)]) (rest := [.ref 10]) (ctX5_most P (vX4_search_1 P i1 i2 l6 x2_ x3_) (0 : Int32) (4095 : Int32) ((((W3_.2 c_1).2.2 c_2).2.2 c_3).2.2.2 c_4)) dX4_search_141 lk_X4_107 lv_X5_most (Nat.le_of_ble_eq_true rfl) (zN rfl) rfl rfl rfl rfl (Nat.le_of_ble_eq_true rfl) (Nat.le_of_ble_eq_true rfl) (Nat.le_of_ble_eq_true rfl) (Nat.le_of_ble_eq_true rfl) (fun r_ h_ e_ => ?_)
          obtain ⟨e1_, e2_⟩ := e_
          subst e1_
          subst e2_
          show zz G mX4_search 16 0 0 Q 144 [some (.ref 10), some (.ref (pO i1)), some (.ref (pO i2)), some (.int x0_), some (.int x1_), some (.int l5), some (.int l6), some (.int x2_), some (.int (rX4_scoreWith (vX4_search_1 P i1 i2 l6 x2_ x3_) (rX5_bound (vX4_search_1 P i1 i2 l6 x2_ x3_))))] [.int (rX5_most (vX4_search_1 P i1 i2 l6 x2_ x3_) (0 : Int32) (4095 : Int32)), .ref 10] (hh P (sX5_most (vX4_search_1 P i1 i2 l6 x2_ x3_) (0 : Int32) (4095 : Int32))) 0 0
          refine z_callV (ci := 4) (r := (RX4, TX4, 10)) (b := 10) (As := [.int (rX5_most (vX4_search_1 P i1 i2 l6 x2_ x3_) (0 : Int32) (4095 : Int32))]) (rest := []) (ctX4_scoreWith P (sX5_most (vX4_search_1 P i1 i2 l6 x2_ x3_) (0 : Int32) (4095 : Int32)) (rX5_most (vX4_search_1 P i1 i2 l6 x2_ x3_) (0 : Int32) (4095 : Int32))) dX4_search_144 lk_X4_120 lv_X4_scoreWith (Nat.le_of_ble_eq_true rfl) (zN rfl) rfl rfl rfl rfl (Nat.le_of_ble_eq_true rfl) (Nat.le_of_ble_eq_true rfl) (Nat.le_of_ble_eq_true rfl) (Nat.le_of_ble_eq_true rfl) (fun r_ h_ e_ => ?_)
          obtain ⟨e1_, e2_⟩ := e_
          subst e1_
          subst e2_
          show zz G mX4_search 16 0 0 Q 147 [some (.ref 10), some (.ref (pO i1)), some (.ref (pO i2)), some (.int x0_), some (.int x1_), some (.int l5), some (.int l6), some (.int x2_), some (.int (rX4_scoreWith (vX4_search_1 P i1 i2 l6 x2_ x3_) (rX5_bound (vX4_search_1 P i1 i2 l6 x2_ x3_))))] [.int (rX4_scoreWith (sX5_most (vX4_search_1 P i1 i2 l6 x2_ x3_) (0 : Int32) (4095 : Int32)) (rX5_most (vX4_search_1 P i1 i2 l6 x2_ x3_) (0 : Int32) (4095 : Int32)))] (hh P (sX5_most (vX4_search_1 P i1 i2 l6 x2_ x3_) (0 : Int32) (4095 : Int32))) 0 0
          refine z_istore (lv' := [some (.ref 10), some (.ref (pO i1)), some (.ref (pO i2)), some (.int x0_), some (.int x1_), some (.int l5), some (.int l6), some (.int x2_), some (.int (vX4_search_2 P i1 i2 l6 x2_ x3_))]) dX4_search_147 (Nat.le_of_ble_eq_true rfl) rfl ?_
          refine z_iload dX4_search_149 rfl ?_
          refine z_iload dX4_search_151 rfl ?_
          have K_2 : zz G mX4_search 16 0 0 Q 172 [some (.ref 10), some (.ref (pO i1)), some (.ref (pO i2)), some (.int (if (vX4_search_2 P i1 i2 l6 x2_ x3_) ≤ x1_ then x0_ else (rX4_pack (vX4_search_2 P i1 i2 l6 x2_ x3_) l5 l6 x2_))), some (.int (if (vX4_search_2 P i1 i2 l6 x2_ x3_) ≤ x1_ then x1_ else (vX4_search_2 P i1 i2 l6 x2_ x3_))), some (.int l5), some (.int l6), some (.int x2_), none] [] (hh P (sX5_most (vX4_search_1 P i1 i2 l6 x2_ x3_) (0 : Int32) (4095 : Int32))) 0 0 := by
            refine z_iinc (v := (x2_ + (1 : Int32))) (lv' := [some (.ref 10), some (.ref (pO i1)), some (.ref (pO i2)), some (.int (if (vX4_search_2 P i1 i2 l6 x2_ x3_) ≤ x1_ then x0_ else (rX4_pack (vX4_search_2 P i1 i2 l6 x2_ x3_) l5 l6 x2_))), some (.int (if (vX4_search_2 P i1 i2 l6 x2_ x3_) ≤ x1_ then x1_ else (vX4_search_2 P i1 i2 l6 x2_ x3_))), some (.int l5), some (.int l6), some (.int (x2_ + (1 : Int32))), none]) dX4_search_172 (Nat.le_of_ble_eq_true rfl) rfl (by rw [k_iconst_1]) rfl ?_
            refine z_goto (tgt := 54) dX4_search_175 (by decide) ?_
            simpa only [if_neg c_1, if_neg c_2, if_neg c_3, if_neg c_4] using k_
          refine z_icmp_le (tgt := 172) dX4_search_153 (by decide) (fun c_6 => ?_) (fun c_6 => ?_)
          · refine zz_sub (lv' := [some (.ref 10), some (.ref (pO i1)), some (.ref (pO i2)), some (.int x0_), some (.int x1_), some (.int l5), some (.int l6), some (.int x2_), none]) ⟨rfl, ⟨rfl, ⟨rfl, ⟨rfl, ⟨rfl, ⟨rfl, ⟨rfl, ⟨rfl, trivial⟩⟩⟩⟩⟩⟩⟩⟩ ?_
            rw [show (if (vX4_search_2 P i1 i2 l6 x2_ x3_) ≤ x1_ then x0_ else (rX4_pack (vX4_search_2 P i1 i2 l6 x2_ x3_) l5 l6 x2_)) = x0_ from (if_pos c_6)] at K_2
            rw [show (if (vX4_search_2 P i1 i2 l6 x2_ x3_) ≤ x1_ then x1_ else (vX4_search_2 P i1 i2 l6 x2_ x3_)) = x1_ from (if_pos c_6)] at K_2
            exact K_2
          · refine z_iload dX4_search_156 rfl ?_
            refine z_istore (lv' := [some (.ref 10), some (.ref (pO i1)), some (.ref (pO i2)), some (.int x0_), some (.int (vX4_search_2 P i1 i2 l6 x2_ x3_)), some (.int l5), some (.int l6), some (.int x2_), some (.int (vX4_search_2 P i1 i2 l6 x2_ x3_))]) dX4_search_158 (Nat.le_of_ble_eq_true rfl) rfl ?_
            refine z_iload dX4_search_160 rfl ?_
            refine z_iload dX4_search_162 rfl ?_
            refine z_iload dX4_search_164 rfl ?_
            refine z_iload dX4_search_166 rfl ?_
            refine z_callS (As := [.int (vX4_search_2 P i1 i2 l6 x2_ x3_), .int l5, .int l6, .int x2_]) (rest := []) (ctX4_pack P (sX5_most (vX4_search_1 P i1 i2 l6 x2_ x3_) (0 : Int32) (4095 : Int32)) (vX4_search_2 P i1 i2 l6 x2_ x3_) l5 l6 x2_) dX4_search_168 lk_X4_153 ls_X4_pack rfl (Nat.le_of_ble_eq_true rfl) (Nat.le_of_ble_eq_true rfl) (Nat.le_of_ble_eq_true rfl) (Nat.le_of_ble_eq_true rfl) (fun r_ h_ e_ => ?_)
            obtain ⟨e1_, e2_⟩ := e_
            subst e1_
            subst e2_
            show zz G mX4_search 16 0 0 Q 171 [some (.ref 10), some (.ref (pO i1)), some (.ref (pO i2)), some (.int x0_), some (.int (vX4_search_2 P i1 i2 l6 x2_ x3_)), some (.int l5), some (.int l6), some (.int x2_), some (.int (vX4_search_2 P i1 i2 l6 x2_ x3_))] [.int (rX4_pack (vX4_search_2 P i1 i2 l6 x2_ x3_) l5 l6 x2_)] (hh P (sX5_most (vX4_search_1 P i1 i2 l6 x2_ x3_) (0 : Int32) (4095 : Int32))) 0 0
            refine z_istore_n (lv' := [some (.ref 10), some (.ref (pO i1)), some (.ref (pO i2)), some (.int (rX4_pack (vX4_search_2 P i1 i2 l6 x2_ x3_) l5 l6 x2_)), some (.int (vX4_search_2 P i1 i2 l6 x2_ x3_)), some (.int l5), some (.int l6), some (.int x2_), some (.int (vX4_search_2 P i1 i2 l6 x2_ x3_))]) dX4_search_171 (Nat.le_of_ble_eq_true rfl) rfl ?_
            refine zz_sub (lv' := [some (.ref 10), some (.ref (pO i1)), some (.ref (pO i2)), some (.int (rX4_pack (vX4_search_2 P i1 i2 l6 x2_ x3_) l5 l6 x2_)), some (.int (vX4_search_2 P i1 i2 l6 x2_ x3_)), some (.int l5), some (.int l6), some (.int x2_), none]) ⟨rfl, ⟨rfl, ⟨rfl, ⟨rfl, ⟨rfl, ⟨rfl, ⟨rfl, ⟨rfl, trivial⟩⟩⟩⟩⟩⟩⟩⟩ ?_
            rw [show (if (vX4_search_2 P i1 i2 l6 x2_ x3_) ≤ x1_ then x0_ else (rX4_pack (vX4_search_2 P i1 i2 l6 x2_ x3_) l5 l6 x2_)) = (rX4_pack (vX4_search_2 P i1 i2 l6 x2_ x3_) l5 l6 x2_) from (if_neg c_6)] at K_2
            rw [show (if (vX4_search_2 P i1 i2 l6 x2_ x3_) ≤ x1_ then x1_ else (vX4_search_2 P i1 i2 l6 x2_ x3_)) = (vX4_search_2 P i1 i2 l6 x2_ x3_) from (if_neg c_6)] at K_2
            exact K_2
      · refine z_goto (tgt := 172) dX4_search_89 (by decide) ?_
        refine z_iinc (v := (x2_ + (1 : Int32))) (lv' := [some (.ref 10), some (.ref (pO i1)), some (.ref (pO i2)), some (.int x0_), some (.int x1_), some (.int l5), some (.int l6), some (.int (x2_ + (1 : Int32))), none]) dX4_search_172 (Nat.le_of_ble_eq_true rfl) rfl (by rw [k_iconst_1]) rfl ?_
        refine z_goto (tgt := 54) dX4_search_175 (by decide) ?_
        simpa only [if_neg c_1, if_neg c_2, if_pos c_3] using k_

theorem dX4_search_44 : decode cX4_search 44 = .ok (.iload 6, 2) := by decide +kernel
theorem dX4_search_46 : decode cX4_search 46 = .ok (.bipush 31, 2) := by decide +kernel
theorem dX4_search_48 : decode cX4_search 48 = .ok (.if_icmp .ge 136, 3) := by decide +kernel
theorem dX4_search_51 : decode cX4_search 51 = .ok (.iconst 0, 1) := by decide +kernel
theorem dX4_search_52 : decode cX4_search 52 = .ok (.istore 7, 2) := by decide +kernel
theorem dX4_search_184 : decode cX4_search 184 = .ok (.iinc 5 1, 3) := by decide +kernel
theorem dX4_search_187 : decode cX4_search 187 = .ok (.goto (-165), 3) := by decide +kernel
noncomputable def vX4_search_7 (P : zp) (i1 : Nat) (i2 : Nat) (l3 : Int32) (l4 : Int32) (l5 : Int32) (l6 : Int32) (σ : zc_N) : zc_N := (sX4_shiftBy P ((wX4_search_54 P i1 i2 l5 l6 (l3, l4, (0 : Int32), σ)).2.2.2) i1 i2 (((wX4_search_54 P i1 i2 l5 l6 (l3, l4, (0 : Int32), σ)).2.2.1 - (16 : Int32)) + (1 : Int32)) ((l6 - (16 : Int32)) + (1 : Int32)))
noncomputable def vX4_search_8 (P : zp) (i1 : Nat) (i2 : Nat) (l3 : Int32) (l4 : Int32) (l5 : Int32) (l6 : Int32) (σ : zc_N) : Int32 := (rX4_pack (rX4_scoreWith (vX4_search_7 P i1 i2 l3 l4 l5 l6 σ) (rX5_bound (vX4_search_7 P i1 i2 l3 l4 l5 l6 σ))) l5 l6 ((wX4_search_54 P i1 i2 l5 l6 (l3, l4, (0 : Int32), σ)).2.2.1))
noncomputable def vX4_search_9 (P : zp) (i1 : Nat) (i2 : Nat) (l3 : Int32) (l4 : Int32) (l5 : Int32) (l6 : Int32) (σ : zc_N) : Int32 := (rX4_scoreWith (sX5_most (vX4_search_7 P i1 i2 l3 l4 l5 l6 σ) (0 : Int32) (4095 : Int32)) (rX5_most (vX4_search_7 P i1 i2 l3 l4 l5 l6 σ) (0 : Int32) (4095 : Int32)))
noncomputable def vX4_search_10 (P : zp) (i1 : Nat) (i2 : Nat) (l3 : Int32) (l4 : Int32) (l5 : Int32) (l6 : Int32) (σ : zc_N) : Int32 := (rX4_pack (vX4_search_9 P i1 i2 l3 l4 l5 l6 σ) l5 l6 ((wX4_search_54 P i1 i2 l5 l6 (l3, l4, (0 : Int32), σ)).2.2.1))
noncomputable def fX4_search_44 (P : zp) (i1 : Nat) (i2 : Nat) (l5 : Int32) (i_ : Nat) (a_ : Int32 × Int32 × zc_N) : Int32 × Int32 × zc_N := ((wX4_search_54 P i1 i2 l5 (nI i_) (a_.1, a_.2.1, (0 : Int32), a_.2.2)).1, (wX4_search_54 P i1 i2 l5 (nI i_) (a_.1, a_.2.1, (0 : Int32), a_.2.2)).2.1, (wX4_search_54 P i1 i2 l5 (nI i_) (a_.1, a_.2.1, (0 : Int32), a_.2.2)).2.2.2)
def qX4_search_44 (P : zp) (i1 : Nat) (i2 : Nat) (l5 : Int32) (i_ : Nat) (a_ : Int32 × Int32 × zc_N) : Prop := (((∃ n_ : Nat, (eX4_search_54 P i1 i2 (nI i_)) (zit (fX4_search_54 P i1 i2 l5 (nI i_)) n_ (a_.1, a_.2.1, (0 : Int32), a_.2.2))) ∧ (∀ i54_ : Nat, i54_ < (zwn (fun n_ => (eX4_search_54 P i1 i2 (nI i_)) (zit (fX4_search_54 P i1 i2 l5 (nI i_)) n_ (a_.1, a_.2.1, (0 : Int32), a_.2.2)))) → qX4_search_54 P i1 i2 (nI i_) (zit (fX4_search_54 P i1 i2 l5 (nI i_)) i54_ (a_.1, a_.2.1, (0 : Int32), a_.2.2)))) ∧ (((31 : Int32) ≤ (wX4_search_54 P i1 i2 l5 (nI i_) (a_.1, a_.2.1, (0 : Int32), a_.2.2)).2.2.1 → True) ∧ (¬ (31 : Int32) ≤ (wX4_search_54 P i1 i2 l5 (nI i_) (a_.1, a_.2.1, (0 : Int32), a_.2.2)).2.2.1 → (((zshr (((wX4_search_54 P i1 i2 l5 (nI i_) (a_.1, a_.2.1, (0 : Int32), a_.2.2)).2.2.2 22) (nI i_).toNatClampNeg) (wX4_search_54 P i1 i2 l5 (nI i_) (a_.1, a_.2.1, (0 : Int32), a_.2.2)).2.2.1) = (0 : Int32) → True) ∧ (¬ (zshr (((wX4_search_54 P i1 i2 l5 (nI i_) (a_.1, a_.2.1, (0 : Int32), a_.2.2)).2.2.2 22) (nI i_).toNatClampNeg) (wX4_search_54 P i1 i2 l5 (nI i_) (a_.1, a_.2.1, (0 : Int32), a_.2.2)).2.2.1) = (0 : Int32) → ((((zshr (((wX4_search_54 P i1 i2 l5 (nI i_) (a_.1, a_.2.1, (0 : Int32), a_.2.2)).2.2.2 22) (nI i_).toNatClampNeg) (wX4_search_54 P i1 i2 l5 (nI i_) (a_.1, a_.2.1, (0 : Int32), a_.2.2)).2.2.1) &&& (1 : Int32)) = (0 : Int32) → True) ∧ (¬ ((zshr (((wX4_search_54 P i1 i2 l5 (nI i_) (a_.1, a_.2.1, (0 : Int32), a_.2.2)).2.2.2 22) (nI i_).toNatClampNeg) (wX4_search_54 P i1 i2 l5 (nI i_) (a_.1, a_.2.1, (0 : Int32), a_.2.2)).2.2.1) &&& (1 : Int32)) = (0 : Int32) → ((pX4_shiftBy P ((wX4_search_54 P i1 i2 l5 (nI i_) (a_.1, a_.2.1, (0 : Int32), a_.2.2)).2.2.2) i1 i2 (((wX4_search_54 P i1 i2 l5 (nI i_) (a_.1, a_.2.1, (0 : Int32), a_.2.2)).2.2.1 - (16 : Int32)) + (1 : Int32)) (((nI i_) - (16 : Int32)) + (1 : Int32))) ∧ ((pX5_bound (vX4_search_7 P i1 i2 a_.1 a_.2.1 l5 (nI i_) a_.2.2)) ∧ (((rX4_scoreWith (vX4_search_7 P i1 i2 a_.1 a_.2.1 l5 (nI i_) a_.2.2) (rX5_bound (vX4_search_7 P i1 i2 a_.1 a_.2.1 l5 (nI i_) a_.2.2))) ≤ (wX4_search_54 P i1 i2 l5 (nI i_) (a_.1, a_.2.1, (0 : Int32), a_.2.2)).2.1 → True) ∧ (¬ (rX4_scoreWith (vX4_search_7 P i1 i2 a_.1 a_.2.1 l5 (nI i_) a_.2.2) (rX5_bound (vX4_search_7 P i1 i2 a_.1 a_.2.1 l5 (nI i_) a_.2.2))) ≤ (wX4_search_54 P i1 i2 l5 (nI i_) (a_.1, a_.2.1, (0 : Int32), a_.2.2)).2.1 → (pX5_most (vX4_search_7 P i1 i2 a_.1 a_.2.1 l5 (nI i_) a_.2.2) (0 : Int32) (4095 : Int32)))))))))))))
set_option maxHeartbeats 2000000 in
theorem lpX4_search_44 {G : zc_G} {Q : Option Value → zc_H → Prop} (P : zp) (σ : zc_N) (i1 : Nat) (h1 : i1 < P.2.1) (i2 : Nat) (h2 : i2 < P.2.1) (l3 : Int32) (l4 : Int32) (l5 : Int32) (W1_ : ∀ i44_ : Nat, i44_ < 31 → qX4_search_44 P i1 i2 l5 i44_ (zfor (fX4_search_44 P i1 i2 l5) i44_ (l3, l4, σ)))
    (W2_ : zz G mX4_search 16 0 0 Q 184 [some (.ref 10), some (.ref (pO i1)), some (.ref (pO i2)), some (.int (zfor (fX4_search_44 P i1 i2 l5) 31 (l3, l4, σ)).1), some (.int (zfor (fX4_search_44 P i1 i2 l5) 31 (l3, l4, σ)).2.1), some (.int l5), none, none, none] [] (hh P (zfor (fX4_search_44 P i1 i2 l5) 31 (l3, l4, σ)).2.2) 0 0) :
    zz G mX4_search 16 0 0 Q 44 [some (.ref 10), some (.ref (pO i1)), some (.ref (pO i2)), some (.int l3), some (.int l4), some (.int l5), some (.int (nI 0)), none, none] [] (hh P σ) 0 0 := by
  refine zfor_nI (fun i_ a_ => zz G mX4_search 16 0 0 Q 44 [some (.ref 10), some (.ref (pO i1)), some (.ref (pO i2)), some (.int a_.1), some (.int a_.2.1), some (.int l5), some (.int i_), none, none] [] (hh P a_.2.2) 0 0) (fX4_search_44 P i1 i2 l5) 31 (l3, l4, σ) (fun i_ hi_ k_ => ?_) ?_
  all_goals try dsimp only
  · have W3_ := W1_ i_ hi_
    generalize zfor (fX4_search_44 P i1 i2 l5) i_ (l3, l4, σ) = g_ at k_ W3_ ⊢
    obtain ⟨x0_, x1_, x2_⟩ := g_
    dsimp only at k_ W3_ ⊢
    rw [fX4_search_44] at k_
    rw [qX4_search_44] at W3_
    try dsimp only at W3_
    dsimp only at k_
    refine z_iload dX4_search_44 rfl ?_
    refine z_bipush dX4_search_46 k_bipush_31 ?_
    refine z_icmp_ge (tgt := 184) dX4_search_48 (by decide) (fun c_ => absurd c_ (nI_ge hi_ (by decide))) (fun c_ => ?_)
    refine z_iconst dX4_search_51 k_iconst_0 ?_
    refine z_istore (lv' := [some (.ref 10), some (.ref (pO i1)), some (.ref (pO i2)), some (.int x0_), some (.int x1_), some (.int l5), some (.int (nI i_)), some (.int (0 : Int32)), none]) dX4_search_52 (Nat.le_of_ble_eq_true rfl) rfl ?_
    refine whX4_search_54 P x2_ i1 h1 i2 h2 x0_ x1_ l5 (nI i_) (0 : Int32) W3_.1.1 W3_.1.2 (fun hX54_ => ?_)
    rw [eX4_search_54] at hX54_
    try dsimp only at hX54_
    show zz G mX4_search 16 0 0 Q 54 [some (.ref 10), some (.ref (pO i1)), some (.ref (pO i2)), some (.int (wX4_search_54 P i1 i2 l5 (nI i_) (x0_, x1_, (0 : Int32), x2_)).1), some (.int (wX4_search_54 P i1 i2 l5 (nI i_) (x0_, x1_, (0 : Int32), x2_)).2.1), some (.int l5), some (.int (nI i_)), some (.int (wX4_search_54 P i1 i2 l5 (nI i_) (x0_, x1_, (0 : Int32), x2_)).2.2.1), none] [] (hh P (wX4_search_54 P i1 i2 l5 (nI i_) (x0_, x1_, (0 : Int32), x2_)).2.2.2) 0 0
    refine z_iload dX4_search_54 rfl ?_
    refine z_bipush dX4_search_56 k_bipush_31 ?_
    refine z_icmp_ge (tgt := 178) dX4_search_58 (by decide) (fun c_2 => ?_) (fun c_2 => ?_)
    · refine z_iinc (v := ((nI i_) + (1 : Int32))) (lv' := [some (.ref 10), some (.ref (pO i1)), some (.ref (pO i2)), some (.int (wX4_search_54 P i1 i2 l5 (nI i_) (x0_, x1_, (0 : Int32), x2_)).1), some (.int (wX4_search_54 P i1 i2 l5 (nI i_) (x0_, x1_, (0 : Int32), x2_)).2.1), some (.int l5), some (.int ((nI i_) + (1 : Int32))), some (.int (wX4_search_54 P i1 i2 l5 (nI i_) (x0_, x1_, (0 : Int32), x2_)).2.2.1), none]) dX4_search_178 (Nat.le_of_ble_eq_true rfl) rfl (by rw [k_iconst_1]) rfl ?_
      refine z_goto (tgt := 44) dX4_search_181 (by decide) ?_
      refine zz_sub (lv' := [some (.ref 10), some (.ref (pO i1)), some (.ref (pO i2)), some (.int (wX4_search_54 P i1 i2 l5 (nI i_) (x0_, x1_, (0 : Int32), x2_)).1), some (.int (wX4_search_54 P i1 i2 l5 (nI i_) (x0_, x1_, (0 : Int32), x2_)).2.1), some (.int l5), some (.int ((nI i_) + (1 : Int32))), none, none]) ⟨rfl, ⟨rfl, ⟨rfl, ⟨rfl, ⟨rfl, ⟨rfl, ⟨rfl, trivial⟩⟩⟩⟩⟩⟩⟩ ?_
      rw [nI_1]
      simpa only [if_pos c_2] using k_
    · refine z_aloadr_n dX4_search_61 rfl ?_
      refine z_get (ci := 4) (r := (RX4, TX4, 10)) (j := 7) (v := .ref 22) dX4_search_62 (Nat.le_of_ble_eq_true rfl) (zN rfl) rfl rfl (Nat.le_of_ble_eq_true rfl) fl_X4_48 rfl ?_
      refine z_iload dX4_search_65 rfl ?_
      refine z_iald (v := (((wX4_search_54 P i1 i2 l5 (nI i_) (x0_, x1_, (0 : Int32), x2_)).2.2.2 22) (nI i_).toNatClampNeg)) dX4_search_67 (zN rfl) rfl (vp_in_nI (Nat.lt_of_lt_of_le hi_ (Nat.le_of_ble_eq_true rfl)) (by decide)) rfl ?_
      refine z_iload dX4_search_68 rfl ?_
      refine z_ishr (v := (zshr (((wX4_search_54 P i1 i2 l5 (nI i_) (x0_, x1_, (0 : Int32), x2_)).2.2.2 22) (nI i_).toNatClampNeg) (wX4_search_54 P i1 i2 l5 (nI i_) (x0_, x1_, (0 : Int32), x2_)).2.2.1)) dX4_search_70 rfl ?_
      refine z_if_eq (tgt := 178) dX4_search_71 (by decide) (fun c_3 => ?_) (fun c_3 => ?_)
      · refine z_iinc (v := ((nI i_) + (1 : Int32))) (lv' := [some (.ref 10), some (.ref (pO i1)), some (.ref (pO i2)), some (.int (wX4_search_54 P i1 i2 l5 (nI i_) (x0_, x1_, (0 : Int32), x2_)).1), some (.int (wX4_search_54 P i1 i2 l5 (nI i_) (x0_, x1_, (0 : Int32), x2_)).2.1), some (.int l5), some (.int ((nI i_) + (1 : Int32))), some (.int (wX4_search_54 P i1 i2 l5 (nI i_) (x0_, x1_, (0 : Int32), x2_)).2.2.1), none]) dX4_search_178 (Nat.le_of_ble_eq_true rfl) rfl (by rw [k_iconst_1]) rfl ?_
        refine z_goto (tgt := 44) dX4_search_181 (by decide) ?_
        refine zz_sub (lv' := [some (.ref 10), some (.ref (pO i1)), some (.ref (pO i2)), some (.int (wX4_search_54 P i1 i2 l5 (nI i_) (x0_, x1_, (0 : Int32), x2_)).1), some (.int (wX4_search_54 P i1 i2 l5 (nI i_) (x0_, x1_, (0 : Int32), x2_)).2.1), some (.int l5), some (.int ((nI i_) + (1 : Int32))), none, none]) ⟨rfl, ⟨rfl, ⟨rfl, ⟨rfl, ⟨rfl, ⟨rfl, ⟨rfl, trivial⟩⟩⟩⟩⟩⟩⟩ ?_
        rw [nI_1]
        simpa only [if_neg c_2, if_pos c_3] using k_
      · refine z_aloadr_n dX4_search_74 rfl ?_
        refine z_get (ci := 4) (r := (RX4, TX4, 10)) (j := 7) (v := .ref 22) dX4_search_75 (Nat.le_of_ble_eq_true rfl) (zN rfl) rfl rfl (Nat.le_of_ble_eq_true rfl) fl_X4_48 rfl ?_
        refine z_iload dX4_search_78 rfl ?_
        refine z_iald (v := (((wX4_search_54 P i1 i2 l5 (nI i_) (x0_, x1_, (0 : Int32), x2_)).2.2.2 22) (nI i_).toNatClampNeg)) dX4_search_80 (zN rfl) rfl (vp_in_nI (Nat.lt_of_lt_of_le hi_ (Nat.le_of_ble_eq_true rfl)) (by decide)) rfl ?_
        refine z_iload dX4_search_81 rfl ?_
        refine z_ishr (v := (zshr (((wX4_search_54 P i1 i2 l5 (nI i_) (x0_, x1_, (0 : Int32), x2_)).2.2.2 22) (nI i_).toNatClampNeg) (wX4_search_54 P i1 i2 l5 (nI i_) (x0_, x1_, (0 : Int32), x2_)).2.2.1)) dX4_search_83 rfl ?_
        refine z_iconst dX4_search_84 k_iconst_1 ?_
        refine z_iand (v := ((zshr (((wX4_search_54 P i1 i2 l5 (nI i_) (x0_, x1_, (0 : Int32), x2_)).2.2.2 22) (nI i_).toNatClampNeg) (wX4_search_54 P i1 i2 l5 (nI i_) (x0_, x1_, (0 : Int32), x2_)).2.2.1) &&& (1 : Int32))) dX4_search_85 rfl ?_
        refine z_if_ne (tgt := 92) dX4_search_86 (by decide) (fun c_4 => ?_) (fun c_4 => ?_)
        · refine z_aloadr_n dX4_search_92 rfl ?_
          refine z_aloadr_n dX4_search_93 rfl ?_
          refine z_aloadr_n dX4_search_94 rfl ?_
          refine z_iload dX4_search_95 rfl ?_
          refine z_bipush dX4_search_97 k_bipush_16 ?_
          refine z_isub (v := ((wX4_search_54 P i1 i2 l5 (nI i_) (x0_, x1_, (0 : Int32), x2_)).2.2.1 - (16 : Int32))) dX4_search_99 rfl ?_
          refine z_iconst dX4_search_100 k_iconst_1 ?_
          refine z_iadd (v := (((wX4_search_54 P i1 i2 l5 (nI i_) (x0_, x1_, (0 : Int32), x2_)).2.2.1 - (16 : Int32)) + (1 : Int32))) dX4_search_101 rfl ?_
          refine z_iload dX4_search_102 rfl ?_
          refine z_bipush dX4_search_104 k_bipush_16 ?_
          refine z_isub (v := ((nI i_) - (16 : Int32))) dX4_search_106 rfl ?_
          refine z_iconst dX4_search_107 k_iconst_1 ?_
          refine z_iadd (v := (((nI i_) - (16 : Int32)) + (1 : Int32))) dX4_search_108 rfl ?_
          refine z_callV (ci := 4) (r := (RX4, TX4, 10)) (b := 10) (As := [.ref (pO i1), .ref (pO i2), .int (((wX4_search_54 P i1 i2 l5 (nI i_) (x0_, x1_, (0 : Int32), x2_)).2.2.1 - (16 : Int32)) + (1 : Int32)), .int (((nI i_) - (16 : Int32)) + (1 : Int32))]) (rest := []) (ctX4_shiftBy P ((wX4_search_54 P i1 i2 l5 (nI i_) (x0_, x1_, (0 : Int32), x2_)).2.2.2) i1 h1 i2 h2 (((wX4_search_54 P i1 i2 l5 (nI i_) (x0_, x1_, (0 : Int32), x2_)).2.2.1 - (16 : Int32)) + (1 : Int32)) (((nI i_) - (16 : Int32)) + (1 : Int32)) ((((W3_.2.2 c_2).2 c_3).2 c_4).1)) dX4_search_109 lk_X4_103 lv_X4_shiftBy (Nat.le_of_ble_eq_true rfl) (zN rfl) rfl rfl rfl rfl (Nat.le_of_ble_eq_true rfl) (Nat.le_of_ble_eq_true rfl) (Nat.le_of_ble_eq_true rfl) (Nat.le_of_ble_eq_true rfl) (fun r_ h_ e_ => ?_)
          obtain ⟨e1_, e2_⟩ := e_
          subst e1_
          subst e2_
          show zz G mX4_search 16 0 0 Q 112 [some (.ref 10), some (.ref (pO i1)), some (.ref (pO i2)), some (.int (wX4_search_54 P i1 i2 l5 (nI i_) (x0_, x1_, (0 : Int32), x2_)).1), some (.int (wX4_search_54 P i1 i2 l5 (nI i_) (x0_, x1_, (0 : Int32), x2_)).2.1), some (.int l5), some (.int (nI i_)), some (.int (wX4_search_54 P i1 i2 l5 (nI i_) (x0_, x1_, (0 : Int32), x2_)).2.2.1), none] [] (hh P (vX4_search_7 P i1 i2 x0_ x1_ l5 (nI i_) x2_)) 0 0
          refine z_aloadr_n dX4_search_112 rfl ?_
          refine z_aloadr_n dX4_search_113 rfl ?_
          refine z_get (ci := 4) (r := (RX4, TX4, 10)) (j := 3) (v := .ref 16) dX4_search_114 (Nat.le_of_ble_eq_true rfl) (zN rfl) rfl rfl (Nat.le_of_ble_eq_true rfl) fl_X4_29 rfl ?_
          refine z_callV (ci := 5) (r := (RX5, TX5, 4)) (b := 16) (As := []) (rest := [.ref 10]) (ctX5_bound P (vX4_search_7 P i1 i2 x0_ x1_ l5 (nI i_) x2_) ((((W3_.2.2 c_2).2 c_3).2 c_4).2.1)) dX4_search_117 lk_X4_149 lv_X5_bound (Nat.le_of_ble_eq_true rfl) (zN rfl) rfl rfl rfl rfl (Nat.le_of_ble_eq_true rfl) (Nat.le_of_ble_eq_true rfl) (Nat.le_of_ble_eq_true rfl) (Nat.le_of_ble_eq_true rfl) (fun r_ h_ e_ => ?_)
          obtain ⟨e1_, e2_⟩ := e_
          subst e1_
          subst e2_
          show zz G mX4_search 16 0 0 Q 120 [some (.ref 10), some (.ref (pO i1)), some (.ref (pO i2)), some (.int (wX4_search_54 P i1 i2 l5 (nI i_) (x0_, x1_, (0 : Int32), x2_)).1), some (.int (wX4_search_54 P i1 i2 l5 (nI i_) (x0_, x1_, (0 : Int32), x2_)).2.1), some (.int l5), some (.int (nI i_)), some (.int (wX4_search_54 P i1 i2 l5 (nI i_) (x0_, x1_, (0 : Int32), x2_)).2.2.1), none] [.int (rX5_bound (vX4_search_7 P i1 i2 x0_ x1_ l5 (nI i_) x2_)), .ref 10] (hh P (vX4_search_7 P i1 i2 x0_ x1_ l5 (nI i_) x2_)) 0 0
          refine z_callV (ci := 4) (r := (RX4, TX4, 10)) (b := 10) (As := [.int (rX5_bound (vX4_search_7 P i1 i2 x0_ x1_ l5 (nI i_) x2_))]) (rest := []) (ctX4_scoreWith P (vX4_search_7 P i1 i2 x0_ x1_ l5 (nI i_) x2_) (rX5_bound (vX4_search_7 P i1 i2 x0_ x1_ l5 (nI i_) x2_))) dX4_search_120 lk_X4_120 lv_X4_scoreWith (Nat.le_of_ble_eq_true rfl) (zN rfl) rfl rfl rfl rfl (Nat.le_of_ble_eq_true rfl) (Nat.le_of_ble_eq_true rfl) (Nat.le_of_ble_eq_true rfl) (Nat.le_of_ble_eq_true rfl) (fun r_ h_ e_ => ?_)
          obtain ⟨e1_, e2_⟩ := e_
          subst e1_
          subst e2_
          show zz G mX4_search 16 0 0 Q 123 [some (.ref 10), some (.ref (pO i1)), some (.ref (pO i2)), some (.int (wX4_search_54 P i1 i2 l5 (nI i_) (x0_, x1_, (0 : Int32), x2_)).1), some (.int (wX4_search_54 P i1 i2 l5 (nI i_) (x0_, x1_, (0 : Int32), x2_)).2.1), some (.int l5), some (.int (nI i_)), some (.int (wX4_search_54 P i1 i2 l5 (nI i_) (x0_, x1_, (0 : Int32), x2_)).2.2.1), none] [.int (rX4_scoreWith (vX4_search_7 P i1 i2 x0_ x1_ l5 (nI i_) x2_) (rX5_bound (vX4_search_7 P i1 i2 x0_ x1_ l5 (nI i_) x2_)))] (hh P (vX4_search_7 P i1 i2 x0_ x1_ l5 (nI i_) x2_)) 0 0
          refine z_istore (lv' := [some (.ref 10), some (.ref (pO i1)), some (.ref (pO i2)), some (.int (wX4_search_54 P i1 i2 l5 (nI i_) (x0_, x1_, (0 : Int32), x2_)).1), some (.int (wX4_search_54 P i1 i2 l5 (nI i_) (x0_, x1_, (0 : Int32), x2_)).2.1), some (.int l5), some (.int (nI i_)), some (.int (wX4_search_54 P i1 i2 l5 (nI i_) (x0_, x1_, (0 : Int32), x2_)).2.2.1), some (.int (rX4_scoreWith (vX4_search_7 P i1 i2 x0_ x1_ l5 (nI i_) x2_) (rX5_bound (vX4_search_7 P i1 i2 x0_ x1_ l5 (nI i_) x2_))))]) dX4_search_123 (Nat.le_of_ble_eq_true rfl) rfl ?_
          refine z_iload dX4_search_125 rfl ?_
          refine z_iload dX4_search_127 rfl ?_
          refine z_icmp_le (tgt := 149) dX4_search_129 (by decide) (fun c_5 => ?_) (fun c_5 => ?_)
          · refine z_iload dX4_search_149 rfl ?_
            refine z_iload dX4_search_151 rfl ?_
            have K_1 : zz G mX4_search 16 0 0 Q 172 [some (.ref 10), some (.ref (pO i1)), some (.ref (pO i2)), some (.int (if (rX4_scoreWith (vX4_search_7 P i1 i2 x0_ x1_ l5 (nI i_) x2_) (rX5_bound (vX4_search_7 P i1 i2 x0_ x1_ l5 (nI i_) x2_))) ≤ (wX4_search_54 P i1 i2 l5 (nI i_) (x0_, x1_, (0 : Int32), x2_)).2.1 then (wX4_search_54 P i1 i2 l5 (nI i_) (x0_, x1_, (0 : Int32), x2_)).1 else (vX4_search_8 P i1 i2 x0_ x1_ l5 (nI i_) x2_))), some (.int (if (rX4_scoreWith (vX4_search_7 P i1 i2 x0_ x1_ l5 (nI i_) x2_) (rX5_bound (vX4_search_7 P i1 i2 x0_ x1_ l5 (nI i_) x2_))) ≤ (wX4_search_54 P i1 i2 l5 (nI i_) (x0_, x1_, (0 : Int32), x2_)).2.1 then (wX4_search_54 P i1 i2 l5 (nI i_) (x0_, x1_, (0 : Int32), x2_)).2.1 else (rX4_scoreWith (vX4_search_7 P i1 i2 x0_ x1_ l5 (nI i_) x2_) (rX5_bound (vX4_search_7 P i1 i2 x0_ x1_ l5 (nI i_) x2_))))), some (.int l5), some (.int (nI i_)), some (.int (wX4_search_54 P i1 i2 l5 (nI i_) (x0_, x1_, (0 : Int32), x2_)).2.2.1), none] [] (hh P (vX4_search_7 P i1 i2 x0_ x1_ l5 (nI i_) x2_)) 0 0 := by
              refine z_iinc (v := ((wX4_search_54 P i1 i2 l5 (nI i_) (x0_, x1_, (0 : Int32), x2_)).2.2.1 + (1 : Int32))) (lv' := [some (.ref 10), some (.ref (pO i1)), some (.ref (pO i2)), some (.int (if (rX4_scoreWith (vX4_search_7 P i1 i2 x0_ x1_ l5 (nI i_) x2_) (rX5_bound (vX4_search_7 P i1 i2 x0_ x1_ l5 (nI i_) x2_))) ≤ (wX4_search_54 P i1 i2 l5 (nI i_) (x0_, x1_, (0 : Int32), x2_)).2.1 then (wX4_search_54 P i1 i2 l5 (nI i_) (x0_, x1_, (0 : Int32), x2_)).1 else (vX4_search_8 P i1 i2 x0_ x1_ l5 (nI i_) x2_))), some (.int (if (rX4_scoreWith (vX4_search_7 P i1 i2 x0_ x1_ l5 (nI i_) x2_) (rX5_bound (vX4_search_7 P i1 i2 x0_ x1_ l5 (nI i_) x2_))) ≤ (wX4_search_54 P i1 i2 l5 (nI i_) (x0_, x1_, (0 : Int32), x2_)).2.1 then (wX4_search_54 P i1 i2 l5 (nI i_) (x0_, x1_, (0 : Int32), x2_)).2.1 else (rX4_scoreWith (vX4_search_7 P i1 i2 x0_ x1_ l5 (nI i_) x2_) (rX5_bound (vX4_search_7 P i1 i2 x0_ x1_ l5 (nI i_) x2_))))), some (.int l5), some (.int (nI i_)), some (.int ((wX4_search_54 P i1 i2 l5 (nI i_) (x0_, x1_, (0 : Int32), x2_)).2.2.1 + (1 : Int32))), none]) dX4_search_172 (Nat.le_of_ble_eq_true rfl) rfl (by rw [k_iconst_1]) rfl ?_
              refine z_goto (tgt := 54) dX4_search_175 (by decide) ?_
              exact (ex_l (ex_r (ex_r (ex_r hX54_ c_2) c_3) c_4) c_5).elim
            refine z_icmp_le (tgt := 172) dX4_search_153 (by decide) (fun c_6 => ?_) (fun c_6 => ?_)
            · refine zz_sub (lv' := [some (.ref 10), some (.ref (pO i1)), some (.ref (pO i2)), some (.int (wX4_search_54 P i1 i2 l5 (nI i_) (x0_, x1_, (0 : Int32), x2_)).1), some (.int (wX4_search_54 P i1 i2 l5 (nI i_) (x0_, x1_, (0 : Int32), x2_)).2.1), some (.int l5), some (.int (nI i_)), some (.int (wX4_search_54 P i1 i2 l5 (nI i_) (x0_, x1_, (0 : Int32), x2_)).2.2.1), none]) ⟨rfl, ⟨rfl, ⟨rfl, ⟨rfl, ⟨rfl, ⟨rfl, ⟨rfl, ⟨rfl, trivial⟩⟩⟩⟩⟩⟩⟩⟩ ?_
              rw [show (if (rX4_scoreWith (vX4_search_7 P i1 i2 x0_ x1_ l5 (nI i_) x2_) (rX5_bound (vX4_search_7 P i1 i2 x0_ x1_ l5 (nI i_) x2_))) ≤ (wX4_search_54 P i1 i2 l5 (nI i_) (x0_, x1_, (0 : Int32), x2_)).2.1 then (wX4_search_54 P i1 i2 l5 (nI i_) (x0_, x1_, (0 : Int32), x2_)).1 else (vX4_search_8 P i1 i2 x0_ x1_ l5 (nI i_) x2_)) = (wX4_search_54 P i1 i2 l5 (nI i_) (x0_, x1_, (0 : Int32), x2_)).1 from (if_pos c_6)] at K_1
              rw [show (if (rX4_scoreWith (vX4_search_7 P i1 i2 x0_ x1_ l5 (nI i_) x2_) (rX5_bound (vX4_search_7 P i1 i2 x0_ x1_ l5 (nI i_) x2_))) ≤ (wX4_search_54 P i1 i2 l5 (nI i_) (x0_, x1_, (0 : Int32), x2_)).2.1 then (wX4_search_54 P i1 i2 l5 (nI i_) (x0_, x1_, (0 : Int32), x2_)).2.1 else (rX4_scoreWith (vX4_search_7 P i1 i2 x0_ x1_ l5 (nI i_) x2_) (rX5_bound (vX4_search_7 P i1 i2 x0_ x1_ l5 (nI i_) x2_)))) = (wX4_search_54 P i1 i2 l5 (nI i_) (x0_, x1_, (0 : Int32), x2_)).2.1 from (if_pos c_6)] at K_1
              exact K_1
            · refine z_iload dX4_search_156 rfl ?_
              refine z_istore (lv' := [some (.ref 10), some (.ref (pO i1)), some (.ref (pO i2)), some (.int (wX4_search_54 P i1 i2 l5 (nI i_) (x0_, x1_, (0 : Int32), x2_)).1), some (.int (rX4_scoreWith (vX4_search_7 P i1 i2 x0_ x1_ l5 (nI i_) x2_) (rX5_bound (vX4_search_7 P i1 i2 x0_ x1_ l5 (nI i_) x2_)))), some (.int l5), some (.int (nI i_)), some (.int (wX4_search_54 P i1 i2 l5 (nI i_) (x0_, x1_, (0 : Int32), x2_)).2.2.1), some (.int (rX4_scoreWith (vX4_search_7 P i1 i2 x0_ x1_ l5 (nI i_) x2_) (rX5_bound (vX4_search_7 P i1 i2 x0_ x1_ l5 (nI i_) x2_))))]) dX4_search_158 (Nat.le_of_ble_eq_true rfl) rfl ?_
              refine z_iload dX4_search_160 rfl ?_
              refine z_iload dX4_search_162 rfl ?_
              refine z_iload dX4_search_164 rfl ?_
              refine z_iload dX4_search_166 rfl ?_
              refine z_callS (As := [.int (rX4_scoreWith (vX4_search_7 P i1 i2 x0_ x1_ l5 (nI i_) x2_) (rX5_bound (vX4_search_7 P i1 i2 x0_ x1_ l5 (nI i_) x2_))), .int l5, .int (nI i_), .int (wX4_search_54 P i1 i2 l5 (nI i_) (x0_, x1_, (0 : Int32), x2_)).2.2.1]) (rest := []) (ctX4_pack P (vX4_search_7 P i1 i2 x0_ x1_ l5 (nI i_) x2_) (rX4_scoreWith (vX4_search_7 P i1 i2 x0_ x1_ l5 (nI i_) x2_) (rX5_bound (vX4_search_7 P i1 i2 x0_ x1_ l5 (nI i_) x2_))) l5 (nI i_) ((wX4_search_54 P i1 i2 l5 (nI i_) (x0_, x1_, (0 : Int32), x2_)).2.2.1)) dX4_search_168 lk_X4_153 ls_X4_pack rfl (Nat.le_of_ble_eq_true rfl) (Nat.le_of_ble_eq_true rfl) (Nat.le_of_ble_eq_true rfl) (Nat.le_of_ble_eq_true rfl) (fun r_ h_ e_ => ?_)
              obtain ⟨e1_, e2_⟩ := e_
              subst e1_
              subst e2_
              show zz G mX4_search 16 0 0 Q 171 [some (.ref 10), some (.ref (pO i1)), some (.ref (pO i2)), some (.int (wX4_search_54 P i1 i2 l5 (nI i_) (x0_, x1_, (0 : Int32), x2_)).1), some (.int (rX4_scoreWith (vX4_search_7 P i1 i2 x0_ x1_ l5 (nI i_) x2_) (rX5_bound (vX4_search_7 P i1 i2 x0_ x1_ l5 (nI i_) x2_)))), some (.int l5), some (.int (nI i_)), some (.int (wX4_search_54 P i1 i2 l5 (nI i_) (x0_, x1_, (0 : Int32), x2_)).2.2.1), some (.int (rX4_scoreWith (vX4_search_7 P i1 i2 x0_ x1_ l5 (nI i_) x2_) (rX5_bound (vX4_search_7 P i1 i2 x0_ x1_ l5 (nI i_) x2_))))] [.int (rX4_pack (rX4_scoreWith (vX4_search_7 P i1 i2 x0_ x1_ l5 (nI i_) x2_) (rX5_bound (vX4_search_7 P i1 i2 x0_ x1_ l5 (nI i_) x2_))) l5 (nI i_) ((wX4_search_54 P i1 i2 l5 (nI i_) (x0_, x1_, (0 : Int32), x2_)).2.2.1))] (hh P (vX4_search_7 P i1 i2 x0_ x1_ l5 (nI i_) x2_)) 0 0
              refine z_istore_n (lv' := [some (.ref 10), some (.ref (pO i1)), some (.ref (pO i2)), some (.int (vX4_search_8 P i1 i2 x0_ x1_ l5 (nI i_) x2_)), some (.int (rX4_scoreWith (vX4_search_7 P i1 i2 x0_ x1_ l5 (nI i_) x2_) (rX5_bound (vX4_search_7 P i1 i2 x0_ x1_ l5 (nI i_) x2_)))), some (.int l5), some (.int (nI i_)), some (.int (wX4_search_54 P i1 i2 l5 (nI i_) (x0_, x1_, (0 : Int32), x2_)).2.2.1), some (.int (rX4_scoreWith (vX4_search_7 P i1 i2 x0_ x1_ l5 (nI i_) x2_) (rX5_bound (vX4_search_7 P i1 i2 x0_ x1_ l5 (nI i_) x2_))))]) dX4_search_171 (Nat.le_of_ble_eq_true rfl) rfl ?_
              refine zz_sub (lv' := [some (.ref 10), some (.ref (pO i1)), some (.ref (pO i2)), some (.int (vX4_search_8 P i1 i2 x0_ x1_ l5 (nI i_) x2_)), some (.int (rX4_scoreWith (vX4_search_7 P i1 i2 x0_ x1_ l5 (nI i_) x2_) (rX5_bound (vX4_search_7 P i1 i2 x0_ x1_ l5 (nI i_) x2_)))), some (.int l5), some (.int (nI i_)), some (.int (wX4_search_54 P i1 i2 l5 (nI i_) (x0_, x1_, (0 : Int32), x2_)).2.2.1), none]) ⟨rfl, ⟨rfl, ⟨rfl, ⟨rfl, ⟨rfl, ⟨rfl, ⟨rfl, ⟨rfl, trivial⟩⟩⟩⟩⟩⟩⟩⟩ ?_
              rw [show (if (rX4_scoreWith (vX4_search_7 P i1 i2 x0_ x1_ l5 (nI i_) x2_) (rX5_bound (vX4_search_7 P i1 i2 x0_ x1_ l5 (nI i_) x2_))) ≤ (wX4_search_54 P i1 i2 l5 (nI i_) (x0_, x1_, (0 : Int32), x2_)).2.1 then (wX4_search_54 P i1 i2 l5 (nI i_) (x0_, x1_, (0 : Int32), x2_)).1 else (vX4_search_8 P i1 i2 x0_ x1_ l5 (nI i_) x2_)) = (vX4_search_8 P i1 i2 x0_ x1_ l5 (nI i_) x2_) from (if_neg c_6)] at K_1
              rw [show (if (rX4_scoreWith (vX4_search_7 P i1 i2 x0_ x1_ l5 (nI i_) x2_) (rX5_bound (vX4_search_7 P i1 i2 x0_ x1_ l5 (nI i_) x2_))) ≤ (wX4_search_54 P i1 i2 l5 (nI i_) (x0_, x1_, (0 : Int32), x2_)).2.1 then (wX4_search_54 P i1 i2 l5 (nI i_) (x0_, x1_, (0 : Int32), x2_)).2.1 else (rX4_scoreWith (vX4_search_7 P i1 i2 x0_ x1_ l5 (nI i_) x2_) (rX5_bound (vX4_search_7 P i1 i2 x0_ x1_ l5 (nI i_) x2_)))) = (rX4_scoreWith (vX4_search_7 P i1 i2 x0_ x1_ l5 (nI i_) x2_) (rX5_bound (vX4_search_7 P i1 i2 x0_ x1_ l5 (nI i_) x2_))) from (if_neg c_6)] at K_1
              exact K_1
          · refine z_aloadr_n dX4_search_132 rfl ?_
            refine z_aloadr_n dX4_search_133 rfl ?_
            refine z_get (ci := 4) (r := (RX4, TX4, 10)) (j := 3) (v := .ref 16) dX4_search_134 (Nat.le_of_ble_eq_true rfl) (zN rfl) rfl rfl (Nat.le_of_ble_eq_true rfl) fl_X4_29 rfl ?_
            refine z_iconst dX4_search_137 k_iconst_0 ?_
            refine z_sipush dX4_search_138 k_sipush_4095 ?_
            refine z_callV (ci := 5) (r := (RX5, TX5, 4)) (b := 16) (As := [.int (0 : Int32), .int (4095 : Int32)]) (rest := [.ref 10]) (ctX5_most P (vX4_search_7 P i1 i2 x0_ x1_ l5 (nI i_) x2_) (0 : Int32) (4095 : Int32) ((((W3_.2.2 c_2).2 c_3).2 c_4).2.2.2 c_5)) dX4_search_141 lk_X4_107 lv_X5_most (Nat.le_of_ble_eq_true rfl) (zN rfl) rfl rfl rfl rfl (Nat.le_of_ble_eq_true rfl) (Nat.le_of_ble_eq_true rfl) (Nat.le_of_ble_eq_true rfl) (Nat.le_of_ble_eq_true rfl) (fun r_ h_ e_ => ?_)
            obtain ⟨e1_, e2_⟩ := e_
            subst e1_
            subst e2_
            show zz G mX4_search 16 0 0 Q 144 [some (.ref 10), some (.ref (pO i1)), some (.ref (pO i2)), some (.int (wX4_search_54 P i1 i2 l5 (nI i_) (x0_, x1_, (0 : Int32), x2_)).1), some (.int (wX4_search_54 P i1 i2 l5 (nI i_) (x0_, x1_, (0 : Int32), x2_)).2.1), some (.int l5), some (.int (nI i_)), some (.int (wX4_search_54 P i1 i2 l5 (nI i_) (x0_, x1_, (0 : Int32), x2_)).2.2.1), some (.int (rX4_scoreWith (vX4_search_7 P i1 i2 x0_ x1_ l5 (nI i_) x2_) (rX5_bound (vX4_search_7 P i1 i2 x0_ x1_ l5 (nI i_) x2_))))] [.int (rX5_most (vX4_search_7 P i1 i2 x0_ x1_ l5 (nI i_) x2_) (0 : Int32) (4095 : Int32)), .ref 10] (hh P (sX5_most (vX4_search_7 P i1 i2 x0_ x1_ l5 (nI i_) x2_) (0 : Int32) (4095 : Int32))) 0 0
            refine z_callV (ci := 4) (r := (RX4, TX4, 10)) (b := 10) (As := [.int (rX5_most (vX4_search_7 P i1 i2 x0_ x1_ l5 (nI i_) x2_) (0 : Int32) (4095 : Int32))]) (rest := []) (ctX4_scoreWith P (sX5_most (vX4_search_7 P i1 i2 x0_ x1_ l5 (nI i_) x2_) (0 : Int32) (4095 : Int32)) (rX5_most (vX4_search_7 P i1 i2 x0_ x1_ l5 (nI i_) x2_) (0 : Int32) (4095 : Int32))) dX4_search_144 lk_X4_120 lv_X4_scoreWith (Nat.le_of_ble_eq_true rfl) (zN rfl) rfl rfl rfl rfl (Nat.le_of_ble_eq_true rfl) (Nat.le_of_ble_eq_true rfl) (Nat.le_of_ble_eq_true rfl) (Nat.le_of_ble_eq_true rfl) (fun r_ h_ e_ => ?_)
            obtain ⟨e1_, e2_⟩ := e_
            subst e1_
            subst e2_
            show zz G mX4_search 16 0 0 Q 147 [some (.ref 10), some (.ref (pO i1)), some (.ref (pO i2)), some (.int (wX4_search_54 P i1 i2 l5 (nI i_) (x0_, x1_, (0 : Int32), x2_)).1), some (.int (wX4_search_54 P i1 i2 l5 (nI i_) (x0_, x1_, (0 : Int32), x2_)).2.1), some (.int l5), some (.int (nI i_)), some (.int (wX4_search_54 P i1 i2 l5 (nI i_) (x0_, x1_, (0 : Int32), x2_)).2.2.1), some (.int (rX4_scoreWith (vX4_search_7 P i1 i2 x0_ x1_ l5 (nI i_) x2_) (rX5_bound (vX4_search_7 P i1 i2 x0_ x1_ l5 (nI i_) x2_))))] [.int (rX4_scoreWith (sX5_most (vX4_search_7 P i1 i2 x0_ x1_ l5 (nI i_) x2_) (0 : Int32) (4095 : Int32)) (rX5_most (vX4_search_7 P i1 i2 x0_ x1_ l5 (nI i_) x2_) (0 : Int32) (4095 : Int32)))] (hh P (sX5_most (vX4_search_7 P i1 i2 x0_ x1_ l5 (nI i_) x2_) (0 : Int32) (4095 : Int32))) 0 0
            refine z_istore (lv' := [some (.ref 10), some (.ref (pO i1)), some (.ref (pO i2)), some (.int (wX4_search_54 P i1 i2 l5 (nI i_) (x0_, x1_, (0 : Int32), x2_)).1), some (.int (wX4_search_54 P i1 i2 l5 (nI i_) (x0_, x1_, (0 : Int32), x2_)).2.1), some (.int l5), some (.int (nI i_)), some (.int (wX4_search_54 P i1 i2 l5 (nI i_) (x0_, x1_, (0 : Int32), x2_)).2.2.1), some (.int (vX4_search_9 P i1 i2 x0_ x1_ l5 (nI i_) x2_))]) dX4_search_147 (Nat.le_of_ble_eq_true rfl) rfl ?_
            refine z_iload dX4_search_149 rfl ?_
            refine z_iload dX4_search_151 rfl ?_
            have K_2 : zz G mX4_search 16 0 0 Q 172 [some (.ref 10), some (.ref (pO i1)), some (.ref (pO i2)), some (.int (if (vX4_search_9 P i1 i2 x0_ x1_ l5 (nI i_) x2_) ≤ (wX4_search_54 P i1 i2 l5 (nI i_) (x0_, x1_, (0 : Int32), x2_)).2.1 then (wX4_search_54 P i1 i2 l5 (nI i_) (x0_, x1_, (0 : Int32), x2_)).1 else (vX4_search_10 P i1 i2 x0_ x1_ l5 (nI i_) x2_))), some (.int (if (vX4_search_9 P i1 i2 x0_ x1_ l5 (nI i_) x2_) ≤ (wX4_search_54 P i1 i2 l5 (nI i_) (x0_, x1_, (0 : Int32), x2_)).2.1 then (wX4_search_54 P i1 i2 l5 (nI i_) (x0_, x1_, (0 : Int32), x2_)).2.1 else (vX4_search_9 P i1 i2 x0_ x1_ l5 (nI i_) x2_))), some (.int l5), some (.int (nI i_)), some (.int (wX4_search_54 P i1 i2 l5 (nI i_) (x0_, x1_, (0 : Int32), x2_)).2.2.1), none] [] (hh P (sX5_most (vX4_search_7 P i1 i2 x0_ x1_ l5 (nI i_) x2_) (0 : Int32) (4095 : Int32))) 0 0 := by
              refine z_iinc (v := ((wX4_search_54 P i1 i2 l5 (nI i_) (x0_, x1_, (0 : Int32), x2_)).2.2.1 + (1 : Int32))) (lv' := [some (.ref 10), some (.ref (pO i1)), some (.ref (pO i2)), some (.int (if (vX4_search_9 P i1 i2 x0_ x1_ l5 (nI i_) x2_) ≤ (wX4_search_54 P i1 i2 l5 (nI i_) (x0_, x1_, (0 : Int32), x2_)).2.1 then (wX4_search_54 P i1 i2 l5 (nI i_) (x0_, x1_, (0 : Int32), x2_)).1 else (vX4_search_10 P i1 i2 x0_ x1_ l5 (nI i_) x2_))), some (.int (if (vX4_search_9 P i1 i2 x0_ x1_ l5 (nI i_) x2_) ≤ (wX4_search_54 P i1 i2 l5 (nI i_) (x0_, x1_, (0 : Int32), x2_)).2.1 then (wX4_search_54 P i1 i2 l5 (nI i_) (x0_, x1_, (0 : Int32), x2_)).2.1 else (vX4_search_9 P i1 i2 x0_ x1_ l5 (nI i_) x2_))), some (.int l5), some (.int (nI i_)), some (.int ((wX4_search_54 P i1 i2 l5 (nI i_) (x0_, x1_, (0 : Int32), x2_)).2.2.1 + (1 : Int32))), none]) dX4_search_172 (Nat.le_of_ble_eq_true rfl) rfl (by rw [k_iconst_1]) rfl ?_
              refine z_goto (tgt := 54) dX4_search_175 (by decide) ?_
              exact (ex_r (ex_r (ex_r (ex_r hX54_ c_2) c_3) c_4) c_5).elim
            refine z_icmp_le (tgt := 172) dX4_search_153 (by decide) (fun c_7 => ?_) (fun c_7 => ?_)
            · refine zz_sub (lv' := [some (.ref 10), some (.ref (pO i1)), some (.ref (pO i2)), some (.int (wX4_search_54 P i1 i2 l5 (nI i_) (x0_, x1_, (0 : Int32), x2_)).1), some (.int (wX4_search_54 P i1 i2 l5 (nI i_) (x0_, x1_, (0 : Int32), x2_)).2.1), some (.int l5), some (.int (nI i_)), some (.int (wX4_search_54 P i1 i2 l5 (nI i_) (x0_, x1_, (0 : Int32), x2_)).2.2.1), none]) ⟨rfl, ⟨rfl, ⟨rfl, ⟨rfl, ⟨rfl, ⟨rfl, ⟨rfl, ⟨rfl, trivial⟩⟩⟩⟩⟩⟩⟩⟩ ?_
              rw [show (if (vX4_search_9 P i1 i2 x0_ x1_ l5 (nI i_) x2_) ≤ (wX4_search_54 P i1 i2 l5 (nI i_) (x0_, x1_, (0 : Int32), x2_)).2.1 then (wX4_search_54 P i1 i2 l5 (nI i_) (x0_, x1_, (0 : Int32), x2_)).1 else (vX4_search_10 P i1 i2 x0_ x1_ l5 (nI i_) x2_)) = (wX4_search_54 P i1 i2 l5 (nI i_) (x0_, x1_, (0 : Int32), x2_)).1 from (if_pos c_7)] at K_2
              rw [show (if (vX4_search_9 P i1 i2 x0_ x1_ l5 (nI i_) x2_) ≤ (wX4_search_54 P i1 i2 l5 (nI i_) (x0_, x1_, (0 : Int32), x2_)).2.1 then (wX4_search_54 P i1 i2 l5 (nI i_) (x0_, x1_, (0 : Int32), x2_)).2.1 else (vX4_search_9 P i1 i2 x0_ x1_ l5 (nI i_) x2_)) = (wX4_search_54 P i1 i2 l5 (nI i_) (x0_, x1_, (0 : Int32), x2_)).2.1 from (if_pos c_7)] at K_2
              exact K_2
            · refine z_iload dX4_search_156 rfl ?_
              refine z_istore (lv' := [some (.ref 10), some (.ref (pO i1)), some (.ref (pO i2)), some (.int (wX4_search_54 P i1 i2 l5 (nI i_) (x0_, x1_, (0 : Int32), x2_)).1), some (.int (vX4_search_9 P i1 i2 x0_ x1_ l5 (nI i_) x2_)), some (.int l5), some (.int (nI i_)), some (.int (wX4_search_54 P i1 i2 l5 (nI i_) (x0_, x1_, (0 : Int32), x2_)).2.2.1), some (.int (vX4_search_9 P i1 i2 x0_ x1_ l5 (nI i_) x2_))]) dX4_search_158 (Nat.le_of_ble_eq_true rfl) rfl ?_
              refine z_iload dX4_search_160 rfl ?_
              refine z_iload dX4_search_162 rfl ?_
              refine z_iload dX4_search_164 rfl ?_
              refine z_iload dX4_search_166 rfl ?_
              refine z_callS (As := [.int (vX4_search_9 P i1 i2 x0_ x1_ l5 (nI i_) x2_), .int l5, .int (nI i_), .int (wX4_search_54 P i1 i2 l5 (nI i_) (x0_, x1_, (0 : Int32), x2_)).2.2.1]) (rest := []) (ctX4_pack P (sX5_most (vX4_search_7 P i1 i2 x0_ x1_ l5 (nI i_) x2_) (0 : Int32) (4095 : Int32)) (vX4_search_9 P i1 i2 x0_ x1_ l5 (nI i_) x2_) l5 (nI i_) ((wX4_search_54 P i1 i2 l5 (nI i_) (x0_, x1_, (0 : Int32), x2_)).2.2.1)) dX4_search_168 lk_X4_153 ls_X4_pack rfl (Nat.le_of_ble_eq_true rfl) (Nat.le_of_ble_eq_true rfl) (Nat.le_of_ble_eq_true rfl) (Nat.le_of_ble_eq_true rfl) (fun r_ h_ e_ => ?_)
              obtain ⟨e1_, e2_⟩ := e_
              subst e1_
              subst e2_
              show zz G mX4_search 16 0 0 Q 171 [some (.ref 10), some (.ref (pO i1)), some (.ref (pO i2)), some (.int (wX4_search_54 P i1 i2 l5 (nI i_) (x0_, x1_, (0 : Int32), x2_)).1), some (.int (vX4_search_9 P i1 i2 x0_ x1_ l5 (nI i_) x2_)), some (.int l5), some (.int (nI i_)), some (.int (wX4_search_54 P i1 i2 l5 (nI i_) (x0_, x1_, (0 : Int32), x2_)).2.2.1), some (.int (vX4_search_9 P i1 i2 x0_ x1_ l5 (nI i_) x2_))] [.int (rX4_pack (vX4_search_9 P i1 i2 x0_ x1_ l5 (nI i_) x2_) l5 (nI i_) ((wX4_search_54 P i1 i2 l5 (nI i_) (x0_, x1_, (0 : Int32), x2_)).2.2.1))] (hh P (sX5_most (vX4_search_7 P i1 i2 x0_ x1_ l5 (nI i_) x2_) (0 : Int32) (4095 : Int32))) 0 0
              refine z_istore_n (lv' := [some (.ref 10), some (.ref (pO i1)), some (.ref (pO i2)), some (.int (vX4_search_10 P i1 i2 x0_ x1_ l5 (nI i_) x2_)), some (.int (vX4_search_9 P i1 i2 x0_ x1_ l5 (nI i_) x2_)), some (.int l5), some (.int (nI i_)), some (.int (wX4_search_54 P i1 i2 l5 (nI i_) (x0_, x1_, (0 : Int32), x2_)).2.2.1), some (.int (vX4_search_9 P i1 i2 x0_ x1_ l5 (nI i_) x2_))]) dX4_search_171 (Nat.le_of_ble_eq_true rfl) rfl ?_
              refine zz_sub (lv' := [some (.ref 10), some (.ref (pO i1)), some (.ref (pO i2)), some (.int (vX4_search_10 P i1 i2 x0_ x1_ l5 (nI i_) x2_)), some (.int (vX4_search_9 P i1 i2 x0_ x1_ l5 (nI i_) x2_)), some (.int l5), some (.int (nI i_)), some (.int (wX4_search_54 P i1 i2 l5 (nI i_) (x0_, x1_, (0 : Int32), x2_)).2.2.1), none]) ⟨rfl, ⟨rfl, ⟨rfl, ⟨rfl, ⟨rfl, ⟨rfl, ⟨rfl, ⟨rfl, trivial⟩⟩⟩⟩⟩⟩⟩⟩ ?_
              rw [show (if (vX4_search_9 P i1 i2 x0_ x1_ l5 (nI i_) x2_) ≤ (wX4_search_54 P i1 i2 l5 (nI i_) (x0_, x1_, (0 : Int32), x2_)).2.1 then (wX4_search_54 P i1 i2 l5 (nI i_) (x0_, x1_, (0 : Int32), x2_)).1 else (vX4_search_10 P i1 i2 x0_ x1_ l5 (nI i_) x2_)) = (vX4_search_10 P i1 i2 x0_ x1_ l5 (nI i_) x2_) from (if_neg c_7)] at K_2
              rw [show (if (vX4_search_9 P i1 i2 x0_ x1_ l5 (nI i_) x2_) ≤ (wX4_search_54 P i1 i2 l5 (nI i_) (x0_, x1_, (0 : Int32), x2_)).2.1 then (wX4_search_54 P i1 i2 l5 (nI i_) (x0_, x1_, (0 : Int32), x2_)).2.1 else (vX4_search_9 P i1 i2 x0_ x1_ l5 (nI i_) x2_)) = (vX4_search_9 P i1 i2 x0_ x1_ l5 (nI i_) x2_) from (if_neg c_7)] at K_2
              exact K_2
        · refine z_goto (tgt := 172) dX4_search_89 (by decide) ?_
          refine z_iinc (v := ((wX4_search_54 P i1 i2 l5 (nI i_) (x0_, x1_, (0 : Int32), x2_)).2.2.1 + (1 : Int32))) (lv' := [some (.ref 10), some (.ref (pO i1)), some (.ref (pO i2)), some (.int (wX4_search_54 P i1 i2 l5 (nI i_) (x0_, x1_, (0 : Int32), x2_)).1), some (.int (wX4_search_54 P i1 i2 l5 (nI i_) (x0_, x1_, (0 : Int32), x2_)).2.1), some (.int l5), some (.int (nI i_)), some (.int ((wX4_search_54 P i1 i2 l5 (nI i_) (x0_, x1_, (0 : Int32), x2_)).2.2.1 + (1 : Int32))), none]) dX4_search_172 (Nat.le_of_ble_eq_true rfl) rfl (by rw [k_iconst_1]) rfl ?_
          refine z_goto (tgt := 54) dX4_search_175 (by decide) ?_
          exact (ex_l (ex_r (ex_r hX54_ c_2) c_3) c_4).elim
  · generalize zfor (fX4_search_44 P i1 i2 l5) 31 (l3, l4, σ) = g_ at W2_ ⊢
    obtain ⟨x0_, x1_, x2_⟩ := g_
    dsimp only at W2_ ⊢
    refine z_iload dX4_search_44 rfl ?_
    refine z_bipush dX4_search_46 k_bipush_31 ?_
    refine z_icmp_ge (tgt := 184) dX4_search_48 (by decide) (fun c_ => ?_) (fun c_ => absurd (by decide) c_)
    exact zz_sub (lv' := [some (.ref 10), some (.ref (pO i1)), some (.ref (pO i2)), some (.int x0_), some (.int x1_), some (.int l5), none, none, none]) ⟨rfl, ⟨rfl, ⟨rfl, ⟨rfl, ⟨rfl, ⟨rfl, trivial⟩⟩⟩⟩⟩⟩ W2_

theorem dX4_search_22 : decode cX4_search 22 = .ok (.iload 5, 2) := by decide +kernel
theorem dX4_search_24 : decode cX4_search 24 = .ok (.iconst 4, 1) := by decide +kernel
theorem dX4_search_25 : decode cX4_search 25 = .ok (.if_icmp .ge 165, 3) := by decide +kernel
theorem dX4_search_28 : decode cX4_search 28 = .ok (.aload_n 0, 1) := by decide +kernel
theorem dX4_search_29 : decode cX4_search 29 = .ok (.aload_n 1, 1) := by decide +kernel
theorem dX4_search_30 : decode cX4_search 30 = .ok (.iload 5, 2) := by decide +kernel
theorem dX4_search_32 : decode cX4_search 32 = .ok (.invokevirtual 94, 3) := by decide +kernel
theorem dX4_search_35 : decode cX4_search 35 = .ok (.aload_n 0, 1) := by decide +kernel
theorem dX4_search_36 : decode cX4_search 36 = .ok (.aload_n 1, 1) := by decide +kernel
theorem dX4_search_37 : decode cX4_search 37 = .ok (.aload_n 2, 1) := by decide +kernel
theorem dX4_search_38 : decode cX4_search 38 = .ok (.invokevirtual 145, 3) := by decide +kernel
theorem dX4_search_41 : decode cX4_search 41 = .ok (.iconst 0, 1) := by decide +kernel
theorem dX4_search_42 : decode cX4_search 42 = .ok (.istore 6, 2) := by decide +kernel
theorem dX4_search_190 : decode cX4_search 190 = .ok (.iload_n 3, 1) := by decide +kernel
noncomputable def vX4_search_12 (P : zp) (i1 : Nat) (i2 : Nat) (l3 : Int32) (l4 : Int32) (l5 : Int32) (σ : zc_N) : zc_N := (zfor (fX4_search_44 P i1 i2 l5) 31 (l3, l4, (sX4_markLandings P (sX4_turnBy P σ i1 l5) i1 i2))).2.2
noncomputable def fX4_search_22 (P : zp) (i1 : Nat) (i2 : Nat) (i_ : Nat) (a_ : Int32 × Int32 × zc_N) : Int32 × Int32 × zc_N := ((zfor (fX4_search_44 P i1 i2 (nI i_)) 31 (a_.1, a_.2.1, (sX4_markLandings P (sX4_turnBy P a_.2.2 i1 (nI i_)) i1 i2))).1, (zfor (fX4_search_44 P i1 i2 (nI i_)) 31 (a_.1, a_.2.1, (sX4_markLandings P (sX4_turnBy P a_.2.2 i1 (nI i_)) i1 i2))).2.1, (vX4_search_12 P i1 i2 a_.1 a_.2.1 (nI i_) a_.2.2))
def qX4_search_22 (P : zp) (i1 : Nat) (i2 : Nat) (i_ : Nat) (a_ : Int32 × Int32 × zc_N) : Prop := ((pX4_turnBy P a_.2.2 i1 (nI i_)) ∧ ((pX4_markLandings P (sX4_turnBy P a_.2.2 i1 (nI i_)) i1 i2) ∧ (∀ i44_ : Nat, i44_ < 31 → qX4_search_44 P i1 i2 (nI i_) i44_ (zfor (fX4_search_44 P i1 i2 (nI i_)) i44_ (a_.1, a_.2.1, (sX4_markLandings P (sX4_turnBy P a_.2.2 i1 (nI i_)) i1 i2))))))
set_option maxHeartbeats 2000000 in
theorem lpX4_search_22 {G : zc_G} {Q : Option Value → zc_H → Prop} (P : zp) (σ : zc_N) (i1 : Nat) (h1 : i1 < P.2.1) (i2 : Nat) (h2 : i2 < P.2.1) (l3 : Int32) (l4 : Int32) (W1_ : ∀ i22_ : Nat, i22_ < 4 → qX4_search_22 P i1 i2 i22_ (zfor (fX4_search_22 P i1 i2) i22_ (l3, l4, σ)))
    (W2_ : zz G mX4_search 16 0 0 Q 190 [none, none, none, some (.int (zfor (fX4_search_22 P i1 i2) 4 (l3, l4, σ)).1), none, none, none, none, none] [] (hh P (zfor (fX4_search_22 P i1 i2) 4 (l3, l4, σ)).2.2) 0 0) :
    zz G mX4_search 16 0 0 Q 22 [some (.ref 10), some (.ref (pO i1)), some (.ref (pO i2)), some (.int l3), some (.int l4), some (.int (nI 0)), none, none, none] [] (hh P σ) 0 0 := by
  refine zfor_nI (fun i_ a_ => zz G mX4_search 16 0 0 Q 22 [some (.ref 10), some (.ref (pO i1)), some (.ref (pO i2)), some (.int a_.1), some (.int a_.2.1), some (.int i_), none, none, none] [] (hh P a_.2.2) 0 0) (fX4_search_22 P i1 i2) 4 (l3, l4, σ) (fun i_ hi_ k_ => ?_) ?_
  all_goals try dsimp only
  · have W3_ := W1_ i_ hi_
    generalize zfor (fX4_search_22 P i1 i2) i_ (l3, l4, σ) = g_ at k_ W3_ ⊢
    obtain ⟨x0_, x1_, x2_⟩ := g_
    dsimp only at k_ W3_ ⊢
    rw [fX4_search_22] at k_
    rw [qX4_search_22] at W3_
    try dsimp only at W3_
    dsimp only at k_
    refine z_iload dX4_search_22 rfl ?_
    refine z_iconst dX4_search_24 k_iconst_4 ?_
    refine z_icmp_ge (tgt := 190) dX4_search_25 (by decide) (fun c_ => absurd c_ (nI_ge hi_ (by decide))) (fun c_ => ?_)
    refine z_aloadr_n dX4_search_28 rfl ?_
    refine z_aloadr_n dX4_search_29 rfl ?_
    refine z_iload dX4_search_30 rfl ?_
    refine z_callV (ci := 4) (r := (RX4, TX4, 10)) (b := 10) (As := [.ref (pO i1), .int (nI i_)]) (rest := []) (ctX4_turnBy P x2_ i1 h1 (nI i_) W3_.1) dX4_search_32 lk_X4_94 lv_X4_turnBy (Nat.le_of_ble_eq_true rfl) (zN rfl) rfl rfl rfl rfl (Nat.le_of_ble_eq_true rfl) (Nat.le_of_ble_eq_true rfl) (Nat.le_of_ble_eq_true rfl) (Nat.le_of_ble_eq_true rfl) (fun r_ h_ e_ => ?_)
    obtain ⟨e1_, e2_⟩ := e_
    subst e1_
    subst e2_
    show zz G mX4_search 16 0 0 Q 35 [some (.ref 10), some (.ref (pO i1)), some (.ref (pO i2)), some (.int x0_), some (.int x1_), some (.int (nI i_)), none, none, none] [] (hh P (sX4_turnBy P x2_ i1 (nI i_))) 0 0
    refine z_aloadr_n dX4_search_35 rfl ?_
    refine z_aloadr_n dX4_search_36 rfl ?_
    refine z_aloadr_n dX4_search_37 rfl ?_
    refine z_callV (ci := 4) (r := (RX4, TX4, 10)) (b := 10) (As := [.ref (pO i1), .ref (pO i2)]) (rest := []) (ctX4_markLandings P (sX4_turnBy P x2_ i1 (nI i_)) i1 h1 i2 h2 W3_.2.1) dX4_search_38 lk_X4_145 lv_X4_markLandings (Nat.le_of_ble_eq_true rfl) (zN rfl) rfl rfl rfl rfl (Nat.le_of_ble_eq_true rfl) (Nat.le_of_ble_eq_true rfl) (Nat.le_of_ble_eq_true rfl) (Nat.le_of_ble_eq_true rfl) (fun r_ h_ e_ => ?_)
    obtain ⟨e1_, e2_⟩ := e_
    subst e1_
    subst e2_
    show zz G mX4_search 16 0 0 Q 41 [some (.ref 10), some (.ref (pO i1)), some (.ref (pO i2)), some (.int x0_), some (.int x1_), some (.int (nI i_)), none, none, none] [] (hh P (sX4_markLandings P (sX4_turnBy P x2_ i1 (nI i_)) i1 i2)) 0 0
    refine z_iconst dX4_search_41 k_iconst_0 ?_
    refine z_istore (lv' := [some (.ref 10), some (.ref (pO i1)), some (.ref (pO i2)), some (.int x0_), some (.int x1_), some (.int (nI i_)), some (.int (0 : Int32)), none, none]) dX4_search_42 (Nat.le_of_ble_eq_true rfl) rfl ?_
    refine lpX4_search_44 P (sX4_markLandings P (sX4_turnBy P x2_ i1 (nI i_)) i1 i2) i1 h1 i2 h2 x0_ x1_ (nI i_) W3_.2.2 ?_
    show zz G mX4_search 16 0 0 Q 184 [some (.ref 10), some (.ref (pO i1)), some (.ref (pO i2)), some (.int (zfor (fX4_search_44 P i1 i2 (nI i_)) 31 (x0_, x1_, (sX4_markLandings P (sX4_turnBy P x2_ i1 (nI i_)) i1 i2))).1), some (.int (zfor (fX4_search_44 P i1 i2 (nI i_)) 31 (x0_, x1_, (sX4_markLandings P (sX4_turnBy P x2_ i1 (nI i_)) i1 i2))).2.1), some (.int (nI i_)), none, none, none] [] (hh P (vX4_search_12 P i1 i2 x0_ x1_ (nI i_) x2_)) 0 0
    refine z_iinc (v := ((nI i_) + (1 : Int32))) (lv' := [some (.ref 10), some (.ref (pO i1)), some (.ref (pO i2)), some (.int (zfor (fX4_search_44 P i1 i2 (nI i_)) 31 (x0_, x1_, (sX4_markLandings P (sX4_turnBy P x2_ i1 (nI i_)) i1 i2))).1), some (.int (zfor (fX4_search_44 P i1 i2 (nI i_)) 31 (x0_, x1_, (sX4_markLandings P (sX4_turnBy P x2_ i1 (nI i_)) i1 i2))).2.1), some (.int ((nI i_) + (1 : Int32))), none, none, none]) dX4_search_184 (Nat.le_of_ble_eq_true rfl) rfl (by rw [k_iconst_1]) rfl ?_
    refine z_goto (tgt := 22) dX4_search_187 (by decide) ?_
    rw [nI_1]
    exact k_
  · generalize zfor (fX4_search_22 P i1 i2) 4 (l3, l4, σ) = g_ at W2_ ⊢
    obtain ⟨x0_, x1_, x2_⟩ := g_
    dsimp only at W2_ ⊢
    refine z_iload dX4_search_22 rfl ?_
    refine z_iconst dX4_search_24 k_iconst_4 ?_
    refine z_icmp_ge (tgt := 190) dX4_search_25 (by decide) (fun c_ => ?_) (fun c_ => absurd (by decide) c_)
    exact zz_sub (lv' := [none, none, none, some (.int x0_), none, none, none, none, none]) ⟨rfl, trivial⟩ W2_

theorem dX4_search_0 : decode cX4_search 0 = .ok (.aload_n 0, 1) := by decide +kernel
theorem dX4_search_1 : decode cX4_search 1 = .ok (.getfield 22, 3) := by decide +kernel
theorem dX4_search_4 : decode cX4_search 4 = .ok (.aload_n 2, 1) := by decide +kernel
theorem dX4_search_5 : decode cX4_search 5 = .ok (.aload_n 0, 1) := by decide +kernel
theorem dX4_search_6 : decode cX4_search 6 = .ok (.getfield 9, 3) := by decide +kernel
theorem dX4_search_9 : decode cX4_search 9 = .ok (.invokevirtual 87, 3) := by decide +kernel
theorem dX4_search_12 : decode cX4_search 12 = .ok (.iconst 1, 1) := by decide +kernel
theorem dX4_search_13 : decode cX4_search 13 = .ok (.istore_n 3, 1) := by decide +kernel
theorem dX4_search_14 : decode cX4_search 14 = .ok (.sipush (-1000), 3) := by decide +kernel
theorem dX4_search_17 : decode cX4_search 17 = .ok (.istore 4, 2) := by decide +kernel
theorem dX4_search_19 : decode cX4_search 19 = .ok (.iconst 0, 1) := by decide +kernel
theorem dX4_search_20 : decode cX4_search 20 = .ok (.istore 5, 2) := by decide +kernel
theorem dX4_search_191 : decode cX4_search 191 = .ok (.ireturn, 1) := by decide +kernel
noncomputable def vX4_search_13 (P : zp) (i1 : Nat) (i2 : Nat) (σ : zc_N) : zc_N := (zfor (fX4_search_22 P i1 i2) 4 ((1 : Int32), (-1000 : Int32), (sX0_learn P σ i2 ((σ 10) 0)))).2.2
def pX4_search (P : zp) (σ : zc_N) (i1 : Nat) (i2 : Nat) : Prop := ((pX0_learn P σ i2 ((σ 10) 0)) ∧ (∀ i22_ : Nat, i22_ < 4 → qX4_search_22 P i1 i2 i22_ (zfor (fX4_search_22 P i1 i2) i22_ ((1 : Int32), (-1000 : Int32), (sX0_learn P σ i2 ((σ 10) 0))))))
noncomputable def rX4_search (P : zp) (σ : zc_N) (i1 : Nat) (i2 : Nat) : Int32 := (zfor (fX4_search_22 P i1 i2) 4 ((1 : Int32), (-1000 : Int32), (sX0_learn P σ i2 ((σ 10) 0)))).1
noncomputable def sX4_search (P : zp) (σ : zc_N) (i1 : Nat) (i2 : Nat) : zc_N := (vX4_search_13 P i1 i2 σ)
set_option maxHeartbeats 1000000 in
theorem ctX4_search (P : zp) (σ : zc_N) (i1 : Nat) (h1 : i1 < P.2.1) (i2 : Nat) (h2 : i2 < P.2.1) (W_ : (pX4_search P σ i1 i2)) : sp mX4_search 16 0 0 [.ref 10, .ref (pO i1), .ref (pO i2)] (hh P σ) (fun r_ h_ => r_ = some (.int (rX4_search P σ i1 i2)) ∧ h_ = hh P (sX4_search P σ i1 i2)) := by
  refine sp_of (lv := [some (.ref 10), some (.ref (pO i1)), some (.ref (pO i2)), none, none, none, none, none, none]) (by decide) (zcats_ok _ rfl) (Nat.le_of_ble_eq_true rfl) (zlv_ok _ 6 rfl) (fun G => ?_)
  generalize hQ_ : (fun (r_ : Option Value) (h_ : zc_H) => r_ = some (.int (rX4_search P σ i1 i2)) ∧ h_ = hh P (sX4_search P σ i1 i2)) = Q_
  unfold pX4_search at W_
  refine z_aloadr_n dX4_search_0 rfl ?_
  refine z_get (ci := 4) (r := (RX4, TX4, 10)) (j := 2) (v := .ref 12) dX4_search_1 (Nat.le_of_ble_eq_true rfl) (zN rfl) rfl rfl (Nat.le_of_ble_eq_true rfl) fl_X4_22 rfl ?_
  refine z_aloadr_n dX4_search_4 rfl ?_
  refine z_aloadr_n dX4_search_5 rfl ?_
  refine z_get (ci := 4) (r := (RX4, TX4, 10)) (j := 0) (v := .int ((σ 10) 0)) dX4_search_6 (Nat.le_of_ble_eq_true rfl) (zN rfl) rfl rfl (Nat.le_of_ble_eq_true rfl) fl_X4_9 rfl ?_
  refine z_callV (ci := 0) (r := (RX0, TX0, 3)) (b := 12) (As := [.ref (pO i2), .int ((σ 10) 0)]) (rest := []) (ctX0_learn P σ i2 h2 ((σ 10) 0) W_.1) dX4_search_9 lk_X4_87 lv_X0_learn (Nat.le_of_ble_eq_true rfl) (zN rfl) rfl rfl rfl rfl (Nat.le_of_ble_eq_true rfl) (Nat.le_of_ble_eq_true rfl) (Nat.le_of_ble_eq_true rfl) (Nat.le_of_ble_eq_true rfl) (fun r_ h_ e_ => ?_)
  obtain ⟨e1_, e2_⟩ := e_
  subst e1_
  subst e2_
  show zz G mX4_search 16 0 0 Q_ 12 [some (.ref 10), some (.ref (pO i1)), some (.ref (pO i2)), none, none, none, none, none, none] [] (hh P (sX0_learn P σ i2 ((σ 10) 0))) 0 0
  refine z_iconst dX4_search_12 k_iconst_1 ?_
  refine z_istore_n (lv' := [some (.ref 10), some (.ref (pO i1)), some (.ref (pO i2)), some (.int (1 : Int32)), none, none, none, none, none]) dX4_search_13 (Nat.le_of_ble_eq_true rfl) rfl ?_
  refine z_sipush dX4_search_14 k_sipush_m1000 ?_
  refine z_istore (lv' := [some (.ref 10), some (.ref (pO i1)), some (.ref (pO i2)), some (.int (1 : Int32)), some (.int (-1000 : Int32)), none, none, none, none]) dX4_search_17 (Nat.le_of_ble_eq_true rfl) rfl ?_
  refine z_iconst dX4_search_19 k_iconst_0 ?_
  refine z_istore (lv' := [some (.ref 10), some (.ref (pO i1)), some (.ref (pO i2)), some (.int (1 : Int32)), some (.int (-1000 : Int32)), some (.int (0 : Int32)), none, none, none]) dX4_search_20 (Nat.le_of_ble_eq_true rfl) rfl ?_
  refine lpX4_search_22 P (sX0_learn P σ i2 ((σ 10) 0)) i1 h1 i2 h2 (1 : Int32) (-1000 : Int32) W_.2 ?_
  show zz G mX4_search 16 0 0 Q_ 190 [none, none, none, some (.int (zfor (fX4_search_22 P i1 i2) 4 ((1 : Int32), (-1000 : Int32), (sX0_learn P σ i2 ((σ 10) 0)))).1), none, none, none, none, none] [] (hh P (vX4_search_13 P i1 i2 σ)) 0 0
  refine z_iload_n dX4_search_190 rfl ?_
  exact z_ireturn dX4_search_191 rfl rfl (Nat.le_of_ble_eq_true rfl) (Nat.le_of_ble_eq_true rfl) (by rw [← hQ_]; exact ⟨(by rw [rX4_search]), (by rw [sX4_search])⟩)

theorem dX4_bestOf_0 : decode cX4_bestOf 0 = .ok (.aload_n 0, 1) := by decide +kernel
theorem dX4_bestOf_1 : decode cX4_bestOf 1 = .ok (.getfield 9, 3) := by decide +kernel
theorem dX4_bestOf_4 : decode cX4_bestOf 4 = .ok (.bipush 24, 2) := by decide +kernel
theorem dX4_bestOf_6 : decode cX4_bestOf 6 = .ok (.imul, 1) := by decide +kernel
theorem dX4_bestOf_7 : decode cX4_bestOf 7 = .ok (.aload_n 1, 1) := by decide +kernel
theorem dX4_bestOf_8 : decode cX4_bestOf 8 = .ok (.getfield 137, 3) := by decide +kernel
theorem dX4_bestOf_11 : decode cX4_bestOf 11 = .ok (.iadd, 1) := by decide +kernel
theorem dX4_bestOf_12 : decode cX4_bestOf 12 = .ok (.bipush 24, 2) := by decide +kernel
theorem dX4_bestOf_14 : decode cX4_bestOf 14 = .ok (.imul, 1) := by decide +kernel
theorem dX4_bestOf_15 : decode cX4_bestOf 15 = .ok (.aload_n 2, 1) := by decide +kernel
theorem dX4_bestOf_16 : decode cX4_bestOf 16 = .ok (.getfield 137, 3) := by decide +kernel
theorem dX4_bestOf_19 : decode cX4_bestOf 19 = .ok (.iadd, 1) := by decide +kernel
theorem dX4_bestOf_20 : decode cX4_bestOf 20 = .ok (.istore_n 3, 1) := by decide +kernel
theorem dX4_bestOf_21 : decode cX4_bestOf 21 = .ok (.aload_n 0, 1) := by decide +kernel
theorem dX4_bestOf_22 : decode cX4_bestOf 22 = .ok (.getfield 15, 3) := by decide +kernel
theorem dX4_bestOf_25 : decode cX4_bestOf 25 = .ok (.iload_n 3, 1) := by decide +kernel
theorem dX4_bestOf_26 : decode cX4_bestOf 26 = .ok (.iaload, 1) := by decide +kernel
theorem dX4_bestOf_27 : decode cX4_bestOf 27 = .ok (.ifCond .ne 15, 3) := by decide +kernel
theorem dX4_bestOf_30 : decode cX4_bestOf 30 = .ok (.aload_n 0, 1) := by decide +kernel
theorem dX4_bestOf_31 : decode cX4_bestOf 31 = .ok (.getfield 15, 3) := by decide +kernel
theorem dX4_bestOf_34 : decode cX4_bestOf 34 = .ok (.iload_n 3, 1) := by decide +kernel
theorem dX4_bestOf_35 : decode cX4_bestOf 35 = .ok (.aload_n 0, 1) := by decide +kernel
theorem dX4_bestOf_36 : decode cX4_bestOf 36 = .ok (.aload_n 1, 1) := by decide +kernel
theorem dX4_bestOf_37 : decode cX4_bestOf 37 = .ok (.aload_n 2, 1) := by decide +kernel
theorem dX4_bestOf_38 : decode cX4_bestOf 38 = .ok (.invokevirtual 142, 3) := by decide +kernel
theorem dX4_bestOf_41 : decode cX4_bestOf 41 = .ok (.iastore, 1) := by decide +kernel
theorem dX4_bestOf_42 : decode cX4_bestOf 42 = .ok (.aload_n 0, 1) := by decide +kernel
theorem dX4_bestOf_43 : decode cX4_bestOf 43 = .ok (.getfield 15, 3) := by decide +kernel
theorem dX4_bestOf_46 : decode cX4_bestOf 46 = .ok (.iload_n 3, 1) := by decide +kernel
theorem dX4_bestOf_47 : decode cX4_bestOf 47 = .ok (.iaload, 1) := by decide +kernel
theorem dX4_bestOf_48 : decode cX4_bestOf 48 = .ok (.ireturn, 1) := by decide +kernel
def pX4_bestOf (P : zp) (σ : zc_N) (i1 : Nat) (i2 : Nat) : Prop := (vp_in ((((((σ 10) 0) * (24 : Int32)) + ((σ (pO i1)) 0)) * (24 : Int32)) + ((σ (pO i2)) 0)) 2304 ∧ ((((σ 11) ((((((σ 10) 0) * (24 : Int32)) + ((σ (pO i1)) 0)) * (24 : Int32)) + ((σ (pO i2)) 0)).toNatClampNeg) = (0 : Int32) → ((pX4_search P σ i1 i2) ∧ (vp_in ((((((σ 10) 0) * (24 : Int32)) + ((σ (pO i1)) 0)) * (24 : Int32)) + ((σ (pO i2)) 0)) 2304 ∧ vp_in ((((((σ 10) 0) * (24 : Int32)) + ((σ (pO i1)) 0)) * (24 : Int32)) + ((σ (pO i2)) 0)) 2304))) ∧ (¬ ((σ 11) ((((((σ 10) 0) * (24 : Int32)) + ((σ (pO i1)) 0)) * (24 : Int32)) + ((σ (pO i2)) 0)).toNatClampNeg) = (0 : Int32) → vp_in ((((((σ 10) 0) * (24 : Int32)) + ((σ (pO i1)) 0)) * (24 : Int32)) + ((σ (pO i2)) 0)) 2304)))
noncomputable def rX4_bestOf (P : zp) (σ : zc_N) (i1 : Nat) (i2 : Nat) : Int32 := (if ((σ 11) ((((((σ 10) 0) * (24 : Int32)) + ((σ (pO i1)) 0)) * (24 : Int32)) + ((σ (pO i2)) 0)).toNatClampNeg) = (0 : Int32) then ((zu ((sX4_search P σ i1 i2) 11) ((((((σ 10) 0) * (24 : Int32)) + ((σ (pO i1)) 0)) * (24 : Int32)) + ((σ (pO i2)) 0)).toNatClampNeg (rX4_search P σ i1 i2)) ((((((σ 10) 0) * (24 : Int32)) + ((σ (pO i1)) 0)) * (24 : Int32)) + ((σ (pO i2)) 0)).toNatClampNeg) else ((σ 11) ((((((σ 10) 0) * (24 : Int32)) + ((σ (pO i1)) 0)) * (24 : Int32)) + ((σ (pO i2)) 0)).toNatClampNeg))
noncomputable def sX4_bestOf (P : zp) (σ : zc_N) (i1 : Nat) (i2 : Nat) : zc_N := (if ((σ 11) ((((((σ 10) 0) * (24 : Int32)) + ((σ (pO i1)) 0)) * (24 : Int32)) + ((σ (pO i2)) 0)).toNatClampNeg) = (0 : Int32) then (zu (sX4_search P σ i1 i2) 11 (zu ((sX4_search P σ i1 i2) 11) ((((((σ 10) 0) * (24 : Int32)) + ((σ (pO i1)) 0)) * (24 : Int32)) + ((σ (pO i2)) 0)).toNatClampNeg (rX4_search P σ i1 i2))) else σ)
set_option maxHeartbeats 1000000 in
theorem ctX4_bestOf (P : zp) (σ : zc_N) (i1 : Nat) (h1 : i1 < P.2.1) (i2 : Nat) (h2 : i2 < P.2.1) (W_ : (pX4_bestOf P σ i1 i2)) : sp mX4_bestOf 17 0 0 [.ref 10, .ref (pO i1), .ref (pO i2)] (hh P σ) (fun r_ h_ => r_ = some (.int (rX4_bestOf P σ i1 i2)) ∧ h_ = hh P (sX4_bestOf P σ i1 i2)) := by
  refine sp_of (lv := [some (.ref 10), some (.ref (pO i1)), some (.ref (pO i2)), none]) (by decide) (zcats_ok _ rfl) (Nat.le_of_ble_eq_true rfl) (zlv_ok _ 1 rfl) (fun G => ?_)
  generalize hQ_ : (fun (r_ : Option Value) (h_ : zc_H) => r_ = some (.int (rX4_bestOf P σ i1 i2)) ∧ h_ = hh P (sX4_bestOf P σ i1 i2)) = Q_
  unfold pX4_bestOf at W_
  refine z_aloadr_n dX4_bestOf_0 rfl ?_
  refine z_get (ci := 4) (r := (RX4, TX4, 10)) (j := 0) (v := .int ((σ 10) 0)) dX4_bestOf_1 (Nat.le_of_ble_eq_true rfl) (zN rfl) rfl rfl (Nat.le_of_ble_eq_true rfl) fl_X4_9 rfl ?_
  refine z_bipush dX4_bestOf_4 k_bipush_24 ?_
  refine z_imul (v := (((σ 10) 0) * (24 : Int32))) dX4_bestOf_6 rfl ?_
  refine z_aloadr_n dX4_bestOf_7 rfl ?_
  refine z_get (ci := 7) (r := (RX7, TX7, 5)) (j := 0) (v := .int ((σ (pO i1)) 0)) dX4_bestOf_8 (z3O i1) (zNO h1) (SH_pO P i1) rfl (Nat.le_of_ble_eq_true rfl) fl_X4_137 rfl ?_
  refine z_iadd (v := ((((σ 10) 0) * (24 : Int32)) + ((σ (pO i1)) 0))) dX4_bestOf_11 rfl ?_
  refine z_bipush dX4_bestOf_12 k_bipush_24 ?_
  refine z_imul (v := (((((σ 10) 0) * (24 : Int32)) + ((σ (pO i1)) 0)) * (24 : Int32))) dX4_bestOf_14 rfl ?_
  refine z_aloadr_n dX4_bestOf_15 rfl ?_
  refine z_get (ci := 7) (r := (RX7, TX7, 5)) (j := 0) (v := .int ((σ (pO i2)) 0)) dX4_bestOf_16 (z3O i2) (zNO h2) (SH_pO P i2) rfl (Nat.le_of_ble_eq_true rfl) fl_X4_137 rfl ?_
  refine z_iadd (v := ((((((σ 10) 0) * (24 : Int32)) + ((σ (pO i1)) 0)) * (24 : Int32)) + ((σ (pO i2)) 0))) dX4_bestOf_19 rfl ?_
  refine z_istore_n (lv' := [some (.ref 10), some (.ref (pO i1)), some (.ref (pO i2)), some (.int ((((((σ 10) 0) * (24 : Int32)) + ((σ (pO i1)) 0)) * (24 : Int32)) + ((σ (pO i2)) 0)))]) dX4_bestOf_20 (Nat.le_of_ble_eq_true rfl) rfl ?_
  refine z_aloadr_n dX4_bestOf_21 rfl ?_
  refine z_get (ci := 4) (r := (RX4, TX4, 10)) (j := 1) (v := .ref 11) dX4_bestOf_22 (Nat.le_of_ble_eq_true rfl) (zN rfl) rfl rfl (Nat.le_of_ble_eq_true rfl) fl_X4_15 rfl ?_
  refine z_iload_n dX4_bestOf_25 rfl ?_
  refine z_iald (v := ((σ 11) ((((((σ 10) 0) * (24 : Int32)) + ((σ (pO i1)) 0)) * (24 : Int32)) + ((σ (pO i2)) 0)).toNatClampNeg)) dX4_bestOf_26 (zN rfl) rfl W_.1 rfl ?_
  refine z_if_ne (tgt := 42) dX4_bestOf_27 (by decide) (fun c_1 => ?_) (fun c_1 => ?_)
  · refine z_aloadr_n dX4_bestOf_42 rfl ?_
    refine z_get (ci := 4) (r := (RX4, TX4, 10)) (j := 1) (v := .ref 11) dX4_bestOf_43 (Nat.le_of_ble_eq_true rfl) (zN rfl) rfl rfl (Nat.le_of_ble_eq_true rfl) fl_X4_15 rfl ?_
    refine z_iload_n dX4_bestOf_46 rfl ?_
    refine z_iald (v := ((σ 11) ((((((σ 10) 0) * (24 : Int32)) + ((σ (pO i1)) 0)) * (24 : Int32)) + ((σ (pO i2)) 0)).toNatClampNeg)) dX4_bestOf_47 (zN rfl) rfl (W_.2.2 c_1) rfl ?_
    exact z_ireturn dX4_bestOf_48 rfl rfl (Nat.le_of_ble_eq_true rfl) (Nat.le_of_ble_eq_true rfl) (by rw [← hQ_]; exact ⟨(by rw [rX4_bestOf]; try simp only [if_neg c_1]), (by rw [sX4_bestOf]; try simp only [if_neg c_1])⟩)
  · refine z_aloadr_n dX4_bestOf_30 rfl ?_
    refine z_get (ci := 4) (r := (RX4, TX4, 10)) (j := 1) (v := .ref 11) dX4_bestOf_31 (Nat.le_of_ble_eq_true rfl) (zN rfl) rfl rfl (Nat.le_of_ble_eq_true rfl) fl_X4_15 rfl ?_
    refine z_iload_n dX4_bestOf_34 rfl ?_
    refine z_aloadr_n dX4_bestOf_35 rfl ?_
    refine z_aloadr_n dX4_bestOf_36 rfl ?_
    refine z_aloadr_n dX4_bestOf_37 rfl ?_
    refine z_callV (ci := 4) (r := (RX4, TX4, 10)) (b := 10) (As := [.ref (pO i1), .ref (pO i2)]) (rest := [.int ((((((σ 10) 0) * (24 : Int32)) + ((σ (pO i1)) 0)) * (24 : Int32)) + ((σ (pO i2)) 0)), .ref 11]) (ctX4_search P σ i1 h1 i2 h2 ((W_.2.1 c_1).1)) dX4_bestOf_38 lk_X4_142 lv_X4_search (Nat.le_of_ble_eq_true rfl) (zN rfl) rfl rfl rfl rfl (Nat.le_of_ble_eq_true rfl) (Nat.le_of_ble_eq_true rfl) (Nat.le_of_ble_eq_true rfl) (Nat.le_of_ble_eq_true rfl) (fun r_ h_ e_ => ?_)
    obtain ⟨e1_, e2_⟩ := e_
    subst e1_
    subst e2_
    show zz G mX4_bestOf 17 0 0 Q_ 41 [some (.ref 10), some (.ref (pO i1)), some (.ref (pO i2)), some (.int ((((((σ 10) 0) * (24 : Int32)) + ((σ (pO i1)) 0)) * (24 : Int32)) + ((σ (pO i2)) 0)))] [.int (rX4_search P σ i1 i2), .int ((((((σ 10) 0) * (24 : Int32)) + ((σ (pO i1)) 0)) * (24 : Int32)) + ((σ (pO i2)) 0)), .ref 11] (hh P (sX4_search P σ i1 i2)) 0 0
    refine z_iast (σ' := (zu (sX4_search P σ i1 i2) 11 (zu ((sX4_search P σ i1 i2) 11) ((((((σ 10) 0) * (24 : Int32)) + ((σ (pO i1)) 0)) * (24 : Int32)) + ((σ (pO i2)) 0)).toNatClampNeg (rX4_search P σ i1 i2)))) dX4_bestOf_41 (Nat.le_of_ble_eq_true rfl) (zN rfl) rfl ((W_.2.1 c_1).2.1) rfl ?_
    refine z_aloadr_n dX4_bestOf_42 rfl ?_
    refine z_get (ci := 4) (r := (RX4, TX4, 10)) (j := 1) (v := .ref 11) dX4_bestOf_43 (Nat.le_of_ble_eq_true rfl) (zN rfl) rfl rfl (Nat.le_of_ble_eq_true rfl) fl_X4_15 rfl ?_
    refine z_iload_n dX4_bestOf_46 rfl ?_
    refine z_iald (v := ((zu ((sX4_search P σ i1 i2) 11) ((((((σ 10) 0) * (24 : Int32)) + ((σ (pO i1)) 0)) * (24 : Int32)) + ((σ (pO i2)) 0)).toNatClampNeg (rX4_search P σ i1 i2)) ((((((σ 10) 0) * (24 : Int32)) + ((σ (pO i1)) 0)) * (24 : Int32)) + ((σ (pO i2)) 0)).toNatClampNeg)) dX4_bestOf_47 (zN rfl) rfl ((W_.2.1 c_1).2.2) (congrFun (zu_self _ _ _) _) ?_
    exact z_ireturn dX4_bestOf_48 rfl rfl (Nat.le_of_ble_eq_true rfl) (Nat.le_of_ble_eq_true rfl) (by rw [← hQ_]; exact ⟨(by rw [rX4_bestOf]; try simp only [if_pos c_1]), (by rw [sX4_bestOf]; try simp only [if_pos c_1])⟩)

theorem dX4_scoreOf_0 : decode cX4_scoreOf 0 = .ok (.aload_n 0, 1) := by decide +kernel
theorem dX4_scoreOf_1 : decode cX4_scoreOf 1 = .ok (.aload_n 1, 1) := by decide +kernel
theorem dX4_scoreOf_2 : decode cX4_scoreOf 2 = .ok (.aload_n 2, 1) := by decide +kernel
theorem dX4_scoreOf_3 : decode cX4_scoreOf 3 = .ok (.invokevirtual 57, 3) := by decide +kernel
theorem dX4_scoreOf_6 : decode cX4_scoreOf 6 = .ok (.istore_n 3, 1) := by decide +kernel
theorem dX4_scoreOf_7 : decode cX4_scoreOf 7 = .ok (.iload_n 3, 1) := by decide +kernel
theorem dX4_scoreOf_8 : decode cX4_scoreOf 8 = .ok (.iconst 1, 1) := by decide +kernel
theorem dX4_scoreOf_9 : decode cX4_scoreOf 9 = .ok (.if_icmp .ne 7, 3) := by decide +kernel
theorem dX4_scoreOf_12 : decode cX4_scoreOf 12 = .ok (.iconst 0, 1) := by decide +kernel
theorem dX4_scoreOf_13 : decode cX4_scoreOf 13 = .ok (.goto 7, 3) := by decide +kernel
theorem dX4_scoreOf_16 : decode cX4_scoreOf 16 = .ok (.iload_n 3, 1) := by decide +kernel
theorem dX4_scoreOf_17 : decode cX4_scoreOf 17 = .ok (.invokestatic 61, 3) := by decide +kernel
theorem dX4_scoreOf_20 : decode cX4_scoreOf 20 = .ok (.ireturn, 1) := by decide +kernel
def pX4_scoreOf (P : zp) (σ : zc_N) (i1 : Nat) (i2 : Nat) : Prop := (pX4_bestOf P σ i1 i2)
noncomputable def rX4_scoreOf (P : zp) (σ : zc_N) (i1 : Nat) (i2 : Nat) : Int32 := (if (rX4_bestOf P σ i1 i2) = (1 : Int32) then (0 : Int32) else (rX4_unpackScore (rX4_bestOf P σ i1 i2)))
noncomputable def sX4_scoreOf (P : zp) (σ : zc_N) (i1 : Nat) (i2 : Nat) : zc_N := (sX4_bestOf P σ i1 i2)
set_option maxHeartbeats 1000000 in
theorem ctX4_scoreOf (P : zp) (σ : zc_N) (i1 : Nat) (h1 : i1 < P.2.1) (i2 : Nat) (h2 : i2 < P.2.1) (W_ : (pX4_scoreOf P σ i1 i2)) : sp mX4_scoreOf 18 0 0 [.ref 10, .ref (pO i1), .ref (pO i2)] (hh P σ) (fun r_ h_ => r_ = some (.int (rX4_scoreOf P σ i1 i2)) ∧ h_ = hh P (sX4_scoreOf P σ i1 i2)) := by
  refine sp_of (lv := [some (.ref 10), some (.ref (pO i1)), some (.ref (pO i2)), none]) (by decide) (zcats_ok _ rfl) (Nat.le_of_ble_eq_true rfl) (zlv_ok _ 1 rfl) (fun G => ?_)
  generalize hQ_ : (fun (r_ : Option Value) (h_ : zc_H) => r_ = some (.int (rX4_scoreOf P σ i1 i2)) ∧ h_ = hh P (sX4_scoreOf P σ i1 i2)) = Q_
  unfold pX4_scoreOf at W_
  refine z_aloadr_n dX4_scoreOf_0 rfl ?_
  refine z_aloadr_n dX4_scoreOf_1 rfl ?_
  refine z_aloadr_n dX4_scoreOf_2 rfl ?_
  refine z_callV (ci := 4) (r := (RX4, TX4, 10)) (b := 10) (As := [.ref (pO i1), .ref (pO i2)]) (rest := []) (ctX4_bestOf P σ i1 h1 i2 h2 W_) dX4_scoreOf_3 lk_X4_57 lv_X4_bestOf (Nat.le_of_ble_eq_true rfl) (zN rfl) rfl rfl rfl rfl (Nat.le_of_ble_eq_true rfl) (Nat.le_of_ble_eq_true rfl) (Nat.le_of_ble_eq_true rfl) (Nat.le_of_ble_eq_true rfl) (fun r_ h_ e_ => ?_)
  obtain ⟨e1_, e2_⟩ := e_
  subst e1_
  subst e2_
  show zz G mX4_scoreOf 18 0 0 Q_ 6 [some (.ref 10), some (.ref (pO i1)), some (.ref (pO i2)), none] [.int (rX4_bestOf P σ i1 i2)] (hh P (sX4_bestOf P σ i1 i2)) 0 0
  refine z_istore_n (lv' := [some (.ref 10), some (.ref (pO i1)), some (.ref (pO i2)), some (.int (rX4_bestOf P σ i1 i2))]) dX4_scoreOf_6 (Nat.le_of_ble_eq_true rfl) rfl ?_
  refine z_iload_n dX4_scoreOf_7 rfl ?_
  refine z_iconst dX4_scoreOf_8 k_iconst_1 ?_
  have K_1 : zz G mX4_scoreOf 18 0 0 Q_ 20 [none, none, none, none] [.int (if (rX4_bestOf P σ i1 i2) = (1 : Int32) then (0 : Int32) else (rX4_unpackScore (rX4_bestOf P σ i1 i2)))] (hh P (sX4_bestOf P σ i1 i2)) 0 0 := by
    exact z_ireturn dX4_scoreOf_20 rfl rfl (Nat.le_of_ble_eq_true rfl) (Nat.le_of_ble_eq_true rfl) (by rw [← hQ_]; exact ⟨(by rw [rX4_scoreOf]), (by rw [sX4_scoreOf])⟩)
  refine z_icmp_ne (tgt := 16) dX4_scoreOf_9 (by decide) (fun c_1 => ?_) (fun c_1 => ?_)
  · refine z_iload_n dX4_scoreOf_16 rfl ?_
    refine z_callS (As := [.int (rX4_bestOf P σ i1 i2)]) (rest := []) (ctX4_unpackScore P (sX4_bestOf P σ i1 i2) (rX4_bestOf P σ i1 i2)) dX4_scoreOf_17 lk_X4_61 ls_X4_unpackScore rfl (Nat.le_of_ble_eq_true rfl) (Nat.le_of_ble_eq_true rfl) (Nat.le_of_ble_eq_true rfl) (Nat.le_of_ble_eq_true rfl) (fun r_ h_ e_ => ?_)
    obtain ⟨e1_, e2_⟩ := e_
    subst e1_
    subst e2_
    show zz G mX4_scoreOf 18 0 0 Q_ 20 [some (.ref 10), some (.ref (pO i1)), some (.ref (pO i2)), some (.int (rX4_bestOf P σ i1 i2))] [.int (rX4_unpackScore (rX4_bestOf P σ i1 i2))] (hh P (sX4_bestOf P σ i1 i2)) 0 0
    refine zz_sub (lv' := [none, none, none, none]) trivial ?_
    rw [show (if (rX4_bestOf P σ i1 i2) = (1 : Int32) then (0 : Int32) else (rX4_unpackScore (rX4_bestOf P σ i1 i2))) = (rX4_unpackScore (rX4_bestOf P σ i1 i2)) from (if_neg c_1)] at K_1
    exact K_1
  · refine z_iconst dX4_scoreOf_12 k_iconst_0 ?_
    refine z_goto (tgt := 20) dX4_scoreOf_13 (by decide) ?_
    refine zz_sub (lv' := [none, none, none, none]) trivial ?_
    rw [show (if (rX4_bestOf P σ i1 i2) = (1 : Int32) then (0 : Int32) else (rX4_unpackScore (rX4_bestOf P σ i1 i2))) = (0 : Int32) from (if_pos c_1)] at K_1
    exact K_1

theorem dX4_layBest_0 : decode cX4_layBest 0 = .ok (.aload_n 0, 1) := by decide +kernel
theorem dX4_layBest_1 : decode cX4_layBest 1 = .ok (.aload_n 1, 1) := by decide +kernel
theorem dX4_layBest_2 : decode cX4_layBest 2 = .ok (.aload_n 2, 1) := by decide +kernel
theorem dX4_layBest_3 : decode cX4_layBest 3 = .ok (.invokevirtual 57, 3) := by decide +kernel
theorem dX4_layBest_6 : decode cX4_layBest 6 = .ok (.istore 4, 2) := by decide +kernel
theorem dX4_layBest_8 : decode cX4_layBest 8 = .ok (.iload 4, 2) := by decide +kernel
theorem dX4_layBest_10 : decode cX4_layBest 10 = .ok (.iconst 1, 1) := by decide +kernel
theorem dX4_layBest_11 : decode cX4_layBest 11 = .ok (.if_icmp .ne 8, 3) := by decide +kernel
theorem dX4_layBest_14 : decode cX4_layBest 14 = .ok (.aload_n 3, 1) := by decide +kernel
theorem dX4_layBest_15 : decode cX4_layBest 15 = .ok (.invokevirtual 65, 3) := by decide +kernel
theorem dX4_layBest_18 : decode cX4_layBest 18 = .ok (.return_, 1) := by decide +kernel
theorem dX4_layBest_19 : decode cX4_layBest 19 = .ok (.aload_n 3, 1) := by decide +kernel
theorem dX4_layBest_20 : decode cX4_layBest 20 = .ok (.iload 4, 2) := by decide +kernel
theorem dX4_layBest_22 : decode cX4_layBest 22 = .ok (.invokestatic 70, 3) := by decide +kernel
theorem dX4_layBest_25 : decode cX4_layBest 25 = .ok (.iload 4, 2) := by decide +kernel
theorem dX4_layBest_27 : decode cX4_layBest 27 = .ok (.invokestatic 73, 3) := by decide +kernel
theorem dX4_layBest_30 : decode cX4_layBest 30 = .ok (.iload 4, 2) := by decide +kernel
theorem dX4_layBest_32 : decode cX4_layBest 32 = .ok (.invokestatic 76, 3) := by decide +kernel
theorem dX4_layBest_35 : decode cX4_layBest 35 = .ok (.invokevirtual 79, 3) := by decide +kernel
theorem dX4_layBest_38 : decode cX4_layBest 38 = .ok (.aload_n 0, 1) := by decide +kernel
theorem dX4_layBest_39 : decode cX4_layBest 39 = .ok (.aload_n 1, 1) := by decide +kernel
theorem dX4_layBest_40 : decode cX4_layBest 40 = .ok (.aload_n 2, 1) := by decide +kernel
theorem dX4_layBest_41 : decode cX4_layBest 41 = .ok (.aload_n 3, 1) := by decide +kernel
theorem dX4_layBest_42 : decode cX4_layBest 42 = .ok (.invokevirtual 83, 3) := by decide +kernel
theorem dX4_layBest_45 : decode cX4_layBest 45 = .ok (.return_, 1) := by decide +kernel
noncomputable def vX4_layBest_l_1 (P : zp) (i1 : Nat) (i2 : Nat) (σ : zc_N) : zc_N := (sX3_set_l (sX4_bestOf P σ i1 i2) (rX4_unpackTurn (rX4_bestOf P σ i1 i2)) (rX4_unpackColumn (rX4_bestOf P σ i1 i2)) (rX4_unpackRow (rX4_bestOf P σ i1 i2)))
def pX4_layBest_l (P : zp) (σ : zc_N) (i1 : Nat) (i2 : Nat) : Prop := ((pX4_bestOf P σ i1 i2) ∧ (((rX4_bestOf P σ i1 i2) = (1 : Int32) → (pX3_setNone_l (sX4_bestOf P σ i1 i2))) ∧ (¬ (rX4_bestOf P σ i1 i2) = (1 : Int32) → (pX4_fillIn_l P (vX4_layBest_l_1 P i1 i2 σ) i1 i2))))
noncomputable def sX4_layBest_l (P : zp) (σ : zc_N) (i1 : Nat) (i2 : Nat) : zc_N := (if (rX4_bestOf P σ i1 i2) = (1 : Int32) then (sX3_setNone_l (sX4_bestOf P σ i1 i2)) else (sX4_fillIn_l P (vX4_layBest_l_1 P i1 i2 σ) i1 i2))
set_option maxHeartbeats 1000000 in
theorem ctX4_layBest_l (P : zp) (σ : zc_N) (i1 : Nat) (h1 : i1 < P.2.1) (i2 : Nat) (h2 : i2 < P.2.1) (W_ : (pX4_layBest_l P σ i1 i2)) : sp mX4_layBest 18 0 0 [.ref 10, .ref (pO i1), .ref (pO i2), .ref 23] (hh P σ) (fun r_ h_ => r_ = none ∧ h_ = hh P (sX4_layBest_l P σ i1 i2)) := by
  refine sp_of (lv := [some (.ref 10), some (.ref (pO i1)), some (.ref (pO i2)), some (.ref 23), none]) (by decide) (zcats_ok _ rfl) (Nat.le_of_ble_eq_true rfl) (zlv_ok _ 1 rfl) (fun G => ?_)
  generalize hQ_ : (fun (r_ : Option Value) (h_ : zc_H) => r_ = none ∧ h_ = hh P (sX4_layBest_l P σ i1 i2)) = Q_
  unfold pX4_layBest_l at W_
  refine z_aloadr_n dX4_layBest_0 rfl ?_
  refine z_aloadr_n dX4_layBest_1 rfl ?_
  refine z_aloadr_n dX4_layBest_2 rfl ?_
  refine z_callV (ci := 4) (r := (RX4, TX4, 10)) (b := 10) (As := [.ref (pO i1), .ref (pO i2)]) (rest := []) (ctX4_bestOf P σ i1 h1 i2 h2 W_.1) dX4_layBest_3 lk_X4_57 lv_X4_bestOf (Nat.le_of_ble_eq_true rfl) (zN rfl) rfl rfl rfl rfl (Nat.le_of_ble_eq_true rfl) (Nat.le_of_ble_eq_true rfl) (Nat.le_of_ble_eq_true rfl) (Nat.le_of_ble_eq_true rfl) (fun r_ h_ e_ => ?_)
  obtain ⟨e1_, e2_⟩ := e_
  subst e1_
  subst e2_
  show zz G mX4_layBest 18 0 0 Q_ 6 [some (.ref 10), some (.ref (pO i1)), some (.ref (pO i2)), some (.ref 23), none] [.int (rX4_bestOf P σ i1 i2)] (hh P (sX4_bestOf P σ i1 i2)) 0 0
  refine z_istore (lv' := [some (.ref 10), some (.ref (pO i1)), some (.ref (pO i2)), some (.ref 23), some (.int (rX4_bestOf P σ i1 i2))]) dX4_layBest_6 (Nat.le_of_ble_eq_true rfl) rfl ?_
  refine z_iload dX4_layBest_8 rfl ?_
  refine z_iconst dX4_layBest_10 k_iconst_1 ?_
  refine z_icmp_ne (tgt := 19) dX4_layBest_11 (by decide) (fun c_1 => ?_) (fun c_1 => ?_)
  · refine z_aloadr_n dX4_layBest_19 rfl ?_
    refine z_iload dX4_layBest_20 rfl ?_
    refine z_callS (As := [.int (rX4_bestOf P σ i1 i2)]) (rest := [.ref 23]) (ctX4_unpackTurn P (sX4_bestOf P σ i1 i2) (rX4_bestOf P σ i1 i2)) dX4_layBest_22 lk_X4_70 ls_X4_unpackTurn rfl (Nat.le_of_ble_eq_true rfl) (Nat.le_of_ble_eq_true rfl) (Nat.le_of_ble_eq_true rfl) (Nat.le_of_ble_eq_true rfl) (fun r_ h_ e_ => ?_)
    obtain ⟨e1_, e2_⟩ := e_
    subst e1_
    subst e2_
    show zz G mX4_layBest 18 0 0 Q_ 25 [some (.ref 10), some (.ref (pO i1)), some (.ref (pO i2)), some (.ref 23), some (.int (rX4_bestOf P σ i1 i2))] [.int (rX4_unpackTurn (rX4_bestOf P σ i1 i2)), .ref 23] (hh P (sX4_bestOf P σ i1 i2)) 0 0
    refine z_iload dX4_layBest_25 rfl ?_
    refine z_callS (As := [.int (rX4_bestOf P σ i1 i2)]) (rest := [.int (rX4_unpackTurn (rX4_bestOf P σ i1 i2)), .ref 23]) (ctX4_unpackColumn P (sX4_bestOf P σ i1 i2) (rX4_bestOf P σ i1 i2)) dX4_layBest_27 lk_X4_73 ls_X4_unpackColumn rfl (Nat.le_of_ble_eq_true rfl) (Nat.le_of_ble_eq_true rfl) (Nat.le_of_ble_eq_true rfl) (Nat.le_of_ble_eq_true rfl) (fun r_ h_ e_ => ?_)
    obtain ⟨e1_, e2_⟩ := e_
    subst e1_
    subst e2_
    show zz G mX4_layBest 18 0 0 Q_ 30 [some (.ref 10), some (.ref (pO i1)), some (.ref (pO i2)), some (.ref 23), some (.int (rX4_bestOf P σ i1 i2))] [.int (rX4_unpackColumn (rX4_bestOf P σ i1 i2)), .int (rX4_unpackTurn (rX4_bestOf P σ i1 i2)), .ref 23] (hh P (sX4_bestOf P σ i1 i2)) 0 0
    refine z_iload dX4_layBest_30 rfl ?_
    refine z_callS (As := [.int (rX4_bestOf P σ i1 i2)]) (rest := [.int (rX4_unpackColumn (rX4_bestOf P σ i1 i2)), .int (rX4_unpackTurn (rX4_bestOf P σ i1 i2)), .ref 23]) (ctX4_unpackRow P (sX4_bestOf P σ i1 i2) (rX4_bestOf P σ i1 i2)) dX4_layBest_32 lk_X4_76 ls_X4_unpackRow rfl (Nat.le_of_ble_eq_true rfl) (Nat.le_of_ble_eq_true rfl) (Nat.le_of_ble_eq_true rfl) (Nat.le_of_ble_eq_true rfl) (fun r_ h_ e_ => ?_)
    obtain ⟨e1_, e2_⟩ := e_
    subst e1_
    subst e2_
    show zz G mX4_layBest 18 0 0 Q_ 35 [some (.ref 10), some (.ref (pO i1)), some (.ref (pO i2)), some (.ref 23), some (.int (rX4_bestOf P σ i1 i2))] [.int (rX4_unpackRow (rX4_bestOf P σ i1 i2)), .int (rX4_unpackColumn (rX4_bestOf P σ i1 i2)), .int (rX4_unpackTurn (rX4_bestOf P σ i1 i2)), .ref 23] (hh P (sX4_bestOf P σ i1 i2)) 0 0
    refine z_callV (ci := 3) (r := (RX3, TX3, 10)) (b := 23) (As := [.int (rX4_unpackTurn (rX4_bestOf P σ i1 i2)), .int (rX4_unpackColumn (rX4_bestOf P σ i1 i2)), .int (rX4_unpackRow (rX4_bestOf P σ i1 i2))]) (rest := []) (ctX3_set_l P (sX4_bestOf P σ i1 i2) (rX4_unpackTurn (rX4_bestOf P σ i1 i2)) (rX4_unpackColumn (rX4_bestOf P σ i1 i2)) (rX4_unpackRow (rX4_bestOf P σ i1 i2))) dX4_layBest_35 lk_X4_79 lv_X3_set (Nat.le_of_ble_eq_true rfl) (zN rfl) rfl rfl rfl rfl (Nat.le_of_ble_eq_true rfl) (Nat.le_of_ble_eq_true rfl) (Nat.le_of_ble_eq_true rfl) (Nat.le_of_ble_eq_true rfl) (fun r_ h_ e_ => ?_)
    obtain ⟨e1_, e2_⟩ := e_
    subst e1_
    subst e2_
    show zz G mX4_layBest 18 0 0 Q_ 38 [some (.ref 10), some (.ref (pO i1)), some (.ref (pO i2)), some (.ref 23), some (.int (rX4_bestOf P σ i1 i2))] [] (hh P (vX4_layBest_l_1 P i1 i2 σ)) 0 0
    refine z_aloadr_n dX4_layBest_38 rfl ?_
    refine z_aloadr_n dX4_layBest_39 rfl ?_
    refine z_aloadr_n dX4_layBest_40 rfl ?_
    refine z_aloadr_n dX4_layBest_41 rfl ?_
    refine z_callV (ci := 4) (r := (RX4, TX4, 10)) (b := 10) (As := [.ref (pO i1), .ref (pO i2), .ref 23]) (rest := []) (ctX4_fillIn_l P (vX4_layBest_l_1 P i1 i2 σ) i1 h1 i2 h2 (W_.2.2 c_1)) dX4_layBest_42 lk_X4_83 lv_X4_fillIn (Nat.le_of_ble_eq_true rfl) (zN rfl) rfl rfl rfl rfl (Nat.le_of_ble_eq_true rfl) (Nat.le_of_ble_eq_true rfl) (Nat.le_of_ble_eq_true rfl) (Nat.le_of_ble_eq_true rfl) (fun r_ h_ e_ => ?_)
    obtain ⟨e1_, e2_⟩ := e_
    subst e1_
    subst e2_
    show zz G mX4_layBest 18 0 0 Q_ 45 [some (.ref 10), some (.ref (pO i1)), some (.ref (pO i2)), some (.ref 23), some (.int (rX4_bestOf P σ i1 i2))] [] (hh P (sX4_fillIn_l P (vX4_layBest_l_1 P i1 i2 σ) i1 i2)) 0 0
    exact z_return dX4_layBest_45 rfl (Nat.le_of_ble_eq_true rfl) (Nat.le_of_ble_eq_true rfl) (by rw [← hQ_]; exact ⟨rfl, (by rw [sX4_layBest_l]; try simp only [if_neg c_1])⟩)
  · refine z_aloadr_n dX4_layBest_14 rfl ?_
    refine z_callV (ci := 3) (r := (RX3, TX3, 10)) (b := 23) (As := []) (rest := []) (ctX3_setNone_l P (sX4_bestOf P σ i1 i2) (W_.2.1 c_1)) dX4_layBest_15 lk_X4_65 lv_X3_setNone (Nat.le_of_ble_eq_true rfl) (zN rfl) rfl rfl rfl rfl (Nat.le_of_ble_eq_true rfl) (Nat.le_of_ble_eq_true rfl) (Nat.le_of_ble_eq_true rfl) (Nat.le_of_ble_eq_true rfl) (fun r_ h_ e_ => ?_)
    obtain ⟨e1_, e2_⟩ := e_
    subst e1_
    subst e2_
    show zz G mX4_layBest 18 0 0 Q_ 18 [some (.ref 10), some (.ref (pO i1)), some (.ref (pO i2)), some (.ref 23), some (.int (rX4_bestOf P σ i1 i2))] [] (hh P (sX3_setNone_l (sX4_bestOf P σ i1 i2))) 0 0
    exact z_return dX4_layBest_18 rfl (Nat.le_of_ble_eq_true rfl) (Nat.le_of_ble_eq_true rfl) (by rw [← hQ_]; exact ⟨rfl, (by rw [sX4_layBest_l]; try simp only [if_pos c_1])⟩)


noncomputable def vX4_layBest_t_2 (P : zp) (i1 : Nat) (i2 : Nat) (σ : zc_N) : zc_N := (sX3_set_t (sX4_bestOf P σ i1 i2) (rX4_unpackTurn (rX4_bestOf P σ i1 i2)) (rX4_unpackColumn (rX4_bestOf P σ i1 i2)) (rX4_unpackRow (rX4_bestOf P σ i1 i2)))
def pX4_layBest_t (P : zp) (σ : zc_N) (i1 : Nat) (i2 : Nat) : Prop := ((pX4_bestOf P σ i1 i2) ∧ (((rX4_bestOf P σ i1 i2) = (1 : Int32) → (pX3_setNone_t (sX4_bestOf P σ i1 i2))) ∧ (¬ (rX4_bestOf P σ i1 i2) = (1 : Int32) → (pX4_fillIn_t P (vX4_layBest_t_2 P i1 i2 σ) i1 i2))))
noncomputable def sX4_layBest_t (P : zp) (σ : zc_N) (i1 : Nat) (i2 : Nat) : zc_N := (if (rX4_bestOf P σ i1 i2) = (1 : Int32) then (sX3_setNone_t (sX4_bestOf P σ i1 i2)) else (sX4_fillIn_t P (vX4_layBest_t_2 P i1 i2 σ) i1 i2))
set_option maxHeartbeats 1000000 in
theorem ctX4_layBest_t (P : zp) (σ : zc_N) (i1 : Nat) (h1 : i1 < P.2.1) (i2 : Nat) (h2 : i2 < P.2.1) (W_ : (pX4_layBest_t P σ i1 i2)) : sp mX4_layBest 18 0 0 [.ref 10, .ref (pO i1), .ref (pO i2), .ref 25] (hh P σ) (fun r_ h_ => r_ = none ∧ h_ = hh P (sX4_layBest_t P σ i1 i2)) := by
  refine sp_of (lv := [some (.ref 10), some (.ref (pO i1)), some (.ref (pO i2)), some (.ref 25), none]) (by decide) (zcats_ok _ rfl) (Nat.le_of_ble_eq_true rfl) (zlv_ok _ 1 rfl) (fun G => ?_)
  generalize hQ_ : (fun (r_ : Option Value) (h_ : zc_H) => r_ = none ∧ h_ = hh P (sX4_layBest_t P σ i1 i2)) = Q_
  unfold pX4_layBest_t at W_
  refine z_aloadr_n dX4_layBest_0 rfl ?_
  refine z_aloadr_n dX4_layBest_1 rfl ?_
  refine z_aloadr_n dX4_layBest_2 rfl ?_
  refine z_callV (ci := 4) (r := (RX4, TX4, 10)) (b := 10) (As := [.ref (pO i1), .ref (pO i2)]) (rest := []) (ctX4_bestOf P σ i1 h1 i2 h2 W_.1) dX4_layBest_3 lk_X4_57 lv_X4_bestOf (Nat.le_of_ble_eq_true rfl) (zN rfl) rfl rfl rfl rfl (Nat.le_of_ble_eq_true rfl) (Nat.le_of_ble_eq_true rfl) (Nat.le_of_ble_eq_true rfl) (Nat.le_of_ble_eq_true rfl) (fun r_ h_ e_ => ?_)
  obtain ⟨e1_, e2_⟩ := e_
  subst e1_
  subst e2_
  show zz G mX4_layBest 18 0 0 Q_ 6 [some (.ref 10), some (.ref (pO i1)), some (.ref (pO i2)), some (.ref 25), none] [.int (rX4_bestOf P σ i1 i2)] (hh P (sX4_bestOf P σ i1 i2)) 0 0
  refine z_istore (lv' := [some (.ref 10), some (.ref (pO i1)), some (.ref (pO i2)), some (.ref 25), some (.int (rX4_bestOf P σ i1 i2))]) dX4_layBest_6 (Nat.le_of_ble_eq_true rfl) rfl ?_
  refine z_iload dX4_layBest_8 rfl ?_
  refine z_iconst dX4_layBest_10 k_iconst_1 ?_
  refine z_icmp_ne (tgt := 19) dX4_layBest_11 (by decide) (fun c_1 => ?_) (fun c_1 => ?_)
  · refine z_aloadr_n dX4_layBest_19 rfl ?_
    refine z_iload dX4_layBest_20 rfl ?_
    refine z_callS (As := [.int (rX4_bestOf P σ i1 i2)]) (rest := [.ref 25]) (ctX4_unpackTurn P (sX4_bestOf P σ i1 i2) (rX4_bestOf P σ i1 i2)) dX4_layBest_22 lk_X4_70 ls_X4_unpackTurn rfl (Nat.le_of_ble_eq_true rfl) (Nat.le_of_ble_eq_true rfl) (Nat.le_of_ble_eq_true rfl) (Nat.le_of_ble_eq_true rfl) (fun r_ h_ e_ => ?_)
    obtain ⟨e1_, e2_⟩ := e_
    subst e1_
    subst e2_
    show zz G mX4_layBest 18 0 0 Q_ 25 [some (.ref 10), some (.ref (pO i1)), some (.ref (pO i2)), some (.ref 25), some (.int (rX4_bestOf P σ i1 i2))] [.int (rX4_unpackTurn (rX4_bestOf P σ i1 i2)), .ref 25] (hh P (sX4_bestOf P σ i1 i2)) 0 0
    refine z_iload dX4_layBest_25 rfl ?_
    refine z_callS (As := [.int (rX4_bestOf P σ i1 i2)]) (rest := [.int (rX4_unpackTurn (rX4_bestOf P σ i1 i2)), .ref 25]) (ctX4_unpackColumn P (sX4_bestOf P σ i1 i2) (rX4_bestOf P σ i1 i2)) dX4_layBest_27 lk_X4_73 ls_X4_unpackColumn rfl (Nat.le_of_ble_eq_true rfl) (Nat.le_of_ble_eq_true rfl) (Nat.le_of_ble_eq_true rfl) (Nat.le_of_ble_eq_true rfl) (fun r_ h_ e_ => ?_)
    obtain ⟨e1_, e2_⟩ := e_
    subst e1_
    subst e2_
    show zz G mX4_layBest 18 0 0 Q_ 30 [some (.ref 10), some (.ref (pO i1)), some (.ref (pO i2)), some (.ref 25), some (.int (rX4_bestOf P σ i1 i2))] [.int (rX4_unpackColumn (rX4_bestOf P σ i1 i2)), .int (rX4_unpackTurn (rX4_bestOf P σ i1 i2)), .ref 25] (hh P (sX4_bestOf P σ i1 i2)) 0 0
    refine z_iload dX4_layBest_30 rfl ?_
    refine z_callS (As := [.int (rX4_bestOf P σ i1 i2)]) (rest := [.int (rX4_unpackColumn (rX4_bestOf P σ i1 i2)), .int (rX4_unpackTurn (rX4_bestOf P σ i1 i2)), .ref 25]) (ctX4_unpackRow P (sX4_bestOf P σ i1 i2) (rX4_bestOf P σ i1 i2)) dX4_layBest_32 lk_X4_76 ls_X4_unpackRow rfl (Nat.le_of_ble_eq_true rfl) (Nat.le_of_ble_eq_true rfl) (Nat.le_of_ble_eq_true rfl) (Nat.le_of_ble_eq_true rfl) (fun r_ h_ e_ => ?_)
    obtain ⟨e1_, e2_⟩ := e_
    subst e1_
    subst e2_
    show zz G mX4_layBest 18 0 0 Q_ 35 [some (.ref 10), some (.ref (pO i1)), some (.ref (pO i2)), some (.ref 25), some (.int (rX4_bestOf P σ i1 i2))] [.int (rX4_unpackRow (rX4_bestOf P σ i1 i2)), .int (rX4_unpackColumn (rX4_bestOf P σ i1 i2)), .int (rX4_unpackTurn (rX4_bestOf P σ i1 i2)), .ref 25] (hh P (sX4_bestOf P σ i1 i2)) 0 0
    refine z_callV (ci := 3) (r := (RX3, TX3, 10)) (b := 25) (As := [.int (rX4_unpackTurn (rX4_bestOf P σ i1 i2)), .int (rX4_unpackColumn (rX4_bestOf P σ i1 i2)), .int (rX4_unpackRow (rX4_bestOf P σ i1 i2))]) (rest := []) (ctX3_set_t P (sX4_bestOf P σ i1 i2) (rX4_unpackTurn (rX4_bestOf P σ i1 i2)) (rX4_unpackColumn (rX4_bestOf P σ i1 i2)) (rX4_unpackRow (rX4_bestOf P σ i1 i2))) dX4_layBest_35 lk_X4_79 lv_X3_set (Nat.le_of_ble_eq_true rfl) (zN rfl) rfl rfl rfl rfl (Nat.le_of_ble_eq_true rfl) (Nat.le_of_ble_eq_true rfl) (Nat.le_of_ble_eq_true rfl) (Nat.le_of_ble_eq_true rfl) (fun r_ h_ e_ => ?_)
    obtain ⟨e1_, e2_⟩ := e_
    subst e1_
    subst e2_
    show zz G mX4_layBest 18 0 0 Q_ 38 [some (.ref 10), some (.ref (pO i1)), some (.ref (pO i2)), some (.ref 25), some (.int (rX4_bestOf P σ i1 i2))] [] (hh P (vX4_layBest_t_2 P i1 i2 σ)) 0 0
    refine z_aloadr_n dX4_layBest_38 rfl ?_
    refine z_aloadr_n dX4_layBest_39 rfl ?_
    refine z_aloadr_n dX4_layBest_40 rfl ?_
    refine z_aloadr_n dX4_layBest_41 rfl ?_
    refine z_callV (ci := 4) (r := (RX4, TX4, 10)) (b := 10) (As := [.ref (pO i1), .ref (pO i2), .ref 25]) (rest := []) (ctX4_fillIn_t P (vX4_layBest_t_2 P i1 i2 σ) i1 h1 i2 h2 (W_.2.2 c_1)) dX4_layBest_42 lk_X4_83 lv_X4_fillIn (Nat.le_of_ble_eq_true rfl) (zN rfl) rfl rfl rfl rfl (Nat.le_of_ble_eq_true rfl) (Nat.le_of_ble_eq_true rfl) (Nat.le_of_ble_eq_true rfl) (Nat.le_of_ble_eq_true rfl) (fun r_ h_ e_ => ?_)
    obtain ⟨e1_, e2_⟩ := e_
    subst e1_
    subst e2_
    show zz G mX4_layBest 18 0 0 Q_ 45 [some (.ref 10), some (.ref (pO i1)), some (.ref (pO i2)), some (.ref 25), some (.int (rX4_bestOf P σ i1 i2))] [] (hh P (sX4_fillIn_t P (vX4_layBest_t_2 P i1 i2 σ) i1 i2)) 0 0
    exact z_return dX4_layBest_45 rfl (Nat.le_of_ble_eq_true rfl) (Nat.le_of_ble_eq_true rfl) (by rw [← hQ_]; exact ⟨rfl, (by rw [sX4_layBest_t]; try simp only [if_neg c_1])⟩)
  · refine z_aloadr_n dX4_layBest_14 rfl ?_
    refine z_callV (ci := 3) (r := (RX3, TX3, 10)) (b := 25) (As := []) (rest := []) (ctX3_setNone_t P (sX4_bestOf P σ i1 i2) (W_.2.1 c_1)) dX4_layBest_15 lk_X4_65 lv_X3_setNone (Nat.le_of_ble_eq_true rfl) (zN rfl) rfl rfl rfl rfl (Nat.le_of_ble_eq_true rfl) (Nat.le_of_ble_eq_true rfl) (Nat.le_of_ble_eq_true rfl) (Nat.le_of_ble_eq_true rfl) (fun r_ h_ e_ => ?_)
    obtain ⟨e1_, e2_⟩ := e_
    subst e1_
    subst e2_
    show zz G mX4_layBest 18 0 0 Q_ 18 [some (.ref 10), some (.ref (pO i1)), some (.ref (pO i2)), some (.ref 25), some (.int (rX4_bestOf P σ i1 i2))] [] (hh P (sX3_setNone_t (sX4_bestOf P σ i1 i2))) 0 0
    exact z_return dX4_layBest_18 rfl (Nat.le_of_ble_eq_true rfl) (Nat.le_of_ble_eq_true rfl) (by rw [← hQ_]; exact ⟨rfl, (by rw [sX4_layBest_t]; try simp only [if_pos c_1])⟩)

theorem dX1_takeRest_38 : decode cX1_takeRest 38 = .ok (.iload 6, 2) := by decide +kernel
theorem dX1_takeRest_40 : decode cX1_takeRest 40 = .ok (.iload_n 3, 1) := by decide +kernel
theorem dX1_takeRest_41 : decode cX1_takeRest 41 = .ok (.if_icmp .ge 86, 3) := by decide +kernel
theorem dX1_takeRest_44 : decode cX1_takeRest 44 = .ok (.aload_n 0, 1) := by decide +kernel
theorem dX1_takeRest_45 : decode cX1_takeRest 45 = .ok (.getfield 18, 3) := by decide +kernel
theorem dX1_takeRest_48 : decode cX1_takeRest 48 = .ok (.iload 5, 2) := by decide +kernel
theorem dX1_takeRest_50 : decode cX1_takeRest 50 = .ok (.iaload, 1) := by decide +kernel
theorem dX1_takeRest_51 : decode cX1_takeRest 51 = .ok (.bipush 18, 2) := by decide +kernel
theorem dX1_takeRest_53 : decode cX1_takeRest 53 = .ok (.irem, 1) := by decide +kernel
theorem dX1_takeRest_54 : decode cX1_takeRest 54 = .ok (.getstatic 66, 3) := by decide +kernel
theorem dX1_takeRest_57 : decode cX1_takeRest 57 = .ok (.iload 6, 2) := by decide +kernel
theorem dX1_takeRest_59 : decode cX1_takeRest 59 = .ok (.iaload, 1) := by decide +kernel
theorem dX1_takeRest_60 : decode cX1_takeRest 60 = .ok (.iadd, 1) := by decide +kernel
theorem dX1_takeRest_61 : decode cX1_takeRest 61 = .ok (.istore 7, 2) := by decide +kernel
theorem dX1_takeRest_63 : decode cX1_takeRest 63 = .ok (.aload_n 0, 1) := by decide +kernel
theorem dX1_takeRest_64 : decode cX1_takeRest 64 = .ok (.getfield 18, 3) := by decide +kernel
theorem dX1_takeRest_67 : decode cX1_takeRest 67 = .ok (.iload 5, 2) := by decide +kernel
theorem dX1_takeRest_69 : decode cX1_takeRest 69 = .ok (.iaload, 1) := by decide +kernel
theorem dX1_takeRest_70 : decode cX1_takeRest 70 = .ok (.bipush 18, 2) := by decide +kernel
theorem dX1_takeRest_72 : decode cX1_takeRest 72 = .ok (.idiv, 1) := by decide +kernel
theorem dX1_takeRest_73 : decode cX1_takeRest 73 = .ok (.getstatic 69, 3) := by decide +kernel
theorem dX1_takeRest_76 : decode cX1_takeRest 76 = .ok (.iload 6, 2) := by decide +kernel
theorem dX1_takeRest_78 : decode cX1_takeRest 78 = .ok (.iaload, 1) := by decide +kernel
theorem dX1_takeRest_79 : decode cX1_takeRest 79 = .ok (.iadd, 1) := by decide +kernel
theorem dX1_takeRest_80 : decode cX1_takeRest 80 = .ok (.istore 8, 2) := by decide +kernel
theorem dX1_takeRest_82 : decode cX1_takeRest 82 = .ok (.iload 4, 2) := by decide +kernel
theorem dX1_takeRest_84 : decode cX1_takeRest 84 = .ok (.aload_n 0, 1) := by decide +kernel
theorem dX1_takeRest_85 : decode cX1_takeRest 85 = .ok (.getfield 18, 3) := by decide +kernel
theorem dX1_takeRest_88 : decode cX1_takeRest 88 = .ok (.arraylength, 1) := by decide +kernel
theorem dX1_takeRest_89 : decode cX1_takeRest 89 = .ok (.if_icmp .ge 32, 3) := by decide +kernel
theorem dX1_takeRest_92 : decode cX1_takeRest 92 = .ok (.aload_n 0, 1) := by decide +kernel
theorem dX1_takeRest_93 : decode cX1_takeRest 93 = .ok (.iload 7, 2) := by decide +kernel
theorem dX1_takeRest_95 : decode cX1_takeRest 95 = .ok (.iload 8, 2) := by decide +kernel
theorem dX1_takeRest_97 : decode cX1_takeRest 97 = .ok (.invokevirtual 59, 3) := by decide +kernel
theorem dX1_takeRest_100 : decode cX1_takeRest 100 = .ok (.ifCond .eq 21, 3) := by decide +kernel
theorem dX1_takeRest_103 : decode cX1_takeRest 103 = .ok (.aload_n 0, 1) := by decide +kernel
theorem dX1_takeRest_104 : decode cX1_takeRest 104 = .ok (.getfield 18, 3) := by decide +kernel
theorem dX1_takeRest_107 : decode cX1_takeRest 107 = .ok (.iload 4, 2) := by decide +kernel
theorem dX1_takeRest_109 : decode cX1_takeRest 109 = .ok (.iload 8, 2) := by decide +kernel
theorem dX1_takeRest_111 : decode cX1_takeRest 111 = .ok (.bipush 18, 2) := by decide +kernel
theorem dX1_takeRest_113 : decode cX1_takeRest 113 = .ok (.imul, 1) := by decide +kernel
theorem dX1_takeRest_114 : decode cX1_takeRest 114 = .ok (.iload 7, 2) := by decide +kernel
theorem dX1_takeRest_116 : decode cX1_takeRest 116 = .ok (.iadd, 1) := by decide +kernel
theorem dX1_takeRest_117 : decode cX1_takeRest 117 = .ok (.iastore, 1) := by decide +kernel
theorem dX1_takeRest_118 : decode cX1_takeRest 118 = .ok (.iinc 4 1, 3) := by decide +kernel
theorem dX1_takeRest_121 : decode cX1_takeRest 121 = .ok (.iinc 6 1, 3) := by decide +kernel
theorem dX1_takeRest_124 : decode cX1_takeRest 124 = .ok (.goto (-86), 3) := by decide +kernel
theorem dX1_takeRest_127 : decode cX1_takeRest 127 = .ok (.iinc 5 1, 3) := by decide +kernel
theorem dX1_takeRest_130 : decode cX1_takeRest 130 = .ok (.goto (-112), 3) := by decide +kernel
noncomputable def vX1_takeRest_1 (l5 : Int32) (l6 : Int32) (σ : zc_N) : Int32 := ((((σ 7) l5.toNatClampNeg) - ((σ 7) l5.toNatClampNeg) / (18 : Int32) * (18 : Int32)) + ((σ 1) l6.toNatClampNeg))
noncomputable def vX1_takeRest_2 (l5 : Int32) (l6 : Int32) (σ : zc_N) : zc_N := (sX1_takes σ (vX1_takeRest_1 l5 l6 σ) ((((σ 7) l5.toNatClampNeg) / (18 : Int32)) + ((σ 2) l6.toNatClampNeg)))
noncomputable def fX1_takeRest_38 (l5 : Int32) (i_ : Nat) (a_ : Int32 × zc_N) : Int32 × zc_N := ((if (324 : Int32) ≤ a_.1 then a_.1 else (if (rX1_takes a_.2 (vX1_takeRest_1 l5 (nI i_) a_.2) ((((a_.2 7) l5.toNatClampNeg) / (18 : Int32)) + ((a_.2 2) (nI i_).toNatClampNeg))) = (0 : Int32) then a_.1 else (a_.1 + (1 : Int32)))), (if (324 : Int32) ≤ a_.1 then a_.2 else (if (rX1_takes a_.2 (vX1_takeRest_1 l5 (nI i_) a_.2) ((((a_.2 7) l5.toNatClampNeg) / (18 : Int32)) + ((a_.2 2) (nI i_).toNatClampNeg))) = (0 : Int32) then (vX1_takeRest_2 l5 (nI i_) a_.2) else (zu (vX1_takeRest_2 l5 (nI i_) a_.2) 7 (zu ((vX1_takeRest_2 l5 (nI i_) a_.2) 7) a_.1.toNatClampNeg ((((((a_.2 7) l5.toNatClampNeg) / (18 : Int32)) + ((a_.2 2) (nI i_).toNatClampNeg)) * (18 : Int32)) + (vX1_takeRest_1 l5 (nI i_) a_.2)))))))
def qX1_takeRest_38 (l5 : Int32) (i_ : Nat) (a_ : Int32 × zc_N) : Prop := (vp_in l5 324 ∧ (vp_in (nI i_) 8 ∧ (vp_in l5 324 ∧ (vp_in (nI i_) 8 ∧ (((324 : Int32) ≤ a_.1 → True) ∧ (¬ (324 : Int32) ≤ a_.1 → (((rX1_takes a_.2 (vX1_takeRest_1 l5 (nI i_) a_.2) ((((a_.2 7) l5.toNatClampNeg) / (18 : Int32)) + ((a_.2 2) (nI i_).toNatClampNeg))) = (0 : Int32) → True) ∧ (¬ (rX1_takes a_.2 (vX1_takeRest_1 l5 (nI i_) a_.2) ((((a_.2 7) l5.toNatClampNeg) / (18 : Int32)) + ((a_.2 2) (nI i_).toNatClampNeg))) = (0 : Int32) → vp_in a_.1 324))))))))
set_option maxHeartbeats 2000000 in
theorem lpX1_takeRest_38 {G : zc_G} {Q : Option Value → zc_H → Prop} (P : zp) (σ : zc_N) (l3 : Int32) (l4 : Int32) (l5 : Int32) (n_ : Nat) (hC_ : ∀ i38_ : Nat, i38_ ≤ n_ → (l3 ≤ (nI i38_) ↔ n_ ≤ i38_)) (W1_ : ∀ i38_ : Nat, i38_ < n_ → qX1_takeRest_38 l5 i38_ (zfor (fX1_takeRest_38 l5) i38_ (l4, σ)))
    (W2_ : zz G mX1_takeRest 2 0 0 Q 127 [some (.ref 4), none, none, some (.int l3), some (.int (zfor (fX1_takeRest_38 l5) n_ (l4, σ)).1), some (.int l5), none, none, none] [] (hh P (zfor (fX1_takeRest_38 l5) n_ (l4, σ)).2) 0 0) :
    zz G mX1_takeRest 2 0 0 Q 38 [some (.ref 4), none, none, some (.int l3), some (.int l4), some (.int l5), some (.int (nI 0)), none, none] [] (hh P σ) 0 0 := by
  refine zfor_nI (fun i_ a_ => zz G mX1_takeRest 2 0 0 Q 38 [some (.ref 4), none, none, some (.int l3), some (.int a_.1), some (.int l5), some (.int i_), none, none] [] (hh P a_.2) 0 0) (fX1_takeRest_38 l5) n_ (l4, σ) (fun i_ hi_ k_ => ?_) ?_
  all_goals try dsimp only
  · have W3_ := W1_ i_ hi_
    have hD_ := hC_ i_ (Nat.le_of_lt hi_)
    generalize zfor (fX1_takeRest_38 l5) i_ (l4, σ) = g_ at k_ W3_ hD_ ⊢
    obtain ⟨x0_, x1_⟩ := g_
    dsimp only at k_ W3_ hD_ ⊢
    rw [fX1_takeRest_38] at k_
    rw [qX1_takeRest_38] at W3_
    try dsimp only at W3_
    dsimp only at k_
    refine z_iload dX1_takeRest_38 rfl ?_
    refine z_iload_n dX1_takeRest_40 rfl ?_
    refine z_icmp_ge (tgt := 127) dX1_takeRest_41 (by decide) (fun c_ => absurd c_ (fun q_ => Nat.not_le_of_lt hi_ (hD_.mp q_))) (fun c_ => ?_)
    refine z_aloadr_n dX1_takeRest_44 rfl ?_
    refine z_get (ci := 1) (r := (RX1, TX1, 3)) (j := 2) (v := .ref 7) dX1_takeRest_45 (Nat.le_of_ble_eq_true rfl) (zN rfl) rfl rfl (Nat.le_of_ble_eq_true rfl) fl_X1_18 rfl ?_
    refine z_iload dX1_takeRest_48 rfl ?_
    refine z_iald (v := ((x1_ 7) l5.toNatClampNeg)) dX1_takeRest_50 (zN rfl) rfl W3_.1 rfl ?_
    refine z_bipush dX1_takeRest_51 k_bipush_18 ?_
    refine z_irem (v := (((x1_ 7) l5.toNatClampNeg) - ((x1_ 7) l5.toNatClampNeg) / (18 : Int32) * (18 : Int32))) dX1_takeRest_53 (by decide) rfl ?_
    refine z_way (q := 1) dX1_takeRest_54 fl_X1_66 (by decide) ?_
    refine z_iload dX1_takeRest_57 rfl ?_
    refine z_iald (v := ((x1_ 1) (nI i_).toNatClampNeg)) dX1_takeRest_59 (zN rfl) rfl W3_.2.1 rfl ?_
    refine z_iadd (v := ((((x1_ 7) l5.toNatClampNeg) - ((x1_ 7) l5.toNatClampNeg) / (18 : Int32) * (18 : Int32)) + ((x1_ 1) (nI i_).toNatClampNeg))) dX1_takeRest_60 rfl ?_
    refine z_istore (lv' := [some (.ref 4), none, none, some (.int l3), some (.int x0_), some (.int l5), some (.int (nI i_)), some (.int (vX1_takeRest_1 l5 (nI i_) x1_)), none]) dX1_takeRest_61 (Nat.le_of_ble_eq_true rfl) rfl ?_
    refine z_aloadr_n dX1_takeRest_63 rfl ?_
    refine z_get (ci := 1) (r := (RX1, TX1, 3)) (j := 2) (v := .ref 7) dX1_takeRest_64 (Nat.le_of_ble_eq_true rfl) (zN rfl) rfl rfl (Nat.le_of_ble_eq_true rfl) fl_X1_18 rfl ?_
    refine z_iload dX1_takeRest_67 rfl ?_
    refine z_iald (v := ((x1_ 7) l5.toNatClampNeg)) dX1_takeRest_69 (zN rfl) rfl W3_.2.2.1 rfl ?_
    refine z_bipush dX1_takeRest_70 k_bipush_18 ?_
    refine z_idiv (v := (((x1_ 7) l5.toNatClampNeg) / (18 : Int32))) dX1_takeRest_72 (by decide) rfl ?_
    refine z_way (q := 2) dX1_takeRest_73 fl_X1_69 (by decide) ?_
    refine z_iload dX1_takeRest_76 rfl ?_
    refine z_iald (v := ((x1_ 2) (nI i_).toNatClampNeg)) dX1_takeRest_78 (zN rfl) rfl W3_.2.2.2.1 rfl ?_
    refine z_iadd (v := ((((x1_ 7) l5.toNatClampNeg) / (18 : Int32)) + ((x1_ 2) (nI i_).toNatClampNeg))) dX1_takeRest_79 rfl ?_
    refine z_istore (lv' := [some (.ref 4), none, none, some (.int l3), some (.int x0_), some (.int l5), some (.int (nI i_)), some (.int (vX1_takeRest_1 l5 (nI i_) x1_)), some (.int ((((x1_ 7) l5.toNatClampNeg) / (18 : Int32)) + ((x1_ 2) (nI i_).toNatClampNeg)))]) dX1_takeRest_80 (Nat.le_of_ble_eq_true rfl) rfl ?_
    refine z_iload dX1_takeRest_82 rfl ?_
    refine z_aloadr_n dX1_takeRest_84 rfl ?_
    refine z_get (ci := 1) (r := (RX1, TX1, 3)) (j := 2) (v := .ref 7) dX1_takeRest_85 (Nat.le_of_ble_eq_true rfl) (zN rfl) rfl rfl (Nat.le_of_ble_eq_true rfl) fl_X1_18 rfl ?_
    refine z_alen0 (v := (324 : Int32)) dX1_takeRest_88 (zN rfl) rfl rfl ?_
    refine z_icmp_ge (tgt := 121) dX1_takeRest_89 (by decide) (fun c_2 => ?_) (fun c_2 => ?_)
    · refine z_iinc (v := ((nI i_) + (1 : Int32))) (lv' := [some (.ref 4), none, none, some (.int l3), some (.int x0_), some (.int l5), some (.int ((nI i_) + (1 : Int32))), some (.int (vX1_takeRest_1 l5 (nI i_) x1_)), some (.int ((((x1_ 7) l5.toNatClampNeg) / (18 : Int32)) + ((x1_ 2) (nI i_).toNatClampNeg)))]) dX1_takeRest_121 (Nat.le_of_ble_eq_true rfl) rfl (by rw [k_iconst_1]) rfl ?_
      refine z_goto (tgt := 38) dX1_takeRest_124 (by decide) ?_
      refine zz_sub (lv' := [some (.ref 4), none, none, some (.int l3), some (.int x0_), some (.int l5), some (.int ((nI i_) + (1 : Int32))), none, none]) ⟨rfl, ⟨rfl, ⟨rfl, ⟨rfl, ⟨rfl, trivial⟩⟩⟩⟩⟩ ?_
      rw [nI_1]
      simpa only [if_pos c_2] using k_
    · refine z_aloadr_n dX1_takeRest_92 rfl ?_
      refine z_iload dX1_takeRest_93 rfl ?_
      refine z_iload dX1_takeRest_95 rfl ?_
      refine z_callV (ci := 1) (r := (RX1, TX1, 3)) (b := 4) (As := [.int (vX1_takeRest_1 l5 (nI i_) x1_), .int ((((x1_ 7) l5.toNatClampNeg) / (18 : Int32)) + ((x1_ 2) (nI i_).toNatClampNeg))]) (rest := []) (ctX1_takes P x1_ (vX1_takeRest_1 l5 (nI i_) x1_) ((((x1_ 7) l5.toNatClampNeg) / (18 : Int32)) + ((x1_ 2) (nI i_).toNatClampNeg)) (pzX1_takes P x1_ (vX1_takeRest_1 l5 (nI i_) x1_) ((((x1_ 7) l5.toNatClampNeg) / (18 : Int32)) + ((x1_ 2) (nI i_).toNatClampNeg)))) dX1_takeRest_97 lk_X1_59 lv_X1_takes (Nat.le_of_ble_eq_true rfl) (zN rfl) rfl rfl rfl rfl (Nat.le_of_ble_eq_true rfl) (Nat.le_of_ble_eq_true rfl) (Nat.le_of_ble_eq_true rfl) (Nat.le_of_ble_eq_true rfl) (fun r_ h_ e_ => ?_)
      obtain ⟨e1_, e2_⟩ := e_
      subst e1_
      subst e2_
      show zz G mX1_takeRest 2 0 0 Q 100 [some (.ref 4), none, none, some (.int l3), some (.int x0_), some (.int l5), some (.int (nI i_)), some (.int (vX1_takeRest_1 l5 (nI i_) x1_)), some (.int ((((x1_ 7) l5.toNatClampNeg) / (18 : Int32)) + ((x1_ 2) (nI i_).toNatClampNeg)))] [.int (rX1_takes x1_ (vX1_takeRest_1 l5 (nI i_) x1_) ((((x1_ 7) l5.toNatClampNeg) / (18 : Int32)) + ((x1_ 2) (nI i_).toNatClampNeg)))] (hh P (vX1_takeRest_2 l5 (nI i_) x1_)) 0 0
      refine z_if_eq (tgt := 121) dX1_takeRest_100 (by decide) (fun c_3 => ?_) (fun c_3 => ?_)
      · refine z_iinc (v := ((nI i_) + (1 : Int32))) (lv' := [some (.ref 4), none, none, some (.int l3), some (.int x0_), some (.int l5), some (.int ((nI i_) + (1 : Int32))), some (.int (vX1_takeRest_1 l5 (nI i_) x1_)), some (.int ((((x1_ 7) l5.toNatClampNeg) / (18 : Int32)) + ((x1_ 2) (nI i_).toNatClampNeg)))]) dX1_takeRest_121 (Nat.le_of_ble_eq_true rfl) rfl (by rw [k_iconst_1]) rfl ?_
        refine z_goto (tgt := 38) dX1_takeRest_124 (by decide) ?_
        refine zz_sub (lv' := [some (.ref 4), none, none, some (.int l3), some (.int x0_), some (.int l5), some (.int ((nI i_) + (1 : Int32))), none, none]) ⟨rfl, ⟨rfl, ⟨rfl, ⟨rfl, ⟨rfl, trivial⟩⟩⟩⟩⟩ ?_
        rw [nI_1]
        simpa only [if_neg c_2, if_pos c_3] using k_
      · refine z_aloadr_n dX1_takeRest_103 rfl ?_
        refine z_get (ci := 1) (r := (RX1, TX1, 3)) (j := 2) (v := .ref 7) dX1_takeRest_104 (Nat.le_of_ble_eq_true rfl) (zN rfl) rfl rfl (Nat.le_of_ble_eq_true rfl) fl_X1_18 rfl ?_
        refine z_iload dX1_takeRest_107 rfl ?_
        refine z_iload dX1_takeRest_109 rfl ?_
        refine z_bipush dX1_takeRest_111 k_bipush_18 ?_
        refine z_imul (v := (((((x1_ 7) l5.toNatClampNeg) / (18 : Int32)) + ((x1_ 2) (nI i_).toNatClampNeg)) * (18 : Int32))) dX1_takeRest_113 rfl ?_
        refine z_iload dX1_takeRest_114 rfl ?_
        refine z_iadd (v := ((((((x1_ 7) l5.toNatClampNeg) / (18 : Int32)) + ((x1_ 2) (nI i_).toNatClampNeg)) * (18 : Int32)) + (vX1_takeRest_1 l5 (nI i_) x1_))) dX1_takeRest_116 rfl ?_
        refine z_iast (σ' := (zu (vX1_takeRest_2 l5 (nI i_) x1_) 7 (zu ((vX1_takeRest_2 l5 (nI i_) x1_) 7) x0_.toNatClampNeg ((((((x1_ 7) l5.toNatClampNeg) / (18 : Int32)) + ((x1_ 2) (nI i_).toNatClampNeg)) * (18 : Int32)) + (vX1_takeRest_1 l5 (nI i_) x1_))))) dX1_takeRest_117 (Nat.le_of_ble_eq_true rfl) (zN rfl) rfl ((W3_.2.2.2.2.2 c_2).2 c_3) rfl ?_
        refine z_iinc (v := (x0_ + (1 : Int32))) (lv' := [some (.ref 4), none, none, some (.int l3), some (.int (x0_ + (1 : Int32))), some (.int l5), some (.int (nI i_)), some (.int (vX1_takeRest_1 l5 (nI i_) x1_)), some (.int ((((x1_ 7) l5.toNatClampNeg) / (18 : Int32)) + ((x1_ 2) (nI i_).toNatClampNeg)))]) dX1_takeRest_118 (Nat.le_of_ble_eq_true rfl) rfl (by rw [k_iconst_1]) rfl ?_
        refine z_iinc (v := ((nI i_) + (1 : Int32))) (lv' := [some (.ref 4), none, none, some (.int l3), some (.int (x0_ + (1 : Int32))), some (.int l5), some (.int ((nI i_) + (1 : Int32))), some (.int (vX1_takeRest_1 l5 (nI i_) x1_)), some (.int ((((x1_ 7) l5.toNatClampNeg) / (18 : Int32)) + ((x1_ 2) (nI i_).toNatClampNeg)))]) dX1_takeRest_121 (Nat.le_of_ble_eq_true rfl) rfl (by rw [k_iconst_1]) rfl ?_
        refine z_goto (tgt := 38) dX1_takeRest_124 (by decide) ?_
        refine zz_sub (lv' := [some (.ref 4), none, none, some (.int l3), some (.int (x0_ + (1 : Int32))), some (.int l5), some (.int ((nI i_) + (1 : Int32))), none, none]) ⟨rfl, ⟨rfl, ⟨rfl, ⟨rfl, ⟨rfl, trivial⟩⟩⟩⟩⟩ ?_
        rw [nI_1]
        simpa only [if_neg c_2, if_neg c_3] using k_
  · have hD_ := hC_ n_ (Nat.le_refl _)
    generalize zfor (fX1_takeRest_38 l5) n_ (l4, σ) = g_ at W2_ hD_ ⊢
    obtain ⟨x0_, x1_⟩ := g_
    dsimp only at W2_ hD_ ⊢
    refine z_iload dX1_takeRest_38 rfl ?_
    refine z_iload_n dX1_takeRest_40 rfl ?_
    refine z_icmp_ge (tgt := 127) dX1_takeRest_41 (by decide) (fun c_ => ?_) (fun c_ => absurd (hD_.mpr (Nat.le_refl _)) c_)
    exact zz_sub (lv' := [some (.ref 4), none, none, some (.int l3), some (.int x0_), some (.int l5), none, none, none]) ⟨rfl, ⟨rfl, ⟨rfl, ⟨rfl, trivial⟩⟩⟩⟩ W2_

theorem dX1_takeRest_18 : decode cX1_takeRest 18 = .ok (.iload 5, 2) := by decide +kernel
theorem dX1_takeRest_20 : decode cX1_takeRest 20 = .ok (.iload 4, 2) := by decide +kernel
theorem dX1_takeRest_22 : decode cX1_takeRest 22 = .ok (.if_icmp .ge 111, 3) := by decide +kernel
theorem dX1_takeRest_25 : decode cX1_takeRest 25 = .ok (.iload 5, 2) := by decide +kernel
theorem dX1_takeRest_27 : decode cX1_takeRest 27 = .ok (.aload_n 0, 1) := by decide +kernel
theorem dX1_takeRest_28 : decode cX1_takeRest 28 = .ok (.getfield 18, 3) := by decide +kernel
theorem dX1_takeRest_31 : decode cX1_takeRest 31 = .ok (.arraylength, 1) := by decide +kernel
theorem dX1_takeRest_32 : decode cX1_takeRest 32 = .ok (.if_icmp .ge 101, 3) := by decide +kernel
theorem dX1_takeRest_35 : decode cX1_takeRest 35 = .ok (.iconst 0, 1) := by decide +kernel
theorem dX1_takeRest_36 : decode cX1_takeRest 36 = .ok (.istore 6, 2) := by decide +kernel
noncomputable def fX1_takeRest_18 (l3 : Int32) (a_ : Int32 × Int32 × zc_N) : Int32 × Int32 × zc_N := ((zfor (fX1_takeRest_38 a_.2.1) ((l3).toNatClampNeg) (a_.1, a_.2.2)).1, (a_.2.1 + (1 : Int32)), (zfor (fX1_takeRest_38 a_.2.1) ((l3).toNatClampNeg) (a_.1, a_.2.2)).2)
def eX1_takeRest_18 (a_ : Int32 × Int32 × zc_N) : Prop := ((a_.1 ≤ a_.2.1 ∧ True) ∨ (¬ a_.1 ≤ a_.2.1 ∧ (((324 : Int32) ≤ a_.2.1 ∧ True) ∨ (¬ (324 : Int32) ≤ a_.2.1 ∧ False))))
def qX1_takeRest_18 (l3 : Int32) (a_ : Int32 × Int32 × zc_N) : Prop := ((a_.1 ≤ a_.2.1 → True) ∧ (¬ a_.1 ≤ a_.2.1 → (((324 : Int32) ≤ a_.2.1 → True) ∧ (¬ (324 : Int32) ≤ a_.2.1 → ((∀ i38_ : Nat, i38_ ≤ ((l3).toNatClampNeg) → (l3 ≤ (nI i38_) ↔ ((l3).toNatClampNeg) ≤ i38_)) ∧ (∀ i38_ : Nat, i38_ < ((l3).toNatClampNeg) → qX1_takeRest_38 a_.2.1 i38_ (zfor (fX1_takeRest_38 a_.2.1) i38_ (a_.1, a_.2.2))))))))
noncomputable def wX1_takeRest_18 (l3 : Int32) (a_ : Int32 × Int32 × zc_N) : Int32 × Int32 × zc_N := zit (fX1_takeRest_18 l3) (zwn (fun n_ => eX1_takeRest_18 (zit (fX1_takeRest_18 l3) n_ a_))) a_
set_option maxHeartbeats 2000000 in
theorem whX1_takeRest_18 {G : zc_G} {Q : Option Value → zc_H → Prop} (P : zp) (σ : zc_N) (l3 : Int32) (l4 : Int32) (l5 : Int32)
    (hT_ : ∃ n_ : Nat, eX1_takeRest_18 (zit (fX1_takeRest_18 l3) n_ (l4, l5, σ))) (W1_ : ∀ i18_ : Nat, i18_ < (zwn (fun n_ => eX1_takeRest_18 (zit (fX1_takeRest_18 l3) n_ (l4, l5, σ)))) → qX1_takeRest_18 l3 (zit (fX1_takeRest_18 l3) i18_ (l4, l5, σ)))
    (W2_ : eX1_takeRest_18 (wX1_takeRest_18 l3 (l4, l5, σ)) → zz G mX1_takeRest 2 0 0 Q 18 [some (.ref 4), none, none, some (.int l3), some (.int (wX1_takeRest_18 l3 (l4, l5, σ)).1), some (.int (wX1_takeRest_18 l3 (l4, l5, σ)).2.1), none, none, none] [] (hh P (wX1_takeRest_18 l3 (l4, l5, σ)).2.2) 0 0) :
    zz G mX1_takeRest 2 0 0 Q 18 [some (.ref 4), none, none, some (.int l3), some (.int l4), some (.int l5), none, none, none] [] (hh P σ) 0 0 := by
  unfold wX1_takeRest_18 at W2_
  have hs_ := zwn_spec hT_
  refine zit_Z (fun a_ => zz G mX1_takeRest 2 0 0 Q 18 [some (.ref 4), none, none, some (.int l3), some (.int a_.1), some (.int a_.2.1), none, none, none] [] (hh P a_.2.2) 0 0) (fX1_takeRest_18 l3) (zwn (fun n_ => eX1_takeRest_18 (zit (fX1_takeRest_18 l3) n_ (l4, l5, σ)))) (l4, l5, σ) (fun i_ hi_ k_ => ?_) (W2_ hs_.1)
  have hn_ := hs_.2 i_ hi_
  have W3_ := W1_ i_ hi_
  generalize zit (fX1_takeRest_18 l3) i_ (l4, l5, σ) = g_ at k_ hn_ W3_ ⊢
  obtain ⟨x0_, x1_, x2_⟩ := g_
  try dsimp only at k_ hn_ W3_ ⊢
  rw [fX1_takeRest_18] at k_
  rw [eX1_takeRest_18] at hn_
  try dsimp only at k_ hn_
  rw [qX1_takeRest_18] at W3_
  try dsimp only at W3_
  refine z_iload dX1_takeRest_18 rfl ?_
  refine z_iload dX1_takeRest_20 rfl ?_
  refine z_icmp_ge (tgt := 133) dX1_takeRest_22 (by decide) (fun c_1 => ?_) (fun c_1 => ?_)
  · exact absurd (Or.inl ⟨c_1, trivial⟩) hn_
  · refine z_iload dX1_takeRest_25 rfl ?_
    refine z_aloadr_n dX1_takeRest_27 rfl ?_
    refine z_get (ci := 1) (r := (RX1, TX1, 3)) (j := 2) (v := .ref 7) dX1_takeRest_28 (Nat.le_of_ble_eq_true rfl) (zN rfl) rfl rfl (Nat.le_of_ble_eq_true rfl) fl_X1_18 rfl ?_
    refine z_alen0 (v := (324 : Int32)) dX1_takeRest_31 (zN rfl) rfl rfl ?_
    refine z_icmp_ge (tgt := 133) dX1_takeRest_32 (by decide) (fun c_2 => ?_) (fun c_2 => ?_)
    · exact absurd (Or.inr ⟨c_1, (Or.inl ⟨c_2, trivial⟩)⟩) hn_
    · refine z_iconst dX1_takeRest_35 k_iconst_0 ?_
      refine z_istore (lv' := [some (.ref 4), none, none, some (.int l3), some (.int x0_), some (.int x1_), some (.int (0 : Int32)), none, none]) dX1_takeRest_36 (Nat.le_of_ble_eq_true rfl) rfl ?_
      refine lpX1_takeRest_38 P x2_ l3 x0_ x1_ ((l3).toNatClampNeg) ((W3_.2 c_1).2 c_2).1 ((W3_.2 c_1).2 c_2).2 ?_
      show zz G mX1_takeRest 2 0 0 Q 127 [some (.ref 4), none, none, some (.int l3), some (.int (zfor (fX1_takeRest_38 x1_) ((l3).toNatClampNeg) (x0_, x2_)).1), some (.int x1_), none, none, none] [] (hh P (zfor (fX1_takeRest_38 x1_) ((l3).toNatClampNeg) (x0_, x2_)).2) 0 0
      refine z_iinc (v := (x1_ + (1 : Int32))) (lv' := [some (.ref 4), none, none, some (.int l3), some (.int (zfor (fX1_takeRest_38 x1_) ((l3).toNatClampNeg) (x0_, x2_)).1), some (.int (x1_ + (1 : Int32))), none, none, none]) dX1_takeRest_127 (Nat.le_of_ble_eq_true rfl) rfl (by rw [k_iconst_1]) rfl ?_
      refine z_goto (tgt := 18) dX1_takeRest_130 (by decide) ?_
      simpa only [if_neg c_1, if_neg c_2] using k_

theorem dX1_takeRest_0 : decode cX1_takeRest 0 = .ok (.aload_n 0, 1) := by decide +kernel
theorem dX1_takeRest_1 : decode cX1_takeRest 1 = .ok (.getfield 18, 3) := by decide +kernel
theorem dX1_takeRest_4 : decode cX1_takeRest 4 = .ok (.iconst 0, 1) := by decide +kernel
theorem dX1_takeRest_5 : decode cX1_takeRest 5 = .ok (.iload_n 2, 1) := by decide +kernel
theorem dX1_takeRest_6 : decode cX1_takeRest 6 = .ok (.bipush 18, 2) := by decide +kernel
theorem dX1_takeRest_8 : decode cX1_takeRest 8 = .ok (.imul, 1) := by decide +kernel
theorem dX1_takeRest_9 : decode cX1_takeRest 9 = .ok (.iload_n 1, 1) := by decide +kernel
theorem dX1_takeRest_10 : decode cX1_takeRest 10 = .ok (.iadd, 1) := by decide +kernel
theorem dX1_takeRest_11 : decode cX1_takeRest 11 = .ok (.iastore, 1) := by decide +kernel
theorem dX1_takeRest_12 : decode cX1_takeRest 12 = .ok (.iconst 1, 1) := by decide +kernel
theorem dX1_takeRest_13 : decode cX1_takeRest 13 = .ok (.istore 4, 2) := by decide +kernel
theorem dX1_takeRest_15 : decode cX1_takeRest 15 = .ok (.iconst 0, 1) := by decide +kernel
theorem dX1_takeRest_16 : decode cX1_takeRest 16 = .ok (.istore 5, 2) := by decide +kernel
theorem dX1_takeRest_133 : decode cX1_takeRest 133 = .ok (.return_, 1) := by decide +kernel
noncomputable def vX1_takeRest_3 (a1 : Int32) (a2 : Int32) (a3 : Int32) (σ : zc_N) : zc_N := (wX1_takeRest_18 a3 ((1 : Int32), (0 : Int32), (zu σ 7 (zu (σ 7) (0 : Int32).toNatClampNeg ((a2 * (18 : Int32)) + a1))))).2.2
noncomputable def vX1_takeRest_4 (a1 : Int32) (a2 : Int32) (a3 : Int32) (σ : zc_N) : Int32 := (wX1_takeRest_18 a3 ((1 : Int32), (0 : Int32), (zu σ 7 (zu (σ 7) (0 : Int32).toNatClampNeg ((a2 * (18 : Int32)) + a1))))).1
noncomputable def vX1_takeRest_5 (a1 : Int32) (a2 : Int32) (a3 : Int32) (σ : zc_N) : Int32 := (wX1_takeRest_18 a3 ((1 : Int32), (0 : Int32), (zu σ 7 (zu (σ 7) (0 : Int32).toNatClampNeg ((a2 * (18 : Int32)) + a1))))).2.1
noncomputable def vX1_takeRest_6 (a1 : Int32) (a2 : Int32) (a3 : Int32) (σ : zc_N) : zc_N := (zfor (fX1_takeRest_38 (vX1_takeRest_5 a1 a2 a3 σ)) ((a3).toNatClampNeg) ((vX1_takeRest_4 a1 a2 a3 σ), (vX1_takeRest_3 a1 a2 a3 σ))).2
noncomputable def vX1_takeRest_7 (a1 : Int32) (a2 : Int32) (a3 : Int32) (σ : zc_N) : Int32 := (zfor (fX1_takeRest_38 (vX1_takeRest_5 a1 a2 a3 σ)) ((a3).toNatClampNeg) ((vX1_takeRest_4 a1 a2 a3 σ), (vX1_takeRest_3 a1 a2 a3 σ))).1
def pX1_takeRest (σ : zc_N) (a1 : Int32) (a2 : Int32) (a3 : Int32) : Prop := (((∃ n_ : Nat, eX1_takeRest_18 (zit (fX1_takeRest_18 a3) n_ ((1 : Int32), (0 : Int32), (zu σ 7 (zu (σ 7) (0 : Int32).toNatClampNeg ((a2 * (18 : Int32)) + a1)))))) ∧ (∀ i18_ : Nat, i18_ < (zwn (fun n_ => eX1_takeRest_18 (zit (fX1_takeRest_18 a3) n_ ((1 : Int32), (0 : Int32), (zu σ 7 (zu (σ 7) (0 : Int32).toNatClampNeg ((a2 * (18 : Int32)) + a1))))))) → qX1_takeRest_18 a3 (zit (fX1_takeRest_18 a3) i18_ ((1 : Int32), (0 : Int32), (zu σ 7 (zu (σ 7) (0 : Int32).toNatClampNeg ((a2 * (18 : Int32)) + a1))))))) ∧ (((vX1_takeRest_4 a1 a2 a3 σ) ≤ (vX1_takeRest_5 a1 a2 a3 σ) → True) ∧ (¬ (vX1_takeRest_4 a1 a2 a3 σ) ≤ (vX1_takeRest_5 a1 a2 a3 σ) → (((324 : Int32) ≤ (vX1_takeRest_5 a1 a2 a3 σ) → True) ∧ (¬ (324 : Int32) ≤ (vX1_takeRest_5 a1 a2 a3 σ) → ((∀ i38_ : Nat, i38_ ≤ ((a3).toNatClampNeg) → (a3 ≤ (nI i38_) ↔ ((a3).toNatClampNeg) ≤ i38_)) ∧ (∀ i38_ : Nat, i38_ < ((a3).toNatClampNeg) → qX1_takeRest_38 (vX1_takeRest_5 a1 a2 a3 σ) i38_ (zfor (fX1_takeRest_38 (vX1_takeRest_5 a1 a2 a3 σ)) i38_ ((vX1_takeRest_4 a1 a2 a3 σ), (vX1_takeRest_3 a1 a2 a3 σ))))))))))
noncomputable def sX1_takeRest (σ : zc_N) (a1 : Int32) (a2 : Int32) (a3 : Int32) : zc_N := (vX1_takeRest_3 a1 a2 a3 σ)
set_option maxHeartbeats 1000000 in
theorem ctX1_takeRest (P : zp) (σ : zc_N) (a1 : Int32) (a2 : Int32) (a3 : Int32) (W_ : (pX1_takeRest σ a1 a2 a3)) : sp mX1_takeRest 2 0 0 [.ref 4, .int a1, .int a2, .int a3] (hh P σ) (fun r_ h_ => r_ = none ∧ h_ = hh P (sX1_takeRest σ a1 a2 a3)) := by
  refine sp_of (lv := [some (.ref 4), some (.int a1), some (.int a2), some (.int a3), none, none, none, none, none]) (by decide) (zcats_ok _ rfl) (Nat.le_of_ble_eq_true rfl) (zlv_ok _ 5 rfl) (fun G => ?_)
  generalize hQ_ : (fun (r_ : Option Value) (h_ : zc_H) => r_ = none ∧ h_ = hh P (sX1_takeRest σ a1 a2 a3)) = Q_
  unfold pX1_takeRest at W_
  refine z_aloadr_n dX1_takeRest_0 rfl ?_
  refine z_get (ci := 1) (r := (RX1, TX1, 3)) (j := 2) (v := .ref 7) dX1_takeRest_1 (Nat.le_of_ble_eq_true rfl) (zN rfl) rfl rfl (Nat.le_of_ble_eq_true rfl) fl_X1_18 rfl ?_
  refine z_iconst dX1_takeRest_4 k_iconst_0 ?_
  refine z_iload_n dX1_takeRest_5 rfl ?_
  refine z_bipush dX1_takeRest_6 k_bipush_18 ?_
  refine z_imul (v := (a2 * (18 : Int32))) dX1_takeRest_8 rfl ?_
  refine z_iload_n dX1_takeRest_9 rfl ?_
  refine z_iadd (v := ((a2 * (18 : Int32)) + a1)) dX1_takeRest_10 rfl ?_
  refine z_iast (σ' := (zu σ 7 (zu (σ 7) (0 : Int32).toNatClampNeg ((a2 * (18 : Int32)) + a1)))) dX1_takeRest_11 (Nat.le_of_ble_eq_true rfl) (zN rfl) rfl (vp_in_nI (n := 0) (by decide) (by decide)) rfl ?_
  refine z_iconst dX1_takeRest_12 k_iconst_1 ?_
  refine z_istore (lv' := [some (.ref 4), some (.int a1), some (.int a2), some (.int a3), some (.int (1 : Int32)), none, none, none, none]) dX1_takeRest_13 (Nat.le_of_ble_eq_true rfl) rfl ?_
  refine z_iconst dX1_takeRest_15 k_iconst_0 ?_
  refine z_istore (lv' := [some (.ref 4), some (.int a1), some (.int a2), some (.int a3), some (.int (1 : Int32)), some (.int (0 : Int32)), none, none, none]) dX1_takeRest_16 (Nat.le_of_ble_eq_true rfl) rfl ?_
  refine zz_sub (lv' := [some (.ref 4), none, none, some (.int a3), some (.int (1 : Int32)), some (.int (0 : Int32)), none, none, none]) ⟨rfl, ⟨rfl, ⟨rfl, ⟨rfl, trivial⟩⟩⟩⟩ ?_
  refine whX1_takeRest_18 P (zu σ 7 (zu (σ 7) (0 : Int32).toNatClampNeg ((a2 * (18 : Int32)) + a1))) a3 (1 : Int32) (0 : Int32) W_.1.1 W_.1.2 (fun hX18_ => ?_)
  rw [eX1_takeRest_18] at hX18_
  try dsimp only at hX18_
  show zz G mX1_takeRest 2 0 0 Q_ 18 [some (.ref 4), none, none, some (.int a3), some (.int (vX1_takeRest_4 a1 a2 a3 σ)), some (.int (vX1_takeRest_5 a1 a2 a3 σ)), none, none, none] [] (hh P (vX1_takeRest_3 a1 a2 a3 σ)) 0 0
  refine z_iload dX1_takeRest_18 rfl ?_
  refine z_iload dX1_takeRest_20 rfl ?_
  refine z_icmp_ge (tgt := 133) dX1_takeRest_22 (by decide) (fun c_1 => ?_) (fun c_1 => ?_)
  · exact z_return dX1_takeRest_133 rfl (Nat.le_of_ble_eq_true rfl) (Nat.le_of_ble_eq_true rfl) (by rw [← hQ_]; exact ⟨rfl, (by rw [sX1_takeRest])⟩)
  · refine z_iload dX1_takeRest_25 rfl ?_
    refine z_aloadr_n dX1_takeRest_27 rfl ?_
    refine z_get (ci := 1) (r := (RX1, TX1, 3)) (j := 2) (v := .ref 7) dX1_takeRest_28 (Nat.le_of_ble_eq_true rfl) (zN rfl) rfl rfl (Nat.le_of_ble_eq_true rfl) fl_X1_18 rfl ?_
    refine z_alen0 (v := (324 : Int32)) dX1_takeRest_31 (zN rfl) rfl rfl ?_
    refine z_icmp_ge (tgt := 133) dX1_takeRest_32 (by decide) (fun c_2 => ?_) (fun c_2 => ?_)
    · exact z_return dX1_takeRest_133 rfl (Nat.le_of_ble_eq_true rfl) (Nat.le_of_ble_eq_true rfl) (by rw [← hQ_]; exact ⟨rfl, (by rw [sX1_takeRest])⟩)
    · refine z_iconst dX1_takeRest_35 k_iconst_0 ?_
      refine z_istore (lv' := [some (.ref 4), none, none, some (.int a3), some (.int (vX1_takeRest_4 a1 a2 a3 σ)), some (.int (vX1_takeRest_5 a1 a2 a3 σ)), some (.int (0 : Int32)), none, none]) dX1_takeRest_36 (Nat.le_of_ble_eq_true rfl) rfl ?_
      refine lpX1_takeRest_38 P (vX1_takeRest_3 a1 a2 a3 σ) a3 (vX1_takeRest_4 a1 a2 a3 σ) (vX1_takeRest_5 a1 a2 a3 σ) ((a3).toNatClampNeg) ((W_.2.2 c_1).2 c_2).1 ((W_.2.2 c_1).2 c_2).2 ?_
      show zz G mX1_takeRest 2 0 0 Q_ 127 [some (.ref 4), none, none, some (.int a3), some (.int (vX1_takeRest_7 a1 a2 a3 σ)), some (.int (vX1_takeRest_5 a1 a2 a3 σ)), none, none, none] [] (hh P (vX1_takeRest_6 a1 a2 a3 σ)) 0 0
      refine z_iinc (v := ((vX1_takeRest_5 a1 a2 a3 σ) + (1 : Int32))) (lv' := [some (.ref 4), none, none, some (.int a3), some (.int (vX1_takeRest_7 a1 a2 a3 σ)), some (.int ((vX1_takeRest_5 a1 a2 a3 σ) + (1 : Int32))), none, none, none]) dX1_takeRest_127 (Nat.le_of_ble_eq_true rfl) rfl (by rw [k_iconst_1]) rfl ?_
      refine z_goto (tgt := 18) dX1_takeRest_130 (by decide) ?_
      exact (ex_r (ex_r hX18_ c_1) c_2).elim

theorem dX1_takePieces_13 : decode cX1_takePieces 13 = .ok (.iload 4, 2) := by decide +kernel
theorem dX1_takePieces_15 : decode cX1_takePieces 15 = .ok (.bipush 18, 2) := by decide +kernel
theorem dX1_takePieces_17 : decode cX1_takePieces 17 = .ok (.if_icmp .ge 30, 3) := by decide +kernel
theorem dX1_takePieces_20 : decode cX1_takePieces 20 = .ok (.aload_n 0, 1) := by decide +kernel
theorem dX1_takePieces_21 : decode cX1_takePieces 21 = .ok (.iload 4, 2) := by decide +kernel
theorem dX1_takePieces_23 : decode cX1_takePieces 23 = .ok (.iload_n 3, 1) := by decide +kernel
theorem dX1_takePieces_24 : decode cX1_takePieces 24 = .ok (.invokevirtual 59, 3) := by decide +kernel
theorem dX1_takePieces_27 : decode cX1_takePieces 27 = .ok (.ifCond .eq 14, 3) := by decide +kernel
theorem dX1_takePieces_30 : decode cX1_takePieces 30 = .ok (.aload_n 0, 1) := by decide +kernel
theorem dX1_takePieces_31 : decode cX1_takePieces 31 = .ok (.iload 4, 2) := by decide +kernel
theorem dX1_takePieces_33 : decode cX1_takePieces 33 = .ok (.iload_n 3, 1) := by decide +kernel
theorem dX1_takePieces_34 : decode cX1_takePieces 34 = .ok (.iload_n 1, 1) := by decide +kernel
theorem dX1_takePieces_35 : decode cX1_takePieces 35 = .ok (.invokevirtual 62, 3) := by decide +kernel
theorem dX1_takePieces_38 : decode cX1_takePieces 38 = .ok (.iinc 2 1, 3) := by decide +kernel
theorem dX1_takePieces_41 : decode cX1_takePieces 41 = .ok (.iinc 4 1, 3) := by decide +kernel
theorem dX1_takePieces_44 : decode cX1_takePieces 44 = .ok (.goto (-31), 3) := by decide +kernel
theorem dX1_takePieces_47 : decode cX1_takePieces 47 = .ok (.iinc 3 1, 3) := by decide +kernel
theorem dX1_takePieces_50 : decode cX1_takePieces 50 = .ok (.goto (-46), 3) := by decide +kernel
noncomputable def fX1_takePieces_13 (l1 : Int32) (l3 : Int32) (i_ : Nat) (a_ : Int32 × zc_N) : Int32 × zc_N := ((if (rX1_takes a_.2 (nI i_) l3) = (0 : Int32) then a_.1 else (a_.1 + (1 : Int32))), (if (rX1_takes a_.2 (nI i_) l3) = (0 : Int32) then (sX1_takes a_.2 (nI i_) l3) else (sX1_takeRest (sX1_takes a_.2 (nI i_) l3) (nI i_) l3 l1)))
def qX1_takePieces_13 (l1 : Int32) (l3 : Int32) (i_ : Nat) (a_ : Int32 × zc_N) : Prop := (((rX1_takes a_.2 (nI i_) l3) = (0 : Int32) → True) ∧ (¬ (rX1_takes a_.2 (nI i_) l3) = (0 : Int32) → (pX1_takeRest (sX1_takes a_.2 (nI i_) l3) (nI i_) l3 l1)))
set_option maxHeartbeats 2000000 in
theorem lpX1_takePieces_13 {G : zc_G} {Q : Option Value → zc_H → Prop} (P : zp) (σ : zc_N) (l1 : Int32) (l2 : Int32) (l3 : Int32) (W1_ : ∀ i13_ : Nat, i13_ < 18 → qX1_takePieces_13 l1 l3 i13_ (zfor (fX1_takePieces_13 l1 l3) i13_ (l2, σ)))
    (W2_ : zz G mX1_takePieces 3 0 0 Q 47 [some (.ref 4), some (.int l1), some (.int (zfor (fX1_takePieces_13 l1 l3) 18 (l2, σ)).1), some (.int l3), none] [] (hh P (zfor (fX1_takePieces_13 l1 l3) 18 (l2, σ)).2) 0 0) :
    zz G mX1_takePieces 3 0 0 Q 13 [some (.ref 4), some (.int l1), some (.int l2), some (.int l3), some (.int (nI 0))] [] (hh P σ) 0 0 := by
  refine zfor_nI (fun i_ a_ => zz G mX1_takePieces 3 0 0 Q 13 [some (.ref 4), some (.int l1), some (.int a_.1), some (.int l3), some (.int i_)] [] (hh P a_.2) 0 0) (fX1_takePieces_13 l1 l3) 18 (l2, σ) (fun i_ hi_ k_ => ?_) ?_
  all_goals try dsimp only
  · have W3_ := W1_ i_ hi_
    generalize zfor (fX1_takePieces_13 l1 l3) i_ (l2, σ) = g_ at k_ W3_ ⊢
    obtain ⟨x0_, x1_⟩ := g_
    dsimp only at k_ W3_ ⊢
    rw [fX1_takePieces_13] at k_
    rw [qX1_takePieces_13] at W3_
    try dsimp only at W3_
    dsimp only at k_
    refine z_iload dX1_takePieces_13 rfl ?_
    refine z_bipush dX1_takePieces_15 k_bipush_18 ?_
    refine z_icmp_ge (tgt := 47) dX1_takePieces_17 (by decide) (fun c_ => absurd c_ (nI_ge hi_ (by decide))) (fun c_ => ?_)
    refine z_aloadr_n dX1_takePieces_20 rfl ?_
    refine z_iload dX1_takePieces_21 rfl ?_
    refine z_iload_n dX1_takePieces_23 rfl ?_
    refine z_callV (ci := 1) (r := (RX1, TX1, 3)) (b := 4) (As := [.int (nI i_), .int l3]) (rest := []) (ctX1_takes P x1_ (nI i_) l3 (pzX1_takes P x1_ (nI i_) l3)) dX1_takePieces_24 lk_X1_59 lv_X1_takes (Nat.le_of_ble_eq_true rfl) (zN rfl) rfl rfl rfl rfl (Nat.le_of_ble_eq_true rfl) (Nat.le_of_ble_eq_true rfl) (Nat.le_of_ble_eq_true rfl) (Nat.le_of_ble_eq_true rfl) (fun r_ h_ e_ => ?_)
    obtain ⟨e1_, e2_⟩ := e_
    subst e1_
    subst e2_
    show zz G mX1_takePieces 3 0 0 Q 27 [some (.ref 4), some (.int l1), some (.int x0_), some (.int l3), some (.int (nI i_))] [.int (rX1_takes x1_ (nI i_) l3)] (hh P (sX1_takes x1_ (nI i_) l3)) 0 0
    refine z_if_eq (tgt := 41) dX1_takePieces_27 (by decide) (fun c_2 => ?_) (fun c_2 => ?_)
    · refine z_iinc (v := ((nI i_) + (1 : Int32))) (lv' := [some (.ref 4), some (.int l1), some (.int x0_), some (.int l3), some (.int ((nI i_) + (1 : Int32)))]) dX1_takePieces_41 (Nat.le_of_ble_eq_true rfl) rfl (by rw [k_iconst_1]) rfl ?_
      refine z_goto (tgt := 13) dX1_takePieces_44 (by decide) ?_
      rw [nI_1]
      simpa only [if_pos c_2] using k_
    · refine z_aloadr_n dX1_takePieces_30 rfl ?_
      refine z_iload dX1_takePieces_31 rfl ?_
      refine z_iload_n dX1_takePieces_33 rfl ?_
      refine z_iload_n dX1_takePieces_34 rfl ?_
      refine z_callV (ci := 1) (r := (RX1, TX1, 3)) (b := 4) (As := [.int (nI i_), .int l3, .int l1]) (rest := []) (ctX1_takeRest P (sX1_takes x1_ (nI i_) l3) (nI i_) l3 l1 (W3_.2 c_2)) dX1_takePieces_35 lk_X1_62 lv_X1_takeRest (Nat.le_of_ble_eq_true rfl) (zN rfl) rfl rfl rfl rfl (Nat.le_of_ble_eq_true rfl) (Nat.le_of_ble_eq_true rfl) (Nat.le_of_ble_eq_true rfl) (Nat.le_of_ble_eq_true rfl) (fun r_ h_ e_ => ?_)
      obtain ⟨e1_, e2_⟩ := e_
      subst e1_
      subst e2_
      show zz G mX1_takePieces 3 0 0 Q 38 [some (.ref 4), some (.int l1), some (.int x0_), some (.int l3), some (.int (nI i_))] [] (hh P (sX1_takeRest (sX1_takes x1_ (nI i_) l3) (nI i_) l3 l1)) 0 0
      refine z_iinc (v := (x0_ + (1 : Int32))) (lv' := [some (.ref 4), some (.int l1), some (.int (x0_ + (1 : Int32))), some (.int l3), some (.int (nI i_))]) dX1_takePieces_38 (Nat.le_of_ble_eq_true rfl) rfl (by rw [k_iconst_1]) rfl ?_
      refine z_iinc (v := ((nI i_) + (1 : Int32))) (lv' := [some (.ref 4), some (.int l1), some (.int (x0_ + (1 : Int32))), some (.int l3), some (.int ((nI i_) + (1 : Int32)))]) dX1_takePieces_41 (Nat.le_of_ble_eq_true rfl) rfl (by rw [k_iconst_1]) rfl ?_
      refine z_goto (tgt := 13) dX1_takePieces_44 (by decide) ?_
      rw [nI_1]
      simpa only [if_neg c_2] using k_
  · generalize zfor (fX1_takePieces_13 l1 l3) 18 (l2, σ) = g_ at W2_ ⊢
    obtain ⟨x0_, x1_⟩ := g_
    dsimp only at W2_ ⊢
    refine z_iload dX1_takePieces_13 rfl ?_
    refine z_bipush dX1_takePieces_15 k_bipush_18 ?_
    refine z_icmp_ge (tgt := 47) dX1_takePieces_17 (by decide) (fun c_ => ?_) (fun c_ => absurd (by decide) c_)
    exact zz_sub (lv' := [some (.ref 4), some (.int l1), some (.int x0_), some (.int l3), none]) ⟨rfl, ⟨rfl, ⟨rfl, ⟨rfl, trivial⟩⟩⟩⟩ W2_

theorem dX1_takePieces_4 : decode cX1_takePieces 4 = .ok (.iload_n 3, 1) := by decide +kernel
theorem dX1_takePieces_5 : decode cX1_takePieces 5 = .ok (.bipush 18, 2) := by decide +kernel
theorem dX1_takePieces_7 : decode cX1_takePieces 7 = .ok (.if_icmp .ge 46, 3) := by decide +kernel
theorem dX1_takePieces_10 : decode cX1_takePieces 10 = .ok (.iconst 0, 1) := by decide +kernel
theorem dX1_takePieces_11 : decode cX1_takePieces 11 = .ok (.istore 4, 2) := by decide +kernel
theorem dX1_takePieces_53 : decode cX1_takePieces 53 = .ok (.iload_n 2, 1) := by decide +kernel
noncomputable def fX1_takePieces_4 (l1 : Int32) (i_ : Nat) (a_ : Int32 × zc_N) : Int32 × zc_N := ((zfor (fX1_takePieces_13 l1 (nI i_)) 18 (a_.1, a_.2)).1, (zfor (fX1_takePieces_13 l1 (nI i_)) 18 (a_.1, a_.2)).2)
def qX1_takePieces_4 (l1 : Int32) (i_ : Nat) (a_ : Int32 × zc_N) : Prop := (∀ i13_ : Nat, i13_ < 18 → qX1_takePieces_13 l1 (nI i_) i13_ (zfor (fX1_takePieces_13 l1 (nI i_)) i13_ (a_.1, a_.2)))
set_option maxHeartbeats 2000000 in
theorem lpX1_takePieces_4 {G : zc_G} {Q : Option Value → zc_H → Prop} (P : zp) (σ : zc_N) (l1 : Int32) (l2 : Int32) (W1_ : ∀ i4_ : Nat, i4_ < 18 → qX1_takePieces_4 l1 i4_ (zfor (fX1_takePieces_4 l1) i4_ (l2, σ)))
    (W2_ : zz G mX1_takePieces 3 0 0 Q 53 [none, none, some (.int (zfor (fX1_takePieces_4 l1) 18 (l2, σ)).1), none, none] [] (hh P (zfor (fX1_takePieces_4 l1) 18 (l2, σ)).2) 0 0) :
    zz G mX1_takePieces 3 0 0 Q 4 [some (.ref 4), some (.int l1), some (.int l2), some (.int (nI 0)), none] [] (hh P σ) 0 0 := by
  refine zfor_nI (fun i_ a_ => zz G mX1_takePieces 3 0 0 Q 4 [some (.ref 4), some (.int l1), some (.int a_.1), some (.int i_), none] [] (hh P a_.2) 0 0) (fX1_takePieces_4 l1) 18 (l2, σ) (fun i_ hi_ k_ => ?_) ?_
  all_goals try dsimp only
  · have W3_ := W1_ i_ hi_
    generalize zfor (fX1_takePieces_4 l1) i_ (l2, σ) = g_ at k_ W3_ ⊢
    obtain ⟨x0_, x1_⟩ := g_
    dsimp only at k_ W3_ ⊢
    rw [fX1_takePieces_4] at k_
    rw [qX1_takePieces_4] at W3_
    try dsimp only at W3_
    dsimp only at k_
    refine z_iload_n dX1_takePieces_4 rfl ?_
    refine z_bipush dX1_takePieces_5 k_bipush_18 ?_
    refine z_icmp_ge (tgt := 53) dX1_takePieces_7 (by decide) (fun c_ => absurd c_ (nI_ge hi_ (by decide))) (fun c_ => ?_)
    refine z_iconst dX1_takePieces_10 k_iconst_0 ?_
    refine z_istore (lv' := [some (.ref 4), some (.int l1), some (.int x0_), some (.int (nI i_)), some (.int (0 : Int32))]) dX1_takePieces_11 (Nat.le_of_ble_eq_true rfl) rfl ?_
    refine lpX1_takePieces_13 P x1_ l1 x0_ (nI i_) W3_ ?_
    show zz G mX1_takePieces 3 0 0 Q 47 [some (.ref 4), some (.int l1), some (.int (zfor (fX1_takePieces_13 l1 (nI i_)) 18 (x0_, x1_)).1), some (.int (nI i_)), none] [] (hh P (zfor (fX1_takePieces_13 l1 (nI i_)) 18 (x0_, x1_)).2) 0 0
    refine z_iinc (v := ((nI i_) + (1 : Int32))) (lv' := [some (.ref 4), some (.int l1), some (.int (zfor (fX1_takePieces_13 l1 (nI i_)) 18 (x0_, x1_)).1), some (.int ((nI i_) + (1 : Int32))), none]) dX1_takePieces_47 (Nat.le_of_ble_eq_true rfl) rfl (by rw [k_iconst_1]) rfl ?_
    refine z_goto (tgt := 4) dX1_takePieces_50 (by decide) ?_
    rw [nI_1]
    exact k_
  · generalize zfor (fX1_takePieces_4 l1) 18 (l2, σ) = g_ at W2_ ⊢
    obtain ⟨x0_, x1_⟩ := g_
    dsimp only at W2_ ⊢
    refine z_iload_n dX1_takePieces_4 rfl ?_
    refine z_bipush dX1_takePieces_5 k_bipush_18 ?_
    refine z_icmp_ge (tgt := 53) dX1_takePieces_7 (by decide) (fun c_ => ?_) (fun c_ => absurd (by decide) c_)
    exact zz_sub (lv' := [none, none, some (.int x0_), none, none]) ⟨rfl, trivial⟩ W2_

theorem dX1_takePieces_0 : decode cX1_takePieces 0 = .ok (.iconst 0, 1) := by decide +kernel
theorem dX1_takePieces_1 : decode cX1_takePieces 1 = .ok (.istore_n 2, 1) := by decide +kernel
theorem dX1_takePieces_2 : decode cX1_takePieces 2 = .ok (.iconst 0, 1) := by decide +kernel
theorem dX1_takePieces_3 : decode cX1_takePieces 3 = .ok (.istore_n 3, 1) := by decide +kernel
theorem dX1_takePieces_54 : decode cX1_takePieces 54 = .ok (.ireturn, 1) := by decide +kernel
def pX1_takePieces (σ : zc_N) (a1 : Int32) : Prop := (∀ i4_ : Nat, i4_ < 18 → qX1_takePieces_4 a1 i4_ (zfor (fX1_takePieces_4 a1) i4_ ((0 : Int32), σ)))
noncomputable def rX1_takePieces (σ : zc_N) (a1 : Int32) : Int32 := (zfor (fX1_takePieces_4 a1) 18 ((0 : Int32), σ)).1
noncomputable def sX1_takePieces (σ : zc_N) (a1 : Int32) : zc_N := (zfor (fX1_takePieces_4 a1) 18 ((0 : Int32), σ)).2
set_option maxHeartbeats 1000000 in
theorem ctX1_takePieces (P : zp) (σ : zc_N) (a1 : Int32) (W_ : (pX1_takePieces σ a1)) : sp mX1_takePieces 3 0 0 [.ref 4, .int a1] (hh P σ) (fun r_ h_ => r_ = some (.int (rX1_takePieces σ a1)) ∧ h_ = hh P (sX1_takePieces σ a1)) := by
  refine sp_of (lv := [some (.ref 4), some (.int a1), none, none, none]) (by decide) (zcats_ok _ rfl) (Nat.le_of_ble_eq_true rfl) (zlv_ok _ 3 rfl) (fun G => ?_)
  generalize hQ_ : (fun (r_ : Option Value) (h_ : zc_H) => r_ = some (.int (rX1_takePieces σ a1)) ∧ h_ = hh P (sX1_takePieces σ a1)) = Q_
  unfold pX1_takePieces at W_
  refine z_iconst dX1_takePieces_0 k_iconst_0 ?_
  refine z_istore_n (lv' := [some (.ref 4), some (.int a1), some (.int (0 : Int32)), none, none]) dX1_takePieces_1 (Nat.le_of_ble_eq_true rfl) rfl ?_
  refine z_iconst dX1_takePieces_2 k_iconst_0 ?_
  refine z_istore_n (lv' := [some (.ref 4), some (.int a1), some (.int (0 : Int32)), some (.int (0 : Int32)), none]) dX1_takePieces_3 (Nat.le_of_ble_eq_true rfl) rfl ?_
  refine lpX1_takePieces_4 P σ a1 (0 : Int32) W_ ?_
  show zz G mX1_takePieces 3 0 0 Q_ 53 [none, none, some (.int (zfor (fX1_takePieces_4 a1) 18 ((0 : Int32), σ)).1), none, none] [] (hh P (zfor (fX1_takePieces_4 a1) 18 ((0 : Int32), σ)).2) 0 0
  refine z_iload_n dX1_takePieces_53 rfl ?_
  exact z_ireturn dX1_takePieces_54 rfl rfl (Nat.le_of_ble_eq_true rfl) (Nat.le_of_ble_eq_true rfl) (by rw [← hQ_]; exact ⟨(by rw [rX1_takePieces]), (by rw [sX1_takePieces])⟩)

theorem dX1_holes_2 : decode cX1_holes 2 = .ok (.iload_n 1, 1) := by decide +kernel
theorem dX1_holes_3 : decode cX1_holes 3 = .ok (.bipush 18, 2) := by decide +kernel
theorem dX1_holes_5 : decode cX1_holes 5 = .ok (.if_icmp .ge 26, 3) := by decide +kernel
theorem dX1_holes_8 : decode cX1_holes 8 = .ok (.aload_n 0, 1) := by decide +kernel
theorem dX1_holes_9 : decode cX1_holes 9 = .ok (.getfield 15, 3) := by decide +kernel
theorem dX1_holes_12 : decode cX1_holes 12 = .ok (.iload_n 1, 1) := by decide +kernel
theorem dX1_holes_13 : decode cX1_holes 13 = .ok (.aload_n 0, 1) := by decide +kernel
theorem dX1_holes_14 : decode cX1_holes 14 = .ok (.getfield 11, 3) := by decide +kernel
theorem dX1_holes_17 : decode cX1_holes 17 = .ok (.iload_n 1, 1) := by decide +kernel
theorem dX1_holes_18 : decode cX1_holes 18 = .ok (.iaload, 1) := by decide +kernel
theorem dX1_holes_19 : decode cX1_holes 19 = .ok (.iconst (-1), 1) := by decide +kernel
theorem dX1_holes_20 : decode cX1_holes 20 = .ok (.ixor, 1) := by decide +kernel
theorem dX1_holes_21 : decode cX1_holes 21 = .ok (.ldc 58, 2) := by decide +kernel
theorem dX1_holes_23 : decode cX1_holes 23 = .ok (.iand, 1) := by decide +kernel
theorem dX1_holes_24 : decode cX1_holes 24 = .ok (.iastore, 1) := by decide +kernel
theorem dX1_holes_25 : decode cX1_holes 25 = .ok (.iinc 1 1, 3) := by decide +kernel
theorem dX1_holes_28 : decode cX1_holes 28 = .ok (.goto (-26), 3) := by decide +kernel
theorem dX1_holes_31 : decode cX1_holes 31 = .ok (.aload_n 0, 1) := by decide +kernel
theorem dX1_holes_32 : decode cX1_holes 32 = .ok (.iconst 4, 1) := by decide +kernel
theorem dX1_holes_33 : decode cX1_holes 33 = .ok (.invokevirtual 55, 3) := by decide +kernel
theorem dX1_holes_36 : decode cX1_holes 36 = .ok (.iconst 1, 1) := by decide +kernel
theorem dX1_holes_37 : decode cX1_holes 37 = .ok (.isub, 1) := by decide +kernel
noncomputable def fX1_holes_2 (i_ : Nat) (a_ : zc_N) : zc_N := (zu a_ 6 (zu (a_ 6) (nI i_).toNatClampNeg ((((a_ 5) (nI i_).toNatClampNeg) ^^^ (-1 : Int32)) &&& (262143 : Int32))))
set_option maxHeartbeats 2000000 in
theorem lpX1_holes_2 {G : zc_G} {Q : Option Value → zc_H → Prop} (P : zp) (σ : zc_N)
    (W2_ : zz G mX1_holes 4 0 0 Q 31 [some (.ref 4), none] [] (hh P (zfor fX1_holes_2 18 σ)) 0 0) :
    zz G mX1_holes 4 0 0 Q 2 [some (.ref 4), some (.int (nI 0))] [] (hh P σ) 0 0 := by
  refine zfor_nI (fun i_ a_ => zz G mX1_holes 4 0 0 Q 2 [some (.ref 4), some (.int i_)] [] (hh P a_) 0 0) fX1_holes_2 18 σ (fun i_ hi_ k_ => ?_) ?_
  · generalize zfor fX1_holes_2 i_ σ = g_ at k_ ⊢
    rw [fX1_holes_2] at k_
    refine z_iload_n dX1_holes_2 rfl ?_
    refine z_bipush dX1_holes_3 k_bipush_18 ?_
    refine z_icmp_ge (tgt := 31) dX1_holes_5 (by decide) (fun c_ => absurd c_ (nI_ge hi_ (by decide))) (fun c_ => ?_)
    refine z_aloadr_n dX1_holes_8 rfl ?_
    refine z_get (ci := 1) (r := (RX1, TX1, 3)) (j := 1) (v := .ref 6) dX1_holes_9 (Nat.le_of_ble_eq_true rfl) (zN rfl) rfl rfl (Nat.le_of_ble_eq_true rfl) fl_X1_15 rfl ?_
    refine z_iload_n dX1_holes_12 rfl ?_
    refine z_aloadr_n dX1_holes_13 rfl ?_
    refine z_get (ci := 1) (r := (RX1, TX1, 3)) (j := 0) (v := .ref 5) dX1_holes_14 (Nat.le_of_ble_eq_true rfl) (zN rfl) rfl rfl (Nat.le_of_ble_eq_true rfl) fl_X1_11 rfl ?_
    refine z_iload_n dX1_holes_17 rfl ?_
    refine z_iald (v := ((g_ 5) (nI i_).toNatClampNeg)) dX1_holes_18 (zN rfl) rfl (vp_in_nI (Nat.lt_of_lt_of_le hi_ (Nat.le_of_ble_eq_true rfl)) (by decide)) rfl ?_
    refine z_iconst dX1_holes_19 k_iconst_m1 ?_
    refine z_ixor (v := (((g_ 5) (nI i_).toNatClampNeg) ^^^ (-1 : Int32))) dX1_holes_20 rfl ?_
    refine z_ldc dX1_holes_21 ck_X1_58 ?_
    refine z_iand (v := ((((g_ 5) (nI i_).toNatClampNeg) ^^^ (-1 : Int32)) &&& (262143 : Int32))) dX1_holes_23 rfl ?_
    refine z_iast (σ' := (zu g_ 6 (zu (g_ 6) (nI i_).toNatClampNeg ((((g_ 5) (nI i_).toNatClampNeg) ^^^ (-1 : Int32)) &&& (262143 : Int32))))) dX1_holes_24 (Nat.le_of_ble_eq_true rfl) (zN rfl) rfl (vp_in_nI (Nat.lt_of_lt_of_le hi_ (Nat.le_of_ble_eq_true rfl)) (by decide)) rfl ?_
    refine z_iinc (v := ((nI i_) + (1 : Int32))) (lv' := [some (.ref 4), some (.int ((nI i_) + (1 : Int32)))]) dX1_holes_25 (Nat.le_of_ble_eq_true rfl) rfl (by rw [k_iconst_1]) rfl ?_
    refine z_goto (tgt := 2) dX1_holes_28 (by decide) ?_
    rw [nI_1]
    exact k_
  · generalize zfor fX1_holes_2 18 σ = g_ at W2_ ⊢
    refine z_iload_n dX1_holes_2 rfl ?_
    refine z_bipush dX1_holes_3 k_bipush_18 ?_
    refine z_icmp_ge (tgt := 31) dX1_holes_5 (by decide) (fun c_ => ?_) (fun c_ => absurd (by decide) c_)
    exact zz_sub (lv' := [some (.ref 4), none]) ⟨rfl, trivial⟩ W2_

theorem dX1_holes_0 : decode cX1_holes 0 = .ok (.iconst 0, 1) := by decide +kernel
theorem dX1_holes_1 : decode cX1_holes 1 = .ok (.istore_n 1, 1) := by decide +kernel
theorem dX1_holes_38 : decode cX1_holes 38 = .ok (.ireturn, 1) := by decide +kernel
def pX1_holes (σ : zc_N) : Prop := (pX1_takePieces (zfor fX1_holes_2 18 σ) (4 : Int32))
noncomputable def rX1_holes (σ : zc_N) : Int32 := ((rX1_takePieces (zfor fX1_holes_2 18 σ) (4 : Int32)) - (1 : Int32))
noncomputable def sX1_holes (σ : zc_N) : zc_N := (sX1_takePieces (zfor fX1_holes_2 18 σ) (4 : Int32))
set_option maxHeartbeats 1000000 in
theorem ctX1_holes (P : zp) (σ : zc_N) (W_ : (pX1_holes σ)) : sp mX1_holes 4 0 0 [.ref 4] (hh P σ) (fun r_ h_ => r_ = some (.int (rX1_holes σ)) ∧ h_ = hh P (sX1_holes σ)) := by
  refine sp_of (lv := [some (.ref 4), none]) (by decide) (zcats_ok _ rfl) (Nat.le_of_ble_eq_true rfl) (zlv_ok _ 1 rfl) (fun G => ?_)
  generalize hQ_ : (fun (r_ : Option Value) (h_ : zc_H) => r_ = some (.int (rX1_holes σ)) ∧ h_ = hh P (sX1_holes σ)) = Q_
  unfold pX1_holes at W_
  refine z_iconst dX1_holes_0 k_iconst_0 ?_
  refine z_istore_n (lv' := [some (.ref 4), some (.int (0 : Int32))]) dX1_holes_1 (Nat.le_of_ble_eq_true rfl) rfl ?_
  refine lpX1_holes_2 P σ ?_
  show zz G mX1_holes 4 0 0 Q_ 31 [some (.ref 4), none] [] (hh P (zfor fX1_holes_2 18 σ)) 0 0
  refine z_aloadr_n dX1_holes_31 rfl ?_
  refine z_iconst dX1_holes_32 k_iconst_4 ?_
  refine z_callV (ci := 1) (r := (RX1, TX1, 3)) (b := 4) (As := [.int (4 : Int32)]) (rest := []) (ctX1_takePieces P (zfor fX1_holes_2 18 σ) (4 : Int32) W_) dX1_holes_33 lk_X1_55 lv_X1_takePieces (Nat.le_of_ble_eq_true rfl) (zN rfl) rfl rfl rfl rfl (Nat.le_of_ble_eq_true rfl) (Nat.le_of_ble_eq_true rfl) (Nat.le_of_ble_eq_true rfl) (Nat.le_of_ble_eq_true rfl) (fun r_ h_ e_ => ?_)
  obtain ⟨e1_, e2_⟩ := e_
  subst e1_
  subst e2_
  show zz G mX1_holes 4 0 0 Q_ 36 [some (.ref 4), none] [.int (rX1_takePieces (zfor fX1_holes_2 18 σ) (4 : Int32))] (hh P (sX1_takePieces (zfor fX1_holes_2 18 σ) (4 : Int32))) 0 0
  refine z_iconst dX1_holes_36 k_iconst_1 ?_
  refine z_isub (v := ((rX1_takePieces (zfor fX1_holes_2 18 σ) (4 : Int32)) - (1 : Int32))) dX1_holes_37 rfl ?_
  exact z_ireturn dX1_holes_38 rfl rfl (Nat.le_of_ble_eq_true rfl) (Nat.le_of_ble_eq_true rfl) (by rw [← hQ_]; exact ⟨(by rw [rX1_holes]), (by rw [sX1_holes])⟩)

theorem dX1_darkPieces_0 : decode cX1_darkPieces 0 = .ok (.aload_n 0, 1) := by decide +kernel
theorem dX1_darkPieces_1 : decode cX1_darkPieces 1 = .ok (.getfield 11, 3) := by decide +kernel
theorem dX1_darkPieces_4 : decode cX1_darkPieces 4 = .ok (.iconst 0, 1) := by decide +kernel
theorem dX1_darkPieces_5 : decode cX1_darkPieces 5 = .ok (.aload_n 0, 1) := by decide +kernel
theorem dX1_darkPieces_6 : decode cX1_darkPieces 6 = .ok (.getfield 15, 3) := by decide +kernel
theorem dX1_darkPieces_9 : decode cX1_darkPieces 9 = .ok (.iconst 0, 1) := by decide +kernel
theorem dX1_darkPieces_10 : decode cX1_darkPieces 10 = .ok (.bipush 18, 2) := by decide +kernel
theorem dX1_darkPieces_12 : decode cX1_darkPieces 12 = .ok (.invokestatic 49, 3) := by decide +kernel
theorem dX1_darkPieces_15 : decode cX1_darkPieces 15 = .ok (.aload_n 0, 1) := by decide +kernel
theorem dX1_darkPieces_16 : decode cX1_darkPieces 16 = .ok (.bipush 8, 2) := by decide +kernel
theorem dX1_darkPieces_18 : decode cX1_darkPieces 18 = .ok (.invokevirtual 55, 3) := by decide +kernel
theorem dX1_darkPieces_21 : decode cX1_darkPieces 21 = .ok (.ireturn, 1) := by decide +kernel
noncomputable def vX1_darkPieces_1 (σ : zc_N) : zc_N := (sX1_takePieces (zu σ 6 (va_cpy (σ 5) (σ 6) (0 : Int32).toNatClampNeg (0 : Int32).toNatClampNeg (18 : Int32).toNatClampNeg)) (8 : Int32))
def pX1_darkPieces (σ : zc_N) : Prop := (pX1_takePieces (zu σ 6 (va_cpy (σ 5) (σ 6) (0 : Int32).toNatClampNeg (0 : Int32).toNatClampNeg (18 : Int32).toNatClampNeg)) (8 : Int32))
noncomputable def rX1_darkPieces (σ : zc_N) : Int32 := (rX1_takePieces (zu σ 6 (va_cpy (σ 5) (σ 6) (0 : Int32).toNatClampNeg (0 : Int32).toNatClampNeg (18 : Int32).toNatClampNeg)) (8 : Int32))
noncomputable def sX1_darkPieces (σ : zc_N) : zc_N := (vX1_darkPieces_1 σ)
set_option maxHeartbeats 1000000 in
theorem ctX1_darkPieces (P : zp) (σ : zc_N) (W_ : (pX1_darkPieces σ)) : sp mX1_darkPieces 4 0 0 [.ref 4] (hh P σ) (fun r_ h_ => r_ = some (.int (rX1_darkPieces σ)) ∧ h_ = hh P (sX1_darkPieces σ)) := by
  refine sp_of (lv := [some (.ref 4)]) (by decide) (zcats_ok _ rfl) (Nat.le_of_ble_eq_true rfl) (zlv_ok _ 0 rfl) (fun G => ?_)
  generalize hQ_ : (fun (r_ : Option Value) (h_ : zc_H) => r_ = some (.int (rX1_darkPieces σ)) ∧ h_ = hh P (sX1_darkPieces σ)) = Q_
  unfold pX1_darkPieces at W_
  refine z_aloadr_n dX1_darkPieces_0 rfl ?_
  refine z_get (ci := 1) (r := (RX1, TX1, 3)) (j := 0) (v := .ref 5) dX1_darkPieces_1 (Nat.le_of_ble_eq_true rfl) (zN rfl) rfl rfl (Nat.le_of_ble_eq_true rfl) fl_X1_11 rfl ?_
  refine z_iconst dX1_darkPieces_4 k_iconst_0 ?_
  refine z_aloadr_n dX1_darkPieces_5 rfl ?_
  refine z_get (ci := 1) (r := (RX1, TX1, 3)) (j := 1) (v := .ref 6) dX1_darkPieces_6 (Nat.le_of_ble_eq_true rfl) (zN rfl) rfl rfl (Nat.le_of_ble_eq_true rfl) fl_X1_15 rfl ?_
  refine z_iconst dX1_darkPieces_9 k_iconst_0 ?_
  refine z_bipush dX1_darkPieces_10 k_bipush_18 ?_
  refine z_acopy (σ' := (zu σ 6 (va_cpy (σ 5) (σ 6) (0 : Int32).toNatClampNeg (0 : Int32).toNatClampNeg (18 : Int32).toNatClampNeg))) dX1_darkPieces_12 aw_X1_49 (Nat.le_of_ble_eq_true rfl) (zN rfl) rfl (Nat.le_of_ble_eq_true rfl) (zN rfl) rfl (by decide) (by decide) (by decide) (by decide) (by decide) (Nat.le_of_ble_eq_true rfl) (Nat.le_of_ble_eq_true rfl) rfl ?_
  refine z_aloadr_n dX1_darkPieces_15 rfl ?_
  refine z_bipush dX1_darkPieces_16 k_bipush_8 ?_
  refine z_callV (ci := 1) (r := (RX1, TX1, 3)) (b := 4) (As := [.int (8 : Int32)]) (rest := []) (ctX1_takePieces P (zu σ 6 (va_cpy (σ 5) (σ 6) (0 : Int32).toNatClampNeg (0 : Int32).toNatClampNeg (18 : Int32).toNatClampNeg)) (8 : Int32) W_) dX1_darkPieces_18 lk_X1_55 lv_X1_takePieces (Nat.le_of_ble_eq_true rfl) (zN rfl) rfl rfl rfl rfl (Nat.le_of_ble_eq_true rfl) (Nat.le_of_ble_eq_true rfl) (Nat.le_of_ble_eq_true rfl) (Nat.le_of_ble_eq_true rfl) (fun r_ h_ e_ => ?_)
  obtain ⟨e1_, e2_⟩ := e_
  subst e1_
  subst e2_
  show zz G mX1_darkPieces 4 0 0 Q_ 21 [some (.ref 4)] [.int (rX1_takePieces (zu σ 6 (va_cpy (σ 5) (σ 6) (0 : Int32).toNatClampNeg (0 : Int32).toNatClampNeg (18 : Int32).toNatClampNeg)) (8 : Int32))] (hh P (vX1_darkPieces_1 σ)) 0 0
  exact z_ireturn dX1_darkPieces_21 rfl rfl (Nat.le_of_ble_eq_true rfl) (Nat.le_of_ble_eq_true rfl) (by rw [← hQ_]; exact ⟨(by rw [rX1_darkPieces]), (by rw [sX1_darkPieces])⟩)

theorem dX8_feed_0 : decode cX8_feed 0 = .ok (.iload_n 1, 1) := by decide +kernel
theorem dX8_feed_1 : decode cX8_feed 1 = .ok (.iconst 0, 1) := by decide +kernel
theorem dX8_feed_2 : decode cX8_feed 2 = .ok (.bipush 15, 2) := by decide +kernel
theorem dX8_feed_4 : decode cX8_feed 4 = .ok (.invokestatic 67, 3) := by decide +kernel
theorem dX8_feed_7 : decode cX8_feed 7 = .ok (.ifCond .eq 13, 3) := by decide +kernel
theorem dX8_feed_10 : decode cX8_feed 10 = .ok (.iload_n 2, 1) := by decide +kernel
theorem dX8_feed_11 : decode cX8_feed 11 = .ok (.iconst 0, 1) := by decide +kernel
theorem dX8_feed_12 : decode cX8_feed 12 = .ok (.ldc 71, 2) := by decide +kernel
theorem dX8_feed_14 : decode cX8_feed 14 = .ok (.invokestatic 67, 3) := by decide +kernel
theorem dX8_feed_17 : decode cX8_feed 17 = .ok (.ifCond .ne 5, 3) := by decide +kernel
theorem dX8_feed_20 : decode cX8_feed 20 = .ok (.iconst (-1), 1) := by decide +kernel
theorem dX8_feed_21 : decode cX8_feed 21 = .ok (.ireturn, 1) := by decide +kernel
theorem dX8_feed_22 : decode cX8_feed 22 = .ok (.aload_n 0, 1) := by decide +kernel
theorem dX8_feed_23 : decode cX8_feed 23 = .ok (.getfield 12, 3) := by decide +kernel
theorem dX8_feed_26 : decode cX8_feed 26 = .ok (.iload_n 1, 1) := by decide +kernel
theorem dX8_feed_27 : decode cX8_feed 27 = .ok (.iload_n 2, 1) := by decide +kernel
theorem dX8_feed_28 : decode cX8_feed 28 = .ok (.invokevirtual 72, 3) := by decide +kernel
theorem dX8_feed_31 : decode cX8_feed 31 = .ok (.aload_n 0, 1) := by decide +kernel
theorem dX8_feed_32 : decode cX8_feed 32 = .ok (.getfield 12, 3) := by decide +kernel
theorem dX8_feed_35 : decode cX8_feed 35 = .ok (.invokevirtual 76, 3) := by decide +kernel
theorem dX8_feed_38 : decode cX8_feed 38 = .ok (.ireturn, 1) := by decide +kernel
def pX8_feed (a1 : Int32) (a2 : Int32) : Prop := (((rX8_isWithin a1 (0 : Int32) (15 : Int32)) = (0 : Int32) → True) ∧ (¬ (rX8_isWithin a1 (0 : Int32) (15 : Int32)) = (0 : Int32) → (((rX8_isWithin a2 (0 : Int32) (65535 : Int32)) = (0 : Int32) → True) ∧ (¬ (rX8_isWithin a2 (0 : Int32) (65535 : Int32)) = (0 : Int32) → (pX1_setRow a1)))))
noncomputable def rX8_feed (σ : zc_N) (a1 : Int32) (a2 : Int32) : Int32 := (if (rX8_isWithin a1 (0 : Int32) (15 : Int32)) = (0 : Int32) then (-1 : Int32) else (if (rX8_isWithin a2 (0 : Int32) (65535 : Int32)) = (0 : Int32) then (-1 : Int32) else (rX1_darkCells (sX1_setRow σ a1 a2))))
noncomputable def sX8_feed (σ : zc_N) (a1 : Int32) (a2 : Int32) : zc_N := (if (rX8_isWithin a1 (0 : Int32) (15 : Int32)) = (0 : Int32) then σ else (if (rX8_isWithin a2 (0 : Int32) (65535 : Int32)) = (0 : Int32) then σ else (sX1_setRow σ a1 a2)))
set_option maxHeartbeats 1000000 in
theorem ctX8_feed (P : zp) (σ : zc_N) (a1 : Int32) (a2 : Int32) (W_ : (pX8_feed a1 a2)) : sp mX8_feed 3 0 0 [.ref 3, .int a1, .int a2] (hh P σ) (fun r_ h_ => r_ = some (.int (rX8_feed σ a1 a2)) ∧ h_ = hh P (sX8_feed σ a1 a2)) := by
  refine sp_of (lv := [some (.ref 3), some (.int a1), some (.int a2)]) (by decide) (zcats_ok _ rfl) (Nat.le_of_ble_eq_true rfl) (zlv_ok _ 0 rfl) (fun G => ?_)
  generalize hQ_ : (fun (r_ : Option Value) (h_ : zc_H) => r_ = some (.int (rX8_feed σ a1 a2)) ∧ h_ = hh P (sX8_feed σ a1 a2)) = Q_
  unfold pX8_feed at W_
  refine z_iload_n dX8_feed_0 rfl ?_
  refine z_iconst dX8_feed_1 k_iconst_0 ?_
  refine z_bipush dX8_feed_2 k_bipush_15 ?_
  refine z_callS (As := [.int a1, .int (0 : Int32), .int (15 : Int32)]) (rest := []) (ctX8_isWithin P σ a1 (0 : Int32) (15 : Int32)) dX8_feed_4 lk_X8_67 ls_X8_isWithin rfl (Nat.le_of_ble_eq_true rfl) (Nat.le_of_ble_eq_true rfl) (Nat.le_of_ble_eq_true rfl) (Nat.le_of_ble_eq_true rfl) (fun r_ h_ e_ => ?_)
  obtain ⟨e1_, e2_⟩ := e_
  subst e1_
  subst e2_
  show zz G mX8_feed 3 0 0 Q_ 7 [some (.ref 3), some (.int a1), some (.int a2)] [.int (rX8_isWithin a1 (0 : Int32) (15 : Int32))] (hh P σ) 0 0
  refine z_if_eq (tgt := 20) dX8_feed_7 (by decide) (fun c_1 => ?_) (fun c_1 => ?_)
  · refine z_iconst dX8_feed_20 k_iconst_m1 ?_
    exact z_ireturn dX8_feed_21 rfl rfl (Nat.le_of_ble_eq_true rfl) (Nat.le_of_ble_eq_true rfl) (by rw [← hQ_]; exact ⟨(by rw [rX8_feed]; try simp only [if_pos c_1]), (by rw [sX8_feed]; try simp only [if_pos c_1])⟩)
  · refine z_iload_n dX8_feed_10 rfl ?_
    refine z_iconst dX8_feed_11 k_iconst_0 ?_
    refine z_ldc dX8_feed_12 ck_X8_71 ?_
    refine z_callS (As := [.int a2, .int (0 : Int32), .int (65535 : Int32)]) (rest := []) (ctX8_isWithin P σ a2 (0 : Int32) (65535 : Int32)) dX8_feed_14 lk_X8_67 ls_X8_isWithin rfl (Nat.le_of_ble_eq_true rfl) (Nat.le_of_ble_eq_true rfl) (Nat.le_of_ble_eq_true rfl) (Nat.le_of_ble_eq_true rfl) (fun r_ h_ e_ => ?_)
    obtain ⟨e1_, e2_⟩ := e_
    subst e1_
    subst e2_
    show zz G mX8_feed 3 0 0 Q_ 17 [some (.ref 3), some (.int a1), some (.int a2)] [.int (rX8_isWithin a2 (0 : Int32) (65535 : Int32))] (hh P σ) 0 0
    refine z_if_ne (tgt := 22) dX8_feed_17 (by decide) (fun c_2 => ?_) (fun c_2 => ?_)
    · refine z_aloadr_n dX8_feed_22 rfl ?_
      refine z_get (ci := 8) (r := (RX8, TX8, 12)) (j := 0) (v := .ref 4) dX8_feed_23 (Nat.le_of_ble_eq_true rfl) (zN rfl) rfl rfl (Nat.le_of_ble_eq_true rfl) fl_X8_12 rfl ?_
      refine z_iload_n dX8_feed_26 rfl ?_
      refine z_iload_n dX8_feed_27 rfl ?_
      refine z_callV (ci := 1) (r := (RX1, TX1, 3)) (b := 4) (As := [.int a1, .int a2]) (rest := []) (ctX1_setRow P σ a1 a2 ((W_.2 c_1).2 c_2)) dX8_feed_28 lk_X8_72 lv_X1_setRow (Nat.le_of_ble_eq_true rfl) (zN rfl) rfl rfl rfl rfl (Nat.le_of_ble_eq_true rfl) (Nat.le_of_ble_eq_true rfl) (Nat.le_of_ble_eq_true rfl) (Nat.le_of_ble_eq_true rfl) (fun r_ h_ e_ => ?_)
      obtain ⟨e1_, e2_⟩ := e_
      subst e1_
      subst e2_
      show zz G mX8_feed 3 0 0 Q_ 31 [some (.ref 3), some (.int a1), some (.int a2)] [] (hh P (sX1_setRow σ a1 a2)) 0 0
      refine z_aloadr_n dX8_feed_31 rfl ?_
      refine z_get (ci := 8) (r := (RX8, TX8, 12)) (j := 0) (v := .ref 4) dX8_feed_32 (Nat.le_of_ble_eq_true rfl) (zN rfl) rfl rfl (Nat.le_of_ble_eq_true rfl) fl_X8_12 rfl ?_
      refine z_callV (ci := 1) (r := (RX1, TX1, 3)) (b := 4) (As := []) (rest := []) (ctX1_darkCells P (sX1_setRow σ a1 a2)) dX8_feed_35 lk_X8_76 lv_X1_darkCells (Nat.le_of_ble_eq_true rfl) (zN rfl) rfl rfl rfl rfl (Nat.le_of_ble_eq_true rfl) (Nat.le_of_ble_eq_true rfl) (Nat.le_of_ble_eq_true rfl) (Nat.le_of_ble_eq_true rfl) (fun r_ h_ e_ => ?_)
      obtain ⟨e1_, e2_⟩ := e_
      subst e1_
      subst e2_
      show zz G mX8_feed 3 0 0 Q_ 38 [some (.ref 3), some (.int a1), some (.int a2)] [.int (rX1_darkCells (sX1_setRow σ a1 a2))] (hh P (sX1_setRow σ a1 a2)) 0 0
      exact z_ireturn dX8_feed_38 rfl rfl (Nat.le_of_ble_eq_true rfl) (Nat.le_of_ble_eq_true rfl) (by rw [← hQ_]; exact ⟨(by rw [rX8_feed]; try simp only [if_neg c_1, if_neg c_2]), (by rw [sX8_feed]; try simp only [if_neg c_1, if_neg c_2])⟩)
    · refine z_iconst dX8_feed_20 k_iconst_m1 ?_
      exact z_ireturn dX8_feed_21 rfl rfl (Nat.le_of_ble_eq_true rfl) (Nat.le_of_ble_eq_true rfl) (by rw [← hQ_]; exact ⟨(by rw [rX8_feed]; try simp only [if_neg c_1, if_pos c_2]), (by rw [sX8_feed]; try simp only [if_neg c_1, if_pos c_2])⟩)

theorem dX8_row_0 : decode cX8_row 0 = .ok (.iload_n 1, 1) := by decide +kernel
theorem dX8_row_1 : decode cX8_row 1 = .ok (.iconst 0, 1) := by decide +kernel
theorem dX8_row_2 : decode cX8_row 2 = .ok (.bipush 15, 2) := by decide +kernel
theorem dX8_row_4 : decode cX8_row 4 = .ok (.invokestatic 67, 3) := by decide +kernel
theorem dX8_row_7 : decode cX8_row 7 = .ok (.ifCond .eq 14, 3) := by decide +kernel
theorem dX8_row_10 : decode cX8_row 10 = .ok (.aload_n 0, 1) := by decide +kernel
theorem dX8_row_11 : decode cX8_row 11 = .ok (.getfield 12, 3) := by decide +kernel
theorem dX8_row_14 : decode cX8_row 14 = .ok (.iload_n 1, 1) := by decide +kernel
theorem dX8_row_15 : decode cX8_row 15 = .ok (.invokevirtual 80, 3) := by decide +kernel
theorem dX8_row_18 : decode cX8_row 18 = .ok (.goto 4, 3) := by decide +kernel
theorem dX8_row_21 : decode cX8_row 21 = .ok (.iconst (-1), 1) := by decide +kernel
theorem dX8_row_22 : decode cX8_row 22 = .ok (.ireturn, 1) := by decide +kernel
def pX8_row (a1 : Int32) : Prop := (((rX8_isWithin a1 (0 : Int32) (15 : Int32)) = (0 : Int32) → True) ∧ (¬ (rX8_isWithin a1 (0 : Int32) (15 : Int32)) = (0 : Int32) → (pX1_bitsOf a1)))
noncomputable def rX8_row (σ : zc_N) (a1 : Int32) : Int32 := (if (rX8_isWithin a1 (0 : Int32) (15 : Int32)) = (0 : Int32) then (-1 : Int32) else (rX1_bitsOf σ a1))
set_option maxHeartbeats 1000000 in
theorem ctX8_row (P : zp) (σ : zc_N) (a1 : Int32) (W_ : (pX8_row a1)) : sp mX8_row 2 0 0 [.ref 3, .int a1] (hh P σ) (fun r_ h_ => r_ = some (.int (rX8_row σ a1)) ∧ h_ = hh P σ) := by
  refine sp_of (lv := [some (.ref 3), some (.int a1)]) (by decide) (zcats_ok _ rfl) (Nat.le_of_ble_eq_true rfl) (zlv_ok _ 0 rfl) (fun G => ?_)
  generalize hQ_ : (fun (r_ : Option Value) (h_ : zc_H) => r_ = some (.int (rX8_row σ a1)) ∧ h_ = hh P σ) = Q_
  unfold pX8_row at W_
  refine z_iload_n dX8_row_0 rfl ?_
  refine z_iconst dX8_row_1 k_iconst_0 ?_
  refine z_bipush dX8_row_2 k_bipush_15 ?_
  refine z_callS (As := [.int a1, .int (0 : Int32), .int (15 : Int32)]) (rest := []) (ctX8_isWithin P σ a1 (0 : Int32) (15 : Int32)) dX8_row_4 lk_X8_67 ls_X8_isWithin rfl (Nat.le_of_ble_eq_true rfl) (Nat.le_of_ble_eq_true rfl) (Nat.le_of_ble_eq_true rfl) (Nat.le_of_ble_eq_true rfl) (fun r_ h_ e_ => ?_)
  obtain ⟨e1_, e2_⟩ := e_
  subst e1_
  subst e2_
  show zz G mX8_row 2 0 0 Q_ 7 [some (.ref 3), some (.int a1)] [.int (rX8_isWithin a1 (0 : Int32) (15 : Int32))] (hh P σ) 0 0
  have K_1 : zz G mX8_row 2 0 0 Q_ 22 [none, none] [.int (if (rX8_isWithin a1 (0 : Int32) (15 : Int32)) = (0 : Int32) then (-1 : Int32) else (rX1_bitsOf σ a1))] (hh P σ) 0 0 := by
    exact z_ireturn dX8_row_22 rfl rfl (Nat.le_of_ble_eq_true rfl) (Nat.le_of_ble_eq_true rfl) (by rw [← hQ_]; exact ⟨(by rw [rX8_row]), rfl⟩)
  refine z_if_eq (tgt := 21) dX8_row_7 (by decide) (fun c_1 => ?_) (fun c_1 => ?_)
  · refine z_iconst dX8_row_21 k_iconst_m1 ?_
    refine zz_sub (lv' := [none, none]) trivial ?_
    rw [show (if (rX8_isWithin a1 (0 : Int32) (15 : Int32)) = (0 : Int32) then (-1 : Int32) else (rX1_bitsOf σ a1)) = (-1 : Int32) from (if_pos c_1)] at K_1
    exact K_1
  · refine z_aloadr_n dX8_row_10 rfl ?_
    refine z_get (ci := 8) (r := (RX8, TX8, 12)) (j := 0) (v := .ref 4) dX8_row_11 (Nat.le_of_ble_eq_true rfl) (zN rfl) rfl rfl (Nat.le_of_ble_eq_true rfl) fl_X8_12 rfl ?_
    refine z_iload_n dX8_row_14 rfl ?_
    refine z_callV (ci := 1) (r := (RX1, TX1, 3)) (b := 4) (As := [.int a1]) (rest := []) (ctX1_bitsOf P σ a1 (W_.2 c_1)) dX8_row_15 lk_X8_80 lv_X1_bitsOf (Nat.le_of_ble_eq_true rfl) (zN rfl) rfl rfl rfl rfl (Nat.le_of_ble_eq_true rfl) (Nat.le_of_ble_eq_true rfl) (Nat.le_of_ble_eq_true rfl) (Nat.le_of_ble_eq_true rfl) (fun r_ h_ e_ => ?_)
    obtain ⟨e1_, e2_⟩ := e_
    subst e1_
    subst e2_
    show zz G mX8_row 2 0 0 Q_ 18 [some (.ref 3), some (.int a1)] [.int (rX1_bitsOf σ a1)] (hh P σ) 0 0
    refine z_goto (tgt := 22) dX8_row_18 (by decide) ?_
    refine zz_sub (lv' := [none, none]) trivial ?_
    rw [show (if (rX8_isWithin a1 (0 : Int32) (15 : Int32)) = (0 : Int32) then (-1 : Int32) else (rX1_bitsOf σ a1)) = (rX1_bitsOf σ a1) from (if_neg c_1)] at K_1
    exact K_1

theorem dX8_thin_0 : decode cX8_thin 0 = .ok (.aload_n 0, 1) := by decide +kernel
theorem dX8_thin_1 : decode cX8_thin 1 = .ok (.getfield 12, 3) := by decide +kernel
theorem dX8_thin_4 : decode cX8_thin 4 = .ok (.invokevirtual 84, 3) := by decide +kernel
theorem dX8_thin_7 : decode cX8_thin 7 = .ok (.ireturn, 1) := by decide +kernel
def pX8_thin (σ : zc_N) : Prop := (pX1_takeThinned σ)
noncomputable def rX8_thin (σ : zc_N) : Int32 := (rX1_takeThinned σ)
noncomputable def sX8_thin (σ : zc_N) : zc_N := (sX1_takeThinned σ)
set_option maxHeartbeats 1000000 in
theorem ctX8_thin (P : zp) (σ : zc_N) (W_ : (pX8_thin σ)) : sp mX8_thin 6 0 0 [.ref 3] (hh P σ) (fun r_ h_ => r_ = some (.int (rX8_thin σ)) ∧ h_ = hh P (sX8_thin σ)) := by
  refine sp_of (lv := [some (.ref 3)]) (by decide) (zcats_ok _ rfl) (Nat.le_of_ble_eq_true rfl) (zlv_ok _ 0 rfl) (fun G => ?_)
  generalize hQ_ : (fun (r_ : Option Value) (h_ : zc_H) => r_ = some (.int (rX8_thin σ)) ∧ h_ = hh P (sX8_thin σ)) = Q_
  unfold pX8_thin at W_
  refine z_aloadr_n dX8_thin_0 rfl ?_
  refine z_get (ci := 8) (r := (RX8, TX8, 12)) (j := 0) (v := .ref 4) dX8_thin_1 (Nat.le_of_ble_eq_true rfl) (zN rfl) rfl rfl (Nat.le_of_ble_eq_true rfl) fl_X8_12 rfl ?_
  refine z_callV (ci := 1) (r := (RX1, TX1, 3)) (b := 4) (As := []) (rest := []) (ctX1_takeThinned P σ W_) dX8_thin_4 lk_X8_84 lv_X1_takeThinned (Nat.le_of_ble_eq_true rfl) (zN rfl) rfl rfl rfl rfl (Nat.le_of_ble_eq_true rfl) (Nat.le_of_ble_eq_true rfl) (Nat.le_of_ble_eq_true rfl) (Nat.le_of_ble_eq_true rfl) (fun r_ h_ e_ => ?_)
  obtain ⟨e1_, e2_⟩ := e_
  subst e1_
  subst e2_
  show zz G mX8_thin 6 0 0 Q_ 7 [some (.ref 3)] [.int (rX1_takeThinned σ)] (hh P (sX1_takeThinned σ)) 0 0
  exact z_ireturn dX8_thin_7 rfl rfl (Nat.le_of_ble_eq_true rfl) (Nat.le_of_ble_eq_true rfl) (by rw [← hQ_]; exact ⟨(by rw [rX8_thin]), (by rw [sX8_thin])⟩)

theorem dX8_pieces_0 : decode cX8_pieces 0 = .ok (.iload_n 1, 1) := by decide +kernel
theorem dX8_pieces_1 : decode cX8_pieces 1 = .ok (.lookupswitch 43 #[(0, 27), (1, 35)], 27) := by decide +kernel
theorem dX8_pieces_28 : decode cX8_pieces 28 = .ok (.aload_n 0, 1) := by decide +kernel
theorem dX8_pieces_29 : decode cX8_pieces 29 = .ok (.getfield 12, 3) := by decide +kernel
theorem dX8_pieces_32 : decode cX8_pieces 32 = .ok (.invokevirtual 87, 3) := by decide +kernel
theorem dX8_pieces_35 : decode cX8_pieces 35 = .ok (.ireturn, 1) := by decide +kernel
theorem dX8_pieces_36 : decode cX8_pieces 36 = .ok (.aload_n 0, 1) := by decide +kernel
theorem dX8_pieces_37 : decode cX8_pieces 37 = .ok (.getfield 12, 3) := by decide +kernel
theorem dX8_pieces_40 : decode cX8_pieces 40 = .ok (.invokevirtual 90, 3) := by decide +kernel
theorem dX8_pieces_43 : decode cX8_pieces 43 = .ok (.ireturn, 1) := by decide +kernel
theorem dX8_pieces_44 : decode cX8_pieces 44 = .ok (.iconst (-1), 1) := by decide +kernel
theorem dX8_pieces_45 : decode cX8_pieces 45 = .ok (.ireturn, 1) := by decide +kernel
def pX8_pieces (σ : zc_N) (a1 : Int32) : Prop := ((a1 = (0 : Int32) → (pX1_darkPieces σ)) ∧ ((a1 = (1 : Int32) → (pX1_holes σ)) ∧ (¬ a1 = (0 : Int32) → ¬ a1 = (1 : Int32) → True)))
noncomputable def rX8_pieces (σ : zc_N) (a1 : Int32) : Int32 := (if a1 = (0 : Int32) then (rX1_darkPieces σ) else (if a1 = (1 : Int32) then (rX1_holes σ) else (-1 : Int32)))
noncomputable def sX8_pieces (σ : zc_N) (a1 : Int32) : zc_N := (if a1 = (0 : Int32) then (sX1_darkPieces σ) else (if a1 = (1 : Int32) then (sX1_holes σ) else σ))
set_option maxHeartbeats 1000000 in
theorem ctX8_pieces (P : zp) (σ : zc_N) (a1 : Int32) (W_ : (pX8_pieces σ a1)) : sp mX8_pieces 6 0 0 [.ref 3, .int a1] (hh P σ) (fun r_ h_ => r_ = some (.int (rX8_pieces σ a1)) ∧ h_ = hh P (sX8_pieces σ a1)) := by
  refine sp_of (lv := [some (.ref 3), some (.int a1)]) (by decide) (zcats_ok _ rfl) (Nat.le_of_ble_eq_true rfl) (zlv_ok _ 0 rfl) (fun G => ?_)
  generalize hQ_ : (fun (r_ : Option Value) (h_ : zc_H) => r_ = some (.int (rX8_pieces σ a1)) ∧ h_ = hh P (sX8_pieces σ a1)) = Q_
  unfold pX8_pieces at W_
  refine z_iload_n dX8_pieces_0 rfl ?_
  by_cases c_1 : a1 = (0 : Int32)
  · refine z_lookup (off := 27) (tgt := 28) dX8_pieces_1 (by decide) (by rw [c_1]; decide) (by decide) ?_
    refine z_aloadr_n dX8_pieces_28 rfl ?_
    refine z_get (ci := 8) (r := (RX8, TX8, 12)) (j := 0) (v := .ref 4) dX8_pieces_29 (Nat.le_of_ble_eq_true rfl) (zN rfl) rfl rfl (Nat.le_of_ble_eq_true rfl) fl_X8_12 rfl ?_
    refine z_callV (ci := 1) (r := (RX1, TX1, 3)) (b := 4) (As := []) (rest := []) (ctX1_darkPieces P σ (W_.1 c_1)) dX8_pieces_32 lk_X8_87 lv_X1_darkPieces (Nat.le_of_ble_eq_true rfl) (zN rfl) rfl rfl rfl rfl (Nat.le_of_ble_eq_true rfl) (Nat.le_of_ble_eq_true rfl) (Nat.le_of_ble_eq_true rfl) (Nat.le_of_ble_eq_true rfl) (fun r_ h_ e_ => ?_)
    obtain ⟨e1_, e2_⟩ := e_
    subst e1_
    subst e2_
    show zz G mX8_pieces 6 0 0 Q_ 35 [some (.ref 3), some (.int a1)] [.int (rX1_darkPieces σ)] (hh P (sX1_darkPieces σ)) 0 0
    exact z_ireturn dX8_pieces_35 rfl rfl (Nat.le_of_ble_eq_true rfl) (Nat.le_of_ble_eq_true rfl) (by rw [← hQ_]; exact ⟨(by rw [rX8_pieces]; try simp only [if_pos c_1]), (by rw [sX8_pieces]; try simp only [if_pos c_1])⟩)
  ·
    by_cases c_2 : a1 = (1 : Int32)
    · refine z_lookup (off := 35) (tgt := 36) dX8_pieces_1 (by decide) (by rw [c_2]; decide) (by decide) ?_
      refine z_aloadr_n dX8_pieces_36 rfl ?_
      refine z_get (ci := 8) (r := (RX8, TX8, 12)) (j := 0) (v := .ref 4) dX8_pieces_37 (Nat.le_of_ble_eq_true rfl) (zN rfl) rfl rfl (Nat.le_of_ble_eq_true rfl) fl_X8_12 rfl ?_
      refine z_callV (ci := 1) (r := (RX1, TX1, 3)) (b := 4) (As := []) (rest := []) (ctX1_holes P σ (W_.2.1 c_2)) dX8_pieces_40 lk_X8_90 lv_X1_holes (Nat.le_of_ble_eq_true rfl) (zN rfl) rfl rfl rfl rfl (Nat.le_of_ble_eq_true rfl) (Nat.le_of_ble_eq_true rfl) (Nat.le_of_ble_eq_true rfl) (Nat.le_of_ble_eq_true rfl) (fun r_ h_ e_ => ?_)
      obtain ⟨e1_, e2_⟩ := e_
      subst e1_
      subst e2_
      show zz G mX8_pieces 6 0 0 Q_ 43 [some (.ref 3), some (.int a1)] [.int (rX1_holes σ)] (hh P (sX1_holes σ)) 0 0
      exact z_ireturn dX8_pieces_43 rfl rfl (Nat.le_of_ble_eq_true rfl) (Nat.le_of_ble_eq_true rfl) (by rw [← hQ_]; exact ⟨(by rw [rX8_pieces]; try simp only [if_neg c_1, if_pos c_2]), (by rw [sX8_pieces]; try simp only [if_neg c_1, if_pos c_2])⟩)
    ·
      refine z_lookup (off := 43) (tgt := 44) dX8_pieces_1 (by decide) (z_look2 c_1 c_2) (by decide) ?_
      refine z_iconst dX8_pieces_44 k_iconst_m1 ?_
      exact z_ireturn dX8_pieces_45 rfl rfl (Nat.le_of_ble_eq_true rfl) (Nat.le_of_ble_eq_true rfl) (by rw [← hQ_]; exact ⟨(by rw [rX8_pieces]; try simp only [if_neg c_1, if_neg c_2]), (by rw [sX8_pieces]; try simp only [if_neg c_1, if_neg c_2])⟩)

theorem dX8_reach_0 : decode cX8_reach 0 = .ok (.iload_n 1, 1) := by decide +kernel
theorem dX8_reach_1 : decode cX8_reach 1 = .ok (.iconst 0, 1) := by decide +kernel
theorem dX8_reach_2 : decode cX8_reach 2 = .ok (.iconst 3, 1) := by decide +kernel
theorem dX8_reach_3 : decode cX8_reach 3 = .ok (.invokestatic 67, 3) := by decide +kernel
theorem dX8_reach_6 : decode cX8_reach 6 = .ok (.ifCond .ne 5, 3) := by decide +kernel
theorem dX8_reach_9 : decode cX8_reach 9 = .ok (.iconst (-1), 1) := by decide +kernel
theorem dX8_reach_10 : decode cX8_reach 10 = .ok (.ireturn, 1) := by decide +kernel
theorem dX8_reach_11 : decode cX8_reach 11 = .ok (.aload_n 0, 1) := by decide +kernel
theorem dX8_reach_12 : decode cX8_reach 12 = .ok (.getfield 33, 3) := by decide +kernel
theorem dX8_reach_15 : decode cX8_reach 15 = .ok (.getfield 133, 3) := by decide +kernel
theorem dX8_reach_18 : decode cX8_reach 18 = .ok (.istore_n 2, 1) := by decide +kernel
theorem dX8_reach_19 : decode cX8_reach 19 = .ok (.aload_n 0, 1) := by decide +kernel
theorem dX8_reach_20 : decode cX8_reach 20 = .ok (.getfield 33, 3) := by decide +kernel
theorem dX8_reach_23 : decode cX8_reach 23 = .ok (.iload_n 1, 1) := by decide +kernel
theorem dX8_reach_24 : decode cX8_reach 24 = .ok (.putfield 133, 3) := by decide +kernel
theorem dX8_reach_27 : decode cX8_reach 27 = .ok (.iload_n 2, 1) := by decide +kernel
theorem dX8_reach_28 : decode cX8_reach 28 = .ok (.ireturn, 1) := by decide +kernel
noncomputable def rX8_reach (σ : zc_N) (a1 : Int32) : Int32 := (if (rX8_isWithin a1 (0 : Int32) (3 : Int32)) = (0 : Int32) then (-1 : Int32) else ((σ 10) 0))
noncomputable def sX8_reach (σ : zc_N) (a1 : Int32) : zc_N := (if (rX8_isWithin a1 (0 : Int32) (3 : Int32)) = (0 : Int32) then σ else (zu σ 10 (zu (σ 10) 0 a1)))
set_option maxHeartbeats 1000000 in
theorem ctX8_reach (P : zp) (σ : zc_N) (a1 : Int32) : sp mX8_reach 2 0 0 [.ref 3, .int a1] (hh P σ) (fun r_ h_ => r_ = some (.int (rX8_reach σ a1)) ∧ h_ = hh P (sX8_reach σ a1)) := by
  refine sp_of (lv := [some (.ref 3), some (.int a1), none]) (by decide) (zcats_ok _ rfl) (Nat.le_of_ble_eq_true rfl) (zlv_ok _ 1 rfl) (fun G => ?_)
  generalize hQ_ : (fun (r_ : Option Value) (h_ : zc_H) => r_ = some (.int (rX8_reach σ a1)) ∧ h_ = hh P (sX8_reach σ a1)) = Q_
  refine z_iload_n dX8_reach_0 rfl ?_
  refine z_iconst dX8_reach_1 k_iconst_0 ?_
  refine z_iconst dX8_reach_2 k_iconst_3 ?_
  refine z_callS (As := [.int a1, .int (0 : Int32), .int (3 : Int32)]) (rest := []) (ctX8_isWithin P σ a1 (0 : Int32) (3 : Int32)) dX8_reach_3 lk_X8_67 ls_X8_isWithin rfl (Nat.le_of_ble_eq_true rfl) (Nat.le_of_ble_eq_true rfl) (Nat.le_of_ble_eq_true rfl) (Nat.le_of_ble_eq_true rfl) (fun r_ h_ e_ => ?_)
  obtain ⟨e1_, e2_⟩ := e_
  subst e1_
  subst e2_
  show zz G mX8_reach 2 0 0 Q_ 6 [some (.ref 3), some (.int a1), none] [.int (rX8_isWithin a1 (0 : Int32) (3 : Int32))] (hh P σ) 0 0
  refine z_if_ne (tgt := 11) dX8_reach_6 (by decide) (fun c_1 => ?_) (fun c_1 => ?_)
  · refine z_aloadr_n dX8_reach_11 rfl ?_
    refine z_get (ci := 8) (r := (RX8, TX8, 12)) (j := 4) (v := .ref 10) dX8_reach_12 (Nat.le_of_ble_eq_true rfl) (zN rfl) rfl rfl (Nat.le_of_ble_eq_true rfl) fl_X8_33 rfl ?_
    refine z_get (ci := 4) (r := (RX4, TX4, 10)) (j := 0) (v := .int ((σ 10) 0)) dX8_reach_15 (Nat.le_of_ble_eq_true rfl) (zN rfl) rfl rfl (Nat.le_of_ble_eq_true rfl) fl_X8_133 rfl ?_
    refine z_istore_n (lv' := [some (.ref 3), some (.int a1), some (.int ((σ 10) 0))]) dX8_reach_18 (Nat.le_of_ble_eq_true rfl) rfl ?_
    refine z_aloadr_n dX8_reach_19 rfl ?_
    refine z_get (ci := 8) (r := (RX8, TX8, 12)) (j := 4) (v := .ref 10) dX8_reach_20 (Nat.le_of_ble_eq_true rfl) (zN rfl) rfl rfl (Nat.le_of_ble_eq_true rfl) fl_X8_33 rfl ?_
    refine z_iload_n dX8_reach_23 rfl ?_
    refine z_put (ci := 4) (r := (RX4, TX4, 10)) (j := 0) (σ' := (zu σ 10 (zu (σ 10) 0 a1))) dX8_reach_24 (Nat.le_of_ble_eq_true rfl) (zN rfl) rfl rfl (Nat.le_of_ble_eq_true rfl) fl_X8_133 rfl rfl rfl rfl rfl ?_
    refine z_iload_n dX8_reach_27 rfl ?_
    exact z_ireturn dX8_reach_28 rfl rfl (Nat.le_of_ble_eq_true rfl) (Nat.le_of_ble_eq_true rfl) (by rw [← hQ_]; exact ⟨(by rw [rX8_reach]; try simp only [if_neg c_1]), (by rw [sX8_reach]; try simp only [if_neg c_1])⟩)
  · refine z_iconst dX8_reach_9 k_iconst_m1 ?_
    exact z_ireturn dX8_reach_10 rfl rfl (Nat.le_of_ble_eq_true rfl) (Nat.le_of_ble_eq_true rfl) (by rw [← hQ_]; exact ⟨(by rw [rX8_reach]; try simp only [if_pos c_1]), (by rw [sX8_reach]; try simp only [if_pos c_1])⟩)

theorem dX8_told_0 : decode cX8_told 0 = .ok (.aload_n 0, 1) := by decide +kernel
theorem dX8_told_1 : decode cX8_told 1 = .ok (.getfield 44, 3) := by decide +kernel
theorem dX8_told_4 : decode cX8_told 4 = .ok (.ifCond .ne 7, 3) := by decide +kernel
theorem dX8_told_7 : decode cX8_told 7 = .ok (.sipush (-1000), 3) := by decide +kernel
theorem dX8_told_10 : decode cX8_told 10 = .ok (.ireturn, 1) := by decide +kernel
theorem dX8_told_11 : decode cX8_told 11 = .ok (.iload_n 1, 1) := by decide +kernel
theorem dX8_told_12 : decode cX8_told 12 = .ok (.tableswitch 108 0 6 #[44, 52, 60, 68, 76, 84, 92], 44) := by decide +kernel
theorem dX8_told_56 : decode cX8_told 56 = .ok (.aload_n 0, 1) := by decide +kernel
theorem dX8_told_57 : decode cX8_told 57 = .ok (.getfield 40, 3) := by decide +kernel
theorem dX8_told_60 : decode cX8_told 60 = .ok (.getfield 150, 3) := by decide +kernel
theorem dX8_told_63 : decode cX8_told 63 = .ok (.ireturn, 1) := by decide +kernel
theorem dX8_told_64 : decode cX8_told 64 = .ok (.aload_n 0, 1) := by decide +kernel
theorem dX8_told_65 : decode cX8_told 65 = .ok (.getfield 40, 3) := by decide +kernel
theorem dX8_told_68 : decode cX8_told 68 = .ok (.getfield 153, 3) := by decide +kernel
theorem dX8_told_71 : decode cX8_told 71 = .ok (.ireturn, 1) := by decide +kernel
theorem dX8_told_72 : decode cX8_told 72 = .ok (.aload_n 0, 1) := by decide +kernel
theorem dX8_told_73 : decode cX8_told 73 = .ok (.getfield 40, 3) := by decide +kernel
theorem dX8_told_76 : decode cX8_told 76 = .ok (.getfield 144, 3) := by decide +kernel
theorem dX8_told_79 : decode cX8_told 79 = .ok (.ireturn, 1) := by decide +kernel
theorem dX8_told_80 : decode cX8_told 80 = .ok (.aload_n 0, 1) := by decide +kernel
theorem dX8_told_81 : decode cX8_told 81 = .ok (.getfield 40, 3) := by decide +kernel
theorem dX8_told_84 : decode cX8_told 84 = .ok (.getfield 156, 3) := by decide +kernel
theorem dX8_told_87 : decode cX8_told 87 = .ok (.ireturn, 1) := by decide +kernel
theorem dX8_told_88 : decode cX8_told 88 = .ok (.aload_n 0, 1) := by decide +kernel
theorem dX8_told_89 : decode cX8_told 89 = .ok (.getfield 40, 3) := by decide +kernel
theorem dX8_told_92 : decode cX8_told 92 = .ok (.getfield 159, 3) := by decide +kernel
theorem dX8_told_95 : decode cX8_told 95 = .ok (.ireturn, 1) := by decide +kernel
theorem dX8_told_96 : decode cX8_told 96 = .ok (.aload_n 0, 1) := by decide +kernel
theorem dX8_told_97 : decode cX8_told 97 = .ok (.getfield 40, 3) := by decide +kernel
theorem dX8_told_100 : decode cX8_told 100 = .ok (.getfield 162, 3) := by decide +kernel
theorem dX8_told_103 : decode cX8_told 103 = .ok (.ireturn, 1) := by decide +kernel
theorem dX8_told_104 : decode cX8_told 104 = .ok (.aload_n 0, 1) := by decide +kernel
theorem dX8_told_105 : decode cX8_told 105 = .ok (.getfield 40, 3) := by decide +kernel
theorem dX8_told_108 : decode cX8_told 108 = .ok (.getfield 165, 3) := by decide +kernel
theorem dX8_told_111 : decode cX8_told 111 = .ok (.ifCond .eq 7, 3) := by decide +kernel
theorem dX8_told_114 : decode cX8_told 114 = .ok (.iconst 1, 1) := by decide +kernel
theorem dX8_told_115 : decode cX8_told 115 = .ok (.goto 4, 3) := by decide +kernel
theorem dX8_told_118 : decode cX8_told 118 = .ok (.iconst 0, 1) := by decide +kernel
theorem dX8_told_119 : decode cX8_told 119 = .ok (.ireturn, 1) := by decide +kernel
theorem dX8_told_120 : decode cX8_told 120 = .ok (.sipush (-1000), 3) := by decide +kernel
theorem dX8_told_123 : decode cX8_told 123 = .ok (.ireturn, 1) := by decide +kernel
noncomputable def rX8_told (σ : zc_N) (a1 : Int32) : Int32 := (if ((σ 3) 6) = (0 : Int32) then (-1000 : Int32) else (if a1 = (0 : Int32) then ((σ 23) 4) else (if a1 = (1 : Int32) then ((σ 23) 5) else (if a1 = (2 : Int32) then ((σ 23) 6) else (if a1 = (3 : Int32) then ((σ 23) 1) else (if a1 = (4 : Int32) then ((σ 23) 2) else (if a1 = (5 : Int32) then ((σ 23) 3) else (if a1 = (6 : Int32) then (if ((σ 23) 0) = (0 : Int32) then (0 : Int32) else (1 : Int32)) else (-1000 : Int32)))))))))
set_option maxHeartbeats 1000000 in
theorem ctX8_told (P : zp) (σ : zc_N) (a1 : Int32) : sp mX8_told 1 0 0 [.ref 3, .int a1] (hh P σ) (fun r_ h_ => r_ = some (.int (rX8_told σ a1)) ∧ h_ = hh P σ) := by
  refine sp_of (lv := [some (.ref 3), some (.int a1)]) (by decide) (zcats_ok _ rfl) (Nat.le_of_ble_eq_true rfl) (zlv_ok _ 0 rfl) (fun G => ?_)
  generalize hQ_ : (fun (r_ : Option Value) (h_ : zc_H) => r_ = some (.int (rX8_told σ a1)) ∧ h_ = hh P σ) = Q_
  refine z_aloadr_n dX8_told_0 rfl ?_
  refine z_get (ci := 8) (r := (RX8, TX8, 12)) (j := 6) (v := .int ((σ 3) 6)) dX8_told_1 (Nat.le_of_ble_eq_true rfl) (zN rfl) rfl rfl (Nat.le_of_ble_eq_true rfl) fl_X8_44 rfl ?_
  refine z_if_ne (tgt := 11) dX8_told_4 (by decide) (fun c_1 => ?_) (fun c_1 => ?_)
  · refine z_iload_n dX8_told_11 rfl ?_
    by_cases c_2 : a1 = (0 : Int32)
    · refine z_tin (off := 44) (tgt := 56) dX8_told_12 (by rw [c_2]; decide) (by rw [c_2]; decide) (by rw [c_2]; decide) (by decide) ?_
      refine z_aloadr_n dX8_told_56 rfl ?_
      refine z_get (ci := 8) (r := (RX8, TX8, 12)) (j := 5) (v := .ref 23) dX8_told_57 (Nat.le_of_ble_eq_true rfl) (zN rfl) rfl rfl (Nat.le_of_ble_eq_true rfl) fl_X8_40 rfl ?_
      refine z_get (ci := 3) (r := (RX3, TX3, 10)) (j := 4) (v := .int ((σ 23) 4)) dX8_told_60 (Nat.le_of_ble_eq_true rfl) (zN rfl) rfl rfl (Nat.le_of_ble_eq_true rfl) fl_X8_150 rfl ?_
      exact z_ireturn dX8_told_63 rfl rfl (Nat.le_of_ble_eq_true rfl) (Nat.le_of_ble_eq_true rfl) (by rw [← hQ_]; exact ⟨(by rw [rX8_told]; try simp only [if_neg c_1, if_pos c_2]), rfl⟩)
    ·
      by_cases c_3 : a1 = (1 : Int32)
      · refine z_tin (off := 52) (tgt := 64) dX8_told_12 (by rw [c_3]; decide) (by rw [c_3]; decide) (by rw [c_3]; decide) (by decide) ?_
        refine z_aloadr_n dX8_told_64 rfl ?_
        refine z_get (ci := 8) (r := (RX8, TX8, 12)) (j := 5) (v := .ref 23) dX8_told_65 (Nat.le_of_ble_eq_true rfl) (zN rfl) rfl rfl (Nat.le_of_ble_eq_true rfl) fl_X8_40 rfl ?_
        refine z_get (ci := 3) (r := (RX3, TX3, 10)) (j := 5) (v := .int ((σ 23) 5)) dX8_told_68 (Nat.le_of_ble_eq_true rfl) (zN rfl) rfl rfl (Nat.le_of_ble_eq_true rfl) fl_X8_153 rfl ?_
        exact z_ireturn dX8_told_71 rfl rfl (Nat.le_of_ble_eq_true rfl) (Nat.le_of_ble_eq_true rfl) (by rw [← hQ_]; exact ⟨(by rw [rX8_told]; try simp only [if_neg c_1, if_neg c_2, if_pos c_3]), rfl⟩)
      ·
        by_cases c_4 : a1 = (2 : Int32)
        · refine z_tin (off := 60) (tgt := 72) dX8_told_12 (by rw [c_4]; decide) (by rw [c_4]; decide) (by rw [c_4]; decide) (by decide) ?_
          refine z_aloadr_n dX8_told_72 rfl ?_
          refine z_get (ci := 8) (r := (RX8, TX8, 12)) (j := 5) (v := .ref 23) dX8_told_73 (Nat.le_of_ble_eq_true rfl) (zN rfl) rfl rfl (Nat.le_of_ble_eq_true rfl) fl_X8_40 rfl ?_
          refine z_get (ci := 3) (r := (RX3, TX3, 10)) (j := 6) (v := .int ((σ 23) 6)) dX8_told_76 (Nat.le_of_ble_eq_true rfl) (zN rfl) rfl rfl (Nat.le_of_ble_eq_true rfl) fl_X8_144 rfl ?_
          exact z_ireturn dX8_told_79 rfl rfl (Nat.le_of_ble_eq_true rfl) (Nat.le_of_ble_eq_true rfl) (by rw [← hQ_]; exact ⟨(by rw [rX8_told]; try simp only [if_neg c_1, if_neg c_2, if_neg c_3, if_pos c_4]), rfl⟩)
        ·
          by_cases c_5 : a1 = (3 : Int32)
          · refine z_tin (off := 68) (tgt := 80) dX8_told_12 (by rw [c_5]; decide) (by rw [c_5]; decide) (by rw [c_5]; decide) (by decide) ?_
            refine z_aloadr_n dX8_told_80 rfl ?_
            refine z_get (ci := 8) (r := (RX8, TX8, 12)) (j := 5) (v := .ref 23) dX8_told_81 (Nat.le_of_ble_eq_true rfl) (zN rfl) rfl rfl (Nat.le_of_ble_eq_true rfl) fl_X8_40 rfl ?_
            refine z_get (ci := 3) (r := (RX3, TX3, 10)) (j := 1) (v := .int ((σ 23) 1)) dX8_told_84 (Nat.le_of_ble_eq_true rfl) (zN rfl) rfl rfl (Nat.le_of_ble_eq_true rfl) fl_X8_156 rfl ?_
            exact z_ireturn dX8_told_87 rfl rfl (Nat.le_of_ble_eq_true rfl) (Nat.le_of_ble_eq_true rfl) (by rw [← hQ_]; exact ⟨(by rw [rX8_told]; try simp only [if_neg c_1, if_neg c_2, if_neg c_3, if_neg c_4, if_pos c_5]), rfl⟩)
          ·
            by_cases c_6 : a1 = (4 : Int32)
            · refine z_tin (off := 76) (tgt := 88) dX8_told_12 (by rw [c_6]; decide) (by rw [c_6]; decide) (by rw [c_6]; decide) (by decide) ?_
              refine z_aloadr_n dX8_told_88 rfl ?_
              refine z_get (ci := 8) (r := (RX8, TX8, 12)) (j := 5) (v := .ref 23) dX8_told_89 (Nat.le_of_ble_eq_true rfl) (zN rfl) rfl rfl (Nat.le_of_ble_eq_true rfl) fl_X8_40 rfl ?_
              refine z_get (ci := 3) (r := (RX3, TX3, 10)) (j := 2) (v := .int ((σ 23) 2)) dX8_told_92 (Nat.le_of_ble_eq_true rfl) (zN rfl) rfl rfl (Nat.le_of_ble_eq_true rfl) fl_X8_159 rfl ?_
              exact z_ireturn dX8_told_95 rfl rfl (Nat.le_of_ble_eq_true rfl) (Nat.le_of_ble_eq_true rfl) (by rw [← hQ_]; exact ⟨(by rw [rX8_told]; try simp only [if_neg c_1, if_neg c_2, if_neg c_3, if_neg c_4, if_neg c_5, if_pos c_6]), rfl⟩)
            ·
              by_cases c_7 : a1 = (5 : Int32)
              · refine z_tin (off := 84) (tgt := 96) dX8_told_12 (by rw [c_7]; decide) (by rw [c_7]; decide) (by rw [c_7]; decide) (by decide) ?_
                refine z_aloadr_n dX8_told_96 rfl ?_
                refine z_get (ci := 8) (r := (RX8, TX8, 12)) (j := 5) (v := .ref 23) dX8_told_97 (Nat.le_of_ble_eq_true rfl) (zN rfl) rfl rfl (Nat.le_of_ble_eq_true rfl) fl_X8_40 rfl ?_
                refine z_get (ci := 3) (r := (RX3, TX3, 10)) (j := 3) (v := .int ((σ 23) 3)) dX8_told_100 (Nat.le_of_ble_eq_true rfl) (zN rfl) rfl rfl (Nat.le_of_ble_eq_true rfl) fl_X8_162 rfl ?_
                exact z_ireturn dX8_told_103 rfl rfl (Nat.le_of_ble_eq_true rfl) (Nat.le_of_ble_eq_true rfl) (by rw [← hQ_]; exact ⟨(by rw [rX8_told]; try simp only [if_neg c_1, if_neg c_2, if_neg c_3, if_neg c_4, if_neg c_5, if_neg c_6, if_pos c_7]), rfl⟩)
              ·
                by_cases c_8 : a1 = (6 : Int32)
                · refine z_tin (off := 92) (tgt := 104) dX8_told_12 (by rw [c_8]; decide) (by rw [c_8]; decide) (by rw [c_8]; decide) (by decide) ?_
                  refine z_aloadr_n dX8_told_104 rfl ?_
                  refine z_get (ci := 8) (r := (RX8, TX8, 12)) (j := 5) (v := .ref 23) dX8_told_105 (Nat.le_of_ble_eq_true rfl) (zN rfl) rfl rfl (Nat.le_of_ble_eq_true rfl) fl_X8_40 rfl ?_
                  refine z_get (ci := 3) (r := (RX3, TX3, 10)) (j := 0) (v := .int ((σ 23) 0)) dX8_told_108 (Nat.le_of_ble_eq_true rfl) (zN rfl) rfl rfl (Nat.le_of_ble_eq_true rfl) fl_X8_165 rfl ?_
                  have K_1 : zz G mX8_told 1 0 0 Q_ 119 [none, none] [.int (if ((σ 23) 0) = (0 : Int32) then (0 : Int32) else (1 : Int32))] (hh P σ) 0 0 := by
                    exact z_ireturn dX8_told_119 rfl rfl (Nat.le_of_ble_eq_true rfl) (Nat.le_of_ble_eq_true rfl) (by rw [← hQ_]; exact ⟨(by rw [rX8_told]; try simp only [if_neg c_1, if_neg c_2, if_neg c_3, if_neg c_4, if_neg c_5, if_neg c_6, if_neg c_7, if_pos c_8]), rfl⟩)
                  refine z_if_eq (tgt := 118) dX8_told_111 (by decide) (fun c_9 => ?_) (fun c_9 => ?_)
                  · refine z_iconst dX8_told_118 k_iconst_0 ?_
                    refine zz_sub (lv' := [none, none]) trivial ?_
                    rw [show (if ((σ 23) 0) = (0 : Int32) then (0 : Int32) else (1 : Int32)) = (0 : Int32) from (if_pos c_9)] at K_1
                    exact K_1
                  · refine z_iconst dX8_told_114 k_iconst_1 ?_
                    refine z_goto (tgt := 119) dX8_told_115 (by decide) ?_
                    refine zz_sub (lv' := [none, none]) trivial ?_
                    rw [show (if ((σ 23) 0) = (0 : Int32) then (0 : Int32) else (1 : Int32)) = (1 : Int32) from (if_neg c_9)] at K_1
                    exact K_1
                ·
                  refine z_tout (tgt := 120) dX8_told_12 (z_tab7 c_2 c_3 c_4 c_5 c_6 c_7 c_8) (by decide) ?_
                  refine z_sipush dX8_told_120 k_sipush_m1000 ?_
                  exact z_ireturn dX8_told_123 rfl rfl (Nat.le_of_ble_eq_true rfl) (Nat.le_of_ble_eq_true rfl) (by rw [← hQ_]; exact ⟨(by rw [rX8_told]; try simp only [if_neg c_1, if_neg c_2, if_neg c_3, if_neg c_4, if_neg c_5, if_neg c_6, if_neg c_7, if_neg c_8]), rfl⟩)
  · refine z_sipush dX8_told_7 k_sipush_m1000 ?_
    exact z_ireturn dX8_told_10 rfl rfl (Nat.le_of_ble_eq_true rfl) (Nat.le_of_ble_eq_true rfl) (by rw [← hQ_]; exact ⟨(by rw [rX8_told]; try simp only [if_pos c_1]), rfl⟩)

theorem dX8_pair_0 : decode cX8_pair 0 = .ok (.aload_n 0, 1) := by decide +kernel
theorem dX8_pair_1 : decode cX8_pair 1 = .ok (.getfield 44, 3) := by decide +kernel
theorem dX8_pair_4 : decode cX8_pair 4 = .ok (.ifCond .eq 25, 3) := by decide +kernel
theorem dX8_pair_7 : decode cX8_pair 7 = .ok (.iload_n 1, 1) := by decide +kernel
theorem dX8_pair_8 : decode cX8_pair 8 = .ok (.iconst 0, 1) := by decide +kernel
theorem dX8_pair_9 : decode cX8_pair 9 = .ok (.bipush 11, 2) := by decide +kernel
theorem dX8_pair_11 : decode cX8_pair 11 = .ok (.invokestatic 67, 3) := by decide +kernel
theorem dX8_pair_14 : decode cX8_pair 14 = .ok (.ifCond .eq 15, 3) := by decide +kernel
theorem dX8_pair_17 : decode cX8_pair 17 = .ok (.aload_n 0, 1) := by decide +kernel
theorem dX8_pair_18 : decode cX8_pair 18 = .ok (.getfield 40, 3) := by decide +kernel
theorem dX8_pair_21 : decode cX8_pair 21 = .ok (.getfield 168, 3) := by decide +kernel
theorem dX8_pair_24 : decode cX8_pair 24 = .ok (.iload_n 1, 1) := by decide +kernel
theorem dX8_pair_25 : decode cX8_pair 25 = .ok (.iaload, 1) := by decide +kernel
theorem dX8_pair_26 : decode cX8_pair 26 = .ok (.goto 4, 3) := by decide +kernel
theorem dX8_pair_29 : decode cX8_pair 29 = .ok (.iconst (-1), 1) := by decide +kernel
theorem dX8_pair_30 : decode cX8_pair 30 = .ok (.ireturn, 1) := by decide +kernel
def pX8_pair (σ : zc_N) (a1 : Int32) : Prop := ((((σ 3) 6) = (0 : Int32) → True) ∧ (¬ ((σ 3) 6) = (0 : Int32) → (((rX8_isWithin a1 (0 : Int32) (11 : Int32)) = (0 : Int32) → True) ∧ (¬ (rX8_isWithin a1 (0 : Int32) (11 : Int32)) = (0 : Int32) → vp_in a1 12))))
noncomputable def rX8_pair (σ : zc_N) (a1 : Int32) : Int32 := (if ((σ 3) 6) = (0 : Int32) then (-1 : Int32) else (if (rX8_isWithin a1 (0 : Int32) (11 : Int32)) = (0 : Int32) then (-1 : Int32) else ((σ 24) a1.toNatClampNeg)))
set_option maxHeartbeats 1000000 in
theorem ctX8_pair (P : zp) (σ : zc_N) (a1 : Int32) (W_ : (pX8_pair σ a1)) : sp mX8_pair 2 0 0 [.ref 3, .int a1] (hh P σ) (fun r_ h_ => r_ = some (.int (rX8_pair σ a1)) ∧ h_ = hh P σ) := by
  refine sp_of (lv := [some (.ref 3), some (.int a1)]) (by decide) (zcats_ok _ rfl) (Nat.le_of_ble_eq_true rfl) (zlv_ok _ 0 rfl) (fun G => ?_)
  generalize hQ_ : (fun (r_ : Option Value) (h_ : zc_H) => r_ = some (.int (rX8_pair σ a1)) ∧ h_ = hh P σ) = Q_
  unfold pX8_pair at W_
  refine z_aloadr_n dX8_pair_0 rfl ?_
  refine z_get (ci := 8) (r := (RX8, TX8, 12)) (j := 6) (v := .int ((σ 3) 6)) dX8_pair_1 (Nat.le_of_ble_eq_true rfl) (zN rfl) rfl rfl (Nat.le_of_ble_eq_true rfl) fl_X8_44 rfl ?_
  have K_1 : zz G mX8_pair 2 0 0 Q_ 30 [none, none] [.int (if ((σ 3) 6) = (0 : Int32) then (-1 : Int32) else (if (rX8_isWithin a1 (0 : Int32) (11 : Int32)) = (0 : Int32) then (-1 : Int32) else ((σ 24) a1.toNatClampNeg)))] (hh P σ) 0 0 := by
    exact z_ireturn dX8_pair_30 rfl rfl (Nat.le_of_ble_eq_true rfl) (Nat.le_of_ble_eq_true rfl) (by rw [← hQ_]; exact ⟨(by rw [rX8_pair]), rfl⟩)
  refine z_if_eq (tgt := 29) dX8_pair_4 (by decide) (fun c_1 => ?_) (fun c_1 => ?_)
  · refine z_iconst dX8_pair_29 k_iconst_m1 ?_
    refine zz_sub (lv' := [none, none]) trivial ?_
    rw [show (if ((σ 3) 6) = (0 : Int32) then (-1 : Int32) else (if (rX8_isWithin a1 (0 : Int32) (11 : Int32)) = (0 : Int32) then (-1 : Int32) else ((σ 24) a1.toNatClampNeg))) = (-1 : Int32) from (if_pos c_1)] at K_1
    exact K_1
  · refine z_iload_n dX8_pair_7 rfl ?_
    refine z_iconst dX8_pair_8 k_iconst_0 ?_
    refine z_bipush dX8_pair_9 k_bipush_11 ?_
    refine z_callS (As := [.int a1, .int (0 : Int32), .int (11 : Int32)]) (rest := []) (ctX8_isWithin P σ a1 (0 : Int32) (11 : Int32)) dX8_pair_11 lk_X8_67 ls_X8_isWithin rfl (Nat.le_of_ble_eq_true rfl) (Nat.le_of_ble_eq_true rfl) (Nat.le_of_ble_eq_true rfl) (Nat.le_of_ble_eq_true rfl) (fun r_ h_ e_ => ?_)
    obtain ⟨e1_, e2_⟩ := e_
    subst e1_
    subst e2_
    show zz G mX8_pair 2 0 0 Q_ 14 [some (.ref 3), some (.int a1)] [.int (rX8_isWithin a1 (0 : Int32) (11 : Int32))] (hh P σ) 0 0
    refine z_if_eq (tgt := 29) dX8_pair_14 (by decide) (fun c_2 => ?_) (fun c_2 => ?_)
    · refine z_iconst dX8_pair_29 k_iconst_m1 ?_
      refine zz_sub (lv' := [none, none]) trivial ?_
      rw [show (if ((σ 3) 6) = (0 : Int32) then (-1 : Int32) else (if (rX8_isWithin a1 (0 : Int32) (11 : Int32)) = (0 : Int32) then (-1 : Int32) else ((σ 24) a1.toNatClampNeg))) = (-1 : Int32) from ((if_neg c_1).trans (if_pos c_2))] at K_1
      exact K_1
    · refine z_aloadr_n dX8_pair_17 rfl ?_
      refine z_get (ci := 8) (r := (RX8, TX8, 12)) (j := 5) (v := .ref 23) dX8_pair_18 (Nat.le_of_ble_eq_true rfl) (zN rfl) rfl rfl (Nat.le_of_ble_eq_true rfl) fl_X8_40 rfl ?_
      refine z_get (ci := 3) (r := (RX3, TX3, 10)) (j := 9) (v := .ref 24) dX8_pair_21 (Nat.le_of_ble_eq_true rfl) (zN rfl) rfl rfl (Nat.le_of_ble_eq_true rfl) fl_X8_168 rfl ?_
      refine z_iload_n dX8_pair_24 rfl ?_
      refine z_iald (v := ((σ 24) a1.toNatClampNeg)) dX8_pair_25 (zN rfl) rfl ((W_.2 c_1).2 c_2) rfl ?_
      refine z_goto (tgt := 30) dX8_pair_26 (by decide) ?_
      refine zz_sub (lv' := [none, none]) trivial ?_
      rw [show (if ((σ 3) 6) = (0 : Int32) then (-1 : Int32) else (if (rX8_isWithin a1 (0 : Int32) (11 : Int32)) = (0 : Int32) then (-1 : Int32) else ((σ 24) a1.toNatClampNeg))) = ((σ 24) a1.toNatClampNeg) from ((if_neg c_1).trans (if_neg c_2))] at K_1
      exact K_1

theorem dX8_struck_0 : decode cX8_struck 0 = .ok (.aload_n 0, 1) := by decide +kernel
theorem dX8_struck_1 : decode cX8_struck 1 = .ok (.getfield 64, 3) := by decide +kernel
theorem dX8_struck_4 : decode cX8_struck 4 = .ok (.ifCond .eq 12, 3) := by decide +kernel
theorem dX8_struck_7 : decode cX8_struck 7 = .ok (.iload_n 1, 1) := by decide +kernel
theorem dX8_struck_8 : decode cX8_struck 8 = .ok (.iconst 0, 1) := by decide +kernel
theorem dX8_struck_9 : decode cX8_struck 9 = .ok (.iconst 1, 1) := by decide +kernel
theorem dX8_struck_10 : decode cX8_struck 10 = .ok (.invokestatic 67, 3) := by decide +kernel
theorem dX8_struck_13 : decode cX8_struck 13 = .ok (.ifCond .ne 5, 3) := by decide +kernel
theorem dX8_struck_16 : decode cX8_struck 16 = .ok (.iconst (-1), 1) := by decide +kernel
theorem dX8_struck_17 : decode cX8_struck 17 = .ok (.ireturn, 1) := by decide +kernel
theorem dX8_struck_18 : decode cX8_struck 18 = .ok (.iload_n 1, 1) := by decide +kernel
theorem dX8_struck_19 : decode cX8_struck 19 = .ok (.ifCond .ne 10, 3) := by decide +kernel
theorem dX8_struck_22 : decode cX8_struck 22 = .ok (.aload_n 0, 1) := by decide +kernel
theorem dX8_struck_23 : decode cX8_struck 23 = .ok (.getfield 58, 3) := by decide +kernel
theorem dX8_struck_26 : decode cX8_struck 26 = .ok (.goto 7, 3) := by decide +kernel
theorem dX8_struck_29 : decode cX8_struck 29 = .ok (.aload_n 0, 1) := by decide +kernel
theorem dX8_struck_30 : decode cX8_struck 30 = .ok (.getfield 61, 3) := by decide +kernel
theorem dX8_struck_33 : decode cX8_struck 33 = .ok (.ireturn, 1) := by decide +kernel
noncomputable def rX8_struck (σ : zc_N) (a1 : Int32) : Int32 := (if ((σ 3) 11) = (0 : Int32) then (-1 : Int32) else (if (rX8_isWithin a1 (0 : Int32) (1 : Int32)) = (0 : Int32) then (-1 : Int32) else (if a1 = (0 : Int32) then ((σ 3) 9) else ((σ 3) 10))))
set_option maxHeartbeats 1000000 in
theorem ctX8_struck (P : zp) (σ : zc_N) (a1 : Int32) : sp mX8_struck 2 0 0 [.ref 3, .int a1] (hh P σ) (fun r_ h_ => r_ = some (.int (rX8_struck σ a1)) ∧ h_ = hh P σ) := by
  refine sp_of (lv := [some (.ref 3), some (.int a1)]) (by decide) (zcats_ok _ rfl) (Nat.le_of_ble_eq_true rfl) (zlv_ok _ 0 rfl) (fun G => ?_)
  generalize hQ_ : (fun (r_ : Option Value) (h_ : zc_H) => r_ = some (.int (rX8_struck σ a1)) ∧ h_ = hh P σ) = Q_
  refine z_aloadr_n dX8_struck_0 rfl ?_
  refine z_get (ci := 8) (r := (RX8, TX8, 12)) (j := 11) (v := .int ((σ 3) 11)) dX8_struck_1 (Nat.le_of_ble_eq_true rfl) (zN rfl) rfl rfl (Nat.le_of_ble_eq_true rfl) fl_X8_64 rfl ?_
  refine z_if_eq (tgt := 16) dX8_struck_4 (by decide) (fun c_1 => ?_) (fun c_1 => ?_)
  · refine z_iconst dX8_struck_16 k_iconst_m1 ?_
    exact z_ireturn dX8_struck_17 rfl rfl (Nat.le_of_ble_eq_true rfl) (Nat.le_of_ble_eq_true rfl) (by rw [← hQ_]; exact ⟨(by rw [rX8_struck]; try simp only [if_pos c_1]), rfl⟩)
  · refine z_iload_n dX8_struck_7 rfl ?_
    refine z_iconst dX8_struck_8 k_iconst_0 ?_
    refine z_iconst dX8_struck_9 k_iconst_1 ?_
    refine z_callS (As := [.int a1, .int (0 : Int32), .int (1 : Int32)]) (rest := []) (ctX8_isWithin P σ a1 (0 : Int32) (1 : Int32)) dX8_struck_10 lk_X8_67 ls_X8_isWithin rfl (Nat.le_of_ble_eq_true rfl) (Nat.le_of_ble_eq_true rfl) (Nat.le_of_ble_eq_true rfl) (Nat.le_of_ble_eq_true rfl) (fun r_ h_ e_ => ?_)
    obtain ⟨e1_, e2_⟩ := e_
    subst e1_
    subst e2_
    show zz G mX8_struck 2 0 0 Q_ 13 [some (.ref 3), some (.int a1)] [.int (rX8_isWithin a1 (0 : Int32) (1 : Int32))] (hh P σ) 0 0
    refine z_if_ne (tgt := 18) dX8_struck_13 (by decide) (fun c_2 => ?_) (fun c_2 => ?_)
    · refine z_iload_n dX8_struck_18 rfl ?_
      have K_1 : zz G mX8_struck 2 0 0 Q_ 33 [none, none] [.int (if a1 = (0 : Int32) then ((σ 3) 9) else ((σ 3) 10))] (hh P σ) 0 0 := by
        exact z_ireturn dX8_struck_33 rfl rfl (Nat.le_of_ble_eq_true rfl) (Nat.le_of_ble_eq_true rfl) (by rw [← hQ_]; exact ⟨(by rw [rX8_struck]; try simp only [if_neg c_1, if_neg c_2]), rfl⟩)
      refine z_if_ne (tgt := 29) dX8_struck_19 (by decide) (fun c_3 => ?_) (fun c_3 => ?_)
      · refine z_aloadr_n dX8_struck_29 rfl ?_
        refine z_get (ci := 8) (r := (RX8, TX8, 12)) (j := 10) (v := .int ((σ 3) 10)) dX8_struck_30 (Nat.le_of_ble_eq_true rfl) (zN rfl) rfl rfl (Nat.le_of_ble_eq_true rfl) fl_X8_61 rfl ?_
        refine zz_sub (lv' := [none, none]) trivial ?_
        rw [show (if a1 = (0 : Int32) then ((σ 3) 9) else ((σ 3) 10)) = ((σ 3) 10) from (if_neg c_3)] at K_1
        exact K_1
      · refine z_aloadr_n dX8_struck_22 rfl ?_
        refine z_get (ci := 8) (r := (RX8, TX8, 12)) (j := 9) (v := .int ((σ 3) 9)) dX8_struck_23 (Nat.le_of_ble_eq_true rfl) (zN rfl) rfl rfl (Nat.le_of_ble_eq_true rfl) fl_X8_58 rfl ?_
        refine z_goto (tgt := 33) dX8_struck_26 (by decide) ?_
        refine zz_sub (lv' := [none, none]) trivial ?_
        rw [show (if a1 = (0 : Int32) then ((σ 3) 9) else ((σ 3) 10)) = ((σ 3) 9) from (if_pos c_3)] at K_1
        exact K_1
    · refine z_iconst dX8_struck_16 k_iconst_m1 ?_
      exact z_ireturn dX8_struck_17 rfl rfl (Nat.le_of_ble_eq_true rfl) (Nat.le_of_ble_eq_true rfl) (by rw [← hQ_]; exact ⟨(by rw [rX8_struck]; try simp only [if_neg c_1, if_pos c_2]), rfl⟩)
