/-! ===== wip/whole/p93.py: the constructors, where the law makes them ===== -/
theorem zu_keep_f {f : Nat → Int32} {j : Nat} {x : Int32} (h : f j = x) : zu f j x = f := by rw [← h, zu_same]
abbrev zP0 (L : Nat) : zp := (L, 0, fun _ => 0)
theorem part0 {σ : zc_N} {a : Nat} (h : σ a = fun _ => 0) : zu σ a (zu (zu (zu (zu (σ a) 0 0) 1 0) 2 0) 3 0) = σ := by
  rw [zu_keep_f (congrFun h 0), zu_keep_f (congrFun h 1), zu_keep_f (congrFun h 2), zu_keep_f (congrFun h 3), zu_same]
theorem dX1_init_0 : decode cX1_init 0 = .ok (.aload_n 0, 1) := by decide +kernel
theorem dX1_init_1 : decode cX1_init 1 = .ok (.invokespecial 5, 3) := by decide +kernel
theorem dX1_init_4 : decode cX1_init 4 = .ok (.aload_n 0, 1) := by decide +kernel
theorem dX1_init_5 : decode cX1_init 5 = .ok (.bipush 18, 2) := by decide +kernel
theorem dX1_init_7 : decode cX1_init 7 = .ok (.newarray .int, 2) := by decide +kernel
theorem dX1_init_9 : decode cX1_init 9 = .ok (.putfield 11, 3) := by decide +kernel
theorem dX1_init_12 : decode cX1_init 12 = .ok (.aload_n 0, 1) := by decide +kernel
theorem dX1_init_13 : decode cX1_init 13 = .ok (.bipush 18, 2) := by decide +kernel
theorem dX1_init_15 : decode cX1_init 15 = .ok (.newarray .int, 2) := by decide +kernel
theorem dX1_init_17 : decode cX1_init 17 = .ok (.putfield 15, 3) := by decide +kernel
theorem dX1_init_20 : decode cX1_init 20 = .ok (.aload_n 0, 1) := by decide +kernel
theorem dX1_init_21 : decode cX1_init 21 = .ok (.sipush 324, 3) := by decide +kernel
theorem dX1_init_24 : decode cX1_init 24 = .ok (.newarray .int, 2) := by decide +kernel
theorem dX1_init_26 : decode cX1_init 26 = .ok (.putfield 18, 3) := by decide +kernel
theorem dX1_init_29 : decode cX1_init 29 = .ok (.return_, 1) := by decide +kernel
theorem rf_4 (L : Nat) : ((4, 3, (zu (zu (zu (fun _ => none) 0 (some 5)) 1 (some 6)) 2 (some 7))) : zc_S) = SH (zP0 L) 4 := by
  refine congrArg (fun z => ((4, 3, z) : zc_S)) (funext (fun j => ?_))
  match j with
  | 0 => rfl
  | 1 => rfl
  | 2 => rfl
  | j + 3 => rfl
set_option maxRecDepth 10000 in
set_option maxHeartbeats 4000000 in
theorem ctX1_init_4 (L : Nat) {sh : Nat → zc_S} {σ : zc_N} (hs : sh 4 = (4, 3, fun _ => none)) (h0 : σ 4 = fun _ => 0) : sp mX1_init 1 3 360 [.ref 4] (5, sh, σ) (fun r_ h_ => r_ = none ∧ h_ = (8, (zu (zu (zu (zu sh 4 (SH (zP0 L) 4)) 5 (SH (zP0 L) 5)) 6 (SH (zP0 L) 6)) 7 (SH (zP0 L) 7)), (zu (zu (zu σ 5 (fun _ => (0 : Int32))) 6 (fun _ => (0 : Int32))) 7 (fun _ => (0 : Int32))))) := by
  refine sp_of (lv := [some (.ref 4)]) (by decide) (zcats_ok _ rfl) (Nat.le_of_ble_eq_true rfl) (zlv_ok _ 0 rfl) (fun G => ?_)
  generalize hQ_ : (fun (r_ : Option Value) (h_ : zc_H) => r_ = none ∧ h_ = (8, (zu (zu (zu (zu sh 4 (SH (zP0 L) 4)) 5 (SH (zP0 L) 5)) 6 (SH (zP0 L) 6)) 7 (SH (zP0 L) 7)), (zu (zu (zu σ 5 (fun _ => (0 : Int32))) 6 (fun _ => (0 : Int32))) 7 (fun _ => (0 : Int32))))) = Q_
  refine z_aloadr_n dX1_init_0 rfl ?_
  refine z_objInit dX1_init_1 oi_X1_5 zw_oi2 zw_oi3 (Nat.le_of_ble_eq_true rfl) (Nat.le_of_ble_eq_true rfl) ?_
  refine z_aloadr_n dX1_init_4 rfl ?_
  refine z_bipush (v := (18 : Int32)) dX1_init_5 (by decide +kernel) ?_
  refine z_newi (n := 18) (v := 0) dX1_init_7 (by decide) (by decide) (by decide) zw_ai (Nat.le_of_ble_eq_true rfl) (Nat.le_of_ble_eq_true rfl) ?_
  refine z_putFr (ci := 1) (n := 3) (rf := (fun _ => none)) (r := (RX1, TX1, 3)) (j := 0) dX1_init_9 (Nat.le_of_ble_eq_true rfl) (Nat.le_of_ble_eq_true rfl) hs rfl (Nat.le_of_ble_eq_true rfl) fl_X1_11 rfl rfl rfl rfl (fun _ => rfl) (fun _ => rfl) rfl ?_
  refine z_aloadr_n dX1_init_12 rfl ?_
  refine z_bipush (v := (18 : Int32)) dX1_init_13 (by decide +kernel) ?_
  refine z_newi (n := 18) (v := 0) dX1_init_15 (by decide) (by decide) (by decide) zw_ai (Nat.le_of_ble_eq_true rfl) (Nat.le_of_ble_eq_true rfl) ?_
  refine z_putFr (ci := 1) (n := 3) (rf := (zu (fun _ => none) 0 (some 5))) (r := (RX1, TX1, 3)) (j := 1) dX1_init_17 (Nat.le_of_ble_eq_true rfl) (Nat.le_of_ble_eq_true rfl) rfl rfl (Nat.le_of_ble_eq_true rfl) fl_X1_15 rfl rfl rfl rfl (fun _ => rfl) (fun _ => rfl) rfl ?_
  refine z_aloadr_n dX1_init_20 rfl ?_
  refine z_sipush (v := (324 : Int32)) dX1_init_21 (by decide +kernel) ?_
  refine z_newi (n := 324) (v := 0) dX1_init_24 (by decide) (by decide) (by decide) zw_ai (Nat.le_of_ble_eq_true rfl) (Nat.le_of_ble_eq_true rfl) ?_
  refine z_putFr (ci := 1) (n := 3) (rf := (zu (zu (fun _ => none) 0 (some 5)) 1 (some 6))) (r := (RX1, TX1, 3)) (j := 2) dX1_init_26 (Nat.le_of_ble_eq_true rfl) (Nat.le_of_ble_eq_true rfl) rfl rfl (Nat.le_of_ble_eq_true rfl) fl_X1_18 rfl rfl rfl rfl (fun _ => rfl) (fun _ => rfl) rfl ?_
  have es_ : (zu (zu (zu (zu (zu (zu sh 5 ((0, 18, fun _ => none) : zc_S)) 4 ((4, 3, (zu (fun _ => none) 0 (some 5))) : zc_S)) 6 ((0, 18, fun _ => none) : zc_S)) 4 ((4, 3, (zu (zu (fun _ => none) 0 (some 5)) 1 (some 6))) : zc_S)) 7 ((0, 324, fun _ => none) : zc_S)) 4 ((4, 3, (zu (zu (zu (fun _ => none) 0 (some 5)) 1 (some 6)) 2 (some 7))) : zc_S)) = (zu (zu (zu (zu sh 4 (SH (zP0 L) 4)) 5 (SH (zP0 L) 5)) 6 (SH (zP0 L) 6)) 7 (SH (zP0 L) 7)) := funext (fun k => by
    by_cases e4 : k = 4
    · subst e4
      exact rf_4 L
    by_cases e5 : k = 5
    · subst e5
      rfl
    by_cases e6 : k = 6
    · subst e6
      rfl
    by_cases e7 : k = 7
    · subst e7
      rfl
    simp only [zu, if_neg e4, if_neg e5, if_neg e6, if_neg e7])
  have eg_ : (zu (zu (zu σ 5 (fun _ => (0 : Int32))) 6 (fun _ => (0 : Int32))) 7 (fun _ => (0 : Int32))) = (zu (zu (zu σ 5 (fun _ => (0 : Int32))) 6 (fun _ => (0 : Int32))) 7 (fun _ => (0 : Int32))) := rfl
  exact z_return dX1_init_29 rfl (Nat.le_of_ble_eq_true rfl) (Nat.le_of_ble_eq_true rfl) (by rw [← hQ_]; exact ⟨rfl, (show ((8, (zu (zu (zu (zu (zu (zu sh 5 ((0, 18, fun _ => none) : zc_S)) 4 ((4, 3, (zu (fun _ => none) 0 (some 5))) : zc_S)) 6 ((0, 18, fun _ => none) : zc_S)) 4 ((4, 3, (zu (zu (fun _ => none) 0 (some 5)) 1 (some 6))) : zc_S)) 7 ((0, 324, fun _ => none) : zc_S)) 4 ((4, 3, (zu (zu (zu (fun _ => none) 0 (some 5)) 1 (some 6)) 2 (some 7))) : zc_S)), (zu (zu (zu σ 5 (fun _ => (0 : Int32))) 6 (fun _ => (0 : Int32))) 7 (fun _ => (0 : Int32)))) : zc_H) = _ by rw [es_, eg_])⟩)
theorem dX0_init_0 : decode cX0_init 0 = .ok (.aload_n 0, 1) := by decide +kernel
theorem dX0_init_1 : decode cX0_init 1 = .ok (.invokespecial 3, 3) := by decide +kernel
theorem dX0_init_4 : decode cX0_init 4 = .ok (.aload_n 0, 1) := by decide +kernel
theorem dX0_init_5 : decode cX0_init 5 = .ok (.bipush 22, 2) := by decide +kernel
theorem dX0_init_7 : decode cX0_init 7 = .ok (.newarray .int, 2) := by decide +kernel
theorem dX0_init_9 : decode cX0_init 9 = .ok (.putfield 9, 3) := by decide +kernel
theorem dX0_init_12 : decode cX0_init 12 = .ok (.aload_n 0, 1) := by decide +kernel
theorem dX0_init_13 : decode cX0_init 13 = .ok (.bipush 22, 2) := by decide +kernel
theorem dX0_init_15 : decode cX0_init 15 = .ok (.newarray .int, 2) := by decide +kernel
theorem dX0_init_17 : decode cX0_init 17 = .ok (.putfield 15, 3) := by decide +kernel
theorem dX0_init_20 : decode cX0_init 20 = .ok (.aload_n 0, 1) := by decide +kernel
theorem dX0_init_21 : decode cX0_init 21 = .ok (.iconst 3, 1) := by decide +kernel
theorem dX0_init_22 : decode cX0_init 22 = .ok (.newarray .int, 2) := by decide +kernel
theorem dX0_init_24 : decode cX0_init 24 = .ok (.putfield 18, 3) := by decide +kernel
theorem dX0_init_27 : decode cX0_init 27 = .ok (.return_, 1) := by decide +kernel
theorem rf_12 (L : Nat) : ((3, 3, (zu (zu (zu (fun _ => none) 0 (some 13)) 1 (some 14)) 2 (some 15))) : zc_S) = SH (zP0 L) 12 := by
  refine congrArg (fun z => ((3, 3, z) : zc_S)) (funext (fun j => ?_))
  match j with
  | 0 => rfl
  | 1 => rfl
  | 2 => rfl
  | j + 3 => rfl
set_option maxRecDepth 10000 in
set_option maxHeartbeats 4000000 in
theorem ctX0_init_12 (L : Nat) {sh : Nat → zc_S} {σ : zc_N} (hs : sh 12 = (3, 3, fun _ => none)) (h0 : σ 12 = fun _ => 0) : sp mX0_init 1 3 47 [.ref 12] (13, sh, σ) (fun r_ h_ => r_ = none ∧ h_ = (16, (zu (zu (zu (zu sh 12 (SH (zP0 L) 12)) 13 (SH (zP0 L) 13)) 14 (SH (zP0 L) 14)) 15 (SH (zP0 L) 15)), (zu (zu (zu σ 13 (fun _ => (0 : Int32))) 14 (fun _ => (0 : Int32))) 15 (fun _ => (0 : Int32))))) := by
  refine sp_of (lv := [some (.ref 12)]) (by decide) (zcats_ok _ rfl) (Nat.le_of_ble_eq_true rfl) (zlv_ok _ 0 rfl) (fun G => ?_)
  generalize hQ_ : (fun (r_ : Option Value) (h_ : zc_H) => r_ = none ∧ h_ = (16, (zu (zu (zu (zu sh 12 (SH (zP0 L) 12)) 13 (SH (zP0 L) 13)) 14 (SH (zP0 L) 14)) 15 (SH (zP0 L) 15)), (zu (zu (zu σ 13 (fun _ => (0 : Int32))) 14 (fun _ => (0 : Int32))) 15 (fun _ => (0 : Int32))))) = Q_
  refine z_aloadr_n dX0_init_0 rfl ?_
  refine z_objInit dX0_init_1 oi_X0_3 zw_oi2 zw_oi3 (Nat.le_of_ble_eq_true rfl) (Nat.le_of_ble_eq_true rfl) ?_
  refine z_aloadr_n dX0_init_4 rfl ?_
  refine z_bipush (v := (22 : Int32)) dX0_init_5 (by decide +kernel) ?_
  refine z_newi (n := 22) (v := 0) dX0_init_7 (by decide) (by decide) (by decide) zw_ai (Nat.le_of_ble_eq_true rfl) (Nat.le_of_ble_eq_true rfl) ?_
  refine z_putFr (ci := 0) (n := 3) (rf := (fun _ => none)) (r := (RX0, TX0, 3)) (j := 0) dX0_init_9 (Nat.le_of_ble_eq_true rfl) (Nat.le_of_ble_eq_true rfl) hs rfl (Nat.le_of_ble_eq_true rfl) fl_X0_9 rfl rfl rfl rfl (fun _ => rfl) (fun _ => rfl) rfl ?_
  refine z_aloadr_n dX0_init_12 rfl ?_
  refine z_bipush (v := (22 : Int32)) dX0_init_13 (by decide +kernel) ?_
  refine z_newi (n := 22) (v := 0) dX0_init_15 (by decide) (by decide) (by decide) zw_ai (Nat.le_of_ble_eq_true rfl) (Nat.le_of_ble_eq_true rfl) ?_
  refine z_putFr (ci := 0) (n := 3) (rf := (zu (fun _ => none) 0 (some 13))) (r := (RX0, TX0, 3)) (j := 1) dX0_init_17 (Nat.le_of_ble_eq_true rfl) (Nat.le_of_ble_eq_true rfl) rfl rfl (Nat.le_of_ble_eq_true rfl) fl_X0_15 rfl rfl rfl rfl (fun _ => rfl) (fun _ => rfl) rfl ?_
  refine z_aloadr_n dX0_init_20 rfl ?_
  refine z_iconst (v := (3 : Int32)) dX0_init_21 (by decide +kernel) ?_
  refine z_newi (n := 3) (v := 0) dX0_init_22 (by decide) (by decide) (by decide) zw_ai (Nat.le_of_ble_eq_true rfl) (Nat.le_of_ble_eq_true rfl) ?_
  refine z_putFr (ci := 0) (n := 3) (rf := (zu (zu (fun _ => none) 0 (some 13)) 1 (some 14))) (r := (RX0, TX0, 3)) (j := 2) dX0_init_24 (Nat.le_of_ble_eq_true rfl) (Nat.le_of_ble_eq_true rfl) rfl rfl (Nat.le_of_ble_eq_true rfl) fl_X0_18 rfl rfl rfl rfl (fun _ => rfl) (fun _ => rfl) rfl ?_
  have es_ : (zu (zu (zu (zu (zu (zu sh 13 ((0, 22, fun _ => none) : zc_S)) 12 ((3, 3, (zu (fun _ => none) 0 (some 13))) : zc_S)) 14 ((0, 22, fun _ => none) : zc_S)) 12 ((3, 3, (zu (zu (fun _ => none) 0 (some 13)) 1 (some 14))) : zc_S)) 15 ((0, 3, fun _ => none) : zc_S)) 12 ((3, 3, (zu (zu (zu (fun _ => none) 0 (some 13)) 1 (some 14)) 2 (some 15))) : zc_S)) = (zu (zu (zu (zu sh 12 (SH (zP0 L) 12)) 13 (SH (zP0 L) 13)) 14 (SH (zP0 L) 14)) 15 (SH (zP0 L) 15)) := funext (fun k => by
    by_cases e12 : k = 12
    · subst e12
      exact rf_12 L
    by_cases e13 : k = 13
    · subst e13
      rfl
    by_cases e14 : k = 14
    · subst e14
      rfl
    by_cases e15 : k = 15
    · subst e15
      rfl
    simp only [zu, if_neg e12, if_neg e13, if_neg e14, if_neg e15])
  have eg_ : (zu (zu (zu σ 13 (fun _ => (0 : Int32))) 14 (fun _ => (0 : Int32))) 15 (fun _ => (0 : Int32))) = (zu (zu (zu σ 13 (fun _ => (0 : Int32))) 14 (fun _ => (0 : Int32))) 15 (fun _ => (0 : Int32))) := rfl
  exact z_return dX0_init_27 rfl (Nat.le_of_ble_eq_true rfl) (Nat.le_of_ble_eq_true rfl) (by rw [← hQ_]; exact ⟨rfl, (show ((16, (zu (zu (zu (zu (zu (zu sh 13 ((0, 22, fun _ => none) : zc_S)) 12 ((3, 3, (zu (fun _ => none) 0 (some 13))) : zc_S)) 14 ((0, 22, fun _ => none) : zc_S)) 12 ((3, 3, (zu (zu (fun _ => none) 0 (some 13)) 1 (some 14))) : zc_S)) 15 ((0, 3, fun _ => none) : zc_S)) 12 ((3, 3, (zu (zu (zu (fun _ => none) 0 (some 13)) 1 (some 14)) 2 (some 15))) : zc_S)), (zu (zu (zu σ 13 (fun _ => (0 : Int32))) 14 (fun _ => (0 : Int32))) 15 (fun _ => (0 : Int32)))) : zc_H) = _ by rw [es_, eg_])⟩)
theorem dX5_init_0 : decode cX5_init 0 = .ok (.aload_n 0, 1) := by decide +kernel
theorem dX5_init_1 : decode cX5_init 1 = .ok (.invokespecial 3, 3) := by decide +kernel
theorem dX5_init_4 : decode cX5_init 4 = .ok (.aload_n 0, 1) := by decide +kernel
theorem dX5_init_5 : decode cX5_init 5 = .ok (.bipush 12, 2) := by decide +kernel
theorem dX5_init_7 : decode cX5_init 7 = .ok (.newarray .int, 2) := by decide +kernel
theorem dX5_init_9 : decode cX5_init 9 = .ok (.putfield 9, 3) := by decide +kernel
theorem dX5_init_12 : decode cX5_init 12 = .ok (.aload_n 0, 1) := by decide +kernel
theorem dX5_init_13 : decode cX5_init 13 = .ok (.iconst 0, 1) := by decide +kernel
theorem dX5_init_14 : decode cX5_init 14 = .ok (.putfield 15, 3) := by decide +kernel
theorem dX5_init_17 : decode cX5_init 17 = .ok (.aload_n 0, 1) := by decide +kernel
theorem dX5_init_18 : decode cX5_init 18 = .ok (.bipush 12, 2) := by decide +kernel
theorem dX5_init_20 : decode cX5_init 20 = .ok (.newarray .int, 2) := by decide +kernel
theorem dX5_init_22 : decode cX5_init 22 = .ok (.putfield 19, 3) := by decide +kernel
theorem dX5_init_25 : decode cX5_init 25 = .ok (.aload_n 0, 1) := by decide +kernel
theorem dX5_init_26 : decode cX5_init 26 = .ok (.iconst 0, 1) := by decide +kernel
theorem dX5_init_27 : decode cX5_init 27 = .ok (.putfield 22, 3) := by decide +kernel
theorem dX5_init_30 : decode cX5_init 30 = .ok (.return_, 1) := by decide +kernel
theorem rf_16 (L : Nat) : ((8, 4, (zu (zu (fun _ => none) 0 (some 17)) 2 (some 18))) : zc_S) = SH (zP0 L) 16 := by
  refine congrArg (fun z => ((8, 4, z) : zc_S)) (funext (fun j => ?_))
  match j with
  | 0 => rfl
  | 1 => rfl
  | 2 => rfl
  | 3 => rfl
  | j + 4 => rfl
set_option maxRecDepth 10000 in
set_option maxHeartbeats 4000000 in
theorem ctX5_init_16 (L : Nat) {sh : Nat → zc_S} {σ : zc_N} (hs : sh 16 = (8, 4, fun _ => none)) (h0 : σ 16 = fun _ => 0) : sp mX5_init 1 2 24 [.ref 16] (17, sh, σ) (fun r_ h_ => r_ = none ∧ h_ = (19, (zu (zu (zu sh 16 (SH (zP0 L) 16)) 17 (SH (zP0 L) 17)) 18 (SH (zP0 L) 18)), (zu (zu σ 17 (fun _ => (0 : Int32))) 18 (fun _ => (0 : Int32))))) := by
  refine sp_of (lv := [some (.ref 16)]) (by decide) (zcats_ok _ rfl) (Nat.le_of_ble_eq_true rfl) (zlv_ok _ 0 rfl) (fun G => ?_)
  generalize hQ_ : (fun (r_ : Option Value) (h_ : zc_H) => r_ = none ∧ h_ = (19, (zu (zu (zu sh 16 (SH (zP0 L) 16)) 17 (SH (zP0 L) 17)) 18 (SH (zP0 L) 18)), (zu (zu σ 17 (fun _ => (0 : Int32))) 18 (fun _ => (0 : Int32))))) = Q_
  refine z_aloadr_n dX5_init_0 rfl ?_
  refine z_objInit dX5_init_1 oi_X5_3 zw_oi2 zw_oi3 (Nat.le_of_ble_eq_true rfl) (Nat.le_of_ble_eq_true rfl) ?_
  refine z_aloadr_n dX5_init_4 rfl ?_
  refine z_bipush (v := (12 : Int32)) dX5_init_5 (by decide +kernel) ?_
  refine z_newi (n := 12) (v := 0) dX5_init_7 (by decide) (by decide) (by decide) zw_ai (Nat.le_of_ble_eq_true rfl) (Nat.le_of_ble_eq_true rfl) ?_
  refine z_putFr (ci := 5) (n := 4) (rf := (fun _ => none)) (r := (RX5, TX5, 4)) (j := 0) dX5_init_9 (Nat.le_of_ble_eq_true rfl) (Nat.le_of_ble_eq_true rfl) hs rfl (Nat.le_of_ble_eq_true rfl) fl_X5_9 rfl rfl rfl rfl (fun _ => rfl) (fun _ => rfl) rfl ?_
  refine z_aloadr_n dX5_init_12 rfl ?_
  refine z_iconst (v := (0 : Int32)) dX5_init_13 (by decide +kernel) ?_
  refine z_put (σ' := (zu σ 17 (fun _ => (0 : Int32)))) (ci := 5) (n := 4) (rf := (zu (fun _ => none) 0 (some 17))) (r := (RX5, TX5, 4)) (j := 1) dX5_init_14 (Nat.le_of_ble_eq_true rfl) (Nat.le_of_ble_eq_true rfl) rfl rfl (Nat.le_of_ble_eq_true rfl) fl_X5_15 rfl rfl rfl rfl (zu_keep (show _ = (0 : Int32) from congrFun h0 1)) ?_
  refine z_aloadr_n dX5_init_17 rfl ?_
  refine z_bipush (v := (12 : Int32)) dX5_init_18 (by decide +kernel) ?_
  refine z_newi (n := 12) (v := 0) dX5_init_20 (by decide) (by decide) (by decide) zw_ai (Nat.le_of_ble_eq_true rfl) (Nat.le_of_ble_eq_true rfl) ?_
  refine z_putFr (ci := 5) (n := 4) (rf := (zu (fun _ => none) 0 (some 17))) (r := (RX5, TX5, 4)) (j := 2) dX5_init_22 (Nat.le_of_ble_eq_true rfl) (Nat.le_of_ble_eq_true rfl) rfl rfl (Nat.le_of_ble_eq_true rfl) fl_X5_19 rfl rfl rfl rfl (fun _ => rfl) (fun _ => rfl) rfl ?_
  refine z_aloadr_n dX5_init_25 rfl ?_
  refine z_iconst (v := (0 : Int32)) dX5_init_26 (by decide +kernel) ?_
  refine z_put (σ' := (zu (zu σ 17 (fun _ => (0 : Int32))) 18 (fun _ => (0 : Int32)))) (ci := 5) (n := 4) (rf := (zu (zu (fun _ => none) 0 (some 17)) 2 (some 18))) (r := (RX5, TX5, 4)) (j := 3) dX5_init_27 (Nat.le_of_ble_eq_true rfl) (Nat.le_of_ble_eq_true rfl) rfl rfl (Nat.le_of_ble_eq_true rfl) fl_X5_22 rfl rfl rfl rfl (zu_keep (show _ = (0 : Int32) from congrFun h0 3)) ?_
  have es_ : (zu (zu (zu (zu sh 17 ((0, 12, fun _ => none) : zc_S)) 16 ((8, 4, (zu (fun _ => none) 0 (some 17))) : zc_S)) 18 ((0, 12, fun _ => none) : zc_S)) 16 ((8, 4, (zu (zu (fun _ => none) 0 (some 17)) 2 (some 18))) : zc_S)) = (zu (zu (zu sh 16 (SH (zP0 L) 16)) 17 (SH (zP0 L) 17)) 18 (SH (zP0 L) 18)) := funext (fun k => by
    by_cases e16 : k = 16
    · subst e16
      exact rf_16 L
    by_cases e17 : k = 17
    · subst e17
      rfl
    by_cases e18 : k = 18
    · subst e18
      rfl
    simp only [zu, if_neg e16, if_neg e17, if_neg e18])
  have eg_ : (zu (zu σ 17 (fun _ => (0 : Int32))) 18 (fun _ => (0 : Int32))) = (zu (zu σ 17 (fun _ => (0 : Int32))) 18 (fun _ => (0 : Int32))) := rfl
  exact z_return dX5_init_30 rfl (Nat.le_of_ble_eq_true rfl) (Nat.le_of_ble_eq_true rfl) (by rw [← hQ_]; exact ⟨rfl, (show ((19, (zu (zu (zu (zu sh 17 ((0, 12, fun _ => none) : zc_S)) 16 ((8, 4, (zu (fun _ => none) 0 (some 17))) : zc_S)) 18 ((0, 12, fun _ => none) : zc_S)) 16 ((8, 4, (zu (zu (fun _ => none) 0 (some 17)) 2 (some 18))) : zc_S)), (zu (zu σ 17 (fun _ => (0 : Int32))) 18 (fun _ => (0 : Int32)))) : zc_H) = _ by rw [es_, eg_])⟩)
theorem dX4_init_0 : decode cX4_init 0 = .ok (.aload_n 0, 1) := by decide +kernel
theorem dX4_init_1 : decode cX4_init 1 = .ok (.invokespecial 3, 3) := by decide +kernel
theorem dX4_init_4 : decode cX4_init 4 = .ok (.aload_n 0, 1) := by decide +kernel
theorem dX4_init_5 : decode cX4_init 5 = .ok (.iconst 1, 1) := by decide +kernel
theorem dX4_init_6 : decode cX4_init 6 = .ok (.putfield 9, 3) := by decide +kernel
theorem dX4_init_9 : decode cX4_init 9 = .ok (.aload_n 0, 1) := by decide +kernel
theorem dX4_init_10 : decode cX4_init 10 = .ok (.sipush 2304, 3) := by decide +kernel
theorem dX4_init_13 : decode cX4_init 13 = .ok (.newarray .int, 2) := by decide +kernel
theorem dX4_init_15 : decode cX4_init 15 = .ok (.putfield 15, 3) := by decide +kernel
theorem dX4_init_18 : decode cX4_init 18 = .ok (.aload_n 0, 1) := by decide +kernel
theorem dX4_init_19 : decode cX4_init 19 = .ok (.new 19, 3) := by decide +kernel
theorem dX4_init_22 : decode cX4_init 22 = .ok (.dup, 1) := by decide +kernel
theorem dX4_init_23 : decode cX4_init 23 = .ok (.invokespecial 21, 3) := by decide +kernel
theorem dX4_init_26 : decode cX4_init 26 = .ok (.putfield 22, 3) := by decide +kernel
theorem dX4_init_29 : decode cX4_init 29 = .ok (.aload_n 0, 1) := by decide +kernel
theorem dX4_init_30 : decode cX4_init 30 = .ok (.new 26, 3) := by decide +kernel
theorem dX4_init_33 : decode cX4_init 33 = .ok (.dup, 1) := by decide +kernel
theorem dX4_init_34 : decode cX4_init 34 = .ok (.invokespecial 28, 3) := by decide +kernel
theorem dX4_init_37 : decode cX4_init 37 = .ok (.putfield 29, 3) := by decide +kernel
theorem dX4_init_40 : decode cX4_init 40 = .ok (.aload_n 0, 1) := by decide +kernel
theorem dX4_init_41 : decode cX4_init 41 = .ok (.bipush 12, 2) := by decide +kernel
theorem dX4_init_43 : decode cX4_init 43 = .ok (.newarray .int, 2) := by decide +kernel
theorem dX4_init_45 : decode cX4_init 45 = .ok (.putfield 33, 3) := by decide +kernel
theorem dX4_init_48 : decode cX4_init 48 = .ok (.aload_n 0, 1) := by decide +kernel
theorem dX4_init_49 : decode cX4_init 49 = .ok (.bipush 12, 2) := by decide +kernel
theorem dX4_init_51 : decode cX4_init 51 = .ok (.newarray .int, 2) := by decide +kernel
theorem dX4_init_53 : decode cX4_init 53 = .ok (.putfield 36, 3) := by decide +kernel
theorem dX4_init_56 : decode cX4_init 56 = .ok (.aload_n 0, 1) := by decide +kernel
theorem dX4_init_57 : decode cX4_init 57 = .ok (.new 39, 3) := by decide +kernel
theorem dX4_init_60 : decode cX4_init 60 = .ok (.dup, 1) := by decide +kernel
theorem dX4_init_61 : decode cX4_init 61 = .ok (.iconst 0, 1) := by decide +kernel
theorem dX4_init_62 : decode cX4_init 62 = .ok (.iconst 0, 1) := by decide +kernel
theorem dX4_init_63 : decode cX4_init 63 = .ok (.iconst 0, 1) := by decide +kernel
theorem dX4_init_64 : decode cX4_init 64 = .ok (.iconst 0, 1) := by decide +kernel
theorem dX4_init_65 : decode cX4_init 65 = .ok (.invokespecial 41, 3) := by decide +kernel
theorem dX4_init_68 : decode cX4_init 68 = .ok (.putfield 44, 3) := by decide +kernel
theorem dX4_init_71 : decode cX4_init 71 = .ok (.aload_n 0, 1) := by decide +kernel
theorem dX4_init_72 : decode cX4_init 72 = .ok (.bipush 31, 2) := by decide +kernel
theorem dX4_init_74 : decode cX4_init 74 = .ok (.newarray .int, 2) := by decide +kernel
theorem dX4_init_76 : decode cX4_init 76 = .ok (.putfield 48, 3) := by decide +kernel
theorem dX4_init_79 : decode cX4_init 79 = .ok (.aload_n 0, 1) := by decide +kernel
theorem dX4_init_80 : decode cX4_init 80 = .ok (.iconst 0, 1) := by decide +kernel
theorem dX4_init_81 : decode cX4_init 81 = .ok (.putfield 51, 3) := by decide +kernel
theorem dX4_init_84 : decode cX4_init 84 = .ok (.aload_n 0, 1) := by decide +kernel
theorem dX4_init_85 : decode cX4_init 85 = .ok (.iconst 0, 1) := by decide +kernel
theorem dX4_init_86 : decode cX4_init 86 = .ok (.putfield 54, 3) := by decide +kernel
theorem dX4_init_89 : decode cX4_init 89 = .ok (.return_, 1) := by decide +kernel
theorem rf_10 (L : Nat) : ((7, 10, (zu (zu (zu (zu (zu (zu (zu (fun _ => none) 1 (some 11)) 2 (some 12)) 3 (some 16)) 4 (some 19)) 5 (some 20)) 6 (some 21)) 7 (some 22))) : zc_S) = SH (zP0 L) 10 := by
  refine congrArg (fun z => ((7, 10, z) : zc_S)) (funext (fun j => ?_))
  match j with
  | 0 => rfl
  | 1 => rfl
  | 2 => rfl
  | 3 => rfl
  | 4 => rfl
  | 5 => rfl
  | 6 => rfl
  | 7 => rfl
  | 8 => rfl
  | 9 => rfl
  | j + 10 => rfl
set_option maxRecDepth 10000 in
set_option maxHeartbeats 4000000 in
theorem ctX4_init_10 (L : Nat) {sh : Nat → zc_S} {σ : zc_N} (hs : sh 10 = (7, 10, fun _ => none)) (h0 : σ 10 = fun _ => 0) : sp mX4_init 2 12 2441 [.ref 10] (11, sh, σ) (fun r_ h_ => r_ = none ∧ h_ = (23, (zu (zu (zu (zu (zu (zu (zu (zu (zu (zu (zu (zu (zu sh 10 (SH (zP0 L) 10)) 11 (SH (zP0 L) 11)) 12 (SH (zP0 L) 12)) 13 (SH (zP0 L) 13)) 14 (SH (zP0 L) 14)) 15 (SH (zP0 L) 15)) 16 (SH (zP0 L) 16)) 17 (SH (zP0 L) 17)) 18 (SH (zP0 L) 18)) 19 (SH (zP0 L) 19)) 20 (SH (zP0 L) 20)) 21 (SH (zP0 L) 21)) 22 (SH (zP0 L) 22)), (zu (zu (zu (zu (zu (zu (zu (zu (zu (zu (zu (zu (zu σ 10 (zu (fun _ => (0 : Int32)) 0 (1 : Int32))) 11 (fun _ => (0 : Int32))) 12 (fun _ => (0 : Int32))) 13 (fun _ => (0 : Int32))) 14 (fun _ => (0 : Int32))) 15 (fun _ => (0 : Int32))) 16 (fun _ => (0 : Int32))) 17 (fun _ => (0 : Int32))) 18 (fun _ => (0 : Int32))) 19 (fun _ => (0 : Int32))) 20 (fun _ => (0 : Int32))) 21 (fun _ => (0 : Int32))) 22 (fun _ => (0 : Int32))))) := by
  refine sp_of (lv := [some (.ref 10)]) (by decide) (zcats_ok _ rfl) (Nat.le_of_ble_eq_true rfl) (zlv_ok _ 0 rfl) (fun G => ?_)
  generalize hQ_ : (fun (r_ : Option Value) (h_ : zc_H) => r_ = none ∧ h_ = (23, (zu (zu (zu (zu (zu (zu (zu (zu (zu (zu (zu (zu (zu sh 10 (SH (zP0 L) 10)) 11 (SH (zP0 L) 11)) 12 (SH (zP0 L) 12)) 13 (SH (zP0 L) 13)) 14 (SH (zP0 L) 14)) 15 (SH (zP0 L) 15)) 16 (SH (zP0 L) 16)) 17 (SH (zP0 L) 17)) 18 (SH (zP0 L) 18)) 19 (SH (zP0 L) 19)) 20 (SH (zP0 L) 20)) 21 (SH (zP0 L) 21)) 22 (SH (zP0 L) 22)), (zu (zu (zu (zu (zu (zu (zu (zu (zu (zu (zu (zu (zu σ 10 (zu (fun _ => (0 : Int32)) 0 (1 : Int32))) 11 (fun _ => (0 : Int32))) 12 (fun _ => (0 : Int32))) 13 (fun _ => (0 : Int32))) 14 (fun _ => (0 : Int32))) 15 (fun _ => (0 : Int32))) 16 (fun _ => (0 : Int32))) 17 (fun _ => (0 : Int32))) 18 (fun _ => (0 : Int32))) 19 (fun _ => (0 : Int32))) 20 (fun _ => (0 : Int32))) 21 (fun _ => (0 : Int32))) 22 (fun _ => (0 : Int32))))) = Q_
  refine z_aloadr_n dX4_init_0 rfl ?_
  refine z_objInit dX4_init_1 oi_X4_3 zw_oi2 zw_oi3 (Nat.le_of_ble_eq_true rfl) (Nat.le_of_ble_eq_true rfl) ?_
  refine z_aloadr_n dX4_init_4 rfl ?_
  refine z_iconst (v := (1 : Int32)) dX4_init_5 (by decide +kernel) ?_
  refine z_put (σ' := (zu σ 10 (zu (fun _ => (0 : Int32)) 0 (1 : Int32)))) (ci := 4) (n := 10) (rf := (fun _ => none)) (r := (RX4, TX4, 10)) (j := 0) dX4_init_6 (Nat.le_of_ble_eq_true rfl) (Nat.le_of_ble_eq_true rfl) hs rfl (Nat.le_of_ble_eq_true rfl) fl_X4_9 rfl rfl rfl rfl (congrArg (fun z => zu σ 10 (zu z 0 (1 : Int32))) (show _ = (fun _ => (0 : Int32)) from h0)) ?_
  refine z_aloadr_n dX4_init_9 rfl ?_
  refine z_sipush (v := (2304 : Int32)) dX4_init_10 (by decide +kernel) ?_
  refine z_newi (n := 2304) (v := 0) dX4_init_13 (by decide) (by decide) (by decide) zw_ai (Nat.le_of_ble_eq_true rfl) (Nat.le_of_ble_eq_true rfl) ?_
  refine z_putFr (ci := 4) (n := 10) (rf := (fun _ => none)) (r := (RX4, TX4, 10)) (j := 1) dX4_init_15 (Nat.le_of_ble_eq_true rfl) (Nat.le_of_ble_eq_true rfl) hs rfl (Nat.le_of_ble_eq_true rfl) fl_X4_15 rfl rfl rfl rfl (fun _ => rfl) (fun _ => rfl) rfl ?_
  refine z_aloadr_n dX4_init_18 rfl ?_
  refine z_new (ci := 0) (r := (RX0, TX0, 3)) dX4_init_19 rfl cl_X4_19 nw_X0 ni_X0 df_X0 (Nat.le_of_ble_eq_true rfl) (Nat.le_of_ble_eq_true rfl) ?_
  refine z_dup dX4_init_22 rfl ?_
  refine z_callIN (b := 12) (As := []) (rest := [.ref 12, .ref 10]) rfl (ctX0_init_12 L rfl rfl) dX4_init_23 ln_X4_21 li_X0_init rfl (Nat.le_of_ble_eq_true rfl) (Nat.le_of_ble_eq_true rfl) (Nat.le_of_ble_eq_true rfl) (Nat.le_of_ble_eq_true rfl) (fun r_ h_ e_ => ?_)
  obtain ⟨e1_, e2_⟩ := e_
  subst e1_
  subst e2_
  refine z_putFr (ci := 4) (n := 10) (rf := (zu (fun _ => none) 1 (some 11))) (r := (RX4, TX4, 10)) (j := 2) dX4_init_26 (Nat.le_of_ble_eq_true rfl) (Nat.le_of_ble_eq_true rfl) rfl rfl (Nat.le_of_ble_eq_true rfl) fl_X4_22 rfl rfl rfl rfl (fun _ => rfl) (fun _ => rfl) rfl ?_
  refine z_aloadr_n dX4_init_29 rfl ?_
  refine z_new (ci := 5) (r := (RX5, TX5, 4)) dX4_init_30 rfl cl_X4_26 nw_X5 ni_X5 df_X5 (Nat.le_of_ble_eq_true rfl) (Nat.le_of_ble_eq_true rfl) ?_
  refine z_dup dX4_init_33 rfl ?_
  refine z_callIN (b := 16) (As := []) (rest := [.ref 16, .ref 10]) rfl (ctX5_init_16 L rfl rfl) dX4_init_34 ln_X4_28 li_X5_init rfl (Nat.le_of_ble_eq_true rfl) (Nat.le_of_ble_eq_true rfl) (Nat.le_of_ble_eq_true rfl) (Nat.le_of_ble_eq_true rfl) (fun r_ h_ e_ => ?_)
  obtain ⟨e1_, e2_⟩ := e_
  subst e1_
  subst e2_
  refine z_putFr (ci := 4) (n := 10) (rf := (zu (zu (fun _ => none) 1 (some 11)) 2 (some 12))) (r := (RX4, TX4, 10)) (j := 3) dX4_init_37 (Nat.le_of_ble_eq_true rfl) (Nat.le_of_ble_eq_true rfl) rfl rfl (Nat.le_of_ble_eq_true rfl) fl_X4_29 rfl rfl rfl rfl (fun _ => rfl) (fun _ => rfl) rfl ?_
  refine z_aloadr_n dX4_init_40 rfl ?_
  refine z_bipush (v := (12 : Int32)) dX4_init_41 (by decide +kernel) ?_
  refine z_newi (n := 12) (v := 0) dX4_init_43 (by decide) (by decide) (by decide) zw_ai (Nat.le_of_ble_eq_true rfl) (Nat.le_of_ble_eq_true rfl) ?_
  refine z_putFr (ci := 4) (n := 10) (rf := (zu (zu (zu (fun _ => none) 1 (some 11)) 2 (some 12)) 3 (some 16))) (r := (RX4, TX4, 10)) (j := 4) dX4_init_45 (Nat.le_of_ble_eq_true rfl) (Nat.le_of_ble_eq_true rfl) rfl rfl (Nat.le_of_ble_eq_true rfl) fl_X4_33 rfl rfl rfl rfl (fun _ => rfl) (fun _ => rfl) rfl ?_
  refine z_aloadr_n dX4_init_48 rfl ?_
  refine z_bipush (v := (12 : Int32)) dX4_init_49 (by decide +kernel) ?_
  refine z_newi (n := 12) (v := 0) dX4_init_51 (by decide) (by decide) (by decide) zw_ai (Nat.le_of_ble_eq_true rfl) (Nat.le_of_ble_eq_true rfl) ?_
  refine z_putFr (ci := 4) (n := 10) (rf := (zu (zu (zu (zu (fun _ => none) 1 (some 11)) 2 (some 12)) 3 (some 16)) 4 (some 19))) (r := (RX4, TX4, 10)) (j := 5) dX4_init_53 (Nat.le_of_ble_eq_true rfl) (Nat.le_of_ble_eq_true rfl) rfl rfl (Nat.le_of_ble_eq_true rfl) fl_X4_36 rfl rfl rfl rfl (fun _ => rfl) (fun _ => rfl) rfl ?_
  refine z_aloadr_n dX4_init_56 rfl ?_
  refine z_new (ci := 6) (r := (RX6, TX6, 4)) dX4_init_57 rfl cl_X4_39 nw_X6 ni_X6 df_X6 (Nat.le_of_ble_eq_true rfl) (Nat.le_of_ble_eq_true rfl) ?_
  refine z_dup dX4_init_60 rfl ?_
  refine z_iconst (v := (0 : Int32)) dX4_init_61 (by decide +kernel) ?_
  refine z_iconst (v := (0 : Int32)) dX4_init_62 (by decide +kernel) ?_
  refine z_iconst (v := (0 : Int32)) dX4_init_63 (by decide +kernel) ?_
  refine z_iconst (v := (0 : Int32)) dX4_init_64 (by decide +kernel) ?_
  refine z_callI (b := 21) (As := [.int (0 : Int32), .int (0 : Int32), .int (0 : Int32), .int (0 : Int32)]) (rest := [.ref 21, .ref 10]) rfl ((ctX6_init (N := 22) (a := 21) (n := 4) (rf := fun _ => none) (sh := (zu (zu (zu (zu (zu (zu (zu (zu (zu (zu (zu (zu (zu (zu (zu (zu (zu (zu sh 11 ((0, 2304, fun _ => none) : zc_S)) 10 ((7, 10, (zu (fun _ => none) 1 (some 11))) : zc_S)) 12 ((3, 3, fun _ => none) : zc_S)) 12 (SH (zP0 L) 12)) 13 (SH (zP0 L) 13)) 14 (SH (zP0 L) 14)) 15 (SH (zP0 L) 15)) 10 ((7, 10, (zu (zu (fun _ => none) 1 (some 11)) 2 (some 12))) : zc_S)) 16 ((8, 4, fun _ => none) : zc_S)) 16 (SH (zP0 L) 16)) 17 (SH (zP0 L) 17)) 18 (SH (zP0 L) 18)) 10 ((7, 10, (zu (zu (zu (fun _ => none) 1 (some 11)) 2 (some 12)) 3 (some 16))) : zc_S)) 19 ((0, 12, fun _ => none) : zc_S)) 10 ((7, 10, (zu (zu (zu (zu (fun _ => none) 1 (some 11)) 2 (some 12)) 3 (some 16)) 4 (some 19))) : zc_S)) 20 ((0, 12, fun _ => none) : zc_S)) 10 ((7, 10, (zu (zu (zu (zu (zu (fun _ => none) 1 (some 11)) 2 (some 12)) 3 (some 16)) 4 (some 19)) 5 (some 20))) : zc_S)) 21 ((9, 4, fun _ => none) : zc_S))) (σ := (zu (zu (zu (zu (zu (zu (zu (zu (zu (zu (zu (zu σ 10 (zu (fun _ => (0 : Int32)) 0 (1 : Int32))) 11 (fun _ => (0 : Int32))) 12 (fun _ => (0 : Int32))) 13 (fun _ => (0 : Int32))) 14 (fun _ => (0 : Int32))) 15 (fun _ => (0 : Int32))) 16 (fun _ => (0 : Int32))) 17 (fun _ => (0 : Int32))) 18 (fun _ => (0 : Int32))) 19 (fun _ => (0 : Int32))) 20 (fun _ => (0 : Int32))) 21 (fun _ => (0 : Int32)))) (Nat.le_of_ble_eq_true rfl) (Nat.le_of_ble_eq_true rfl) rfl 0 0 0 0).imp (fun r h e => (⟨e.1, e.2.trans (congrArg (fun z => ((22, (zu (zu (zu (zu (zu (zu (zu (zu (zu (zu (zu (zu (zu (zu (zu (zu (zu (zu sh 11 ((0, 2304, fun _ => none) : zc_S)) 10 ((7, 10, (zu (fun _ => none) 1 (some 11))) : zc_S)) 12 ((3, 3, fun _ => none) : zc_S)) 12 (SH (zP0 L) 12)) 13 (SH (zP0 L) 13)) 14 (SH (zP0 L) 14)) 15 (SH (zP0 L) 15)) 10 ((7, 10, (zu (zu (fun _ => none) 1 (some 11)) 2 (some 12))) : zc_S)) 16 ((8, 4, fun _ => none) : zc_S)) 16 (SH (zP0 L) 16)) 17 (SH (zP0 L) 17)) 18 (SH (zP0 L) 18)) 10 ((7, 10, (zu (zu (zu (fun _ => none) 1 (some 11)) 2 (some 12)) 3 (some 16))) : zc_S)) 19 ((0, 12, fun _ => none) : zc_S)) 10 ((7, 10, (zu (zu (zu (zu (fun _ => none) 1 (some 11)) 2 (some 12)) 3 (some 16)) 4 (some 19))) : zc_S)) 20 ((0, 12, fun _ => none) : zc_S)) 10 ((7, 10, (zu (zu (zu (zu (zu (fun _ => none) 1 (some 11)) 2 (some 12)) 3 (some 16)) 4 (some 19)) 5 (some 20))) : zc_S)) 21 ((9, 4, fun _ => none) : zc_S)), z) : zc_H)) (part0 rfl))⟩ : r = none ∧ h = (22, (zu (zu (zu (zu (zu (zu (zu (zu (zu (zu (zu (zu (zu (zu (zu (zu (zu (zu sh 11 ((0, 2304, fun _ => none) : zc_S)) 10 ((7, 10, (zu (fun _ => none) 1 (some 11))) : zc_S)) 12 ((3, 3, fun _ => none) : zc_S)) 12 (SH (zP0 L) 12)) 13 (SH (zP0 L) 13)) 14 (SH (zP0 L) 14)) 15 (SH (zP0 L) 15)) 10 ((7, 10, (zu (zu (fun _ => none) 1 (some 11)) 2 (some 12))) : zc_S)) 16 ((8, 4, fun _ => none) : zc_S)) 16 (SH (zP0 L) 16)) 17 (SH (zP0 L) 17)) 18 (SH (zP0 L) 18)) 10 ((7, 10, (zu (zu (zu (fun _ => none) 1 (some 11)) 2 (some 12)) 3 (some 16))) : zc_S)) 19 ((0, 12, fun _ => none) : zc_S)) 10 ((7, 10, (zu (zu (zu (zu (fun _ => none) 1 (some 11)) 2 (some 12)) 3 (some 16)) 4 (some 19))) : zc_S)) 20 ((0, 12, fun _ => none) : zc_S)) 10 ((7, 10, (zu (zu (zu (zu (zu (fun _ => none) 1 (some 11)) 2 (some 12)) 3 (some 16)) 4 (some 19)) 5 (some 20))) : zc_S)) 21 ((9, 4, fun _ => none) : zc_S)), (zu (zu (zu (zu (zu (zu (zu (zu (zu (zu (zu (zu σ 10 (zu (fun _ => (0 : Int32)) 0 (1 : Int32))) 11 (fun _ => (0 : Int32))) 12 (fun _ => (0 : Int32))) 13 (fun _ => (0 : Int32))) 14 (fun _ => (0 : Int32))) 15 (fun _ => (0 : Int32))) 16 (fun _ => (0 : Int32))) 17 (fun _ => (0 : Int32))) 18 (fun _ => (0 : Int32))) 19 (fun _ => (0 : Int32))) 20 (fun _ => (0 : Int32))) 21 (fun _ => (0 : Int32))))))) dX4_init_65 lk_X4_41 li_X6_init rfl (Nat.le_of_ble_eq_true rfl) (Nat.le_of_ble_eq_true rfl) (Nat.le_of_ble_eq_true rfl) (Nat.le_of_ble_eq_true rfl) (fun r_ h_ e_ => ?_)
  obtain ⟨e1_, e2_⟩ := e_
  subst e1_
  subst e2_
  refine z_putFr (ci := 4) (n := 10) (rf := (zu (zu (zu (zu (zu (fun _ => none) 1 (some 11)) 2 (some 12)) 3 (some 16)) 4 (some 19)) 5 (some 20))) (r := (RX4, TX4, 10)) (j := 6) dX4_init_68 (Nat.le_of_ble_eq_true rfl) (Nat.le_of_ble_eq_true rfl) rfl rfl (Nat.le_of_ble_eq_true rfl) fl_X4_44 rfl rfl rfl rfl (fun _ => rfl) (fun _ => rfl) rfl ?_
  refine z_aloadr_n dX4_init_71 rfl ?_
  refine z_bipush (v := (31 : Int32)) dX4_init_72 (by decide +kernel) ?_
  refine z_newi (n := 31) (v := 0) dX4_init_74 (by decide) (by decide) (by decide) zw_ai (Nat.le_of_ble_eq_true rfl) (Nat.le_of_ble_eq_true rfl) ?_
  refine z_putFr (ci := 4) (n := 10) (rf := (zu (zu (zu (zu (zu (zu (fun _ => none) 1 (some 11)) 2 (some 12)) 3 (some 16)) 4 (some 19)) 5 (some 20)) 6 (some 21))) (r := (RX4, TX4, 10)) (j := 7) dX4_init_76 (Nat.le_of_ble_eq_true rfl) (Nat.le_of_ble_eq_true rfl) rfl rfl (Nat.le_of_ble_eq_true rfl) fl_X4_48 rfl rfl rfl rfl (fun _ => rfl) (fun _ => rfl) rfl ?_
  refine z_aloadr_n dX4_init_79 rfl ?_
  refine z_iconst (v := (0 : Int32)) dX4_init_80 (by decide +kernel) ?_
  refine z_put (σ' := (zu (zu (zu (zu (zu (zu (zu (zu (zu (zu (zu (zu (zu σ 10 (zu (fun _ => (0 : Int32)) 0 (1 : Int32))) 11 (fun _ => (0 : Int32))) 12 (fun _ => (0 : Int32))) 13 (fun _ => (0 : Int32))) 14 (fun _ => (0 : Int32))) 15 (fun _ => (0 : Int32))) 16 (fun _ => (0 : Int32))) 17 (fun _ => (0 : Int32))) 18 (fun _ => (0 : Int32))) 19 (fun _ => (0 : Int32))) 20 (fun _ => (0 : Int32))) 21 (fun _ => (0 : Int32))) 22 (fun _ => (0 : Int32)))) (ci := 4) (n := 10) (rf := (zu (zu (zu (zu (zu (zu (zu (fun _ => none) 1 (some 11)) 2 (some 12)) 3 (some 16)) 4 (some 19)) 5 (some 20)) 6 (some 21)) 7 (some 22))) (r := (RX4, TX4, 10)) (j := 8) dX4_init_81 (Nat.le_of_ble_eq_true rfl) (Nat.le_of_ble_eq_true rfl) rfl rfl (Nat.le_of_ble_eq_true rfl) fl_X4_51 rfl rfl rfl rfl (zu_keep (show _ = (0 : Int32) from rfl)) ?_
  refine z_aloadr_n dX4_init_84 rfl ?_
  refine z_iconst (v := (0 : Int32)) dX4_init_85 (by decide +kernel) ?_
  refine z_put (σ' := (zu (zu (zu (zu (zu (zu (zu (zu (zu (zu (zu (zu (zu σ 10 (zu (fun _ => (0 : Int32)) 0 (1 : Int32))) 11 (fun _ => (0 : Int32))) 12 (fun _ => (0 : Int32))) 13 (fun _ => (0 : Int32))) 14 (fun _ => (0 : Int32))) 15 (fun _ => (0 : Int32))) 16 (fun _ => (0 : Int32))) 17 (fun _ => (0 : Int32))) 18 (fun _ => (0 : Int32))) 19 (fun _ => (0 : Int32))) 20 (fun _ => (0 : Int32))) 21 (fun _ => (0 : Int32))) 22 (fun _ => (0 : Int32)))) (ci := 4) (n := 10) (rf := (zu (zu (zu (zu (zu (zu (zu (fun _ => none) 1 (some 11)) 2 (some 12)) 3 (some 16)) 4 (some 19)) 5 (some 20)) 6 (some 21)) 7 (some 22))) (r := (RX4, TX4, 10)) (j := 9) dX4_init_86 (Nat.le_of_ble_eq_true rfl) (Nat.le_of_ble_eq_true rfl) rfl rfl (Nat.le_of_ble_eq_true rfl) fl_X4_54 rfl rfl rfl rfl (zu_keep (show _ = (0 : Int32) from rfl)) ?_
  have es_ : (zu (zu (zu (zu (zu (zu (zu (zu (zu (zu (zu (zu (zu (zu (zu (zu (zu (zu (zu (zu (zu sh 11 ((0, 2304, fun _ => none) : zc_S)) 10 ((7, 10, (zu (fun _ => none) 1 (some 11))) : zc_S)) 12 ((3, 3, fun _ => none) : zc_S)) 12 (SH (zP0 L) 12)) 13 (SH (zP0 L) 13)) 14 (SH (zP0 L) 14)) 15 (SH (zP0 L) 15)) 10 ((7, 10, (zu (zu (fun _ => none) 1 (some 11)) 2 (some 12))) : zc_S)) 16 ((8, 4, fun _ => none) : zc_S)) 16 (SH (zP0 L) 16)) 17 (SH (zP0 L) 17)) 18 (SH (zP0 L) 18)) 10 ((7, 10, (zu (zu (zu (fun _ => none) 1 (some 11)) 2 (some 12)) 3 (some 16))) : zc_S)) 19 ((0, 12, fun _ => none) : zc_S)) 10 ((7, 10, (zu (zu (zu (zu (fun _ => none) 1 (some 11)) 2 (some 12)) 3 (some 16)) 4 (some 19))) : zc_S)) 20 ((0, 12, fun _ => none) : zc_S)) 10 ((7, 10, (zu (zu (zu (zu (zu (fun _ => none) 1 (some 11)) 2 (some 12)) 3 (some 16)) 4 (some 19)) 5 (some 20))) : zc_S)) 21 ((9, 4, fun _ => none) : zc_S)) 10 ((7, 10, (zu (zu (zu (zu (zu (zu (fun _ => none) 1 (some 11)) 2 (some 12)) 3 (some 16)) 4 (some 19)) 5 (some 20)) 6 (some 21))) : zc_S)) 22 ((0, 31, fun _ => none) : zc_S)) 10 ((7, 10, (zu (zu (zu (zu (zu (zu (zu (fun _ => none) 1 (some 11)) 2 (some 12)) 3 (some 16)) 4 (some 19)) 5 (some 20)) 6 (some 21)) 7 (some 22))) : zc_S)) = (zu (zu (zu (zu (zu (zu (zu (zu (zu (zu (zu (zu (zu sh 10 (SH (zP0 L) 10)) 11 (SH (zP0 L) 11)) 12 (SH (zP0 L) 12)) 13 (SH (zP0 L) 13)) 14 (SH (zP0 L) 14)) 15 (SH (zP0 L) 15)) 16 (SH (zP0 L) 16)) 17 (SH (zP0 L) 17)) 18 (SH (zP0 L) 18)) 19 (SH (zP0 L) 19)) 20 (SH (zP0 L) 20)) 21 (SH (zP0 L) 21)) 22 (SH (zP0 L) 22)) := funext (fun k => by
    by_cases e10 : k = 10
    · subst e10
      exact rf_10 L
    by_cases e11 : k = 11
    · subst e11
      rfl
    by_cases e12 : k = 12
    · subst e12
      rfl
    by_cases e13 : k = 13
    · subst e13
      rfl
    by_cases e14 : k = 14
    · subst e14
      rfl
    by_cases e15 : k = 15
    · subst e15
      rfl
    by_cases e16 : k = 16
    · subst e16
      rfl
    by_cases e17 : k = 17
    · subst e17
      rfl
    by_cases e18 : k = 18
    · subst e18
      rfl
    by_cases e19 : k = 19
    · subst e19
      rfl
    by_cases e20 : k = 20
    · subst e20
      rfl
    by_cases e21 : k = 21
    · subst e21
      rfl
    by_cases e22 : k = 22
    · subst e22
      rfl
    simp only [zu, if_neg e10, if_neg e11, if_neg e12, if_neg e13, if_neg e14, if_neg e15, if_neg e16, if_neg e17, if_neg e18, if_neg e19, if_neg e20, if_neg e21, if_neg e22])
  have eg_ : (zu (zu (zu (zu (zu (zu (zu (zu (zu (zu (zu (zu (zu σ 10 (zu (fun _ => (0 : Int32)) 0 (1 : Int32))) 11 (fun _ => (0 : Int32))) 12 (fun _ => (0 : Int32))) 13 (fun _ => (0 : Int32))) 14 (fun _ => (0 : Int32))) 15 (fun _ => (0 : Int32))) 16 (fun _ => (0 : Int32))) 17 (fun _ => (0 : Int32))) 18 (fun _ => (0 : Int32))) 19 (fun _ => (0 : Int32))) 20 (fun _ => (0 : Int32))) 21 (fun _ => (0 : Int32))) 22 (fun _ => (0 : Int32))) = (zu (zu (zu (zu (zu (zu (zu (zu (zu (zu (zu (zu (zu σ 10 (zu (fun _ => (0 : Int32)) 0 (1 : Int32))) 11 (fun _ => (0 : Int32))) 12 (fun _ => (0 : Int32))) 13 (fun _ => (0 : Int32))) 14 (fun _ => (0 : Int32))) 15 (fun _ => (0 : Int32))) 16 (fun _ => (0 : Int32))) 17 (fun _ => (0 : Int32))) 18 (fun _ => (0 : Int32))) 19 (fun _ => (0 : Int32))) 20 (fun _ => (0 : Int32))) 21 (fun _ => (0 : Int32))) 22 (fun _ => (0 : Int32))) := rfl
  exact z_return dX4_init_89 rfl (Nat.le_of_ble_eq_true rfl) (Nat.le_of_ble_eq_true rfl) (by rw [← hQ_]; exact ⟨rfl, (show ((23, (zu (zu (zu (zu (zu (zu (zu (zu (zu (zu (zu (zu (zu (zu (zu (zu (zu (zu (zu (zu (zu sh 11 ((0, 2304, fun _ => none) : zc_S)) 10 ((7, 10, (zu (fun _ => none) 1 (some 11))) : zc_S)) 12 ((3, 3, fun _ => none) : zc_S)) 12 (SH (zP0 L) 12)) 13 (SH (zP0 L) 13)) 14 (SH (zP0 L) 14)) 15 (SH (zP0 L) 15)) 10 ((7, 10, (zu (zu (fun _ => none) 1 (some 11)) 2 (some 12))) : zc_S)) 16 ((8, 4, fun _ => none) : zc_S)) 16 (SH (zP0 L) 16)) 17 (SH (zP0 L) 17)) 18 (SH (zP0 L) 18)) 10 ((7, 10, (zu (zu (zu (fun _ => none) 1 (some 11)) 2 (some 12)) 3 (some 16))) : zc_S)) 19 ((0, 12, fun _ => none) : zc_S)) 10 ((7, 10, (zu (zu (zu (zu (fun _ => none) 1 (some 11)) 2 (some 12)) 3 (some 16)) 4 (some 19))) : zc_S)) 20 ((0, 12, fun _ => none) : zc_S)) 10 ((7, 10, (zu (zu (zu (zu (zu (fun _ => none) 1 (some 11)) 2 (some 12)) 3 (some 16)) 4 (some 19)) 5 (some 20))) : zc_S)) 21 ((9, 4, fun _ => none) : zc_S)) 10 ((7, 10, (zu (zu (zu (zu (zu (zu (fun _ => none) 1 (some 11)) 2 (some 12)) 3 (some 16)) 4 (some 19)) 5 (some 20)) 6 (some 21))) : zc_S)) 22 ((0, 31, fun _ => none) : zc_S)) 10 ((7, 10, (zu (zu (zu (zu (zu (zu (zu (fun _ => none) 1 (some 11)) 2 (some 12)) 3 (some 16)) 4 (some 19)) 5 (some 20)) 6 (some 21)) 7 (some 22))) : zc_S)), (zu (zu (zu (zu (zu (zu (zu (zu (zu (zu (zu (zu (zu σ 10 (zu (fun _ => (0 : Int32)) 0 (1 : Int32))) 11 (fun _ => (0 : Int32))) 12 (fun _ => (0 : Int32))) 13 (fun _ => (0 : Int32))) 14 (fun _ => (0 : Int32))) 15 (fun _ => (0 : Int32))) 16 (fun _ => (0 : Int32))) 17 (fun _ => (0 : Int32))) 18 (fun _ => (0 : Int32))) 19 (fun _ => (0 : Int32))) 20 (fun _ => (0 : Int32))) 21 (fun _ => (0 : Int32))) 22 (fun _ => (0 : Int32)))) : zc_H) = _ by rw [es_, eg_])⟩)
theorem dX3_init_0 : decode cX3_init 0 = .ok (.aload_n 0, 1) := by decide +kernel
theorem dX3_init_1 : decode cX3_init 1 = .ok (.invokespecial 3, 3) := by decide +kernel
theorem dX3_init_4 : decode cX3_init 4 = .ok (.aload_n 0, 1) := by decide +kernel
theorem dX3_init_5 : decode cX3_init 5 = .ok (.iconst 0, 1) := by decide +kernel
theorem dX3_init_6 : decode cX3_init 6 = .ok (.putfield 9, 3) := by decide +kernel
theorem dX3_init_9 : decode cX3_init 9 = .ok (.aload_n 0, 1) := by decide +kernel
theorem dX3_init_10 : decode cX3_init 10 = .ok (.iconst 0, 1) := by decide +kernel
theorem dX3_init_11 : decode cX3_init 11 = .ok (.putfield 15, 3) := by decide +kernel
theorem dX3_init_14 : decode cX3_init 14 = .ok (.aload_n 0, 1) := by decide +kernel
theorem dX3_init_15 : decode cX3_init 15 = .ok (.iconst 0, 1) := by decide +kernel
theorem dX3_init_16 : decode cX3_init 16 = .ok (.putfield 19, 3) := by decide +kernel
theorem dX3_init_19 : decode cX3_init 19 = .ok (.aload_n 0, 1) := by decide +kernel
theorem dX3_init_20 : decode cX3_init 20 = .ok (.iconst 0, 1) := by decide +kernel
theorem dX3_init_21 : decode cX3_init 21 = .ok (.putfield 22, 3) := by decide +kernel
theorem dX3_init_24 : decode cX3_init 24 = .ok (.aload_n 0, 1) := by decide +kernel
theorem dX3_init_25 : decode cX3_init 25 = .ok (.iconst 0, 1) := by decide +kernel
theorem dX3_init_26 : decode cX3_init 26 = .ok (.putfield 25, 3) := by decide +kernel
theorem dX3_init_29 : decode cX3_init 29 = .ok (.aload_n 0, 1) := by decide +kernel
theorem dX3_init_30 : decode cX3_init 30 = .ok (.iconst 0, 1) := by decide +kernel
theorem dX3_init_31 : decode cX3_init 31 = .ok (.putfield 28, 3) := by decide +kernel
theorem dX3_init_34 : decode cX3_init 34 = .ok (.aload_n 0, 1) := by decide +kernel
theorem dX3_init_35 : decode cX3_init 35 = .ok (.iconst 0, 1) := by decide +kernel
theorem dX3_init_36 : decode cX3_init 36 = .ok (.putfield 31, 3) := by decide +kernel
theorem dX3_init_39 : decode cX3_init 39 = .ok (.aload_n 0, 1) := by decide +kernel
theorem dX3_init_40 : decode cX3_init 40 = .ok (.iconst 0, 1) := by decide +kernel
theorem dX3_init_41 : decode cX3_init 41 = .ok (.putfield 34, 3) := by decide +kernel
theorem dX3_init_44 : decode cX3_init 44 = .ok (.aload_n 0, 1) := by decide +kernel
theorem dX3_init_45 : decode cX3_init 45 = .ok (.iconst 0, 1) := by decide +kernel
theorem dX3_init_46 : decode cX3_init 46 = .ok (.putfield 37, 3) := by decide +kernel
theorem dX3_init_49 : decode cX3_init 49 = .ok (.aload_n 0, 1) := by decide +kernel
theorem dX3_init_50 : decode cX3_init 50 = .ok (.bipush 12, 2) := by decide +kernel
theorem dX3_init_52 : decode cX3_init 52 = .ok (.newarray .int, 2) := by decide +kernel
theorem dX3_init_54 : decode cX3_init 54 = .ok (.putfield 40, 3) := by decide +kernel
theorem dX3_init_57 : decode cX3_init 57 = .ok (.return_, 1) := by decide +kernel
theorem rf_23 (L : Nat) : ((6, 10, (zu (fun _ => none) 9 (some 24))) : zc_S) = SH (zP0 L) 23 := by
  refine congrArg (fun z => ((6, 10, z) : zc_S)) (funext (fun j => ?_))
  match j with
  | 0 => rfl
  | 1 => rfl
  | 2 => rfl
  | 3 => rfl
  | 4 => rfl
  | 5 => rfl
  | 6 => rfl
  | 7 => rfl
  | 8 => rfl
  | 9 => rfl
  | j + 10 => rfl
set_option maxRecDepth 10000 in
set_option maxHeartbeats 4000000 in
theorem ctX3_init_23 (L : Nat) {sh : Nat → zc_S} {σ : zc_N} (hs : sh 23 = (6, 10, fun _ => none)) (h0 : σ 23 = fun _ => 0) : sp mX3_init 1 1 12 [.ref 23] (24, sh, σ) (fun r_ h_ => r_ = none ∧ h_ = (25, (zu (zu sh 23 (SH (zP0 L) 23)) 24 (SH (zP0 L) 24)), (zu σ 24 (fun _ => (0 : Int32))))) := by
  refine sp_of (lv := [some (.ref 23)]) (by decide) (zcats_ok _ rfl) (Nat.le_of_ble_eq_true rfl) (zlv_ok _ 0 rfl) (fun G => ?_)
  generalize hQ_ : (fun (r_ : Option Value) (h_ : zc_H) => r_ = none ∧ h_ = (25, (zu (zu sh 23 (SH (zP0 L) 23)) 24 (SH (zP0 L) 24)), (zu σ 24 (fun _ => (0 : Int32))))) = Q_
  refine z_aloadr_n dX3_init_0 rfl ?_
  refine z_objInit dX3_init_1 oi_X3_3 zw_oi2 zw_oi3 (Nat.le_of_ble_eq_true rfl) (Nat.le_of_ble_eq_true rfl) ?_
  refine z_aloadr_n dX3_init_4 rfl ?_
  refine z_iconst (v := (0 : Int32)) dX3_init_5 (by decide +kernel) ?_
  refine z_put (σ' := σ) (ci := 3) (n := 10) (rf := (fun _ => none)) (r := (RX3, TX3, 10)) (j := 0) dX3_init_6 (Nat.le_of_ble_eq_true rfl) (Nat.le_of_ble_eq_true rfl) hs rfl (Nat.le_of_ble_eq_true rfl) fl_X3_9 rfl rfl rfl rfl (zu_keep (show _ = (0 : Int32) from congrFun h0 0)) ?_
  refine z_aloadr_n dX3_init_9 rfl ?_
  refine z_iconst (v := (0 : Int32)) dX3_init_10 (by decide +kernel) ?_
  refine z_put (σ' := σ) (ci := 3) (n := 10) (rf := (fun _ => none)) (r := (RX3, TX3, 10)) (j := 1) dX3_init_11 (Nat.le_of_ble_eq_true rfl) (Nat.le_of_ble_eq_true rfl) hs rfl (Nat.le_of_ble_eq_true rfl) fl_X3_15 rfl rfl rfl rfl (zu_keep (show _ = (0 : Int32) from congrFun h0 1)) ?_
  refine z_aloadr_n dX3_init_14 rfl ?_
  refine z_iconst (v := (0 : Int32)) dX3_init_15 (by decide +kernel) ?_
  refine z_put (σ' := σ) (ci := 3) (n := 10) (rf := (fun _ => none)) (r := (RX3, TX3, 10)) (j := 2) dX3_init_16 (Nat.le_of_ble_eq_true rfl) (Nat.le_of_ble_eq_true rfl) hs rfl (Nat.le_of_ble_eq_true rfl) fl_X3_19 rfl rfl rfl rfl (zu_keep (show _ = (0 : Int32) from congrFun h0 2)) ?_
  refine z_aloadr_n dX3_init_19 rfl ?_
  refine z_iconst (v := (0 : Int32)) dX3_init_20 (by decide +kernel) ?_
  refine z_put (σ' := σ) (ci := 3) (n := 10) (rf := (fun _ => none)) (r := (RX3, TX3, 10)) (j := 3) dX3_init_21 (Nat.le_of_ble_eq_true rfl) (Nat.le_of_ble_eq_true rfl) hs rfl (Nat.le_of_ble_eq_true rfl) fl_X3_22 rfl rfl rfl rfl (zu_keep (show _ = (0 : Int32) from congrFun h0 3)) ?_
  refine z_aloadr_n dX3_init_24 rfl ?_
  refine z_iconst (v := (0 : Int32)) dX3_init_25 (by decide +kernel) ?_
  refine z_put (σ' := σ) (ci := 3) (n := 10) (rf := (fun _ => none)) (r := (RX3, TX3, 10)) (j := 4) dX3_init_26 (Nat.le_of_ble_eq_true rfl) (Nat.le_of_ble_eq_true rfl) hs rfl (Nat.le_of_ble_eq_true rfl) fl_X3_25 rfl rfl rfl rfl (zu_keep (show _ = (0 : Int32) from congrFun h0 4)) ?_
  refine z_aloadr_n dX3_init_29 rfl ?_
  refine z_iconst (v := (0 : Int32)) dX3_init_30 (by decide +kernel) ?_
  refine z_put (σ' := σ) (ci := 3) (n := 10) (rf := (fun _ => none)) (r := (RX3, TX3, 10)) (j := 5) dX3_init_31 (Nat.le_of_ble_eq_true rfl) (Nat.le_of_ble_eq_true rfl) hs rfl (Nat.le_of_ble_eq_true rfl) fl_X3_28 rfl rfl rfl rfl (zu_keep (show _ = (0 : Int32) from congrFun h0 5)) ?_
  refine z_aloadr_n dX3_init_34 rfl ?_
  refine z_iconst (v := (0 : Int32)) dX3_init_35 (by decide +kernel) ?_
  refine z_put (σ' := σ) (ci := 3) (n := 10) (rf := (fun _ => none)) (r := (RX3, TX3, 10)) (j := 6) dX3_init_36 (Nat.le_of_ble_eq_true rfl) (Nat.le_of_ble_eq_true rfl) hs rfl (Nat.le_of_ble_eq_true rfl) fl_X3_31 rfl rfl rfl rfl (zu_keep (show _ = (0 : Int32) from congrFun h0 6)) ?_
  refine z_aloadr_n dX3_init_39 rfl ?_
  refine z_iconst (v := (0 : Int32)) dX3_init_40 (by decide +kernel) ?_
  refine z_put (σ' := σ) (ci := 3) (n := 10) (rf := (fun _ => none)) (r := (RX3, TX3, 10)) (j := 7) dX3_init_41 (Nat.le_of_ble_eq_true rfl) (Nat.le_of_ble_eq_true rfl) hs rfl (Nat.le_of_ble_eq_true rfl) fl_X3_34 rfl rfl rfl rfl (zu_keep (show _ = (0 : Int32) from congrFun h0 7)) ?_
  refine z_aloadr_n dX3_init_44 rfl ?_
  refine z_iconst (v := (0 : Int32)) dX3_init_45 (by decide +kernel) ?_
  refine z_put (σ' := σ) (ci := 3) (n := 10) (rf := (fun _ => none)) (r := (RX3, TX3, 10)) (j := 8) dX3_init_46 (Nat.le_of_ble_eq_true rfl) (Nat.le_of_ble_eq_true rfl) hs rfl (Nat.le_of_ble_eq_true rfl) fl_X3_37 rfl rfl rfl rfl (zu_keep (show _ = (0 : Int32) from congrFun h0 8)) ?_
  refine z_aloadr_n dX3_init_49 rfl ?_
  refine z_bipush (v := (12 : Int32)) dX3_init_50 (by decide +kernel) ?_
  refine z_newi (n := 12) (v := 0) dX3_init_52 (by decide) (by decide) (by decide) zw_ai (Nat.le_of_ble_eq_true rfl) (Nat.le_of_ble_eq_true rfl) ?_
  refine z_putFr (ci := 3) (n := 10) (rf := (fun _ => none)) (r := (RX3, TX3, 10)) (j := 9) dX3_init_54 (Nat.le_of_ble_eq_true rfl) (Nat.le_of_ble_eq_true rfl) hs rfl (Nat.le_of_ble_eq_true rfl) fl_X3_40 rfl rfl rfl rfl (fun _ => rfl) (fun _ => rfl) rfl ?_
  have es_ : (zu (zu sh 24 ((0, 12, fun _ => none) : zc_S)) 23 ((6, 10, (zu (fun _ => none) 9 (some 24))) : zc_S)) = (zu (zu sh 23 (SH (zP0 L) 23)) 24 (SH (zP0 L) 24)) := funext (fun k => by
    by_cases e23 : k = 23
    · subst e23
      exact rf_23 L
    by_cases e24 : k = 24
    · subst e24
      rfl
    simp only [zu, if_neg e23, if_neg e24])
  have eg_ : (zu σ 24 (fun _ => (0 : Int32))) = (zu σ 24 (fun _ => (0 : Int32))) := rfl
  exact z_return dX3_init_57 rfl (Nat.le_of_ble_eq_true rfl) (Nat.le_of_ble_eq_true rfl) (by rw [← hQ_]; exact ⟨rfl, (show ((25, (zu (zu sh 24 ((0, 12, fun _ => none) : zc_S)) 23 ((6, 10, (zu (fun _ => none) 9 (some 24))) : zc_S)), (zu σ 24 (fun _ => (0 : Int32)))) : zc_H) = _ by rw [es_, eg_])⟩)
theorem rf_25 (L : Nat) : ((6, 10, (zu (fun _ => none) 9 (some 26))) : zc_S) = SH (zP0 L) 25 := by
  refine congrArg (fun z => ((6, 10, z) : zc_S)) (funext (fun j => ?_))
  match j with
  | 0 => rfl
  | 1 => rfl
  | 2 => rfl
  | 3 => rfl
  | 4 => rfl
  | 5 => rfl
  | 6 => rfl
  | 7 => rfl
  | 8 => rfl
  | 9 => rfl
  | j + 10 => rfl
set_option maxRecDepth 10000 in
set_option maxHeartbeats 4000000 in
theorem ctX3_init_25 (L : Nat) {sh : Nat → zc_S} {σ : zc_N} (hs : sh 25 = (6, 10, fun _ => none)) (h0 : σ 25 = fun _ => 0) : sp mX3_init 1 1 12 [.ref 25] (26, sh, σ) (fun r_ h_ => r_ = none ∧ h_ = (27, (zu (zu sh 25 (SH (zP0 L) 25)) 26 (SH (zP0 L) 26)), (zu σ 26 (fun _ => (0 : Int32))))) := by
  refine sp_of (lv := [some (.ref 25)]) (by decide) (zcats_ok _ rfl) (Nat.le_of_ble_eq_true rfl) (zlv_ok _ 0 rfl) (fun G => ?_)
  generalize hQ_ : (fun (r_ : Option Value) (h_ : zc_H) => r_ = none ∧ h_ = (27, (zu (zu sh 25 (SH (zP0 L) 25)) 26 (SH (zP0 L) 26)), (zu σ 26 (fun _ => (0 : Int32))))) = Q_
  refine z_aloadr_n dX3_init_0 rfl ?_
  refine z_objInit dX3_init_1 oi_X3_3 zw_oi2 zw_oi3 (Nat.le_of_ble_eq_true rfl) (Nat.le_of_ble_eq_true rfl) ?_
  refine z_aloadr_n dX3_init_4 rfl ?_
  refine z_iconst (v := (0 : Int32)) dX3_init_5 (by decide +kernel) ?_
  refine z_put (σ' := σ) (ci := 3) (n := 10) (rf := (fun _ => none)) (r := (RX3, TX3, 10)) (j := 0) dX3_init_6 (Nat.le_of_ble_eq_true rfl) (Nat.le_of_ble_eq_true rfl) hs rfl (Nat.le_of_ble_eq_true rfl) fl_X3_9 rfl rfl rfl rfl (zu_keep (show _ = (0 : Int32) from congrFun h0 0)) ?_
  refine z_aloadr_n dX3_init_9 rfl ?_
  refine z_iconst (v := (0 : Int32)) dX3_init_10 (by decide +kernel) ?_
  refine z_put (σ' := σ) (ci := 3) (n := 10) (rf := (fun _ => none)) (r := (RX3, TX3, 10)) (j := 1) dX3_init_11 (Nat.le_of_ble_eq_true rfl) (Nat.le_of_ble_eq_true rfl) hs rfl (Nat.le_of_ble_eq_true rfl) fl_X3_15 rfl rfl rfl rfl (zu_keep (show _ = (0 : Int32) from congrFun h0 1)) ?_
  refine z_aloadr_n dX3_init_14 rfl ?_
  refine z_iconst (v := (0 : Int32)) dX3_init_15 (by decide +kernel) ?_
  refine z_put (σ' := σ) (ci := 3) (n := 10) (rf := (fun _ => none)) (r := (RX3, TX3, 10)) (j := 2) dX3_init_16 (Nat.le_of_ble_eq_true rfl) (Nat.le_of_ble_eq_true rfl) hs rfl (Nat.le_of_ble_eq_true rfl) fl_X3_19 rfl rfl rfl rfl (zu_keep (show _ = (0 : Int32) from congrFun h0 2)) ?_
  refine z_aloadr_n dX3_init_19 rfl ?_
  refine z_iconst (v := (0 : Int32)) dX3_init_20 (by decide +kernel) ?_
  refine z_put (σ' := σ) (ci := 3) (n := 10) (rf := (fun _ => none)) (r := (RX3, TX3, 10)) (j := 3) dX3_init_21 (Nat.le_of_ble_eq_true rfl) (Nat.le_of_ble_eq_true rfl) hs rfl (Nat.le_of_ble_eq_true rfl) fl_X3_22 rfl rfl rfl rfl (zu_keep (show _ = (0 : Int32) from congrFun h0 3)) ?_
  refine z_aloadr_n dX3_init_24 rfl ?_
  refine z_iconst (v := (0 : Int32)) dX3_init_25 (by decide +kernel) ?_
  refine z_put (σ' := σ) (ci := 3) (n := 10) (rf := (fun _ => none)) (r := (RX3, TX3, 10)) (j := 4) dX3_init_26 (Nat.le_of_ble_eq_true rfl) (Nat.le_of_ble_eq_true rfl) hs rfl (Nat.le_of_ble_eq_true rfl) fl_X3_25 rfl rfl rfl rfl (zu_keep (show _ = (0 : Int32) from congrFun h0 4)) ?_
  refine z_aloadr_n dX3_init_29 rfl ?_
  refine z_iconst (v := (0 : Int32)) dX3_init_30 (by decide +kernel) ?_
  refine z_put (σ' := σ) (ci := 3) (n := 10) (rf := (fun _ => none)) (r := (RX3, TX3, 10)) (j := 5) dX3_init_31 (Nat.le_of_ble_eq_true rfl) (Nat.le_of_ble_eq_true rfl) hs rfl (Nat.le_of_ble_eq_true rfl) fl_X3_28 rfl rfl rfl rfl (zu_keep (show _ = (0 : Int32) from congrFun h0 5)) ?_
  refine z_aloadr_n dX3_init_34 rfl ?_
  refine z_iconst (v := (0 : Int32)) dX3_init_35 (by decide +kernel) ?_
  refine z_put (σ' := σ) (ci := 3) (n := 10) (rf := (fun _ => none)) (r := (RX3, TX3, 10)) (j := 6) dX3_init_36 (Nat.le_of_ble_eq_true rfl) (Nat.le_of_ble_eq_true rfl) hs rfl (Nat.le_of_ble_eq_true rfl) fl_X3_31 rfl rfl rfl rfl (zu_keep (show _ = (0 : Int32) from congrFun h0 6)) ?_
  refine z_aloadr_n dX3_init_39 rfl ?_
  refine z_iconst (v := (0 : Int32)) dX3_init_40 (by decide +kernel) ?_
  refine z_put (σ' := σ) (ci := 3) (n := 10) (rf := (fun _ => none)) (r := (RX3, TX3, 10)) (j := 7) dX3_init_41 (Nat.le_of_ble_eq_true rfl) (Nat.le_of_ble_eq_true rfl) hs rfl (Nat.le_of_ble_eq_true rfl) fl_X3_34 rfl rfl rfl rfl (zu_keep (show _ = (0 : Int32) from congrFun h0 7)) ?_
  refine z_aloadr_n dX3_init_44 rfl ?_
  refine z_iconst (v := (0 : Int32)) dX3_init_45 (by decide +kernel) ?_
  refine z_put (σ' := σ) (ci := 3) (n := 10) (rf := (fun _ => none)) (r := (RX3, TX3, 10)) (j := 8) dX3_init_46 (Nat.le_of_ble_eq_true rfl) (Nat.le_of_ble_eq_true rfl) hs rfl (Nat.le_of_ble_eq_true rfl) fl_X3_37 rfl rfl rfl rfl (zu_keep (show _ = (0 : Int32) from congrFun h0 8)) ?_
  refine z_aloadr_n dX3_init_49 rfl ?_
  refine z_bipush (v := (12 : Int32)) dX3_init_50 (by decide +kernel) ?_
  refine z_newi (n := 12) (v := 0) dX3_init_52 (by decide) (by decide) (by decide) zw_ai (Nat.le_of_ble_eq_true rfl) (Nat.le_of_ble_eq_true rfl) ?_
  refine z_putFr (ci := 3) (n := 10) (rf := (fun _ => none)) (r := (RX3, TX3, 10)) (j := 9) dX3_init_54 (Nat.le_of_ble_eq_true rfl) (Nat.le_of_ble_eq_true rfl) hs rfl (Nat.le_of_ble_eq_true rfl) fl_X3_40 rfl rfl rfl rfl (fun _ => rfl) (fun _ => rfl) rfl ?_
  have es_ : (zu (zu sh 26 ((0, 12, fun _ => none) : zc_S)) 25 ((6, 10, (zu (fun _ => none) 9 (some 26))) : zc_S)) = (zu (zu sh 25 (SH (zP0 L) 25)) 26 (SH (zP0 L) 26)) := funext (fun k => by
    by_cases e25 : k = 25
    · subst e25
      exact rf_25 L
    by_cases e26 : k = 26
    · subst e26
      rfl
    simp only [zu, if_neg e25, if_neg e26])
  have eg_ : (zu σ 26 (fun _ => (0 : Int32))) = (zu σ 26 (fun _ => (0 : Int32))) := rfl
  exact z_return dX3_init_57 rfl (Nat.le_of_ble_eq_true rfl) (Nat.le_of_ble_eq_true rfl) (by rw [← hQ_]; exact ⟨rfl, (show ((27, (zu (zu sh 26 ((0, 12, fun _ => none) : zc_S)) 25 ((6, 10, (zu (fun _ => none) 9 (some 26))) : zc_S)), (zu σ 26 (fun _ => (0 : Int32)))) : zc_H) = _ by rw [es_, eg_])⟩)
theorem dX2_init_0 : decode cX2_init 0 = .ok (.aload_n 0, 1) := by decide +kernel
theorem dX2_init_1 : decode cX2_init 1 = .ok (.invokespecial 3, 3) := by decide +kernel
theorem dX2_init_4 : decode cX2_init 4 = .ok (.aload_n 0, 1) := by decide +kernel
theorem dX2_init_5 : decode cX2_init 5 = .ok (.iconst 0, 1) := by decide +kernel
theorem dX2_init_6 : decode cX2_init 6 = .ok (.putfield 9, 3) := by decide +kernel
theorem dX2_init_9 : decode cX2_init 9 = .ok (.aload_n 0, 1) := by decide +kernel
theorem dX2_init_10 : decode cX2_init 10 = .ok (.bipush 12, 2) := by decide +kernel
theorem dX2_init_12 : decode cX2_init 12 = .ok (.newarray .int, 2) := by decide +kernel
theorem dX2_init_14 : decode cX2_init 14 = .ok (.putfield 15, 3) := by decide +kernel
theorem dX2_init_17 : decode cX2_init 17 = .ok (.aload_n 0, 1) := by decide +kernel
theorem dX2_init_18 : decode cX2_init 18 = .ok (.iconst 0, 1) := by decide +kernel
theorem dX2_init_19 : decode cX2_init 19 = .ok (.putfield 19, 3) := by decide +kernel
theorem dX2_init_22 : decode cX2_init 22 = .ok (.aload_n 0, 1) := by decide +kernel
theorem dX2_init_23 : decode cX2_init 23 = .ok (.bipush 24, 2) := by decide +kernel
theorem dX2_init_25 : decode cX2_init 25 = .ok (.newarray .int, 2) := by decide +kernel
theorem dX2_init_27 : decode cX2_init 27 = .ok (.putfield 22, 3) := by decide +kernel
theorem dX2_init_30 : decode cX2_init 30 = .ok (.aload_n 0, 1) := by decide +kernel
theorem dX2_init_31 : decode cX2_init 31 = .ok (.bipush 24, 2) := by decide +kernel
theorem dX2_init_33 : decode cX2_init 33 = .ok (.newarray .int, 2) := by decide +kernel
theorem dX2_init_35 : decode cX2_init 35 = .ok (.putfield 25, 3) := by decide +kernel
theorem dX2_init_38 : decode cX2_init 38 = .ok (.aload_n 0, 1) := by decide +kernel
theorem dX2_init_39 : decode cX2_init 39 = .ok (.bipush 12, 2) := by decide +kernel
theorem dX2_init_41 : decode cX2_init 41 = .ok (.newarray .int, 2) := by decide +kernel
theorem dX2_init_43 : decode cX2_init 43 = .ok (.putfield 28, 3) := by decide +kernel
theorem dX2_init_46 : decode cX2_init 46 = .ok (.return_, 1) := by decide +kernel
theorem rf_27 (L : Nat) : ((5, 6, (zu (zu (zu (zu (fun _ => none) 1 (some 28)) 3 (some 29)) 4 (some 30)) 5 (some 31))) : zc_S) = SH (zP0 L) 27 := by
  refine congrArg (fun z => ((5, 6, z) : zc_S)) (funext (fun j => ?_))
  match j with
  | 0 => rfl
  | 1 => rfl
  | 2 => rfl
  | 3 => rfl
  | 4 => rfl
  | 5 => rfl
  | j + 6 => rfl
set_option maxRecDepth 10000 in
set_option maxHeartbeats 4000000 in
theorem ctX2_init_27 (L : Nat) {sh : Nat → zc_S} {σ : zc_N} (hs : sh 27 = (5, 6, fun _ => none)) (h0 : σ 27 = fun _ => 0) : sp mX2_init 1 4 72 [.ref 27] (28, sh, σ) (fun r_ h_ => r_ = none ∧ h_ = (32, (zu (zu (zu (zu (zu sh 27 (SH (zP0 L) 27)) 28 (SH (zP0 L) 28)) 29 (SH (zP0 L) 29)) 30 (SH (zP0 L) 30)) 31 (SH (zP0 L) 31)), (zu (zu (zu (zu σ 28 (fun _ => (0 : Int32))) 29 (fun _ => (0 : Int32))) 30 (fun _ => (0 : Int32))) 31 (fun _ => (0 : Int32))))) := by
  refine sp_of (lv := [some (.ref 27)]) (by decide) (zcats_ok _ rfl) (Nat.le_of_ble_eq_true rfl) (zlv_ok _ 0 rfl) (fun G => ?_)
  generalize hQ_ : (fun (r_ : Option Value) (h_ : zc_H) => r_ = none ∧ h_ = (32, (zu (zu (zu (zu (zu sh 27 (SH (zP0 L) 27)) 28 (SH (zP0 L) 28)) 29 (SH (zP0 L) 29)) 30 (SH (zP0 L) 30)) 31 (SH (zP0 L) 31)), (zu (zu (zu (zu σ 28 (fun _ => (0 : Int32))) 29 (fun _ => (0 : Int32))) 30 (fun _ => (0 : Int32))) 31 (fun _ => (0 : Int32))))) = Q_
  refine z_aloadr_n dX2_init_0 rfl ?_
  refine z_objInit dX2_init_1 oi_X2_3 zw_oi2 zw_oi3 (Nat.le_of_ble_eq_true rfl) (Nat.le_of_ble_eq_true rfl) ?_
  refine z_aloadr_n dX2_init_4 rfl ?_
  refine z_iconst (v := (0 : Int32)) dX2_init_5 (by decide +kernel) ?_
  refine z_put (σ' := σ) (ci := 2) (n := 6) (rf := (fun _ => none)) (r := (RX2, TX2, 6)) (j := 0) dX2_init_6 (Nat.le_of_ble_eq_true rfl) (Nat.le_of_ble_eq_true rfl) hs rfl (Nat.le_of_ble_eq_true rfl) fl_X2_9 rfl rfl rfl rfl (zu_keep (show _ = (0 : Int32) from congrFun h0 0)) ?_
  refine z_aloadr_n dX2_init_9 rfl ?_
  refine z_bipush (v := (12 : Int32)) dX2_init_10 (by decide +kernel) ?_
  refine z_newi (n := 12) (v := 0) dX2_init_12 (by decide) (by decide) (by decide) zw_ai (Nat.le_of_ble_eq_true rfl) (Nat.le_of_ble_eq_true rfl) ?_
  refine z_putFr (ci := 2) (n := 6) (rf := (fun _ => none)) (r := (RX2, TX2, 6)) (j := 1) dX2_init_14 (Nat.le_of_ble_eq_true rfl) (Nat.le_of_ble_eq_true rfl) hs rfl (Nat.le_of_ble_eq_true rfl) fl_X2_15 rfl rfl rfl rfl (fun _ => rfl) (fun _ => rfl) rfl ?_
  refine z_aloadr_n dX2_init_17 rfl ?_
  refine z_iconst (v := (0 : Int32)) dX2_init_18 (by decide +kernel) ?_
  refine z_put (σ' := (zu σ 28 (fun _ => (0 : Int32)))) (ci := 2) (n := 6) (rf := (zu (fun _ => none) 1 (some 28))) (r := (RX2, TX2, 6)) (j := 2) dX2_init_19 (Nat.le_of_ble_eq_true rfl) (Nat.le_of_ble_eq_true rfl) rfl rfl (Nat.le_of_ble_eq_true rfl) fl_X2_19 rfl rfl rfl rfl (zu_keep (show _ = (0 : Int32) from congrFun h0 2)) ?_
  refine z_aloadr_n dX2_init_22 rfl ?_
  refine z_bipush (v := (24 : Int32)) dX2_init_23 (by decide +kernel) ?_
  refine z_newi (n := 24) (v := 0) dX2_init_25 (by decide) (by decide) (by decide) zw_ai (Nat.le_of_ble_eq_true rfl) (Nat.le_of_ble_eq_true rfl) ?_
  refine z_putFr (ci := 2) (n := 6) (rf := (zu (fun _ => none) 1 (some 28))) (r := (RX2, TX2, 6)) (j := 3) dX2_init_27 (Nat.le_of_ble_eq_true rfl) (Nat.le_of_ble_eq_true rfl) rfl rfl (Nat.le_of_ble_eq_true rfl) fl_X2_22 rfl rfl rfl rfl (fun _ => rfl) (fun _ => rfl) rfl ?_
  refine z_aloadr_n dX2_init_30 rfl ?_
  refine z_bipush (v := (24 : Int32)) dX2_init_31 (by decide +kernel) ?_
  refine z_newi (n := 24) (v := 0) dX2_init_33 (by decide) (by decide) (by decide) zw_ai (Nat.le_of_ble_eq_true rfl) (Nat.le_of_ble_eq_true rfl) ?_
  refine z_putFr (ci := 2) (n := 6) (rf := (zu (zu (fun _ => none) 1 (some 28)) 3 (some 29))) (r := (RX2, TX2, 6)) (j := 4) dX2_init_35 (Nat.le_of_ble_eq_true rfl) (Nat.le_of_ble_eq_true rfl) rfl rfl (Nat.le_of_ble_eq_true rfl) fl_X2_25 rfl rfl rfl rfl (fun _ => rfl) (fun _ => rfl) rfl ?_
  refine z_aloadr_n dX2_init_38 rfl ?_
  refine z_bipush (v := (12 : Int32)) dX2_init_39 (by decide +kernel) ?_
  refine z_newi (n := 12) (v := 0) dX2_init_41 (by decide) (by decide) (by decide) zw_ai (Nat.le_of_ble_eq_true rfl) (Nat.le_of_ble_eq_true rfl) ?_
  refine z_putFr (ci := 2) (n := 6) (rf := (zu (zu (zu (fun _ => none) 1 (some 28)) 3 (some 29)) 4 (some 30))) (r := (RX2, TX2, 6)) (j := 5) dX2_init_43 (Nat.le_of_ble_eq_true rfl) (Nat.le_of_ble_eq_true rfl) rfl rfl (Nat.le_of_ble_eq_true rfl) fl_X2_28 rfl rfl rfl rfl (fun _ => rfl) (fun _ => rfl) rfl ?_
  have es_ : (zu (zu (zu (zu (zu (zu (zu (zu sh 28 ((0, 12, fun _ => none) : zc_S)) 27 ((5, 6, (zu (fun _ => none) 1 (some 28))) : zc_S)) 29 ((0, 24, fun _ => none) : zc_S)) 27 ((5, 6, (zu (zu (fun _ => none) 1 (some 28)) 3 (some 29))) : zc_S)) 30 ((0, 24, fun _ => none) : zc_S)) 27 ((5, 6, (zu (zu (zu (fun _ => none) 1 (some 28)) 3 (some 29)) 4 (some 30))) : zc_S)) 31 ((0, 12, fun _ => none) : zc_S)) 27 ((5, 6, (zu (zu (zu (zu (fun _ => none) 1 (some 28)) 3 (some 29)) 4 (some 30)) 5 (some 31))) : zc_S)) = (zu (zu (zu (zu (zu sh 27 (SH (zP0 L) 27)) 28 (SH (zP0 L) 28)) 29 (SH (zP0 L) 29)) 30 (SH (zP0 L) 30)) 31 (SH (zP0 L) 31)) := funext (fun k => by
    by_cases e27 : k = 27
    · subst e27
      exact rf_27 L
    by_cases e28 : k = 28
    · subst e28
      rfl
    by_cases e29 : k = 29
    · subst e29
      rfl
    by_cases e30 : k = 30
    · subst e30
      rfl
    by_cases e31 : k = 31
    · subst e31
      rfl
    simp only [zu, if_neg e27, if_neg e28, if_neg e29, if_neg e30, if_neg e31])
  have eg_ : (zu (zu (zu (zu σ 28 (fun _ => (0 : Int32))) 29 (fun _ => (0 : Int32))) 30 (fun _ => (0 : Int32))) 31 (fun _ => (0 : Int32))) = (zu (zu (zu (zu σ 28 (fun _ => (0 : Int32))) 29 (fun _ => (0 : Int32))) 30 (fun _ => (0 : Int32))) 31 (fun _ => (0 : Int32))) := rfl
  exact z_return dX2_init_46 rfl (Nat.le_of_ble_eq_true rfl) (Nat.le_of_ble_eq_true rfl) (by rw [← hQ_]; exact ⟨rfl, (show ((32, (zu (zu (zu (zu (zu (zu (zu (zu sh 28 ((0, 12, fun _ => none) : zc_S)) 27 ((5, 6, (zu (fun _ => none) 1 (some 28))) : zc_S)) 29 ((0, 24, fun _ => none) : zc_S)) 27 ((5, 6, (zu (zu (fun _ => none) 1 (some 28)) 3 (some 29))) : zc_S)) 30 ((0, 24, fun _ => none) : zc_S)) 27 ((5, 6, (zu (zu (zu (fun _ => none) 1 (some 28)) 3 (some 29)) 4 (some 30))) : zc_S)) 31 ((0, 12, fun _ => none) : zc_S)) 27 ((5, 6, (zu (zu (zu (zu (fun _ => none) 1 (some 28)) 3 (some 29)) 4 (some 30)) 5 (some 31))) : zc_S)), (zu (zu (zu (zu σ 28 (fun _ => (0 : Int32))) 29 (fun _ => (0 : Int32))) 30 (fun _ => (0 : Int32))) 31 (fun _ => (0 : Int32)))) : zc_H) = _ by rw [es_, eg_])⟩)
theorem dX9_init_0 : decode cX9_init 0 = .ok (.aload_n 0, 1) := by decide +kernel
theorem dX9_init_1 : decode cX9_init 1 = .ok (.invokespecial 1, 3) := by decide +kernel
theorem dX9_init_4 : decode cX9_init 4 = .ok (.aload_n 0, 1) := by decide +kernel
theorem dX9_init_5 : decode cX9_init 5 = .ok (.sipush 256, 3) := by decide +kernel
theorem dX9_init_8 : decode cX9_init 8 = .ok (.newarray .boolean, 2) := by decide +kernel
theorem dX9_init_10 : decode cX9_init 10 = .ok (.putfield 9, 3) := by decide +kernel
theorem dX9_init_13 : decode cX9_init 13 = .ok (.aload_n 0, 1) := by decide +kernel
theorem dX9_init_14 : decode cX9_init 14 = .ok (.sipush 256, 3) := by decide +kernel
theorem dX9_init_17 : decode cX9_init 17 = .ok (.newarray .boolean, 2) := by decide +kernel
theorem dX9_init_19 : decode cX9_init 19 = .ok (.putfield 13, 3) := by decide +kernel
theorem dX9_init_22 : decode cX9_init 22 = .ok (.aload_n 0, 1) := by decide +kernel
theorem dX9_init_23 : decode cX9_init 23 = .ok (.sipush 256, 3) := by decide +kernel
theorem dX9_init_26 : decode cX9_init 26 = .ok (.newarray .boolean, 2) := by decide +kernel
theorem dX9_init_28 : decode cX9_init 28 = .ok (.putfield 16, 3) := by decide +kernel
theorem dX9_init_31 : decode cX9_init 31 = .ok (.aload_n 0, 1) := by decide +kernel
theorem dX9_init_32 : decode cX9_init 32 = .ok (.sipush 256, 3) := by decide +kernel
theorem dX9_init_35 : decode cX9_init 35 = .ok (.newarray .int, 2) := by decide +kernel
theorem dX9_init_37 : decode cX9_init 37 = .ok (.putfield 19, 3) := by decide +kernel
theorem dX9_init_40 : decode cX9_init 40 = .ok (.aload_n 0, 1) := by decide +kernel
theorem dX9_init_41 : decode cX9_init 41 = .ok (.bipush 24, 2) := by decide +kernel
theorem dX9_init_43 : decode cX9_init 43 = .ok (.newarray .int, 2) := by decide +kernel
theorem dX9_init_45 : decode cX9_init 45 = .ok (.putfield 23, 3) := by decide +kernel
theorem dX9_init_48 : decode cX9_init 48 = .ok (.aload_n 0, 1) := by decide +kernel
theorem dX9_init_49 : decode cX9_init 49 = .ok (.sipush 288, 3) := by decide +kernel
theorem dX9_init_52 : decode cX9_init 52 = .ok (.newarray .int, 2) := by decide +kernel
theorem dX9_init_54 : decode cX9_init 54 = .ok (.putfield 26, 3) := by decide +kernel
theorem dX9_init_57 : decode cX9_init 57 = .ok (.aload_n 0, 1) := by decide +kernel
theorem dX9_init_58 : decode cX9_init 58 = .ok (.sipush 288, 3) := by decide +kernel
theorem dX9_init_61 : decode cX9_init 61 = .ok (.newarray .int, 2) := by decide +kernel
theorem dX9_init_63 : decode cX9_init 63 = .ok (.putfield 29, 3) := by decide +kernel
theorem dX9_init_66 : decode cX9_init 66 = .ok (.aload_n 0, 1) := by decide +kernel
theorem dX9_init_67 : decode cX9_init 67 = .ok (.sipush 288, 3) := by decide +kernel
theorem dX9_init_70 : decode cX9_init 70 = .ok (.newarray .int, 2) := by decide +kernel
theorem dX9_init_72 : decode cX9_init 72 = .ok (.putfield 32, 3) := by decide +kernel
theorem dX9_init_75 : decode cX9_init 75 = .ok (.aload_n 0, 1) := by decide +kernel
theorem dX9_init_76 : decode cX9_init 76 = .ok (.bipush 96, 2) := by decide +kernel
theorem dX9_init_78 : decode cX9_init 78 = .ok (.newarray .int, 2) := by decide +kernel
theorem dX9_init_80 : decode cX9_init 80 = .ok (.putfield 35, 3) := by decide +kernel
theorem dX9_init_83 : decode cX9_init 83 = .ok (.aload_n 0, 1) := by decide +kernel
theorem dX9_init_84 : decode cX9_init 84 = .ok (.bipush 24, 2) := by decide +kernel
theorem dX9_init_86 : decode cX9_init 86 = .ok (.newarray .int, 2) := by decide +kernel
theorem dX9_init_88 : decode cX9_init 88 = .ok (.putfield 38, 3) := by decide +kernel
theorem dX9_init_91 : decode cX9_init 91 = .ok (.aload_n 0, 1) := by decide +kernel
theorem dX9_init_92 : decode cX9_init 92 = .ok (.bipush 24, 2) := by decide +kernel
theorem dX9_init_94 : decode cX9_init 94 = .ok (.newarray .int, 2) := by decide +kernel
theorem dX9_init_96 : decode cX9_init 96 = .ok (.putfield 41, 3) := by decide +kernel
theorem dX9_init_99 : decode cX9_init 99 = .ok (.aload_n 0, 1) := by decide +kernel
theorem dX9_init_100 : decode cX9_init 100 = .ok (.iconst 1, 1) := by decide +kernel
theorem dX9_init_101 : decode cX9_init 101 = .ok (.putfield 44, 3) := by decide +kernel
theorem dX9_init_104 : decode cX9_init 104 = .ok (.aload_n 0, 1) := by decide +kernel
theorem dX9_init_105 : decode cX9_init 105 = .ok (.bipush 12, 2) := by decide +kernel
theorem dX9_init_107 : decode cX9_init 107 = .ok (.newarray .int, 2) := by decide +kernel
theorem dX9_init_109 : decode cX9_init 109 = .ok (.putfield 48, 3) := by decide +kernel
theorem dX9_init_112 : decode cX9_init 112 = .ok (.aload_n 0, 1) := by decide +kernel
theorem dX9_init_113 : decode cX9_init 113 = .ok (.bipush 12, 2) := by decide +kernel
theorem dX9_init_115 : decode cX9_init 115 = .ok (.newarray .int, 2) := by decide +kernel
theorem dX9_init_117 : decode cX9_init 117 = .ok (.putfield 51, 3) := by decide +kernel
theorem dX9_init_120 : decode cX9_init 120 = .ok (.aload_n 0, 1) := by decide +kernel
theorem dX9_init_121 : decode cX9_init 121 = .ok (.iconst 4, 1) := by decide +kernel
theorem dX9_init_122 : decode cX9_init 122 = .ok (.newarray .int, 2) := by decide +kernel
theorem dX9_init_124 : decode cX9_init 124 = .ok (.putfield 54, 3) := by decide +kernel
theorem dX9_init_127 : decode cX9_init 127 = .ok (.aload_n 0, 1) := by decide +kernel
theorem dX9_init_128 : decode cX9_init 128 = .ok (.sipush 144, 3) := by decide +kernel
theorem dX9_init_131 : decode cX9_init 131 = .ok (.newarray .boolean, 2) := by decide +kernel
theorem dX9_init_133 : decode cX9_init 133 = .ok (.putfield 57, 3) := by decide +kernel
theorem dX9_init_136 : decode cX9_init 136 = .ok (.aload_n 0, 1) := by decide +kernel
theorem dX9_init_137 : decode cX9_init 137 = .ok (.bipush 12, 2) := by decide +kernel
theorem dX9_init_139 : decode cX9_init 139 = .ok (.newarray .int, 2) := by decide +kernel
theorem dX9_init_141 : decode cX9_init 141 = .ok (.putfield 60, 3) := by decide +kernel
theorem dX9_init_144 : decode cX9_init 144 = .ok (.aload_n 0, 1) := by decide +kernel
theorem dX9_init_145 : decode cX9_init 145 = .ok (.bipush 12, 2) := by decide +kernel
theorem dX9_init_147 : decode cX9_init 147 = .ok (.newarray .boolean, 2) := by decide +kernel
theorem dX9_init_149 : decode cX9_init 149 = .ok (.putfield 63, 3) := by decide +kernel
theorem dX9_init_152 : decode cX9_init 152 = .ok (.aload_n 0, 1) := by decide +kernel
theorem dX9_init_153 : decode cX9_init 153 = .ok (.bipush 12, 2) := by decide +kernel
theorem dX9_init_155 : decode cX9_init 155 = .ok (.newarray .int, 2) := by decide +kernel
theorem dX9_init_157 : decode cX9_init 157 = .ok (.putfield 66, 3) := by decide +kernel
theorem dX9_init_160 : decode cX9_init 160 = .ok (.aload_n 0, 1) := by decide +kernel
theorem dX9_init_161 : decode cX9_init 161 = .ok (.bipush 12, 2) := by decide +kernel
theorem dX9_init_163 : decode cX9_init 163 = .ok (.newarray .int, 2) := by decide +kernel
theorem dX9_init_165 : decode cX9_init 165 = .ok (.putfield 69, 3) := by decide +kernel
theorem dX9_init_168 : decode cX9_init 168 = .ok (.aload_n 0, 1) := by decide +kernel
theorem dX9_init_169 : decode cX9_init 169 = .ok (.bipush 7, 2) := by decide +kernel
theorem dX9_init_171 : decode cX9_init 171 = .ok (.newarray .int, 2) := by decide +kernel
theorem dX9_init_173 : decode cX9_init 173 = .ok (.putfield 72, 3) := by decide +kernel
theorem dX9_init_176 : decode cX9_init 176 = .ok (.aload_n 0, 1) := by decide +kernel
theorem dX9_init_177 : decode cX9_init 177 = .ok (.bipush 12, 2) := by decide +kernel
theorem dX9_init_179 : decode cX9_init 179 = .ok (.newarray .int, 2) := by decide +kernel
theorem dX9_init_181 : decode cX9_init 181 = .ok (.putfield 75, 3) := by decide +kernel
theorem dX9_init_184 : decode cX9_init 184 = .ok (.aload_n 0, 1) := by decide +kernel
theorem dX9_init_185 : decode cX9_init 185 = .ok (.iconst (-1), 1) := by decide +kernel
theorem dX9_init_186 : decode cX9_init 186 = .ok (.putfield 78, 3) := by decide +kernel
theorem dX9_init_189 : decode cX9_init 189 = .ok (.aload_n 0, 1) := by decide +kernel
theorem dX9_init_190 : decode cX9_init 190 = .ok (.bipush 12, 2) := by decide +kernel
theorem dX9_init_192 : decode cX9_init 192 = .ok (.newarray .int, 2) := by decide +kernel
theorem dX9_init_194 : decode cX9_init 194 = .ok (.putfield 81, 3) := by decide +kernel
theorem dX9_init_197 : decode cX9_init 197 = .ok (.aload_n 0, 1) := by decide +kernel
theorem dX9_init_198 : decode cX9_init 198 = .ok (.bipush 12, 2) := by decide +kernel
theorem dX9_init_200 : decode cX9_init 200 = .ok (.newarray .int, 2) := by decide +kernel
theorem dX9_init_202 : decode cX9_init 202 = .ok (.putfield 84, 3) := by decide +kernel
theorem dX9_init_205 : decode cX9_init 205 = .ok (.aload_n 0, 1) := by decide +kernel
theorem dX9_init_206 : decode cX9_init 206 = .ok (.sipush 288, 3) := by decide +kernel
theorem dX9_init_209 : decode cX9_init 209 = .ok (.newarray .int, 2) := by decide +kernel
theorem dX9_init_211 : decode cX9_init 211 = .ok (.putfield 87, 3) := by decide +kernel
theorem dX9_init_214 : decode cX9_init 214 = .ok (.aload_n 0, 1) := by decide +kernel
theorem dX9_init_215 : decode cX9_init 215 = .ok (.iconst (-1), 1) := by decide +kernel
theorem dX9_init_216 : decode cX9_init 216 = .ok (.putfield 90, 3) := by decide +kernel
theorem dX9_init_219 : decode cX9_init 219 = .ok (.aload_n 0, 1) := by decide +kernel
theorem dX9_init_220 : decode cX9_init 220 = .ok (.iconst (-1), 1) := by decide +kernel
theorem dX9_init_221 : decode cX9_init 221 = .ok (.putfield 93, 3) := by decide +kernel
theorem dX9_init_224 : decode cX9_init 224 = .ok (.return_, 1) := by decide +kernel
theorem rf_32 (L : Nat) : ((12, 38, (zu (zu (zu (zu (zu (zu (zu (zu (zu (zu (zu (zu (zu (zu (zu (zu (zu (zu (zu (zu (zu (zu (zu (zu (fun _ => none) 0 (some 33)) 1 (some 34)) 2 (some 35)) 3 (some 36)) 4 (some 37)) 5 (some 38)) 6 (some 39)) 7 (some 40)) 8 (some 41)) 9 (some 42)) 10 (some 43)) 13 (some 44)) 14 (some 45)) 15 (some 46)) 16 (some 47)) 17 (some 48)) 18 (some 49)) 19 (some 50)) 27 (some 51)) 28 (some 52)) 29 (some 53)) 31 (some 54)) 32 (some 55)) 35 (some 56))) : zc_S) = SH (zP0 L) 32 := by
  refine congrArg (fun z => ((12, 38, z) : zc_S)) (funext (fun j => ?_))
  match j with
  | 0 => rfl
  | 1 => rfl
  | 2 => rfl
  | 3 => rfl
  | 4 => rfl
  | 5 => rfl
  | 6 => rfl
  | 7 => rfl
  | 8 => rfl
  | 9 => rfl
  | 10 => rfl
  | 11 => rfl
  | 12 => rfl
  | 13 => rfl
  | 14 => rfl
  | 15 => rfl
  | 16 => rfl
  | 17 => rfl
  | 18 => rfl
  | 19 => rfl
  | 20 => rfl
  | 21 => rfl
  | 22 => rfl
  | 23 => rfl
  | 24 => rfl
  | 25 => rfl
  | 26 => rfl
  | 27 => rfl
  | 28 => rfl
  | 29 => rfl
  | 30 => rfl
  | 31 => rfl
  | 32 => rfl
  | 33 => rfl
  | 34 => rfl
  | 35 => rfl
  | 36 => rfl
  | 37 => rfl
  | j + 38 => rfl
set_option maxRecDepth 10000 in
set_option maxHeartbeats 4000000 in
theorem ctX9_init_32 (L : Nat) {sh : Nat → zc_S} {σ : zc_N} (hs : sh 32 = (12, 38, fun _ => none)) (h0 : σ 32 = fun _ => 0) : sp mX9_init 1 24 2607 [.ref 32] (33, sh, σ) (fun r_ h_ => r_ = none ∧ h_ = (57, (zu (zu (zu (zu (zu (zu (zu (zu (zu (zu (zu (zu (zu (zu (zu (zu (zu (zu (zu (zu (zu (zu (zu (zu (zu sh 32 (SH (zP0 L) 32)) 33 (SH (zP0 L) 33)) 34 (SH (zP0 L) 34)) 35 (SH (zP0 L) 35)) 36 (SH (zP0 L) 36)) 37 (SH (zP0 L) 37)) 38 (SH (zP0 L) 38)) 39 (SH (zP0 L) 39)) 40 (SH (zP0 L) 40)) 41 (SH (zP0 L) 41)) 42 (SH (zP0 L) 42)) 43 (SH (zP0 L) 43)) 44 (SH (zP0 L) 44)) 45 (SH (zP0 L) 45)) 46 (SH (zP0 L) 46)) 47 (SH (zP0 L) 47)) 48 (SH (zP0 L) 48)) 49 (SH (zP0 L) 49)) 50 (SH (zP0 L) 50)) 51 (SH (zP0 L) 51)) 52 (SH (zP0 L) 52)) 53 (SH (zP0 L) 53)) 54 (SH (zP0 L) 54)) 55 (SH (zP0 L) 55)) 56 (SH (zP0 L) 56)), (zu (zu (zu (zu (zu (zu (zu (zu (zu (zu (zu (zu (zu (zu (zu (zu (zu (zu (zu (zu (zu (zu (zu (zu (zu σ 32 (zu (zu (zu (zu (fun _ => (0 : Int32)) 12 (1 : Int32)) 30 (-1 : Int32)) 36 (-1 : Int32)) 37 (-1 : Int32))) 33 (fun _ => (0 : Int32))) 34 (fun _ => (0 : Int32))) 35 (fun _ => (0 : Int32))) 36 (fun _ => (0 : Int32))) 37 (fun _ => (0 : Int32))) 38 (fun _ => (0 : Int32))) 39 (fun _ => (0 : Int32))) 40 (fun _ => (0 : Int32))) 41 (fun _ => (0 : Int32))) 42 (fun _ => (0 : Int32))) 43 (fun _ => (0 : Int32))) 44 (fun _ => (0 : Int32))) 45 (fun _ => (0 : Int32))) 46 (fun _ => (0 : Int32))) 47 (fun _ => (0 : Int32))) 48 (fun _ => (0 : Int32))) 49 (fun _ => (0 : Int32))) 50 (fun _ => (0 : Int32))) 51 (fun _ => (0 : Int32))) 52 (fun _ => (0 : Int32))) 53 (fun _ => (0 : Int32))) 54 (fun _ => (0 : Int32))) 55 (fun _ => (0 : Int32))) 56 (fun _ => (0 : Int32))))) := by
  refine sp_of (lv := [some (.ref 32)]) (by decide) (zcats_ok _ rfl) (Nat.le_of_ble_eq_true rfl) (zlv_ok _ 0 rfl) (fun G => ?_)
  generalize hQ_ : (fun (r_ : Option Value) (h_ : zc_H) => r_ = none ∧ h_ = (57, (zu (zu (zu (zu (zu (zu (zu (zu (zu (zu (zu (zu (zu (zu (zu (zu (zu (zu (zu (zu (zu (zu (zu (zu (zu sh 32 (SH (zP0 L) 32)) 33 (SH (zP0 L) 33)) 34 (SH (zP0 L) 34)) 35 (SH (zP0 L) 35)) 36 (SH (zP0 L) 36)) 37 (SH (zP0 L) 37)) 38 (SH (zP0 L) 38)) 39 (SH (zP0 L) 39)) 40 (SH (zP0 L) 40)) 41 (SH (zP0 L) 41)) 42 (SH (zP0 L) 42)) 43 (SH (zP0 L) 43)) 44 (SH (zP0 L) 44)) 45 (SH (zP0 L) 45)) 46 (SH (zP0 L) 46)) 47 (SH (zP0 L) 47)) 48 (SH (zP0 L) 48)) 49 (SH (zP0 L) 49)) 50 (SH (zP0 L) 50)) 51 (SH (zP0 L) 51)) 52 (SH (zP0 L) 52)) 53 (SH (zP0 L) 53)) 54 (SH (zP0 L) 54)) 55 (SH (zP0 L) 55)) 56 (SH (zP0 L) 56)), (zu (zu (zu (zu (zu (zu (zu (zu (zu (zu (zu (zu (zu (zu (zu (zu (zu (zu (zu (zu (zu (zu (zu (zu (zu σ 32 (zu (zu (zu (zu (fun _ => (0 : Int32)) 12 (1 : Int32)) 30 (-1 : Int32)) 36 (-1 : Int32)) 37 (-1 : Int32))) 33 (fun _ => (0 : Int32))) 34 (fun _ => (0 : Int32))) 35 (fun _ => (0 : Int32))) 36 (fun _ => (0 : Int32))) 37 (fun _ => (0 : Int32))) 38 (fun _ => (0 : Int32))) 39 (fun _ => (0 : Int32))) 40 (fun _ => (0 : Int32))) 41 (fun _ => (0 : Int32))) 42 (fun _ => (0 : Int32))) 43 (fun _ => (0 : Int32))) 44 (fun _ => (0 : Int32))) 45 (fun _ => (0 : Int32))) 46 (fun _ => (0 : Int32))) 47 (fun _ => (0 : Int32))) 48 (fun _ => (0 : Int32))) 49 (fun _ => (0 : Int32))) 50 (fun _ => (0 : Int32))) 51 (fun _ => (0 : Int32))) 52 (fun _ => (0 : Int32))) 53 (fun _ => (0 : Int32))) 54 (fun _ => (0 : Int32))) 55 (fun _ => (0 : Int32))) 56 (fun _ => (0 : Int32))))) = Q_
  refine z_aloadr_n dX9_init_0 rfl ?_
  refine z_objInit dX9_init_1 oi_X9_1 zw_oi2 zw_oi3 (Nat.le_of_ble_eq_true rfl) (Nat.le_of_ble_eq_true rfl) ?_
  refine z_aloadr_n dX9_init_4 rfl ?_
  refine z_sipush (v := (256 : Int32)) dX9_init_5 (by decide +kernel) ?_
  refine z_newz (n := 256) (v := 0) dX9_init_8 (by decide) (by decide) (by decide) zw_az (Nat.le_of_ble_eq_true rfl) (Nat.le_of_ble_eq_true rfl) ?_
  refine z_putFr (ci := 9) (n := 38) (rf := (fun _ => none)) (r := (RX9, TX9, 38)) (j := 0) dX9_init_10 (Nat.le_of_ble_eq_true rfl) (Nat.le_of_ble_eq_true rfl) hs rfl (Nat.le_of_ble_eq_true rfl) fl_X9_9 rfl rfl rfl rfl (fun _ => rfl) (fun _ => rfl) rfl ?_
  refine z_aloadr_n dX9_init_13 rfl ?_
  refine z_sipush (v := (256 : Int32)) dX9_init_14 (by decide +kernel) ?_
  refine z_newz (n := 256) (v := 0) dX9_init_17 (by decide) (by decide) (by decide) zw_az (Nat.le_of_ble_eq_true rfl) (Nat.le_of_ble_eq_true rfl) ?_
  refine z_putFr (ci := 9) (n := 38) (rf := (zu (fun _ => none) 0 (some 33))) (r := (RX9, TX9, 38)) (j := 1) dX9_init_19 (Nat.le_of_ble_eq_true rfl) (Nat.le_of_ble_eq_true rfl) rfl rfl (Nat.le_of_ble_eq_true rfl) fl_X9_13 rfl rfl rfl rfl (fun _ => rfl) (fun _ => rfl) rfl ?_
  refine z_aloadr_n dX9_init_22 rfl ?_
  refine z_sipush (v := (256 : Int32)) dX9_init_23 (by decide +kernel) ?_
  refine z_newz (n := 256) (v := 0) dX9_init_26 (by decide) (by decide) (by decide) zw_az (Nat.le_of_ble_eq_true rfl) (Nat.le_of_ble_eq_true rfl) ?_
  refine z_putFr (ci := 9) (n := 38) (rf := (zu (zu (fun _ => none) 0 (some 33)) 1 (some 34))) (r := (RX9, TX9, 38)) (j := 2) dX9_init_28 (Nat.le_of_ble_eq_true rfl) (Nat.le_of_ble_eq_true rfl) rfl rfl (Nat.le_of_ble_eq_true rfl) fl_X9_16 rfl rfl rfl rfl (fun _ => rfl) (fun _ => rfl) rfl ?_
  refine z_aloadr_n dX9_init_31 rfl ?_
  refine z_sipush (v := (256 : Int32)) dX9_init_32 (by decide +kernel) ?_
  refine z_newi (n := 256) (v := 0) dX9_init_35 (by decide) (by decide) (by decide) zw_ai (Nat.le_of_ble_eq_true rfl) (Nat.le_of_ble_eq_true rfl) ?_
  refine z_putFr (ci := 9) (n := 38) (rf := (zu (zu (zu (fun _ => none) 0 (some 33)) 1 (some 34)) 2 (some 35))) (r := (RX9, TX9, 38)) (j := 3) dX9_init_37 (Nat.le_of_ble_eq_true rfl) (Nat.le_of_ble_eq_true rfl) rfl rfl (Nat.le_of_ble_eq_true rfl) fl_X9_19 rfl rfl rfl rfl (fun _ => rfl) (fun _ => rfl) rfl ?_
  refine z_aloadr_n dX9_init_40 rfl ?_
  refine z_bipush (v := (24 : Int32)) dX9_init_41 (by decide +kernel) ?_
  refine z_newi (n := 24) (v := 0) dX9_init_43 (by decide) (by decide) (by decide) zw_ai (Nat.le_of_ble_eq_true rfl) (Nat.le_of_ble_eq_true rfl) ?_
  refine z_putFr (ci := 9) (n := 38) (rf := (zu (zu (zu (zu (fun _ => none) 0 (some 33)) 1 (some 34)) 2 (some 35)) 3 (some 36))) (r := (RX9, TX9, 38)) (j := 4) dX9_init_45 (Nat.le_of_ble_eq_true rfl) (Nat.le_of_ble_eq_true rfl) rfl rfl (Nat.le_of_ble_eq_true rfl) fl_X9_23 rfl rfl rfl rfl (fun _ => rfl) (fun _ => rfl) rfl ?_
  refine z_aloadr_n dX9_init_48 rfl ?_
  refine z_sipush (v := (288 : Int32)) dX9_init_49 (by decide +kernel) ?_
  refine z_newi (n := 288) (v := 0) dX9_init_52 (by decide) (by decide) (by decide) zw_ai (Nat.le_of_ble_eq_true rfl) (Nat.le_of_ble_eq_true rfl) ?_
  refine z_putFr (ci := 9) (n := 38) (rf := (zu (zu (zu (zu (zu (fun _ => none) 0 (some 33)) 1 (some 34)) 2 (some 35)) 3 (some 36)) 4 (some 37))) (r := (RX9, TX9, 38)) (j := 5) dX9_init_54 (Nat.le_of_ble_eq_true rfl) (Nat.le_of_ble_eq_true rfl) rfl rfl (Nat.le_of_ble_eq_true rfl) fl_X9_26 rfl rfl rfl rfl (fun _ => rfl) (fun _ => rfl) rfl ?_
  refine z_aloadr_n dX9_init_57 rfl ?_
  refine z_sipush (v := (288 : Int32)) dX9_init_58 (by decide +kernel) ?_
  refine z_newi (n := 288) (v := 0) dX9_init_61 (by decide) (by decide) (by decide) zw_ai (Nat.le_of_ble_eq_true rfl) (Nat.le_of_ble_eq_true rfl) ?_
  refine z_putFr (ci := 9) (n := 38) (rf := (zu (zu (zu (zu (zu (zu (fun _ => none) 0 (some 33)) 1 (some 34)) 2 (some 35)) 3 (some 36)) 4 (some 37)) 5 (some 38))) (r := (RX9, TX9, 38)) (j := 6) dX9_init_63 (Nat.le_of_ble_eq_true rfl) (Nat.le_of_ble_eq_true rfl) rfl rfl (Nat.le_of_ble_eq_true rfl) fl_X9_29 rfl rfl rfl rfl (fun _ => rfl) (fun _ => rfl) rfl ?_
  refine z_aloadr_n dX9_init_66 rfl ?_
  refine z_sipush (v := (288 : Int32)) dX9_init_67 (by decide +kernel) ?_
  refine z_newi (n := 288) (v := 0) dX9_init_70 (by decide) (by decide) (by decide) zw_ai (Nat.le_of_ble_eq_true rfl) (Nat.le_of_ble_eq_true rfl) ?_
  refine z_putFr (ci := 9) (n := 38) (rf := (zu (zu (zu (zu (zu (zu (zu (fun _ => none) 0 (some 33)) 1 (some 34)) 2 (some 35)) 3 (some 36)) 4 (some 37)) 5 (some 38)) 6 (some 39))) (r := (RX9, TX9, 38)) (j := 7) dX9_init_72 (Nat.le_of_ble_eq_true rfl) (Nat.le_of_ble_eq_true rfl) rfl rfl (Nat.le_of_ble_eq_true rfl) fl_X9_32 rfl rfl rfl rfl (fun _ => rfl) (fun _ => rfl) rfl ?_
  refine z_aloadr_n dX9_init_75 rfl ?_
  refine z_bipush (v := (96 : Int32)) dX9_init_76 (by decide +kernel) ?_
  refine z_newi (n := 96) (v := 0) dX9_init_78 (by decide) (by decide) (by decide) zw_ai (Nat.le_of_ble_eq_true rfl) (Nat.le_of_ble_eq_true rfl) ?_
  refine z_putFr (ci := 9) (n := 38) (rf := (zu (zu (zu (zu (zu (zu (zu (zu (fun _ => none) 0 (some 33)) 1 (some 34)) 2 (some 35)) 3 (some 36)) 4 (some 37)) 5 (some 38)) 6 (some 39)) 7 (some 40))) (r := (RX9, TX9, 38)) (j := 8) dX9_init_80 (Nat.le_of_ble_eq_true rfl) (Nat.le_of_ble_eq_true rfl) rfl rfl (Nat.le_of_ble_eq_true rfl) fl_X9_35 rfl rfl rfl rfl (fun _ => rfl) (fun _ => rfl) rfl ?_
  refine z_aloadr_n dX9_init_83 rfl ?_
  refine z_bipush (v := (24 : Int32)) dX9_init_84 (by decide +kernel) ?_
  refine z_newi (n := 24) (v := 0) dX9_init_86 (by decide) (by decide) (by decide) zw_ai (Nat.le_of_ble_eq_true rfl) (Nat.le_of_ble_eq_true rfl) ?_
  refine z_putFr (ci := 9) (n := 38) (rf := (zu (zu (zu (zu (zu (zu (zu (zu (zu (fun _ => none) 0 (some 33)) 1 (some 34)) 2 (some 35)) 3 (some 36)) 4 (some 37)) 5 (some 38)) 6 (some 39)) 7 (some 40)) 8 (some 41))) (r := (RX9, TX9, 38)) (j := 9) dX9_init_88 (Nat.le_of_ble_eq_true rfl) (Nat.le_of_ble_eq_true rfl) rfl rfl (Nat.le_of_ble_eq_true rfl) fl_X9_38 rfl rfl rfl rfl (fun _ => rfl) (fun _ => rfl) rfl ?_
  refine z_aloadr_n dX9_init_91 rfl ?_
  refine z_bipush (v := (24 : Int32)) dX9_init_92 (by decide +kernel) ?_
  refine z_newi (n := 24) (v := 0) dX9_init_94 (by decide) (by decide) (by decide) zw_ai (Nat.le_of_ble_eq_true rfl) (Nat.le_of_ble_eq_true rfl) ?_
  refine z_putFr (ci := 9) (n := 38) (rf := (zu (zu (zu (zu (zu (zu (zu (zu (zu (zu (fun _ => none) 0 (some 33)) 1 (some 34)) 2 (some 35)) 3 (some 36)) 4 (some 37)) 5 (some 38)) 6 (some 39)) 7 (some 40)) 8 (some 41)) 9 (some 42))) (r := (RX9, TX9, 38)) (j := 10) dX9_init_96 (Nat.le_of_ble_eq_true rfl) (Nat.le_of_ble_eq_true rfl) rfl rfl (Nat.le_of_ble_eq_true rfl) fl_X9_41 rfl rfl rfl rfl (fun _ => rfl) (fun _ => rfl) rfl ?_
  refine z_aloadr_n dX9_init_99 rfl ?_
  refine z_iconst (v := (1 : Int32)) dX9_init_100 (by decide +kernel) ?_
  refine z_put (σ' := (zu (zu (zu (zu (zu (zu (zu (zu (zu (zu (zu (zu σ 33 (fun _ => (0 : Int32))) 34 (fun _ => (0 : Int32))) 35 (fun _ => (0 : Int32))) 36 (fun _ => (0 : Int32))) 37 (fun _ => (0 : Int32))) 38 (fun _ => (0 : Int32))) 39 (fun _ => (0 : Int32))) 40 (fun _ => (0 : Int32))) 41 (fun _ => (0 : Int32))) 42 (fun _ => (0 : Int32))) 43 (fun _ => (0 : Int32))) 32 (zu (fun _ => (0 : Int32)) 12 (1 : Int32)))) (ci := 9) (n := 38) (rf := (zu (zu (zu (zu (zu (zu (zu (zu (zu (zu (zu (fun _ => none) 0 (some 33)) 1 (some 34)) 2 (some 35)) 3 (some 36)) 4 (some 37)) 5 (some 38)) 6 (some 39)) 7 (some 40)) 8 (some 41)) 9 (some 42)) 10 (some 43))) (r := (RX9, TX9, 38)) (j := 12) dX9_init_101 (Nat.le_of_ble_eq_true rfl) (Nat.le_of_ble_eq_true rfl) rfl rfl (Nat.le_of_ble_eq_true rfl) fl_X9_44 rfl rfl rfl rfl (congrArg (fun z => zu (zu (zu (zu (zu (zu (zu (zu (zu (zu (zu (zu σ 33 (fun _ => (0 : Int32))) 34 (fun _ => (0 : Int32))) 35 (fun _ => (0 : Int32))) 36 (fun _ => (0 : Int32))) 37 (fun _ => (0 : Int32))) 38 (fun _ => (0 : Int32))) 39 (fun _ => (0 : Int32))) 40 (fun _ => (0 : Int32))) 41 (fun _ => (0 : Int32))) 42 (fun _ => (0 : Int32))) 43 (fun _ => (0 : Int32))) 32 (zu z 12 (1 : Int32))) (show _ = (fun _ => (0 : Int32)) from h0)) ?_
  refine z_aloadr_n dX9_init_104 rfl ?_
  refine z_bipush (v := (12 : Int32)) dX9_init_105 (by decide +kernel) ?_
  refine z_newi (n := 12) (v := 0) dX9_init_107 (by decide) (by decide) (by decide) zw_ai (Nat.le_of_ble_eq_true rfl) (Nat.le_of_ble_eq_true rfl) ?_
  refine z_putFr (ci := 9) (n := 38) (rf := (zu (zu (zu (zu (zu (zu (zu (zu (zu (zu (zu (fun _ => none) 0 (some 33)) 1 (some 34)) 2 (some 35)) 3 (some 36)) 4 (some 37)) 5 (some 38)) 6 (some 39)) 7 (some 40)) 8 (some 41)) 9 (some 42)) 10 (some 43))) (r := (RX9, TX9, 38)) (j := 13) dX9_init_109 (Nat.le_of_ble_eq_true rfl) (Nat.le_of_ble_eq_true rfl) rfl rfl (Nat.le_of_ble_eq_true rfl) fl_X9_48 rfl rfl rfl rfl (fun _ => rfl) (fun _ => rfl) rfl ?_
  refine z_aloadr_n dX9_init_112 rfl ?_
  refine z_bipush (v := (12 : Int32)) dX9_init_113 (by decide +kernel) ?_
  refine z_newi (n := 12) (v := 0) dX9_init_115 (by decide) (by decide) (by decide) zw_ai (Nat.le_of_ble_eq_true rfl) (Nat.le_of_ble_eq_true rfl) ?_
  refine z_putFr (ci := 9) (n := 38) (rf := (zu (zu (zu (zu (zu (zu (zu (zu (zu (zu (zu (zu (fun _ => none) 0 (some 33)) 1 (some 34)) 2 (some 35)) 3 (some 36)) 4 (some 37)) 5 (some 38)) 6 (some 39)) 7 (some 40)) 8 (some 41)) 9 (some 42)) 10 (some 43)) 13 (some 44))) (r := (RX9, TX9, 38)) (j := 14) dX9_init_117 (Nat.le_of_ble_eq_true rfl) (Nat.le_of_ble_eq_true rfl) rfl rfl (Nat.le_of_ble_eq_true rfl) fl_X9_51 rfl rfl rfl rfl (fun _ => rfl) (fun _ => rfl) rfl ?_
  refine z_aloadr_n dX9_init_120 rfl ?_
  refine z_iconst (v := (4 : Int32)) dX9_init_121 (by decide +kernel) ?_
  refine z_newi (n := 4) (v := 0) dX9_init_122 (by decide) (by decide) (by decide) zw_ai (Nat.le_of_ble_eq_true rfl) (Nat.le_of_ble_eq_true rfl) ?_
  refine z_putFr (ci := 9) (n := 38) (rf := (zu (zu (zu (zu (zu (zu (zu (zu (zu (zu (zu (zu (zu (fun _ => none) 0 (some 33)) 1 (some 34)) 2 (some 35)) 3 (some 36)) 4 (some 37)) 5 (some 38)) 6 (some 39)) 7 (some 40)) 8 (some 41)) 9 (some 42)) 10 (some 43)) 13 (some 44)) 14 (some 45))) (r := (RX9, TX9, 38)) (j := 15) dX9_init_124 (Nat.le_of_ble_eq_true rfl) (Nat.le_of_ble_eq_true rfl) rfl rfl (Nat.le_of_ble_eq_true rfl) fl_X9_54 rfl rfl rfl rfl (fun _ => rfl) (fun _ => rfl) rfl ?_
  refine z_aloadr_n dX9_init_127 rfl ?_
  refine z_sipush (v := (144 : Int32)) dX9_init_128 (by decide +kernel) ?_
  refine z_newz (n := 144) (v := 0) dX9_init_131 (by decide) (by decide) (by decide) zw_az (Nat.le_of_ble_eq_true rfl) (Nat.le_of_ble_eq_true rfl) ?_
  refine z_putFr (ci := 9) (n := 38) (rf := (zu (zu (zu (zu (zu (zu (zu (zu (zu (zu (zu (zu (zu (zu (fun _ => none) 0 (some 33)) 1 (some 34)) 2 (some 35)) 3 (some 36)) 4 (some 37)) 5 (some 38)) 6 (some 39)) 7 (some 40)) 8 (some 41)) 9 (some 42)) 10 (some 43)) 13 (some 44)) 14 (some 45)) 15 (some 46))) (r := (RX9, TX9, 38)) (j := 16) dX9_init_133 (Nat.le_of_ble_eq_true rfl) (Nat.le_of_ble_eq_true rfl) rfl rfl (Nat.le_of_ble_eq_true rfl) fl_X9_57 rfl rfl rfl rfl (fun _ => rfl) (fun _ => rfl) rfl ?_
  refine z_aloadr_n dX9_init_136 rfl ?_
  refine z_bipush (v := (12 : Int32)) dX9_init_137 (by decide +kernel) ?_
  refine z_newi (n := 12) (v := 0) dX9_init_139 (by decide) (by decide) (by decide) zw_ai (Nat.le_of_ble_eq_true rfl) (Nat.le_of_ble_eq_true rfl) ?_
  refine z_putFr (ci := 9) (n := 38) (rf := (zu (zu (zu (zu (zu (zu (zu (zu (zu (zu (zu (zu (zu (zu (zu (fun _ => none) 0 (some 33)) 1 (some 34)) 2 (some 35)) 3 (some 36)) 4 (some 37)) 5 (some 38)) 6 (some 39)) 7 (some 40)) 8 (some 41)) 9 (some 42)) 10 (some 43)) 13 (some 44)) 14 (some 45)) 15 (some 46)) 16 (some 47))) (r := (RX9, TX9, 38)) (j := 17) dX9_init_141 (Nat.le_of_ble_eq_true rfl) (Nat.le_of_ble_eq_true rfl) rfl rfl (Nat.le_of_ble_eq_true rfl) fl_X9_60 rfl rfl rfl rfl (fun _ => rfl) (fun _ => rfl) rfl ?_
  refine z_aloadr_n dX9_init_144 rfl ?_
  refine z_bipush (v := (12 : Int32)) dX9_init_145 (by decide +kernel) ?_
  refine z_newz (n := 12) (v := 0) dX9_init_147 (by decide) (by decide) (by decide) zw_az (Nat.le_of_ble_eq_true rfl) (Nat.le_of_ble_eq_true rfl) ?_
  refine z_putFr (ci := 9) (n := 38) (rf := (zu (zu (zu (zu (zu (zu (zu (zu (zu (zu (zu (zu (zu (zu (zu (zu (fun _ => none) 0 (some 33)) 1 (some 34)) 2 (some 35)) 3 (some 36)) 4 (some 37)) 5 (some 38)) 6 (some 39)) 7 (some 40)) 8 (some 41)) 9 (some 42)) 10 (some 43)) 13 (some 44)) 14 (some 45)) 15 (some 46)) 16 (some 47)) 17 (some 48))) (r := (RX9, TX9, 38)) (j := 18) dX9_init_149 (Nat.le_of_ble_eq_true rfl) (Nat.le_of_ble_eq_true rfl) rfl rfl (Nat.le_of_ble_eq_true rfl) fl_X9_63 rfl rfl rfl rfl (fun _ => rfl) (fun _ => rfl) rfl ?_
  refine z_aloadr_n dX9_init_152 rfl ?_
  refine z_bipush (v := (12 : Int32)) dX9_init_153 (by decide +kernel) ?_
  refine z_newi (n := 12) (v := 0) dX9_init_155 (by decide) (by decide) (by decide) zw_ai (Nat.le_of_ble_eq_true rfl) (Nat.le_of_ble_eq_true rfl) ?_
  refine z_putFr (ci := 9) (n := 38) (rf := (zu (zu (zu (zu (zu (zu (zu (zu (zu (zu (zu (zu (zu (zu (zu (zu (zu (fun _ => none) 0 (some 33)) 1 (some 34)) 2 (some 35)) 3 (some 36)) 4 (some 37)) 5 (some 38)) 6 (some 39)) 7 (some 40)) 8 (some 41)) 9 (some 42)) 10 (some 43)) 13 (some 44)) 14 (some 45)) 15 (some 46)) 16 (some 47)) 17 (some 48)) 18 (some 49))) (r := (RX9, TX9, 38)) (j := 19) dX9_init_157 (Nat.le_of_ble_eq_true rfl) (Nat.le_of_ble_eq_true rfl) rfl rfl (Nat.le_of_ble_eq_true rfl) fl_X9_66 rfl rfl rfl rfl (fun _ => rfl) (fun _ => rfl) rfl ?_
  refine z_aloadr_n dX9_init_160 rfl ?_
  refine z_bipush (v := (12 : Int32)) dX9_init_161 (by decide +kernel) ?_
  refine z_newi (n := 12) (v := 0) dX9_init_163 (by decide) (by decide) (by decide) zw_ai (Nat.le_of_ble_eq_true rfl) (Nat.le_of_ble_eq_true rfl) ?_
  refine z_putFr (ci := 9) (n := 38) (rf := (zu (zu (zu (zu (zu (zu (zu (zu (zu (zu (zu (zu (zu (zu (zu (zu (zu (zu (fun _ => none) 0 (some 33)) 1 (some 34)) 2 (some 35)) 3 (some 36)) 4 (some 37)) 5 (some 38)) 6 (some 39)) 7 (some 40)) 8 (some 41)) 9 (some 42)) 10 (some 43)) 13 (some 44)) 14 (some 45)) 15 (some 46)) 16 (some 47)) 17 (some 48)) 18 (some 49)) 19 (some 50))) (r := (RX9, TX9, 38)) (j := 27) dX9_init_165 (Nat.le_of_ble_eq_true rfl) (Nat.le_of_ble_eq_true rfl) rfl rfl (Nat.le_of_ble_eq_true rfl) fl_X9_69 rfl rfl rfl rfl (fun _ => rfl) (fun _ => rfl) rfl ?_
  refine z_aloadr_n dX9_init_168 rfl ?_
  refine z_bipush (v := (7 : Int32)) dX9_init_169 (by decide +kernel) ?_
  refine z_newi (n := 7) (v := 0) dX9_init_171 (by decide) (by decide) (by decide) zw_ai (Nat.le_of_ble_eq_true rfl) (Nat.le_of_ble_eq_true rfl) ?_
  refine z_putFr (ci := 9) (n := 38) (rf := (zu (zu (zu (zu (zu (zu (zu (zu (zu (zu (zu (zu (zu (zu (zu (zu (zu (zu (zu (fun _ => none) 0 (some 33)) 1 (some 34)) 2 (some 35)) 3 (some 36)) 4 (some 37)) 5 (some 38)) 6 (some 39)) 7 (some 40)) 8 (some 41)) 9 (some 42)) 10 (some 43)) 13 (some 44)) 14 (some 45)) 15 (some 46)) 16 (some 47)) 17 (some 48)) 18 (some 49)) 19 (some 50)) 27 (some 51))) (r := (RX9, TX9, 38)) (j := 28) dX9_init_173 (Nat.le_of_ble_eq_true rfl) (Nat.le_of_ble_eq_true rfl) rfl rfl (Nat.le_of_ble_eq_true rfl) fl_X9_72 rfl rfl rfl rfl (fun _ => rfl) (fun _ => rfl) rfl ?_
  refine z_aloadr_n dX9_init_176 rfl ?_
  refine z_bipush (v := (12 : Int32)) dX9_init_177 (by decide +kernel) ?_
  refine z_newi (n := 12) (v := 0) dX9_init_179 (by decide) (by decide) (by decide) zw_ai (Nat.le_of_ble_eq_true rfl) (Nat.le_of_ble_eq_true rfl) ?_
  refine z_putFr (ci := 9) (n := 38) (rf := (zu (zu (zu (zu (zu (zu (zu (zu (zu (zu (zu (zu (zu (zu (zu (zu (zu (zu (zu (zu (fun _ => none) 0 (some 33)) 1 (some 34)) 2 (some 35)) 3 (some 36)) 4 (some 37)) 5 (some 38)) 6 (some 39)) 7 (some 40)) 8 (some 41)) 9 (some 42)) 10 (some 43)) 13 (some 44)) 14 (some 45)) 15 (some 46)) 16 (some 47)) 17 (some 48)) 18 (some 49)) 19 (some 50)) 27 (some 51)) 28 (some 52))) (r := (RX9, TX9, 38)) (j := 29) dX9_init_181 (Nat.le_of_ble_eq_true rfl) (Nat.le_of_ble_eq_true rfl) rfl rfl (Nat.le_of_ble_eq_true rfl) fl_X9_75 rfl rfl rfl rfl (fun _ => rfl) (fun _ => rfl) rfl ?_
  refine z_aloadr_n dX9_init_184 rfl ?_
  refine z_iconst (v := (-1 : Int32)) dX9_init_185 (by decide +kernel) ?_
  refine z_put (σ' := (zu (zu (zu (zu (zu (zu (zu (zu (zu (zu (zu (zu (zu (zu (zu (zu (zu (zu (zu (zu (zu (zu (zu σ 33 (fun _ => (0 : Int32))) 34 (fun _ => (0 : Int32))) 35 (fun _ => (0 : Int32))) 36 (fun _ => (0 : Int32))) 37 (fun _ => (0 : Int32))) 38 (fun _ => (0 : Int32))) 39 (fun _ => (0 : Int32))) 40 (fun _ => (0 : Int32))) 41 (fun _ => (0 : Int32))) 42 (fun _ => (0 : Int32))) 43 (fun _ => (0 : Int32))) 32 (zu (fun _ => (0 : Int32)) 12 (1 : Int32))) 44 (fun _ => (0 : Int32))) 45 (fun _ => (0 : Int32))) 46 (fun _ => (0 : Int32))) 47 (fun _ => (0 : Int32))) 48 (fun _ => (0 : Int32))) 49 (fun _ => (0 : Int32))) 50 (fun _ => (0 : Int32))) 51 (fun _ => (0 : Int32))) 52 (fun _ => (0 : Int32))) 53 (fun _ => (0 : Int32))) 32 (zu (zu (fun _ => (0 : Int32)) 12 (1 : Int32)) 30 (-1 : Int32)))) (ci := 9) (n := 38) (rf := (zu (zu (zu (zu (zu (zu (zu (zu (zu (zu (zu (zu (zu (zu (zu (zu (zu (zu (zu (zu (zu (fun _ => none) 0 (some 33)) 1 (some 34)) 2 (some 35)) 3 (some 36)) 4 (some 37)) 5 (some 38)) 6 (some 39)) 7 (some 40)) 8 (some 41)) 9 (some 42)) 10 (some 43)) 13 (some 44)) 14 (some 45)) 15 (some 46)) 16 (some 47)) 17 (some 48)) 18 (some 49)) 19 (some 50)) 27 (some 51)) 28 (some 52)) 29 (some 53))) (r := (RX9, TX9, 38)) (j := 30) dX9_init_186 (Nat.le_of_ble_eq_true rfl) (Nat.le_of_ble_eq_true rfl) rfl rfl (Nat.le_of_ble_eq_true rfl) fl_X9_78 rfl rfl rfl rfl rfl ?_
  refine z_aloadr_n dX9_init_189 rfl ?_
  refine z_bipush (v := (12 : Int32)) dX9_init_190 (by decide +kernel) ?_
  refine z_newi (n := 12) (v := 0) dX9_init_192 (by decide) (by decide) (by decide) zw_ai (Nat.le_of_ble_eq_true rfl) (Nat.le_of_ble_eq_true rfl) ?_
  refine z_putFr (ci := 9) (n := 38) (rf := (zu (zu (zu (zu (zu (zu (zu (zu (zu (zu (zu (zu (zu (zu (zu (zu (zu (zu (zu (zu (zu (fun _ => none) 0 (some 33)) 1 (some 34)) 2 (some 35)) 3 (some 36)) 4 (some 37)) 5 (some 38)) 6 (some 39)) 7 (some 40)) 8 (some 41)) 9 (some 42)) 10 (some 43)) 13 (some 44)) 14 (some 45)) 15 (some 46)) 16 (some 47)) 17 (some 48)) 18 (some 49)) 19 (some 50)) 27 (some 51)) 28 (some 52)) 29 (some 53))) (r := (RX9, TX9, 38)) (j := 31) dX9_init_194 (Nat.le_of_ble_eq_true rfl) (Nat.le_of_ble_eq_true rfl) rfl rfl (Nat.le_of_ble_eq_true rfl) fl_X9_81 rfl rfl rfl rfl (fun _ => rfl) (fun _ => rfl) rfl ?_
  refine z_aloadr_n dX9_init_197 rfl ?_
  refine z_bipush (v := (12 : Int32)) dX9_init_198 (by decide +kernel) ?_
  refine z_newi (n := 12) (v := 0) dX9_init_200 (by decide) (by decide) (by decide) zw_ai (Nat.le_of_ble_eq_true rfl) (Nat.le_of_ble_eq_true rfl) ?_
  refine z_putFr (ci := 9) (n := 38) (rf := (zu (zu (zu (zu (zu (zu (zu (zu (zu (zu (zu (zu (zu (zu (zu (zu (zu (zu (zu (zu (zu (zu (fun _ => none) 0 (some 33)) 1 (some 34)) 2 (some 35)) 3 (some 36)) 4 (some 37)) 5 (some 38)) 6 (some 39)) 7 (some 40)) 8 (some 41)) 9 (some 42)) 10 (some 43)) 13 (some 44)) 14 (some 45)) 15 (some 46)) 16 (some 47)) 17 (some 48)) 18 (some 49)) 19 (some 50)) 27 (some 51)) 28 (some 52)) 29 (some 53)) 31 (some 54))) (r := (RX9, TX9, 38)) (j := 32) dX9_init_202 (Nat.le_of_ble_eq_true rfl) (Nat.le_of_ble_eq_true rfl) rfl rfl (Nat.le_of_ble_eq_true rfl) fl_X9_84 rfl rfl rfl rfl (fun _ => rfl) (fun _ => rfl) rfl ?_
  refine z_aloadr_n dX9_init_205 rfl ?_
  refine z_sipush (v := (288 : Int32)) dX9_init_206 (by decide +kernel) ?_
  refine z_newi (n := 288) (v := 0) dX9_init_209 (by decide) (by decide) (by decide) zw_ai (Nat.le_of_ble_eq_true rfl) (Nat.le_of_ble_eq_true rfl) ?_
  refine z_putFr (ci := 9) (n := 38) (rf := (zu (zu (zu (zu (zu (zu (zu (zu (zu (zu (zu (zu (zu (zu (zu (zu (zu (zu (zu (zu (zu (zu (zu (fun _ => none) 0 (some 33)) 1 (some 34)) 2 (some 35)) 3 (some 36)) 4 (some 37)) 5 (some 38)) 6 (some 39)) 7 (some 40)) 8 (some 41)) 9 (some 42)) 10 (some 43)) 13 (some 44)) 14 (some 45)) 15 (some 46)) 16 (some 47)) 17 (some 48)) 18 (some 49)) 19 (some 50)) 27 (some 51)) 28 (some 52)) 29 (some 53)) 31 (some 54)) 32 (some 55))) (r := (RX9, TX9, 38)) (j := 35) dX9_init_211 (Nat.le_of_ble_eq_true rfl) (Nat.le_of_ble_eq_true rfl) rfl rfl (Nat.le_of_ble_eq_true rfl) fl_X9_87 rfl rfl rfl rfl (fun _ => rfl) (fun _ => rfl) rfl ?_
  refine z_aloadr_n dX9_init_214 rfl ?_
  refine z_iconst (v := (-1 : Int32)) dX9_init_215 (by decide +kernel) ?_
  refine z_put (σ' := (zu (zu (zu (zu (zu (zu (zu (zu (zu (zu (zu (zu (zu (zu (zu (zu (zu (zu (zu (zu (zu (zu (zu (zu (zu (zu (zu σ 33 (fun _ => (0 : Int32))) 34 (fun _ => (0 : Int32))) 35 (fun _ => (0 : Int32))) 36 (fun _ => (0 : Int32))) 37 (fun _ => (0 : Int32))) 38 (fun _ => (0 : Int32))) 39 (fun _ => (0 : Int32))) 40 (fun _ => (0 : Int32))) 41 (fun _ => (0 : Int32))) 42 (fun _ => (0 : Int32))) 43 (fun _ => (0 : Int32))) 32 (zu (fun _ => (0 : Int32)) 12 (1 : Int32))) 44 (fun _ => (0 : Int32))) 45 (fun _ => (0 : Int32))) 46 (fun _ => (0 : Int32))) 47 (fun _ => (0 : Int32))) 48 (fun _ => (0 : Int32))) 49 (fun _ => (0 : Int32))) 50 (fun _ => (0 : Int32))) 51 (fun _ => (0 : Int32))) 52 (fun _ => (0 : Int32))) 53 (fun _ => (0 : Int32))) 32 (zu (zu (fun _ => (0 : Int32)) 12 (1 : Int32)) 30 (-1 : Int32))) 54 (fun _ => (0 : Int32))) 55 (fun _ => (0 : Int32))) 56 (fun _ => (0 : Int32))) 32 (zu (zu (zu (fun _ => (0 : Int32)) 12 (1 : Int32)) 30 (-1 : Int32)) 36 (-1 : Int32)))) (ci := 9) (n := 38) (rf := (zu (zu (zu (zu (zu (zu (zu (zu (zu (zu (zu (zu (zu (zu (zu (zu (zu (zu (zu (zu (zu (zu (zu (zu (fun _ => none) 0 (some 33)) 1 (some 34)) 2 (some 35)) 3 (some 36)) 4 (some 37)) 5 (some 38)) 6 (some 39)) 7 (some 40)) 8 (some 41)) 9 (some 42)) 10 (some 43)) 13 (some 44)) 14 (some 45)) 15 (some 46)) 16 (some 47)) 17 (some 48)) 18 (some 49)) 19 (some 50)) 27 (some 51)) 28 (some 52)) 29 (some 53)) 31 (some 54)) 32 (some 55)) 35 (some 56))) (r := (RX9, TX9, 38)) (j := 36) dX9_init_216 (Nat.le_of_ble_eq_true rfl) (Nat.le_of_ble_eq_true rfl) rfl rfl (Nat.le_of_ble_eq_true rfl) fl_X9_90 rfl rfl rfl rfl rfl ?_
  refine z_aloadr_n dX9_init_219 rfl ?_
  refine z_iconst (v := (-1 : Int32)) dX9_init_220 (by decide +kernel) ?_
  refine z_put (σ' := (zu (zu (zu (zu (zu (zu (zu (zu (zu (zu (zu (zu (zu (zu (zu (zu (zu (zu (zu (zu (zu (zu (zu (zu (zu (zu (zu (zu σ 33 (fun _ => (0 : Int32))) 34 (fun _ => (0 : Int32))) 35 (fun _ => (0 : Int32))) 36 (fun _ => (0 : Int32))) 37 (fun _ => (0 : Int32))) 38 (fun _ => (0 : Int32))) 39 (fun _ => (0 : Int32))) 40 (fun _ => (0 : Int32))) 41 (fun _ => (0 : Int32))) 42 (fun _ => (0 : Int32))) 43 (fun _ => (0 : Int32))) 32 (zu (fun _ => (0 : Int32)) 12 (1 : Int32))) 44 (fun _ => (0 : Int32))) 45 (fun _ => (0 : Int32))) 46 (fun _ => (0 : Int32))) 47 (fun _ => (0 : Int32))) 48 (fun _ => (0 : Int32))) 49 (fun _ => (0 : Int32))) 50 (fun _ => (0 : Int32))) 51 (fun _ => (0 : Int32))) 52 (fun _ => (0 : Int32))) 53 (fun _ => (0 : Int32))) 32 (zu (zu (fun _ => (0 : Int32)) 12 (1 : Int32)) 30 (-1 : Int32))) 54 (fun _ => (0 : Int32))) 55 (fun _ => (0 : Int32))) 56 (fun _ => (0 : Int32))) 32 (zu (zu (zu (fun _ => (0 : Int32)) 12 (1 : Int32)) 30 (-1 : Int32)) 36 (-1 : Int32))) 32 (zu (zu (zu (zu (fun _ => (0 : Int32)) 12 (1 : Int32)) 30 (-1 : Int32)) 36 (-1 : Int32)) 37 (-1 : Int32)))) (ci := 9) (n := 38) (rf := (zu (zu (zu (zu (zu (zu (zu (zu (zu (zu (zu (zu (zu (zu (zu (zu (zu (zu (zu (zu (zu (zu (zu (zu (fun _ => none) 0 (some 33)) 1 (some 34)) 2 (some 35)) 3 (some 36)) 4 (some 37)) 5 (some 38)) 6 (some 39)) 7 (some 40)) 8 (some 41)) 9 (some 42)) 10 (some 43)) 13 (some 44)) 14 (some 45)) 15 (some 46)) 16 (some 47)) 17 (some 48)) 18 (some 49)) 19 (some 50)) 27 (some 51)) 28 (some 52)) 29 (some 53)) 31 (some 54)) 32 (some 55)) 35 (some 56))) (r := (RX9, TX9, 38)) (j := 37) dX9_init_221 (Nat.le_of_ble_eq_true rfl) (Nat.le_of_ble_eq_true rfl) rfl rfl (Nat.le_of_ble_eq_true rfl) fl_X9_93 rfl rfl rfl rfl rfl ?_
  have es_ : (zu (zu (zu (zu (zu (zu (zu (zu (zu (zu (zu (zu (zu (zu (zu (zu (zu (zu (zu (zu (zu (zu (zu (zu (zu (zu (zu (zu (zu (zu (zu (zu (zu (zu (zu (zu (zu (zu (zu (zu (zu (zu (zu (zu (zu (zu (zu (zu sh 33 ((1, 256, fun _ => none) : zc_S)) 32 ((12, 38, (zu (fun _ => none) 0 (some 33))) : zc_S)) 34 ((1, 256, fun _ => none) : zc_S)) 32 ((12, 38, (zu (zu (fun _ => none) 0 (some 33)) 1 (some 34))) : zc_S)) 35 ((1, 256, fun _ => none) : zc_S)) 32 ((12, 38, (zu (zu (zu (fun _ => none) 0 (some 33)) 1 (some 34)) 2 (some 35))) : zc_S)) 36 ((0, 256, fun _ => none) : zc_S)) 32 ((12, 38, (zu (zu (zu (zu (fun _ => none) 0 (some 33)) 1 (some 34)) 2 (some 35)) 3 (some 36))) : zc_S)) 37 ((0, 24, fun _ => none) : zc_S)) 32 ((12, 38, (zu (zu (zu (zu (zu (fun _ => none) 0 (some 33)) 1 (some 34)) 2 (some 35)) 3 (some 36)) 4 (some 37))) : zc_S)) 38 ((0, 288, fun _ => none) : zc_S)) 32 ((12, 38, (zu (zu (zu (zu (zu (zu (fun _ => none) 0 (some 33)) 1 (some 34)) 2 (some 35)) 3 (some 36)) 4 (some 37)) 5 (some 38))) : zc_S)) 39 ((0, 288, fun _ => none) : zc_S)) 32 ((12, 38, (zu (zu (zu (zu (zu (zu (zu (fun _ => none) 0 (some 33)) 1 (some 34)) 2 (some 35)) 3 (some 36)) 4 (some 37)) 5 (some 38)) 6 (some 39))) : zc_S)) 40 ((0, 288, fun _ => none) : zc_S)) 32 ((12, 38, (zu (zu (zu (zu (zu (zu (zu (zu (fun _ => none) 0 (some 33)) 1 (some 34)) 2 (some 35)) 3 (some 36)) 4 (some 37)) 5 (some 38)) 6 (some 39)) 7 (some 40))) : zc_S)) 41 ((0, 96, fun _ => none) : zc_S)) 32 ((12, 38, (zu (zu (zu (zu (zu (zu (zu (zu (zu (fun _ => none) 0 (some 33)) 1 (some 34)) 2 (some 35)) 3 (some 36)) 4 (some 37)) 5 (some 38)) 6 (some 39)) 7 (some 40)) 8 (some 41))) : zc_S)) 42 ((0, 24, fun _ => none) : zc_S)) 32 ((12, 38, (zu (zu (zu (zu (zu (zu (zu (zu (zu (zu (fun _ => none) 0 (some 33)) 1 (some 34)) 2 (some 35)) 3 (some 36)) 4 (some 37)) 5 (some 38)) 6 (some 39)) 7 (some 40)) 8 (some 41)) 9 (some 42))) : zc_S)) 43 ((0, 24, fun _ => none) : zc_S)) 32 ((12, 38, (zu (zu (zu (zu (zu (zu (zu (zu (zu (zu (zu (fun _ => none) 0 (some 33)) 1 (some 34)) 2 (some 35)) 3 (some 36)) 4 (some 37)) 5 (some 38)) 6 (some 39)) 7 (some 40)) 8 (some 41)) 9 (some 42)) 10 (some 43))) : zc_S)) 44 ((0, 12, fun _ => none) : zc_S)) 32 ((12, 38, (zu (zu (zu (zu (zu (zu (zu (zu (zu (zu (zu (zu (fun _ => none) 0 (some 33)) 1 (some 34)) 2 (some 35)) 3 (some 36)) 4 (some 37)) 5 (some 38)) 6 (some 39)) 7 (some 40)) 8 (some 41)) 9 (some 42)) 10 (some 43)) 13 (some 44))) : zc_S)) 45 ((0, 12, fun _ => none) : zc_S)) 32 ((12, 38, (zu (zu (zu (zu (zu (zu (zu (zu (zu (zu (zu (zu (zu (fun _ => none) 0 (some 33)) 1 (some 34)) 2 (some 35)) 3 (some 36)) 4 (some 37)) 5 (some 38)) 6 (some 39)) 7 (some 40)) 8 (some 41)) 9 (some 42)) 10 (some 43)) 13 (some 44)) 14 (some 45))) : zc_S)) 46 ((0, 4, fun _ => none) : zc_S)) 32 ((12, 38, (zu (zu (zu (zu (zu (zu (zu (zu (zu (zu (zu (zu (zu (zu (fun _ => none) 0 (some 33)) 1 (some 34)) 2 (some 35)) 3 (some 36)) 4 (some 37)) 5 (some 38)) 6 (some 39)) 7 (some 40)) 8 (some 41)) 9 (some 42)) 10 (some 43)) 13 (some 44)) 14 (some 45)) 15 (some 46))) : zc_S)) 47 ((1, 144, fun _ => none) : zc_S)) 32 ((12, 38, (zu (zu (zu (zu (zu (zu (zu (zu (zu (zu (zu (zu (zu (zu (zu (fun _ => none) 0 (some 33)) 1 (some 34)) 2 (some 35)) 3 (some 36)) 4 (some 37)) 5 (some 38)) 6 (some 39)) 7 (some 40)) 8 (some 41)) 9 (some 42)) 10 (some 43)) 13 (some 44)) 14 (some 45)) 15 (some 46)) 16 (some 47))) : zc_S)) 48 ((0, 12, fun _ => none) : zc_S)) 32 ((12, 38, (zu (zu (zu (zu (zu (zu (zu (zu (zu (zu (zu (zu (zu (zu (zu (zu (fun _ => none) 0 (some 33)) 1 (some 34)) 2 (some 35)) 3 (some 36)) 4 (some 37)) 5 (some 38)) 6 (some 39)) 7 (some 40)) 8 (some 41)) 9 (some 42)) 10 (some 43)) 13 (some 44)) 14 (some 45)) 15 (some 46)) 16 (some 47)) 17 (some 48))) : zc_S)) 49 ((1, 12, fun _ => none) : zc_S)) 32 ((12, 38, (zu (zu (zu (zu (zu (zu (zu (zu (zu (zu (zu (zu (zu (zu (zu (zu (zu (fun _ => none) 0 (some 33)) 1 (some 34)) 2 (some 35)) 3 (some 36)) 4 (some 37)) 5 (some 38)) 6 (some 39)) 7 (some 40)) 8 (some 41)) 9 (some 42)) 10 (some 43)) 13 (some 44)) 14 (some 45)) 15 (some 46)) 16 (some 47)) 17 (some 48)) 18 (some 49))) : zc_S)) 50 ((0, 12, fun _ => none) : zc_S)) 32 ((12, 38, (zu (zu (zu (zu (zu (zu (zu (zu (zu (zu (zu (zu (zu (zu (zu (zu (zu (zu (fun _ => none) 0 (some 33)) 1 (some 34)) 2 (some 35)) 3 (some 36)) 4 (some 37)) 5 (some 38)) 6 (some 39)) 7 (some 40)) 8 (some 41)) 9 (some 42)) 10 (some 43)) 13 (some 44)) 14 (some 45)) 15 (some 46)) 16 (some 47)) 17 (some 48)) 18 (some 49)) 19 (some 50))) : zc_S)) 51 ((0, 12, fun _ => none) : zc_S)) 32 ((12, 38, (zu (zu (zu (zu (zu (zu (zu (zu (zu (zu (zu (zu (zu (zu (zu (zu (zu (zu (zu (fun _ => none) 0 (some 33)) 1 (some 34)) 2 (some 35)) 3 (some 36)) 4 (some 37)) 5 (some 38)) 6 (some 39)) 7 (some 40)) 8 (some 41)) 9 (some 42)) 10 (some 43)) 13 (some 44)) 14 (some 45)) 15 (some 46)) 16 (some 47)) 17 (some 48)) 18 (some 49)) 19 (some 50)) 27 (some 51))) : zc_S)) 52 ((0, 7, fun _ => none) : zc_S)) 32 ((12, 38, (zu (zu (zu (zu (zu (zu (zu (zu (zu (zu (zu (zu (zu (zu (zu (zu (zu (zu (zu (zu (fun _ => none) 0 (some 33)) 1 (some 34)) 2 (some 35)) 3 (some 36)) 4 (some 37)) 5 (some 38)) 6 (some 39)) 7 (some 40)) 8 (some 41)) 9 (some 42)) 10 (some 43)) 13 (some 44)) 14 (some 45)) 15 (some 46)) 16 (some 47)) 17 (some 48)) 18 (some 49)) 19 (some 50)) 27 (some 51)) 28 (some 52))) : zc_S)) 53 ((0, 12, fun _ => none) : zc_S)) 32 ((12, 38, (zu (zu (zu (zu (zu (zu (zu (zu (zu (zu (zu (zu (zu (zu (zu (zu (zu (zu (zu (zu (zu (fun _ => none) 0 (some 33)) 1 (some 34)) 2 (some 35)) 3 (some 36)) 4 (some 37)) 5 (some 38)) 6 (some 39)) 7 (some 40)) 8 (some 41)) 9 (some 42)) 10 (some 43)) 13 (some 44)) 14 (some 45)) 15 (some 46)) 16 (some 47)) 17 (some 48)) 18 (some 49)) 19 (some 50)) 27 (some 51)) 28 (some 52)) 29 (some 53))) : zc_S)) 54 ((0, 12, fun _ => none) : zc_S)) 32 ((12, 38, (zu (zu (zu (zu (zu (zu (zu (zu (zu (zu (zu (zu (zu (zu (zu (zu (zu (zu (zu (zu (zu (zu (fun _ => none) 0 (some 33)) 1 (some 34)) 2 (some 35)) 3 (some 36)) 4 (some 37)) 5 (some 38)) 6 (some 39)) 7 (some 40)) 8 (some 41)) 9 (some 42)) 10 (some 43)) 13 (some 44)) 14 (some 45)) 15 (some 46)) 16 (some 47)) 17 (some 48)) 18 (some 49)) 19 (some 50)) 27 (some 51)) 28 (some 52)) 29 (some 53)) 31 (some 54))) : zc_S)) 55 ((0, 12, fun _ => none) : zc_S)) 32 ((12, 38, (zu (zu (zu (zu (zu (zu (zu (zu (zu (zu (zu (zu (zu (zu (zu (zu (zu (zu (zu (zu (zu (zu (zu (fun _ => none) 0 (some 33)) 1 (some 34)) 2 (some 35)) 3 (some 36)) 4 (some 37)) 5 (some 38)) 6 (some 39)) 7 (some 40)) 8 (some 41)) 9 (some 42)) 10 (some 43)) 13 (some 44)) 14 (some 45)) 15 (some 46)) 16 (some 47)) 17 (some 48)) 18 (some 49)) 19 (some 50)) 27 (some 51)) 28 (some 52)) 29 (some 53)) 31 (some 54)) 32 (some 55))) : zc_S)) 56 ((0, 288, fun _ => none) : zc_S)) 32 ((12, 38, (zu (zu (zu (zu (zu (zu (zu (zu (zu (zu (zu (zu (zu (zu (zu (zu (zu (zu (zu (zu (zu (zu (zu (zu (fun _ => none) 0 (some 33)) 1 (some 34)) 2 (some 35)) 3 (some 36)) 4 (some 37)) 5 (some 38)) 6 (some 39)) 7 (some 40)) 8 (some 41)) 9 (some 42)) 10 (some 43)) 13 (some 44)) 14 (some 45)) 15 (some 46)) 16 (some 47)) 17 (some 48)) 18 (some 49)) 19 (some 50)) 27 (some 51)) 28 (some 52)) 29 (some 53)) 31 (some 54)) 32 (some 55)) 35 (some 56))) : zc_S)) = (zu (zu (zu (zu (zu (zu (zu (zu (zu (zu (zu (zu (zu (zu (zu (zu (zu (zu (zu (zu (zu (zu (zu (zu (zu sh 32 (SH (zP0 L) 32)) 33 (SH (zP0 L) 33)) 34 (SH (zP0 L) 34)) 35 (SH (zP0 L) 35)) 36 (SH (zP0 L) 36)) 37 (SH (zP0 L) 37)) 38 (SH (zP0 L) 38)) 39 (SH (zP0 L) 39)) 40 (SH (zP0 L) 40)) 41 (SH (zP0 L) 41)) 42 (SH (zP0 L) 42)) 43 (SH (zP0 L) 43)) 44 (SH (zP0 L) 44)) 45 (SH (zP0 L) 45)) 46 (SH (zP0 L) 46)) 47 (SH (zP0 L) 47)) 48 (SH (zP0 L) 48)) 49 (SH (zP0 L) 49)) 50 (SH (zP0 L) 50)) 51 (SH (zP0 L) 51)) 52 (SH (zP0 L) 52)) 53 (SH (zP0 L) 53)) 54 (SH (zP0 L) 54)) 55 (SH (zP0 L) 55)) 56 (SH (zP0 L) 56)) := funext (fun k => by
    by_cases e32 : k = 32
    · subst e32
      exact rf_32 L
    by_cases e33 : k = 33
    · subst e33
      rfl
    by_cases e34 : k = 34
    · subst e34
      rfl
    by_cases e35 : k = 35
    · subst e35
      rfl
    by_cases e36 : k = 36
    · subst e36
      rfl
    by_cases e37 : k = 37
    · subst e37
      rfl
    by_cases e38 : k = 38
    · subst e38
      rfl
    by_cases e39 : k = 39
    · subst e39
      rfl
    by_cases e40 : k = 40
    · subst e40
      rfl
    by_cases e41 : k = 41
    · subst e41
      rfl
    by_cases e42 : k = 42
    · subst e42
      rfl
    by_cases e43 : k = 43
    · subst e43
      rfl
    by_cases e44 : k = 44
    · subst e44
      rfl
    by_cases e45 : k = 45
    · subst e45
      rfl
    by_cases e46 : k = 46
    · subst e46
      rfl
    by_cases e47 : k = 47
    · subst e47
      rfl
    by_cases e48 : k = 48
    · subst e48
      rfl
    by_cases e49 : k = 49
    · subst e49
      rfl
    by_cases e50 : k = 50
    · subst e50
      rfl
    by_cases e51 : k = 51
    · subst e51
      rfl
    by_cases e52 : k = 52
    · subst e52
      rfl
    by_cases e53 : k = 53
    · subst e53
      rfl
    by_cases e54 : k = 54
    · subst e54
      rfl
    by_cases e55 : k = 55
    · subst e55
      rfl
    by_cases e56 : k = 56
    · subst e56
      rfl
    simp only [zu, if_neg e32, if_neg e33, if_neg e34, if_neg e35, if_neg e36, if_neg e37, if_neg e38, if_neg e39, if_neg e40, if_neg e41, if_neg e42, if_neg e43, if_neg e44, if_neg e45, if_neg e46, if_neg e47, if_neg e48, if_neg e49, if_neg e50, if_neg e51, if_neg e52, if_neg e53, if_neg e54, if_neg e55, if_neg e56])
  have eg_ : (zu (zu (zu (zu (zu (zu (zu (zu (zu (zu (zu (zu (zu (zu (zu (zu (zu (zu (zu (zu (zu (zu (zu (zu (zu (zu (zu (zu σ 33 (fun _ => (0 : Int32))) 34 (fun _ => (0 : Int32))) 35 (fun _ => (0 : Int32))) 36 (fun _ => (0 : Int32))) 37 (fun _ => (0 : Int32))) 38 (fun _ => (0 : Int32))) 39 (fun _ => (0 : Int32))) 40 (fun _ => (0 : Int32))) 41 (fun _ => (0 : Int32))) 42 (fun _ => (0 : Int32))) 43 (fun _ => (0 : Int32))) 32 (zu (fun _ => (0 : Int32)) 12 (1 : Int32))) 44 (fun _ => (0 : Int32))) 45 (fun _ => (0 : Int32))) 46 (fun _ => (0 : Int32))) 47 (fun _ => (0 : Int32))) 48 (fun _ => (0 : Int32))) 49 (fun _ => (0 : Int32))) 50 (fun _ => (0 : Int32))) 51 (fun _ => (0 : Int32))) 52 (fun _ => (0 : Int32))) 53 (fun _ => (0 : Int32))) 32 (zu (zu (fun _ => (0 : Int32)) 12 (1 : Int32)) 30 (-1 : Int32))) 54 (fun _ => (0 : Int32))) 55 (fun _ => (0 : Int32))) 56 (fun _ => (0 : Int32))) 32 (zu (zu (zu (fun _ => (0 : Int32)) 12 (1 : Int32)) 30 (-1 : Int32)) 36 (-1 : Int32))) 32 (zu (zu (zu (zu (fun _ => (0 : Int32)) 12 (1 : Int32)) 30 (-1 : Int32)) 36 (-1 : Int32)) 37 (-1 : Int32))) = (zu (zu (zu (zu (zu (zu (zu (zu (zu (zu (zu (zu (zu (zu (zu (zu (zu (zu (zu (zu (zu (zu (zu (zu (zu σ 32 (zu (zu (zu (zu (fun _ => (0 : Int32)) 12 (1 : Int32)) 30 (-1 : Int32)) 36 (-1 : Int32)) 37 (-1 : Int32))) 33 (fun _ => (0 : Int32))) 34 (fun _ => (0 : Int32))) 35 (fun _ => (0 : Int32))) 36 (fun _ => (0 : Int32))) 37 (fun _ => (0 : Int32))) 38 (fun _ => (0 : Int32))) 39 (fun _ => (0 : Int32))) 40 (fun _ => (0 : Int32))) 41 (fun _ => (0 : Int32))) 42 (fun _ => (0 : Int32))) 43 (fun _ => (0 : Int32))) 44 (fun _ => (0 : Int32))) 45 (fun _ => (0 : Int32))) 46 (fun _ => (0 : Int32))) 47 (fun _ => (0 : Int32))) 48 (fun _ => (0 : Int32))) 49 (fun _ => (0 : Int32))) 50 (fun _ => (0 : Int32))) 51 (fun _ => (0 : Int32))) 52 (fun _ => (0 : Int32))) 53 (fun _ => (0 : Int32))) 54 (fun _ => (0 : Int32))) 55 (fun _ => (0 : Int32))) 56 (fun _ => (0 : Int32))) := funext (fun k => by
    by_cases e32 : k = 32
    · subst e32
      rfl
    by_cases e33 : k = 33
    · subst e33
      rfl
    by_cases e34 : k = 34
    · subst e34
      rfl
    by_cases e35 : k = 35
    · subst e35
      rfl
    by_cases e36 : k = 36
    · subst e36
      rfl
    by_cases e37 : k = 37
    · subst e37
      rfl
    by_cases e38 : k = 38
    · subst e38
      rfl
    by_cases e39 : k = 39
    · subst e39
      rfl
    by_cases e40 : k = 40
    · subst e40
      rfl
    by_cases e41 : k = 41
    · subst e41
      rfl
    by_cases e42 : k = 42
    · subst e42
      rfl
    by_cases e43 : k = 43
    · subst e43
      rfl
    by_cases e44 : k = 44
    · subst e44
      rfl
    by_cases e45 : k = 45
    · subst e45
      rfl
    by_cases e46 : k = 46
    · subst e46
      rfl
    by_cases e47 : k = 47
    · subst e47
      rfl
    by_cases e48 : k = 48
    · subst e48
      rfl
    by_cases e49 : k = 49
    · subst e49
      rfl
    by_cases e50 : k = 50
    · subst e50
      rfl
    by_cases e51 : k = 51
    · subst e51
      rfl
    by_cases e52 : k = 52
    · subst e52
      rfl
    by_cases e53 : k = 53
    · subst e53
      rfl
    by_cases e54 : k = 54
    · subst e54
      rfl
    by_cases e55 : k = 55
    · subst e55
      rfl
    by_cases e56 : k = 56
    · subst e56
      rfl
    simp only [zu, if_neg e32, if_neg e33, if_neg e34, if_neg e35, if_neg e36, if_neg e37, if_neg e38, if_neg e39, if_neg e40, if_neg e41, if_neg e42, if_neg e43, if_neg e44, if_neg e45, if_neg e46, if_neg e47, if_neg e48, if_neg e49, if_neg e50, if_neg e51, if_neg e52, if_neg e53, if_neg e54, if_neg e55, if_neg e56])
  exact z_return dX9_init_224 rfl (Nat.le_of_ble_eq_true rfl) (Nat.le_of_ble_eq_true rfl) (by rw [← hQ_]; exact ⟨rfl, (show ((57, (zu (zu (zu (zu (zu (zu (zu (zu (zu (zu (zu (zu (zu (zu (zu (zu (zu (zu (zu (zu (zu (zu (zu (zu (zu (zu (zu (zu (zu (zu (zu (zu (zu (zu (zu (zu (zu (zu (zu (zu (zu (zu (zu (zu (zu (zu (zu (zu sh 33 ((1, 256, fun _ => none) : zc_S)) 32 ((12, 38, (zu (fun _ => none) 0 (some 33))) : zc_S)) 34 ((1, 256, fun _ => none) : zc_S)) 32 ((12, 38, (zu (zu (fun _ => none) 0 (some 33)) 1 (some 34))) : zc_S)) 35 ((1, 256, fun _ => none) : zc_S)) 32 ((12, 38, (zu (zu (zu (fun _ => none) 0 (some 33)) 1 (some 34)) 2 (some 35))) : zc_S)) 36 ((0, 256, fun _ => none) : zc_S)) 32 ((12, 38, (zu (zu (zu (zu (fun _ => none) 0 (some 33)) 1 (some 34)) 2 (some 35)) 3 (some 36))) : zc_S)) 37 ((0, 24, fun _ => none) : zc_S)) 32 ((12, 38, (zu (zu (zu (zu (zu (fun _ => none) 0 (some 33)) 1 (some 34)) 2 (some 35)) 3 (some 36)) 4 (some 37))) : zc_S)) 38 ((0, 288, fun _ => none) : zc_S)) 32 ((12, 38, (zu (zu (zu (zu (zu (zu (fun _ => none) 0 (some 33)) 1 (some 34)) 2 (some 35)) 3 (some 36)) 4 (some 37)) 5 (some 38))) : zc_S)) 39 ((0, 288, fun _ => none) : zc_S)) 32 ((12, 38, (zu (zu (zu (zu (zu (zu (zu (fun _ => none) 0 (some 33)) 1 (some 34)) 2 (some 35)) 3 (some 36)) 4 (some 37)) 5 (some 38)) 6 (some 39))) : zc_S)) 40 ((0, 288, fun _ => none) : zc_S)) 32 ((12, 38, (zu (zu (zu (zu (zu (zu (zu (zu (fun _ => none) 0 (some 33)) 1 (some 34)) 2 (some 35)) 3 (some 36)) 4 (some 37)) 5 (some 38)) 6 (some 39)) 7 (some 40))) : zc_S)) 41 ((0, 96, fun _ => none) : zc_S)) 32 ((12, 38, (zu (zu (zu (zu (zu (zu (zu (zu (zu (fun _ => none) 0 (some 33)) 1 (some 34)) 2 (some 35)) 3 (some 36)) 4 (some 37)) 5 (some 38)) 6 (some 39)) 7 (some 40)) 8 (some 41))) : zc_S)) 42 ((0, 24, fun _ => none) : zc_S)) 32 ((12, 38, (zu (zu (zu (zu (zu (zu (zu (zu (zu (zu (fun _ => none) 0 (some 33)) 1 (some 34)) 2 (some 35)) 3 (some 36)) 4 (some 37)) 5 (some 38)) 6 (some 39)) 7 (some 40)) 8 (some 41)) 9 (some 42))) : zc_S)) 43 ((0, 24, fun _ => none) : zc_S)) 32 ((12, 38, (zu (zu (zu (zu (zu (zu (zu (zu (zu (zu (zu (fun _ => none) 0 (some 33)) 1 (some 34)) 2 (some 35)) 3 (some 36)) 4 (some 37)) 5 (some 38)) 6 (some 39)) 7 (some 40)) 8 (some 41)) 9 (some 42)) 10 (some 43))) : zc_S)) 44 ((0, 12, fun _ => none) : zc_S)) 32 ((12, 38, (zu (zu (zu (zu (zu (zu (zu (zu (zu (zu (zu (zu (fun _ => none) 0 (some 33)) 1 (some 34)) 2 (some 35)) 3 (some 36)) 4 (some 37)) 5 (some 38)) 6 (some 39)) 7 (some 40)) 8 (some 41)) 9 (some 42)) 10 (some 43)) 13 (some 44))) : zc_S)) 45 ((0, 12, fun _ => none) : zc_S)) 32 ((12, 38, (zu (zu (zu (zu (zu (zu (zu (zu (zu (zu (zu (zu (zu (fun _ => none) 0 (some 33)) 1 (some 34)) 2 (some 35)) 3 (some 36)) 4 (some 37)) 5 (some 38)) 6 (some 39)) 7 (some 40)) 8 (some 41)) 9 (some 42)) 10 (some 43)) 13 (some 44)) 14 (some 45))) : zc_S)) 46 ((0, 4, fun _ => none) : zc_S)) 32 ((12, 38, (zu (zu (zu (zu (zu (zu (zu (zu (zu (zu (zu (zu (zu (zu (fun _ => none) 0 (some 33)) 1 (some 34)) 2 (some 35)) 3 (some 36)) 4 (some 37)) 5 (some 38)) 6 (some 39)) 7 (some 40)) 8 (some 41)) 9 (some 42)) 10 (some 43)) 13 (some 44)) 14 (some 45)) 15 (some 46))) : zc_S)) 47 ((1, 144, fun _ => none) : zc_S)) 32 ((12, 38, (zu (zu (zu (zu (zu (zu (zu (zu (zu (zu (zu (zu (zu (zu (zu (fun _ => none) 0 (some 33)) 1 (some 34)) 2 (some 35)) 3 (some 36)) 4 (some 37)) 5 (some 38)) 6 (some 39)) 7 (some 40)) 8 (some 41)) 9 (some 42)) 10 (some 43)) 13 (some 44)) 14 (some 45)) 15 (some 46)) 16 (some 47))) : zc_S)) 48 ((0, 12, fun _ => none) : zc_S)) 32 ((12, 38, (zu (zu (zu (zu (zu (zu (zu (zu (zu (zu (zu (zu (zu (zu (zu (zu (fun _ => none) 0 (some 33)) 1 (some 34)) 2 (some 35)) 3 (some 36)) 4 (some 37)) 5 (some 38)) 6 (some 39)) 7 (some 40)) 8 (some 41)) 9 (some 42)) 10 (some 43)) 13 (some 44)) 14 (some 45)) 15 (some 46)) 16 (some 47)) 17 (some 48))) : zc_S)) 49 ((1, 12, fun _ => none) : zc_S)) 32 ((12, 38, (zu (zu (zu (zu (zu (zu (zu (zu (zu (zu (zu (zu (zu (zu (zu (zu (zu (fun _ => none) 0 (some 33)) 1 (some 34)) 2 (some 35)) 3 (some 36)) 4 (some 37)) 5 (some 38)) 6 (some 39)) 7 (some 40)) 8 (some 41)) 9 (some 42)) 10 (some 43)) 13 (some 44)) 14 (some 45)) 15 (some 46)) 16 (some 47)) 17 (some 48)) 18 (some 49))) : zc_S)) 50 ((0, 12, fun _ => none) : zc_S)) 32 ((12, 38, (zu (zu (zu (zu (zu (zu (zu (zu (zu (zu (zu (zu (zu (zu (zu (zu (zu (zu (fun _ => none) 0 (some 33)) 1 (some 34)) 2 (some 35)) 3 (some 36)) 4 (some 37)) 5 (some 38)) 6 (some 39)) 7 (some 40)) 8 (some 41)) 9 (some 42)) 10 (some 43)) 13 (some 44)) 14 (some 45)) 15 (some 46)) 16 (some 47)) 17 (some 48)) 18 (some 49)) 19 (some 50))) : zc_S)) 51 ((0, 12, fun _ => none) : zc_S)) 32 ((12, 38, (zu (zu (zu (zu (zu (zu (zu (zu (zu (zu (zu (zu (zu (zu (zu (zu (zu (zu (zu (fun _ => none) 0 (some 33)) 1 (some 34)) 2 (some 35)) 3 (some 36)) 4 (some 37)) 5 (some 38)) 6 (some 39)) 7 (some 40)) 8 (some 41)) 9 (some 42)) 10 (some 43)) 13 (some 44)) 14 (some 45)) 15 (some 46)) 16 (some 47)) 17 (some 48)) 18 (some 49)) 19 (some 50)) 27 (some 51))) : zc_S)) 52 ((0, 7, fun _ => none) : zc_S)) 32 ((12, 38, (zu (zu (zu (zu (zu (zu (zu (zu (zu (zu (zu (zu (zu (zu (zu (zu (zu (zu (zu (zu (fun _ => none) 0 (some 33)) 1 (some 34)) 2 (some 35)) 3 (some 36)) 4 (some 37)) 5 (some 38)) 6 (some 39)) 7 (some 40)) 8 (some 41)) 9 (some 42)) 10 (some 43)) 13 (some 44)) 14 (some 45)) 15 (some 46)) 16 (some 47)) 17 (some 48)) 18 (some 49)) 19 (some 50)) 27 (some 51)) 28 (some 52))) : zc_S)) 53 ((0, 12, fun _ => none) : zc_S)) 32 ((12, 38, (zu (zu (zu (zu (zu (zu (zu (zu (zu (zu (zu (zu (zu (zu (zu (zu (zu (zu (zu (zu (zu (fun _ => none) 0 (some 33)) 1 (some 34)) 2 (some 35)) 3 (some 36)) 4 (some 37)) 5 (some 38)) 6 (some 39)) 7 (some 40)) 8 (some 41)) 9 (some 42)) 10 (some 43)) 13 (some 44)) 14 (some 45)) 15 (some 46)) 16 (some 47)) 17 (some 48)) 18 (some 49)) 19 (some 50)) 27 (some 51)) 28 (some 52)) 29 (some 53))) : zc_S)) 54 ((0, 12, fun _ => none) : zc_S)) 32 ((12, 38, (zu (zu (zu (zu (zu (zu (zu (zu (zu (zu (zu (zu (zu (zu (zu (zu (zu (zu (zu (zu (zu (zu (fun _ => none) 0 (some 33)) 1 (some 34)) 2 (some 35)) 3 (some 36)) 4 (some 37)) 5 (some 38)) 6 (some 39)) 7 (some 40)) 8 (some 41)) 9 (some 42)) 10 (some 43)) 13 (some 44)) 14 (some 45)) 15 (some 46)) 16 (some 47)) 17 (some 48)) 18 (some 49)) 19 (some 50)) 27 (some 51)) 28 (some 52)) 29 (some 53)) 31 (some 54))) : zc_S)) 55 ((0, 12, fun _ => none) : zc_S)) 32 ((12, 38, (zu (zu (zu (zu (zu (zu (zu (zu (zu (zu (zu (zu (zu (zu (zu (zu (zu (zu (zu (zu (zu (zu (zu (fun _ => none) 0 (some 33)) 1 (some 34)) 2 (some 35)) 3 (some 36)) 4 (some 37)) 5 (some 38)) 6 (some 39)) 7 (some 40)) 8 (some 41)) 9 (some 42)) 10 (some 43)) 13 (some 44)) 14 (some 45)) 15 (some 46)) 16 (some 47)) 17 (some 48)) 18 (some 49)) 19 (some 50)) 27 (some 51)) 28 (some 52)) 29 (some 53)) 31 (some 54)) 32 (some 55))) : zc_S)) 56 ((0, 288, fun _ => none) : zc_S)) 32 ((12, 38, (zu (zu (zu (zu (zu (zu (zu (zu (zu (zu (zu (zu (zu (zu (zu (zu (zu (zu (zu (zu (zu (zu (zu (zu (fun _ => none) 0 (some 33)) 1 (some 34)) 2 (some 35)) 3 (some 36)) 4 (some 37)) 5 (some 38)) 6 (some 39)) 7 (some 40)) 8 (some 41)) 9 (some 42)) 10 (some 43)) 13 (some 44)) 14 (some 45)) 15 (some 46)) 16 (some 47)) 17 (some 48)) 18 (some 49)) 19 (some 50)) 27 (some 51)) 28 (some 52)) 29 (some 53)) 31 (some 54)) 32 (some 55)) 35 (some 56))) : zc_S)), (zu (zu (zu (zu (zu (zu (zu (zu (zu (zu (zu (zu (zu (zu (zu (zu (zu (zu (zu (zu (zu (zu (zu (zu (zu (zu (zu (zu σ 33 (fun _ => (0 : Int32))) 34 (fun _ => (0 : Int32))) 35 (fun _ => (0 : Int32))) 36 (fun _ => (0 : Int32))) 37 (fun _ => (0 : Int32))) 38 (fun _ => (0 : Int32))) 39 (fun _ => (0 : Int32))) 40 (fun _ => (0 : Int32))) 41 (fun _ => (0 : Int32))) 42 (fun _ => (0 : Int32))) 43 (fun _ => (0 : Int32))) 32 (zu (fun _ => (0 : Int32)) 12 (1 : Int32))) 44 (fun _ => (0 : Int32))) 45 (fun _ => (0 : Int32))) 46 (fun _ => (0 : Int32))) 47 (fun _ => (0 : Int32))) 48 (fun _ => (0 : Int32))) 49 (fun _ => (0 : Int32))) 50 (fun _ => (0 : Int32))) 51 (fun _ => (0 : Int32))) 52 (fun _ => (0 : Int32))) 53 (fun _ => (0 : Int32))) 32 (zu (zu (fun _ => (0 : Int32)) 12 (1 : Int32)) 30 (-1 : Int32))) 54 (fun _ => (0 : Int32))) 55 (fun _ => (0 : Int32))) 56 (fun _ => (0 : Int32))) 32 (zu (zu (zu (fun _ => (0 : Int32)) 12 (1 : Int32)) 30 (-1 : Int32)) 36 (-1 : Int32))) 32 (zu (zu (zu (zu (fun _ => (0 : Int32)) 12 (1 : Int32)) 30 (-1 : Int32)) 36 (-1 : Int32)) 37 (-1 : Int32)))) : zc_H) = _ by rw [es_, eg_])⟩)
