/-! ===== wip/whole/p94.py: a print is made ===== -/
theorem dX8_print_0 : decode cX8_print 0 = .ok (.iload_n 1, 1) := by decide +kernel
theorem dX8_print_1 : decode cX8_print 1 = .ok (.iconst 0, 1) := by decide +kernel
theorem dX8_print_2 : decode cX8_print 2 = .ok (.ldc 71, 2) := by decide +kernel
theorem dX8_print_4 : decode cX8_print 4 = .ok (.invokestatic 67, 3) := by decide +kernel
theorem dX8_print_7 : decode cX8_print 7 = .ok (.ifCond .ne 5, 3) := by decide +kernel
theorem dX8_print_10 : decode cX8_print 10 = .ok (.iconst (-1), 1) := by decide +kernel
theorem dX8_print_11 : decode cX8_print 11 = .ok (.ireturn, 1) := by decide +kernel
theorem dX8_print_12 : decode cX8_print 12 = .ok (.iload_n 1, 1) := by decide +kernel
theorem dX8_print_13 : decode cX8_print 13 = .ok (.bipush 12, 2) := by decide +kernel
theorem dX8_print_15 : decode cX8_print 15 = .ok (.ishr, 1) := by decide +kernel
theorem dX8_print_16 : decode cX8_print 16 = .ok (.istore_n 2, 1) := by decide +kernel
theorem dX8_print_17 : decode cX8_print 17 = .ok (.iload_n 1, 1) := by decide +kernel
theorem dX8_print_18 : decode cX8_print 18 = .ok (.bipush 8, 2) := by decide +kernel
theorem dX8_print_20 : decode cX8_print 20 = .ok (.ishr, 1) := by decide +kernel
theorem dX8_print_21 : decode cX8_print 21 = .ok (.bipush 15, 2) := by decide +kernel
theorem dX8_print_23 : decode cX8_print 23 = .ok (.iand, 1) := by decide +kernel
theorem dX8_print_24 : decode cX8_print 24 = .ok (.istore_n 3, 1) := by decide +kernel
theorem dX8_print_25 : decode cX8_print 25 = .ok (.iload_n 1, 1) := by decide +kernel
theorem dX8_print_26 : decode cX8_print 26 = .ok (.iconst 4, 1) := by decide +kernel
theorem dX8_print_27 : decode cX8_print 27 = .ok (.ishr, 1) := by decide +kernel
theorem dX8_print_28 : decode cX8_print 28 = .ok (.bipush 15, 2) := by decide +kernel
theorem dX8_print_30 : decode cX8_print 30 = .ok (.iand, 1) := by decide +kernel
theorem dX8_print_31 : decode cX8_print 31 = .ok (.istore 4, 2) := by decide +kernel
theorem dX8_print_33 : decode cX8_print 33 = .ok (.iload_n 1, 1) := by decide +kernel
theorem dX8_print_34 : decode cX8_print 34 = .ok (.bipush 15, 2) := by decide +kernel
theorem dX8_print_36 : decode cX8_print 36 = .ok (.iand, 1) := by decide +kernel
theorem dX8_print_37 : decode cX8_print 37 = .ok (.istore 5, 2) := by decide +kernel
theorem dX8_print_39 : decode cX8_print 39 = .ok (.iload_n 2, 1) := by decide +kernel
theorem dX8_print_40 : decode cX8_print 40 = .ok (.iload 4, 2) := by decide +kernel
theorem dX8_print_42 : decode cX8_print 42 = .ok (.if_icmp .gt 9, 3) := by decide +kernel
theorem dX8_print_45 : decode cX8_print 45 = .ok (.iload_n 3, 1) := by decide +kernel
theorem dX8_print_46 : decode cX8_print 46 = .ok (.iload 5, 2) := by decide +kernel
theorem dX8_print_48 : decode cX8_print 48 = .ok (.if_icmp .le 5, 3) := by decide +kernel
theorem dX8_print_51 : decode cX8_print 51 = .ok (.iconst (-1), 1) := by decide +kernel
theorem dX8_print_52 : decode cX8_print 52 = .ok (.ireturn, 1) := by decide +kernel
theorem dX8_print_53 : decode cX8_print 53 = .ok (.aload_n 0, 1) := by decide +kernel
theorem dX8_print_54 : decode cX8_print 54 = .ok (.getfield 26, 3) := by decide +kernel
theorem dX8_print_57 : decode cX8_print 57 = .ok (.bipush 24, 2) := by decide +kernel
theorem dX8_print_59 : decode cX8_print 59 = .ok (.if_icmp .lt 6, 3) := by decide +kernel
theorem dX8_print_62 : decode cX8_print 62 = .ok (.bipush (-2), 2) := by decide +kernel
theorem dX8_print_64 : decode cX8_print 64 = .ok (.ireturn, 1) := by decide +kernel
theorem dX8_print_65 : decode cX8_print 65 = .ok (.aload_n 0, 1) := by decide +kernel
theorem dX8_print_66 : decode cX8_print 66 = .ok (.getfield 12, 3) := by decide +kernel
theorem dX8_print_69 : decode cX8_print 69 = .ok (.aload_n 0, 1) := by decide +kernel
theorem dX8_print_70 : decode cX8_print 70 = .ok (.getfield 16, 3) := by decide +kernel
theorem dX8_print_73 : decode cX8_print 73 = .ok (.invokevirtual 93, 3) := by decide +kernel
theorem dX8_print_76 : decode cX8_print 76 = .ok (.bipush 12, 2) := by decide +kernel
theorem dX8_print_78 : decode cX8_print 78 = .ok (.invokestatic 97, 3) := by decide +kernel
theorem dX8_print_81 : decode cX8_print 81 = .ok (.istore 6, 2) := by decide +kernel
theorem dX8_print_83 : decode cX8_print 83 = .ok (.aload_n 0, 1) := by decide +kernel
theorem dX8_print_84 : decode cX8_print 84 = .ok (.getfield 22, 3) := by decide +kernel
theorem dX8_print_87 : decode cX8_print 87 = .ok (.aload_n 0, 1) := by decide +kernel
theorem dX8_print_88 : decode cX8_print 88 = .ok (.getfield 26, 3) := by decide +kernel
theorem dX8_print_91 : decode cX8_print 91 = .ok (.new 20, 3) := by decide +kernel
theorem dX8_print_94 : decode cX8_print 94 = .ok (.dup, 1) := by decide +kernel
theorem dX8_print_95 : decode cX8_print 95 = .ok (.aload_n 0, 1) := by decide +kernel
theorem dX8_print_96 : decode cX8_print 96 = .ok (.getfield 26, 3) := by decide +kernel
theorem dX8_print_99 : decode cX8_print 99 = .ok (.aload_n 0, 1) := by decide +kernel
theorem dX8_print_100 : decode cX8_print 100 = .ok (.getfield 16, 3) := by decide +kernel
theorem dX8_print_103 : decode cX8_print 103 = .ok (.iload 6, 2) := by decide +kernel
theorem dX8_print_105 : decode cX8_print 105 = .ok (.invokestatic 103, 3) := by decide +kernel
theorem dX8_print_108 : decode cX8_print 108 = .ok (.new 109, 3) := by decide +kernel
theorem dX8_print_111 : decode cX8_print 111 = .ok (.dup, 1) := by decide +kernel
theorem dX8_print_112 : decode cX8_print 112 = .ok (.iload_n 2, 1) := by decide +kernel
theorem dX8_print_113 : decode cX8_print 113 = .ok (.iload_n 3, 1) := by decide +kernel
theorem dX8_print_114 : decode cX8_print 114 = .ok (.iload 4, 2) := by decide +kernel
theorem dX8_print_116 : decode cX8_print 116 = .ok (.iload 5, 2) := by decide +kernel
theorem dX8_print_118 : decode cX8_print 118 = .ok (.invokespecial 111, 3) := by decide +kernel
theorem dX8_print_121 : decode cX8_print 121 = .ok (.invokespecial 114, 3) := by decide +kernel
theorem dX8_print_124 : decode cX8_print 124 = .ok (.aastore, 1) := by decide +kernel
theorem dX8_print_125 : decode cX8_print 125 = .ok (.aload_n 0, 1) := by decide +kernel
theorem dX8_print_126 : decode cX8_print 126 = .ok (.dup, 1) := by decide +kernel
theorem dX8_print_127 : decode cX8_print 127 = .ok (.getfield 26, 3) := by decide +kernel
theorem dX8_print_130 : decode cX8_print 130 = .ok (.iconst 1, 1) := by decide +kernel
theorem dX8_print_131 : decode cX8_print 131 = .ok (.iadd, 1) := by decide +kernel
theorem dX8_print_132 : decode cX8_print 132 = .ok (.putfield 26, 3) := by decide +kernel
theorem dX8_print_135 : decode cX8_print 135 = .ok (.aload_n 0, 1) := by decide +kernel
theorem dX8_print_136 : decode cX8_print 136 = .ok (.getfield 26, 3) := by decide +kernel
theorem dX8_print_139 : decode cX8_print 139 = .ok (.iconst 1, 1) := by decide +kernel
theorem dX8_print_140 : decode cX8_print 140 = .ok (.isub, 1) := by decide +kernel
theorem dX8_print_141 : decode cX8_print 141 = .ok (.ireturn, 1) := by decide +kernel
theorem SH_oth {P P' : zp} (h1 : P.1 = P'.1) {k : Nat} (hk : k ≠ 9) (h2 : ∀ q, k = q + 57 → q % 3 = 1 → P.2.2 (q / 3) = P'.2.2 (q / 3)) : SH P k = SH P' k := by
  match k, hk, h2 with
  | 0, _, _ => exact congrArg (fun z => ((0, z, fun _ => none) : zc_S)) h1
  | 1, _, _ => rfl
  | 2, _, _ => rfl
  | 3, _, _ => rfl
  | 4, _, _ => rfl
  | 5, _, _ => rfl
  | 6, _, _ => rfl
  | 7, _, _ => rfl
  | 8, _, _ => rfl
  | 9, h, _ => exact absurd rfl h
  | 10, _, _ => rfl
  | 11, _, _ => rfl
  | 12, _, _ => rfl
  | 13, _, _ => rfl
  | 14, _, _ => rfl
  | 15, _, _ => rfl
  | 16, _, _ => rfl
  | 17, _, _ => rfl
  | 18, _, _ => rfl
  | 19, _, _ => rfl
  | 20, _, _ => rfl
  | 21, _, _ => rfl
  | 22, _, _ => rfl
  | 23, _, _ => rfl
  | 24, _, _ => rfl
  | 25, _, _ => rfl
  | 26, _, _ => rfl
  | 27, _, _ => rfl
  | 28, _, _ => rfl
  | 29, _, _ => rfl
  | 30, _, _ => rfl
  | 31, _, _ => rfl
  | 32, _, _ => rfl
  | 33, _, _ => rfl
  | 34, _, _ => rfl
  | 35, _, _ => rfl
  | 36, _, _ => rfl
  | 37, _, _ => rfl
  | 38, _, _ => rfl
  | 39, _, _ => rfl
  | 40, _, _ => rfl
  | 41, _, _ => rfl
  | 42, _, _ => rfl
  | 43, _, _ => rfl
  | 44, _, _ => rfl
  | 45, _, _ => rfl
  | 46, _, _ => rfl
  | 47, _, _ => rfl
  | 48, _, _ => rfl
  | 49, _, _ => rfl
  | 50, _, _ => rfl
  | 51, _, _ => rfl
  | 52, _, _ => rfl
  | 53, _, _ => rfl
  | 54, _, _ => rfl
  | 55, _, _ => rfl
  | 56, _, _ => rfl
  | q + 57, _, h2 =>
    rw [SH_base, SH_base]
    by_cases e0 : q % 3 = 0
    · rw [if_pos e0, if_pos e0]
    · rw [if_neg e0, if_neg e0]
      by_cases e1 : q % 3 = 1
      · rw [if_pos e1, if_pos e1, h2 q rfl e1]
      · rw [if_neg e1, if_neg e1]
/-- what stands when one print more is made, with m points -/
abbrev prN (P : zp) (m : Nat) : zp := (P.1, P.2.1 + 1, zu P.2.2 P.2.1 m)
def prB (a1 : Int32) : Prop := rX8_isWithin a1 0 65535 = 0 ∨ ((zshr a1 (4 : Int32)) &&& (15 : Int32)) < (zshr a1 (12 : Int32)) ∨ ¬ ((zshr a1 (8 : Int32)) &&& (15 : Int32)) ≤ (a1 &&& (15 : Int32))
/-- what the class writes for a print -/
def prW (P : zp) (σ : zc_N) (a1 : Int32) (m : Nat) (σ' : zc_N) : Prop := (∀ k, k ≠ 3 → k < 57 + 3 * P.2.1 → σ' k = (sX1_readPoints σ) k) ∧ σ' 3 = zu ((sX1_readPoints σ) 3) 3 (((sX1_readPoints σ) 3 3) + 1) ∧ (σ' (pO P.2.1) 0 = (sX1_readPoints σ) 3 3 ∧ σ' (pO P.2.1) 3 = -1 ∧ σ' (pO P.2.1) 4 = -1) ∧ (∀ j, j < m → σ' (pP P.2.1) j = (sX1_readPoints σ) 8 j) ∧ σ' (pT P.2.1) 0 = zshr a1 (12 : Int32) ∧ σ' (pT P.2.1) 1 = (zshr a1 (8 : Int32)) &&& (15 : Int32) ∧ σ' (pT P.2.1) 2 = (zshr a1 (4 : Int32)) &&& (15 : Int32) ∧ σ' (pT P.2.1) 3 = a1 &&& (15 : Int32)
def prQ (P : zp) (σ : zc_N) (a1 : Int32) (m : Nat) (r_ : Option Value) (h_ : zc_H) : Prop := (prB a1 ∧ r_ = some (.int (-1)) ∧ h_ = hh P σ) ∨ (¬ prB a1 ∧ ¬ σ 3 3 < 24 ∧ r_ = some (.int (-2)) ∧ h_ = hh P σ) ∨ (¬ prB a1 ∧ σ 3 3 < 24 ∧ r_ = some (.int (((sX1_readPoints σ) 3 3) + 1 - 1)) ∧ ∃ σ', h_ = hh (prN P m) σ' ∧ prW P σ a1 m σ')
theorem SH_prN (P : zp) (m : Nat) {N : Nat} (hN : N = 57 + 3 * P.2.1) : zu (zu (zu (zu (zu (SH P) N ((10, 5, fun _ => none) : zc_S)) (N + 1) ((0, m, fun _ => none) : zc_S)) (N + 1 + 1) ((9, 4, fun _ => none) : zc_S)) N ((10, 5, zu (zu (fun _ => none) 1 (some (N + 1))) 2 (some (N + 1 + 1))) : zc_S)) 9 ((2, 24, zu (fun j => if j < P.2.1 then some (57 + 3 * j) else none) P.2.1 (some N)) : zc_S) = SH (prN P m) := by
  funext k
  by_cases e9 : k = 9
  · subst e9
    rw [zu_self]
    refine congrArg (fun z => ((2, 24, z) : zc_S)) (funext (fun j => ?_))
    show zu (fun j => if j < P.2.1 then some (57 + 3 * j) else none) P.2.1 (some N) j = if j < P.2.1 + 1 then some (57 + 3 * j) else none
    by_cases e : j = P.2.1
    · rw [e, zu_self, if_pos (Nat.lt_succ_self _), hN]
    · rw [zu_ne _ _ e]
      by_cases e2 : j < P.2.1
      · rw [if_pos e2, if_pos (by omega)]
      · rw [if_neg e2, if_neg (by omega)]
  · rw [zu_ne _ _ e9]
    by_cases e1 : k = N
    · subst e1
      rw [zu_self]
      have e : k = pO P.2.1 := hN
      rw [e, SH_pO]
      refine congrArg (fun z => ((10, 5, z) : zc_S)) (funext (fun j => ?_))
      match j with
      | 0 => rfl
      | 1 => show some (pO P.2.1 + 1) = some (pP P.2.1); rw [show pO P.2.1 + 1 = pP P.2.1 by show 57 + 3 * P.2.1 + 1 = 58 + 3 * P.2.1; omega]
      | 2 => show some (pO P.2.1 + 1 + 1) = some (pT P.2.1); rw [show pO P.2.1 + 1 + 1 = pT P.2.1 by show 57 + 3 * P.2.1 + 1 + 1 = 59 + 3 * P.2.1; omega]
      | j + 3 => rfl
    · rw [zu_ne _ _ e1]
      by_cases e2 : k = N + 1 + 1
      · subst e2
        rw [zu_self, show N + 1 + 1 = pT P.2.1 by show _ = 59 + 3 * P.2.1; omega, SH_pT]
      · rw [zu_ne _ _ e2]
        by_cases e3 : k = N + 1
        · subst e3
          rw [zu_self, show N + 1 = pP P.2.1 by show _ = 58 + 3 * P.2.1; omega, SH_pP]
          show ((0, m, fun _ => none) : zc_S) = (0, zu P.2.2 P.2.1 m P.2.1, fun _ => none)
          rw [zu_self]
        · rw [zu_ne _ _ e3, zu_ne _ _ e1]
          refine SH_oth (P := P) (P' := prN P m) rfl e9 (fun q hq hm => ?_)
          show P.2.2 (q / 3) = zu P.2.2 P.2.1 m (q / 3)
          rw [zu_ne _ _ (by omega)]
set_option maxHeartbeats 4000000 in
theorem ctX8_print (P : zp) (σ : zc_N) (a1 : Int32) {c : Nat} (hm : σ 3 3 = nI P.2.1) (hP : P.2.1 ≤ 24) (hp : pX1_readPoints σ) (hc : rX1_readPoints σ = nI c) (hc2 : c ≤ 256) (ho : off [8] σ (sX1_readPoints σ)) : sp mX8_print 4 3 21 [.ref 3, .int a1] (hh P σ) (prQ P σ a1 (min 12 c)) := by
  refine sp_of (lv := [some (.ref 3), some (.int a1), none, none, none, none, none]) (by decide) (zcats_ok _ rfl) (Nat.le_of_ble_eq_true rfl) (zlv_ok _ 5 rfl) (fun G => ?_)
  generalize hQ_ : prQ P σ a1 (min 12 c) = Q_
  refine z_iload_n dX8_print_0 rfl ?_
  refine z_iconst dX8_print_1 k_iconst_0 ?_
  refine z_ldc dX8_print_2 ck_X8_71 ?_
  refine z_callS (As := [.int a1, .int 0, .int 65535]) (rest := []) (ctX8_isWithin P σ a1 0 65535) dX8_print_4 lk_X8_67 ls_X8_isWithin rfl (Nat.le_of_ble_eq_true rfl) (Nat.le_of_ble_eq_true rfl) (Nat.le_of_ble_eq_true rfl) (Nat.le_of_ble_eq_true rfl) (fun r_ h_ e_ => ?_)
  obtain ⟨e1_, e2_⟩ := e_
  subst e1_
  subst e2_
  show zz G mX8_print 4 3 21 Q_ 7 [some (.ref 3), some (.int a1), none, none, none, none, none] [.int (rX8_isWithin a1 0 65535)] (hh P σ) 0 0
  refine z_if_ne (tgt := 12) dX8_print_7 (by decide) (fun w_ => ?_) (fun w_ => ?_)
  rotate_left
  · refine z_iconst dX8_print_10 k_iconst_m1 ?_
    exact z_ireturn dX8_print_11 rfl rfl (Nat.le_of_ble_eq_true rfl) (Nat.le_of_ble_eq_true rfl) (by rw [← hQ_]; exact Or.inl ⟨Or.inl w_, rfl, rfl⟩)
  refine z_iload_n dX8_print_12 rfl ?_
  refine z_bipush dX8_print_13 k_bipush_12 ?_
  refine z_ishr (v := zshr a1 (12 : Int32)) dX8_print_15 rfl ?_
  refine z_istore_n (lv' := [some (.ref 3), some (.int a1), some (.int (zshr a1 (12 : Int32))), none, none, none, none]) dX8_print_16 (Nat.le_of_ble_eq_true rfl) rfl ?_
  refine z_iload_n dX8_print_17 rfl ?_
  refine z_bipush dX8_print_18 k_bipush_8 ?_
  refine z_ishr (v := zshr a1 (8 : Int32)) dX8_print_20 rfl ?_
  refine z_bipush dX8_print_21 k_bipush_15 ?_
  refine z_iand (v := (zshr a1 (8 : Int32)) &&& (15 : Int32)) dX8_print_23 rfl ?_
  refine z_istore_n (lv' := [some (.ref 3), some (.int a1), some (.int (zshr a1 (12 : Int32))), some (.int ((zshr a1 (8 : Int32)) &&& (15 : Int32))), none, none, none]) dX8_print_24 (Nat.le_of_ble_eq_true rfl) rfl ?_
  refine z_iload_n dX8_print_25 rfl ?_
  refine z_iconst (v := (4 : Int32)) dX8_print_26 (by decide +kernel) ?_
  refine z_ishr (v := zshr a1 (4 : Int32)) dX8_print_27 rfl ?_
  refine z_bipush dX8_print_28 k_bipush_15 ?_
  refine z_iand (v := (zshr a1 (4 : Int32)) &&& (15 : Int32)) dX8_print_30 rfl ?_
  refine z_istore (lv' := [some (.ref 3), some (.int a1), some (.int (zshr a1 (12 : Int32))), some (.int ((zshr a1 (8 : Int32)) &&& (15 : Int32))), some (.int ((zshr a1 (4 : Int32)) &&& (15 : Int32))), none, none]) dX8_print_31 (Nat.le_of_ble_eq_true rfl) rfl ?_
  refine z_iload_n dX8_print_33 rfl ?_
  refine z_bipush dX8_print_34 k_bipush_15 ?_
  refine z_iand (v := a1 &&& (15 : Int32)) dX8_print_36 rfl ?_
  refine z_istore (lv' := [some (.ref 3), some (.int a1), some (.int (zshr a1 (12 : Int32))), some (.int ((zshr a1 (8 : Int32)) &&& (15 : Int32))), some (.int ((zshr a1 (4 : Int32)) &&& (15 : Int32))), some (.int (a1 &&& (15 : Int32))), none]) dX8_print_37 (Nat.le_of_ble_eq_true rfl) rfl ?_
  generalize hx0 : zshr a1 (12 : Int32) = x0
  generalize hy0 : (zshr a1 (8 : Int32)) &&& (15 : Int32) = y0
  generalize hx1 : (zshr a1 (4 : Int32)) &&& (15 : Int32) = x1
  generalize hy1 : a1 &&& (15 : Int32) = y1
  refine z_iload_n dX8_print_39 rfl ?_
  refine z_iload dX8_print_40 rfl ?_
  refine z_icmp_gt (tgt := 51) dX8_print_42 (by decide) (fun c1 => ?_) (fun c1 => ?_)
  · refine z_iconst dX8_print_51 k_iconst_m1 ?_
    exact z_ireturn dX8_print_52 rfl rfl (Nat.le_of_ble_eq_true rfl) (Nat.le_of_ble_eq_true rfl) (by rw [← hQ_]; exact Or.inl ⟨Or.inr (Or.inl (by rw [hx0, hx1]; exact c1)), rfl, rfl⟩)
  refine z_iload_n dX8_print_45 rfl ?_
  refine z_iload dX8_print_46 rfl ?_
  refine z_icmp_le (tgt := 53) dX8_print_48 (by decide) (fun c2 => ?_) (fun c2 => ?_)
  rotate_left
  · refine z_iconst dX8_print_51 k_iconst_m1 ?_
    exact z_ireturn dX8_print_52 rfl rfl (Nat.le_of_ble_eq_true rfl) (Nat.le_of_ble_eq_true rfl) (by rw [← hQ_]; exact Or.inl ⟨Or.inr (Or.inr (by rw [hy0, hy1]; exact c2)), rfl, rfl⟩)
  have hnb : ¬ prB a1 := by
    unfold prB
    rw [hx0, hy0, hx1, hy1]
    exact fun z => z.elim w_ (fun z => z.elim c1 (fun z => z c2))
  refine z_aloadr_n dX8_print_53 rfl ?_
  refine z_get (ci := 8) (r := (RX8, TX8, 12)) (j := 3) (v := .int (σ 3 3)) dX8_print_54 (Nat.le_of_ble_eq_true rfl) (zN rfl) rfl rfl (Nat.le_of_ble_eq_true rfl) fl_X8_26 rfl ?_
  refine z_bipush dX8_print_57 k_bipush_24 ?_
  refine z_icmp_lt (tgt := 65) dX8_print_59 (by decide) (fun c3 => ?_) (fun c3 => ?_)
  rotate_left
  · refine z_bipush dX8_print_62 k_bipush_m2 ?_
    exact z_ireturn dX8_print_64 rfl rfl (Nat.le_of_ble_eq_true rfl) (Nat.le_of_ble_eq_true rfl) (by rw [← hQ_]; exact Or.inr (Or.inl ⟨hnb, c3, rfl, rfl⟩))
  refine z_aloadr_n dX8_print_65 rfl ?_
  refine z_get (ci := 8) (r := (RX8, TX8, 12)) (j := 0) (v := .ref 4) dX8_print_66 (Nat.le_of_ble_eq_true rfl) (zN rfl) rfl rfl (Nat.le_of_ble_eq_true rfl) fl_X8_12 rfl ?_
  refine z_aloadr_n dX8_print_69 rfl ?_
  refine z_get (ci := 8) (r := (RX8, TX8, 12)) (j := 1) (v := .ref 8) dX8_print_70 (Nat.le_of_ble_eq_true rfl) (zN rfl) rfl rfl (Nat.le_of_ble_eq_true rfl) fl_X8_16 rfl ?_
  refine z_callV (ci := 1) (r := (RX1, TX1, 3)) (b := 4) (As := [.ref 8]) (rest := []) (ctX1_readPoints P σ hp) dX8_print_73 lk_X8_93 lv_X1_readPoints (Nat.le_of_ble_eq_true rfl) (zN rfl) rfl rfl rfl rfl (Nat.le_of_ble_eq_true rfl) (Nat.le_of_ble_eq_true rfl) (Nat.le_of_ble_eq_true rfl) (Nat.le_of_ble_eq_true rfl) (fun r_ h_ e_ => ?_)
  obtain ⟨e1_, e2_⟩ := e_
  subst e1_
  subst e2_
  show zz G mX8_print 4 3 21 Q_ 76 [some (.ref 3), some (.int a1), some (.int x0), some (.int y0), some (.int x1), some (.int y1), none] [.int (rX1_readPoints σ)] (hh P (sX1_readPoints σ)) 0 0
  rw [hc]
  refine z_bipush dX8_print_76 k_bipush_12 ?_
  refine z_mmin dX8_print_78 lk_X8_97 (Nat.le_of_ble_eq_true rfl) (Nat.le_of_ble_eq_true rfl) (Nat.le_of_ble_eq_true rfl) (Nat.le_of_ble_eq_true rfl) ?_
  have emin : (if (12 : Int32) < nI c then (12 : Int32) else nI c) = nI (min 12 c) := by
    by_cases e : 12 < c
    · have l1 : (12 : Int32) < nI c := (nI_lt e (by omega) : nI 12 < nI c)
      rw [if_pos l1, show min 12 c = 12 by omega]; rfl
    · have l1 : ¬ (12 : Int32) < nI c := (nI_nlt (by omega) (by decide) : ¬ nI 12 < nI c)
      rw [if_neg l1, show min 12 c = c by omega]
  rw [emin]
  have hmm : min 12 c ≤ 12 := by omega
  have e3 : (sX1_readPoints σ) 3 = σ 3 := ho 3 (by decide)
  have hm1 : (sX1_readPoints σ) 3 3 = nI P.2.1 := by rw [e3]; exact hm
  have hP2 : P.2.1 < 24 := by
    apply Classical.byContradiction
    intro z
    rw [hm] at c3
    exact nI_nlt (show 24 ≤ P.2.1 by omega) (by omega) c3
  generalize hfin : prQ P σ a1 (min 12 c) = q_ at hQ_
  unfold prQ prW at hfin
  rw [hx0, hy0, hx1, hy1] at hfin
  generalize hm0 : min 12 c = m at hfin hmm ⊢
  generalize sX1_readPoints σ = σ1 at hfin hm1 e3 ⊢
  refine z_istore (lv' := [some (.ref 3), some (.int a1), some (.int x0), some (.int y0), some (.int x1), some (.int y1), some (.int (nI m))]) dX8_print_81 (Nat.le_of_ble_eq_true rfl) rfl ?_
  refine z_aloadr_n dX8_print_83 rfl ?_
  refine z_get (ci := 8) (r := (RX8, TX8, 12)) (j := 2) (v := .ref 9) dX8_print_84 (Nat.le_of_ble_eq_true rfl) (zN rfl) rfl rfl (Nat.le_of_ble_eq_true rfl) fl_X8_22 rfl ?_
  refine z_aloadr_n dX8_print_87 rfl ?_
  refine z_get (ci := 8) (r := (RX8, TX8, 12)) (j := 3) (v := .int (σ1 3 3)) dX8_print_88 (Nat.le_of_ble_eq_true rfl) (zN rfl) rfl rfl (Nat.le_of_ble_eq_true rfl) fl_X8_26 rfl ?_
  have hN57 : 57 ≤ 57 + 3 * P.2.1 := Nat.le_add_right _ _
  have eN : 57 + 3 * P.2.1 = 57 + 3 * P.2.1 := rfl
  show zz G mX8_print 4 3 21 Q_ 91 [some (.ref 3), some (.int a1), some (.int x0), some (.int y0), some (.int x1), some (.int y1), some (.int (nI m))] [.int (σ1 3 3), .ref 9] (57 + 3 * P.2.1, SH P, σ1) 0 0
  generalize hN : 57 + 3 * P.2.1 = N at hN57
  rw [hm1]
  refine z_new (ci := 7) (r := (RX7, TX7, 5)) dX8_print_91 rfl cl_X8_20 nw_X7 ni_X7 df_X7 (Nat.le_of_ble_eq_true rfl) (Nat.le_of_ble_eq_true rfl) ?_
  refine z_dup dX8_print_94 rfl ?_
  have n3 : (3 : Nat) ≠ N := by omega
  have n8 : (8 : Nat) ≠ N := by omega
  refine z_aloadr_n dX8_print_95 rfl ?_
  refine z_get (ci := 8) (n := 12) (r := (RX8, TX8, 12)) (j := 3) (v := .int (nI P.2.1)) dX8_print_96 (Nat.le_of_ble_eq_true rfl) (by omega) (zu_ne _ _ n3) rfl (Nat.le_of_ble_eq_true rfl) fl_X8_26 (by show Value.int (zu σ1 N (fun _ => 0) 3 3) = _; rw [zu_ne _ _ n3, hm1]) ?_
  refine z_aloadr_n dX8_print_99 rfl ?_
  refine z_get (ci := 8) (n := 12) (r := (RX8, TX8, 12)) (j := 1) (v := .ref 8) dX8_print_100 (Nat.le_of_ble_eq_true rfl) (by omega) (zu_ne _ _ n3) rfl (Nat.le_of_ble_eq_true rfl) fl_X8_16 rfl ?_
  refine z_iload dX8_print_103 rfl ?_
  refine z_callS (As := [.ref 8, .int (nI m)]) (rest := [.int (nI P.2.1), .ref N, .ref N, .int (nI P.2.1), .ref 9]) (ctcopy (N := N + 1) (n := m) (rf := fun _ => none) (by omega) (zu_ne _ _ n8) hmm) dX8_print_105 lk_X8_103 ls_J7_copyOf_59c91 rfl (Nat.le_of_ble_eq_true rfl) (Nat.le_of_ble_eq_true rfl) (Nat.le_of_ble_eq_true rfl) (Nat.le_of_ble_eq_true rfl) (fun r_ h_ e_ => ?_)
  obtain ⟨e1_, f, e2_, hf⟩ := e_
  subst e1_
  subst e2_
  rw [zu_ne _ _ n8] at hf
  show zz G mX8_print 4 3 21 Q_ 108 [some (.ref 3), some (.int a1), some (.int x0), some (.int y0), some (.int x1), some (.int y1), some (.int (nI m))] [.ref (N + 1), .int (nI P.2.1), .ref N, .ref N, .int (nI P.2.1), .ref 9] (N + 1 + 1, zu (zu (SH P) N ((10, 5, fun _ => none) : zc_S)) (N + 1) ((0, m, fun _ => none) : zc_S), zu (zu σ1 N (fun _ => 0)) (N + 1) f) 2 17
  refine z_new (ci := 6) (r := (RX6, TX6, 4)) dX8_print_108 rfl cl_X8_109 nw_X6 ni_X6 df_X6 (Nat.le_of_ble_eq_true rfl) (Nat.le_of_ble_eq_true rfl) ?_
  refine z_dup dX8_print_111 rfl ?_
  refine z_iload_n dX8_print_112 rfl ?_
  refine z_iload_n dX8_print_113 rfl ?_
  refine z_iload dX8_print_114 rfl ?_
  refine z_iload dX8_print_116 rfl ?_
  refine z_callI (b := N + 1 + 1) (As := [.int x0, .int y0, .int x1, .int y1]) (rest := [.ref (N + 1 + 1), .ref (N + 1), .int (nI P.2.1), .ref N, .ref N, .int (nI P.2.1), .ref 9]) rfl (ctX6_init (N := N + 1 + 1 + 1) (a := N + 1 + 1) (n := 4) (rf := fun _ => none) (by omega) (by omega) (zu_self _ _ _) x0 y0 x1 y1) dX8_print_118 lk_X8_111 li_X6_init rfl (Nat.le_of_ble_eq_true rfl) (Nat.le_of_ble_eq_true rfl) (Nat.le_of_ble_eq_true rfl) (Nat.le_of_ble_eq_true rfl) (fun r_ h_ e_ => ?_)
  obtain ⟨e1_, e2_⟩ := e_
  subst e1_
  subst e2_
  rw [zu_zu, zu_self]
  show zz G mX8_print 4 3 21 Q_ 121 [some (.ref 3), some (.int a1), some (.int x0), some (.int y0), some (.int x1), some (.int y1), some (.int (nI m))] [.ref (N + 1 + 1), .ref (N + 1), .int (nI P.2.1), .ref N, .ref N, .int (nI P.2.1), .ref 9] (N + 1 + 1 + 1, zu (zu (zu (SH P) N ((10, 5, fun _ => none) : zc_S)) (N + 1) ((0, m, fun _ => none) : zc_S)) (N + 1 + 1) ((9, 4, fun _ => none) : zc_S), zu (zu (zu σ1 N (fun _ => 0)) (N + 1) f) (N + 1 + 1) (zu (zu (zu (zu (fun _ => 0) 0 x0) 1 y0) 2 x1) 3 y1)) 3 21
  refine z_callI (b := N) (As := [.int (nI P.2.1), .ref (N + 1), .ref (N + 1 + 1)]) (rest := [.ref N, .int (nI P.2.1), .ref 9]) rfl (ctX7_init (N := N + 1 + 1 + 1) (a := N) (b := N + 1) (c := N + 1 + 1) (by omega) (by omega) (by rw [zu_ne _ _ (by omega), zu_ne _ _ (by omega), zu_self]) (nI P.2.1)) dX8_print_121 lk_X8_114 li_X7_init rfl (Nat.le_of_ble_eq_true rfl) (Nat.le_of_ble_eq_true rfl) (Nat.le_of_ble_eq_true rfl) (Nat.le_of_ble_eq_true rfl) (fun r_ h_ e_ => ?_)
  obtain ⟨e1_, e2_⟩ := e_
  subst e1_
  subst e2_
  generalize hσ2 : zu (zu (zu (zu σ1 N (fun _ => 0)) (N + 1) f) (N + 1 + 1) (zu (zu (zu (zu (fun _ => 0) 0 x0) 1 y0) 2 x1) 3 y1)) N (zu (zu (zu ((zu (zu (zu σ1 N (fun _ => 0)) (N + 1) f) (N + 1 + 1) (zu (zu (zu (zu (fun _ => 0) 0 x0) 1 y0) 2 x1) 3 y1)) N) 3 (-1)) 4 (-1)) 0 (nI P.2.1)) = σ2
  show zz G mX8_print 4 3 21 Q_ 124 [some (.ref 3), some (.int a1), some (.int x0), some (.int y0), some (.int x1), some (.int y1), some (.int (nI m))] [.ref N, .int (nI P.2.1), .ref 9] (N + 1 + 1 + 1, zu (zu (zu (zu (SH P) N ((10, 5, fun _ => none) : zc_S)) (N + 1) ((0, m, fun _ => none) : zc_S)) (N + 1 + 1) ((9, 4, fun _ => none) : zc_S)) N ((10, 5, zu (zu (fun _ => none) 1 (some (N + 1))) 2 (some (N + 1 + 1))) : zc_S), σ2) 3 21
  refine z_aast (sh' := SH (prN P m)) (n := 24) (qn := 5) (rf := fun j => if j < P.2.1 then some (57 + 3 * j) else none) (rq := zu (zu (fun _ => none) 1 (some (N + 1))) 2 (some (N + 1 + 1))) dX8_print_124 (Nat.le_of_ble_eq_true rfl) (by omega) (by rw [zu_ne _ _ (by omega), zu_ne _ _ (by omega), zu_ne _ _ (by omega), zu_ne _ _ (by omega)]; exact rfl) (vp_in_nI hP2 (by decide)) (by omega) (by omega) (zu_self _ _ _) (by rw [nI_clamp (n := P.2.1) (by omega)]; exact SH_prN P m hN.symm) ?_
  have s3 : SH (prN P m) 3 = SH P 3 := rfl
  have o3 : σ2 3 = σ1 3 := by rw [← hσ2, zu_ne _ _ n3, zu_ne _ _ (by omega), zu_ne _ _ (by omega), zu_ne _ _ n3]
  refine z_aloadr_n dX8_print_125 rfl ?_
  refine z_dup dX8_print_126 rfl ?_
  refine z_get (ci := 8) (r := (RX8, TX8, 12)) (j := 3) (v := .int (σ2 3 3)) dX8_print_127 (Nat.le_of_ble_eq_true rfl) (by omega) rfl rfl (Nat.le_of_ble_eq_true rfl) fl_X8_26 rfl ?_
  refine z_iconst dX8_print_130 k_iconst_1 ?_
  refine z_iadd (v := (σ2 3 3) + 1) dX8_print_131 rfl ?_
  refine z_put (ci := 8) (r := (RX8, TX8, 12)) (j := 3) (σ' := zu σ2 3 (zu (σ2 3) 3 ((σ2 3 3) + 1))) dX8_print_132 (Nat.le_of_ble_eq_true rfl) (by omega) rfl rfl (Nat.le_of_ble_eq_true rfl) fl_X8_26 rfl rfl rfl rfl rfl ?_
  refine z_aloadr_n dX8_print_135 rfl ?_
  refine z_get (ci := 8) (r := (RX8, TX8, 12)) (j := 3) (v := .int ((σ1 3 3) + 1)) dX8_print_136 (Nat.le_of_ble_eq_true rfl) (by omega) rfl rfl (Nat.le_of_ble_eq_true rfl) fl_X8_26 (by show Value.int (zu σ2 3 (zu (σ2 3) 3 ((σ2 3 3) + 1)) 3 3) = _; rw [zu_self, zu_self, o3]) ?_
  refine z_iconst dX8_print_139 k_iconst_1 ?_
  refine z_isub (v := (σ1 3 3) + 1 - 1) dX8_print_140 rfl ?_
  refine z_ireturn dX8_print_141 rfl rfl (Nat.le_of_ble_eq_true rfl) (Nat.le_of_ble_eq_true rfl) ?_
  rw [← hQ_, ← hfin]
  refine Or.inr (Or.inr ⟨hnb, c3, rfl, zu σ2 3 (zu (σ2 3) 3 ((σ2 3 3) + 1)), ?_, ?_, ?_, ?_, ?_, ?_⟩)
  · show ((N + 1 + 1 + 1, SH (prN P m), _) : zc_H) = (57 + 3 * (P.2.1 + 1), SH (prN P m), _)
    rw [show N + 1 + 1 + 1 = 57 + 3 * (P.2.1 + 1) by omega]
  · intro k hk hkN
    rw [zu_ne _ _ hk, ← hσ2, zu_ne _ _ (by omega), zu_ne _ _ (by omega), zu_ne _ _ (by omega), zu_ne _ _ (by omega)]
  · rw [zu_self, o3]
  · have e : pO P.2.1 = N := hN
    rw [e, zu_ne _ _ (by omega), ← hσ2, zu_self, hm1]
    exact ⟨rfl, rfl, rfl⟩
  · intro j hj
    have e : pP P.2.1 = N + 1 := by show 58 + 3 * P.2.1 = _; omega
    rw [e, zu_ne _ _ (by omega), ← hσ2, zu_ne _ _ (by omega), zu_ne _ _ (by omega), zu_self]
    exact hf j hj
  · have e : pT P.2.1 = N + 1 + 1 := by show 59 + 3 * P.2.1 = _; omega
    rw [e, zu_ne _ _ (by omega), ← hσ2, zu_ne _ _ (by omega), zu_self]
    exact ⟨rfl, rfl, rfl, rfl⟩
