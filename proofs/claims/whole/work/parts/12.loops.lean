/-! ===== printed by wip/whole/p12.py: methods with counted loops ===== -/
def zfor {α : Type} (f : Nat → α → α) : Nat → α → α
  | 0, a => a
  | n + 1, a => f n (zfor f n a)
theorem zfor_nI {α : Type} (Z : Int32 → α → Prop) (f : Nat → α → α) (N : Nat) (a : α) (hs : ∀ i : Nat, i < N → Z (nI (i + 1)) (f i (zfor f i a)) → Z (nI i) (zfor f i a)) (hx : Z (nI N) (zfor f N a)) : Z (nI 0) a := by
  have key : ∀ k : Nat, k ≤ N → Z (nI k) (zfor f k a) := by
    intro k hk
    obtain ⟨j, rfl⟩ : ∃ j, N = k + j := ⟨N - k, by omega⟩
    induction j generalizing k with
    | zero => exact hx
    | succ j ih =>
      refine hs k (by omega) ?_
      have e : k + (j + 1) = k + 1 + j := by omega
      have h2 := ih (k + 1) (fun i hi => hs i (by omega)) (by rw [← e]; exact hx) (by omega)
      exact h2
  exact key 0 (Nat.zero_le N)

theorem zfor_sI {α : Type} (Z : Int32 → α → Prop) (f : Nat → α → α) (s : Int32) (N : Nat) (a : α) (hs : ∀ i : Nat, i < N → Z (s + nI (i + 1)) (f i (zfor f i a)) → Z (s + nI i) (zfor f i a)) (hx : Z (s + nI N) (zfor f N a)) : Z s a := by
  have key : ∀ k : Nat, k ≤ N → Z (s + nI k) (zfor f k a) := by
    intro k hk
    obtain ⟨j, rfl⟩ : ∃ j, N = k + j := ⟨N - k, by omega⟩
    induction j generalizing k with
    | zero => exact hx
    | succ j ih =>
      refine hs k (by omega) ?_
      have e : k + (j + 1) = k + 1 + j := by omega
      exact ih (k + 1) (fun i hi => hs i (by omega)) (by rw [← e]; exact hx) (by omega)
  have h0 := key 0 (Nat.zero_le N)
  rw [nI_0, Int32.add_zero] at h0
  exact h0
theorem nS_1 (s : Int32) (i : Nat) : s + nI i + 1 = s + nI (i + 1) := by rw [Int32.add_assoc, nI_1]
theorem pzX9_isDark (P : zp) (σ : zc_N) (a1 a2 : Int32) : pX9_isDark a1 a2 := by
  unfold pX9_isDark
  refine ⟨fun _ => trivial, fun h1 => ⟨fun _ => trivial, fun h2 => ⟨fun _ => trivial, fun h3 => ⟨fun _ => trivial, fun h4 => ?_⟩⟩⟩⟩
  obtain ⟨i, hi, rfl⟩ : ∃ j : Nat, j < 16 ∧ a1 = nI j := (pk_ix a1 (n := 16) (by decide)).resolve_left h1 |>.resolve_left h2
  obtain ⟨j, hj, rfl⟩ : ∃ j : Nat, j < 16 ∧ a2 = nI j := (pk_ix a2 (n := 16) (by decide)).resolve_left h3 |>.resolve_left h4
  rw [show (16 : Int32) = nI 16 from rfl, pk_mul, nI_add]
  exact vp_in_nI (by omega) (by decide)
theorem pzX8_isTool (P : zp) (σ : zc_N) (a1 : Int32) : pX8_isTool a1 := by
  unfold pX8_isTool
  unfold rX8_isWithin
  (repeat' split) <;> rfl
theorem pzX1_takes (P : zp) (σ : zc_N) (a1 a2 : Int32) : pX1_takes a1 a2 := by
  unfold pX1_takes
  refine ⟨fun _ => trivial, fun _ => ⟨fun _ => trivial, fun h => ?_⟩⟩
  have h1 : vp_in a2 18 := by
    unfold rX8_isWithin at h
    by_cases c1 : a2 < 0
    · rw [if_pos c1] at h; exact absurd rfl h
    · by_cases c2 : (17 : Int32) < a2
      · rw [if_neg c1, if_pos c2] at h; exact absurd rfl h
      · obtain ⟨j, hj, rfl⟩ := nI_of2 (M := 17) (n := 17) (by decide) c1 (Int32.not_lt.mp c2)
        exact vp_in_nI (by omega) (by decide)
  exact ⟨h1, h1, h1⟩

theorem dX9_darkMany_4 : decode cX9_darkMany 4 = .ok (.iload_n 2, 1) := by decide +kernel
theorem dX9_darkMany_5 : decode cX9_darkMany 5 = .ok (.sipush 256, 3) := by decide +kernel
theorem dX9_darkMany_8 : decode cX9_darkMany 8 = .ok (.if_icmp .ge 26, 3) := by decide +kernel
theorem dX9_darkMany_11 : decode cX9_darkMany 11 = .ok (.iload_n 1, 1) := by decide +kernel
theorem dX9_darkMany_12 : decode cX9_darkMany 12 = .ok (.aload_n 0, 1) := by decide +kernel
theorem dX9_darkMany_13 : decode cX9_darkMany 13 = .ok (.getfield 9, 3) := by decide +kernel
theorem dX9_darkMany_16 : decode cX9_darkMany 16 = .ok (.iload_n 2, 1) := by decide +kernel
theorem dX9_darkMany_17 : decode cX9_darkMany 17 = .ok (.baload, 1) := by decide +kernel
theorem dX9_darkMany_18 : decode cX9_darkMany 18 = .ok (.ifCond .eq 7, 3) := by decide +kernel
theorem dX9_darkMany_21 : decode cX9_darkMany 21 = .ok (.iconst 1, 1) := by decide +kernel
theorem dX9_darkMany_22 : decode cX9_darkMany 22 = .ok (.goto 4, 3) := by decide +kernel
theorem dX9_darkMany_25 : decode cX9_darkMany 25 = .ok (.iconst 0, 1) := by decide +kernel
theorem dX9_darkMany_26 : decode cX9_darkMany 26 = .ok (.iadd, 1) := by decide +kernel
theorem dX9_darkMany_27 : decode cX9_darkMany 27 = .ok (.istore_n 1, 1) := by decide +kernel
theorem dX9_darkMany_28 : decode cX9_darkMany 28 = .ok (.iinc 2 1, 3) := by decide +kernel
theorem dX9_darkMany_31 : decode cX9_darkMany 31 = .ok (.goto (-27), 3) := by decide +kernel
theorem dX9_darkMany_34 : decode cX9_darkMany 34 = .ok (.iload_n 1, 1) := by decide +kernel
noncomputable def fX9_darkMany_4 (σ : zc_N) (i_ : Nat) (a_ : Int32) : Int32 := (a_ + (if ((σ 33) (nI i_).toNatClampNeg) = (0 : Int32) then (0 : Int32) else (1 : Int32)))
set_option maxHeartbeats 2000000 in
theorem lpX9_darkMany_4 {G : zc_G} {Q : Option Value → zc_H → Prop} (P : zp) (σ : zc_N) (l1 : Int32)
    (W2_ : zz G mX9_darkMany 0 0 0 Q 34 [none, some (.int (zfor (fX9_darkMany_4 σ) 256 l1)), none] [] (hh P σ) 0 0) :
    zz G mX9_darkMany 0 0 0 Q 4 [some (.ref 32), some (.int l1), some (.int (nI 0))] [] (hh P σ) 0 0 := by
  refine zfor_nI (fun i_ a_ => zz G mX9_darkMany 0 0 0 Q 4 [some (.ref 32), some (.int a_), some (.int i_)] [] (hh P σ) 0 0) (fX9_darkMany_4 σ) 256 l1 (fun i_ hi_ k_ => ?_) ?_
  · generalize zfor (fX9_darkMany_4 σ) i_ l1 = g_ at k_ ⊢
    rw [fX9_darkMany_4] at k_
    refine z_iload_n dX9_darkMany_4 rfl ?_
    refine z_sipush dX9_darkMany_5 k_sipush_256 ?_
    refine z_icmp_ge (tgt := 34) dX9_darkMany_8 (by decide) (fun c_ => absurd c_ (nI_ge hi_ (by decide))) (fun c_ => ?_)
    refine z_iload_n dX9_darkMany_11 rfl ?_
    refine z_aloadr_n dX9_darkMany_12 rfl ?_
    refine z_get (ci := 9) (r := (RX9, TX9, 38)) (j := 0) (v := .ref 33) dX9_darkMany_13 (Nat.le_of_ble_eq_true rfl) (zN rfl) rfl rfl (Nat.le_of_ble_eq_true rfl) fl_X9_9 rfl ?_
    refine z_iload_n dX9_darkMany_16 rfl ?_
    refine z_bald (v := ((σ 33) (nI i_).toNatClampNeg)) dX9_darkMany_17 (Nat.le_of_ble_eq_true rfl) (zN rfl) rfl (vp_in_nI (Nat.lt_of_lt_of_le hi_ (Nat.le_of_ble_eq_true rfl)) (by decide)) rfl ?_
    have K_1 : zz G mX9_darkMany 0 0 0 Q 26 [some (.ref 32), none, some (.int (nI i_))] [.int (if ((σ 33) (nI i_).toNatClampNeg) = (0 : Int32) then (0 : Int32) else (1 : Int32)), .int g_] (hh P σ) 0 0 := by
      refine z_iadd (v := (g_ + (if ((σ 33) (nI i_).toNatClampNeg) = (0 : Int32) then (0 : Int32) else (1 : Int32)))) dX9_darkMany_26 rfl ?_
      refine z_istore_n (lv' := [some (.ref 32), some (.int (g_ + (if ((σ 33) (nI i_).toNatClampNeg) = (0 : Int32) then (0 : Int32) else (1 : Int32)))), some (.int (nI i_))]) dX9_darkMany_27 (Nat.le_of_ble_eq_true rfl) rfl ?_
      refine z_iinc (v := ((nI i_) + (1 : Int32))) (lv' := [some (.ref 32), some (.int (g_ + (if ((σ 33) (nI i_).toNatClampNeg) = (0 : Int32) then (0 : Int32) else (1 : Int32)))), some (.int ((nI i_) + (1 : Int32)))]) dX9_darkMany_28 (Nat.le_of_ble_eq_true rfl) rfl (by rw [k_iconst_1]) rfl ?_
      refine z_goto (tgt := 4) dX9_darkMany_31 (by decide) ?_
      rw [nI_1]
      exact k_
    refine z_if_eq (tgt := 25) dX9_darkMany_18 (by decide) (fun c_2 => ?_) (fun c_2 => ?_)
    · refine z_iconst dX9_darkMany_25 k_iconst_0 ?_
      refine zz_sub (lv' := [some (.ref 32), none, some (.int (nI i_))]) ⟨rfl, ⟨rfl, trivial⟩⟩ ?_
      rw [show (if ((σ 33) (nI i_).toNatClampNeg) = (0 : Int32) then (0 : Int32) else (1 : Int32)) = (0 : Int32) from (if_pos c_2)] at K_1
      exact K_1
    · refine z_iconst dX9_darkMany_21 k_iconst_1 ?_
      refine z_goto (tgt := 26) dX9_darkMany_22 (by decide) ?_
      refine zz_sub (lv' := [some (.ref 32), none, some (.int (nI i_))]) ⟨rfl, ⟨rfl, trivial⟩⟩ ?_
      rw [show (if ((σ 33) (nI i_).toNatClampNeg) = (0 : Int32) then (0 : Int32) else (1 : Int32)) = (1 : Int32) from (if_neg c_2)] at K_1
      exact K_1
  · generalize zfor (fX9_darkMany_4 σ) 256 l1 = g_ at W2_ ⊢
    refine z_iload_n dX9_darkMany_4 rfl ?_
    refine z_sipush dX9_darkMany_5 k_sipush_256 ?_
    refine z_icmp_ge (tgt := 34) dX9_darkMany_8 (by decide) (fun c_ => ?_) (fun c_ => absurd (by decide) c_)
    exact zz_sub (lv' := [none, some (.int g_), none]) ⟨rfl, trivial⟩ W2_

theorem dX9_darkMany_0 : decode cX9_darkMany 0 = .ok (.iconst 0, 1) := by decide +kernel
theorem dX9_darkMany_1 : decode cX9_darkMany 1 = .ok (.istore_n 1, 1) := by decide +kernel
theorem dX9_darkMany_2 : decode cX9_darkMany 2 = .ok (.iconst 0, 1) := by decide +kernel
theorem dX9_darkMany_3 : decode cX9_darkMany 3 = .ok (.istore_n 2, 1) := by decide +kernel
theorem dX9_darkMany_35 : decode cX9_darkMany 35 = .ok (.ireturn, 1) := by decide +kernel
noncomputable def rX9_darkMany (σ : zc_N) : Int32 := (zfor (fX9_darkMany_4 σ) 256 (0 : Int32))
set_option maxHeartbeats 1000000 in
theorem ctX9_darkMany (P : zp) (σ : zc_N) : sp mX9_darkMany 0 0 0 [.ref 32] (hh P σ) (fun r_ h_ => r_ = some (.int (rX9_darkMany σ)) ∧ h_ = hh P σ) := by
  refine sp_of (lv := [some (.ref 32), none, none]) (by decide) (zcats_ok _ rfl) (Nat.le_of_ble_eq_true rfl) (zlv_ok _ 2 rfl) (fun G => ?_)
  generalize hQ_ : (fun (r_ : Option Value) (h_ : zc_H) => r_ = some (.int (rX9_darkMany σ)) ∧ h_ = hh P σ) = Q_
  refine z_iconst dX9_darkMany_0 k_iconst_0 ?_
  refine z_istore_n (lv' := [some (.ref 32), some (.int (0 : Int32)), none]) dX9_darkMany_1 (Nat.le_of_ble_eq_true rfl) rfl ?_
  refine z_iconst dX9_darkMany_2 k_iconst_0 ?_
  refine z_istore_n (lv' := [some (.ref 32), some (.int (0 : Int32)), some (.int (0 : Int32))]) dX9_darkMany_3 (Nat.le_of_ble_eq_true rfl) rfl ?_
  refine lpX9_darkMany_4 P σ (0 : Int32) ?_
  show zz G mX9_darkMany 0 0 0 Q_ 34 [none, some (.int (zfor (fX9_darkMany_4 σ) 256 (0 : Int32))), none] [] (hh P σ) 0 0
  refine z_iload_n dX9_darkMany_34 rfl ?_
  exact z_ireturn dX9_darkMany_35 rfl rfl (Nat.le_of_ble_eq_true rfl) (Nat.le_of_ble_eq_true rfl) (by rw [← hQ_]; exact ⟨(by rw [rX9_darkMany]), rfl⟩)

theorem dX1_darkCells_4 : decode cX1_darkCells 4 = .ok (.iload_n 2, 1) := by decide +kernel
theorem dX1_darkCells_5 : decode cX1_darkCells 5 = .ok (.bipush 18, 2) := by decide +kernel
theorem dX1_darkCells_7 : decode cX1_darkCells 7 = .ok (.if_icmp .ge 21, 3) := by decide +kernel
theorem dX1_darkCells_10 : decode cX1_darkCells 10 = .ok (.iload_n 1, 1) := by decide +kernel
theorem dX1_darkCells_11 : decode cX1_darkCells 11 = .ok (.aload_n 0, 1) := by decide +kernel
theorem dX1_darkCells_12 : decode cX1_darkCells 12 = .ok (.getfield 11, 3) := by decide +kernel
theorem dX1_darkCells_15 : decode cX1_darkCells 15 = .ok (.iload_n 2, 1) := by decide +kernel
theorem dX1_darkCells_16 : decode cX1_darkCells 16 = .ok (.iaload, 1) := by decide +kernel
theorem dX1_darkCells_17 : decode cX1_darkCells 17 = .ok (.invokestatic 21, 3) := by decide +kernel
theorem dX1_darkCells_20 : decode cX1_darkCells 20 = .ok (.iadd, 1) := by decide +kernel
theorem dX1_darkCells_21 : decode cX1_darkCells 21 = .ok (.istore_n 1, 1) := by decide +kernel
theorem dX1_darkCells_22 : decode cX1_darkCells 22 = .ok (.iinc 2 1, 3) := by decide +kernel
theorem dX1_darkCells_25 : decode cX1_darkCells 25 = .ok (.goto (-21), 3) := by decide +kernel
theorem dX1_darkCells_28 : decode cX1_darkCells 28 = .ok (.iload_n 1, 1) := by decide +kernel
noncomputable def fX1_darkCells_4 (σ : zc_N) (i_ : Nat) (a_ : Int32) : Int32 := (a_ + (rJ6_bitCount_0f7a4 ((σ 5) (nI i_).toNatClampNeg)))
set_option maxHeartbeats 2000000 in
theorem lpX1_darkCells_4 {G : zc_G} {Q : Option Value → zc_H → Prop} (P : zp) (σ : zc_N) (l1 : Int32)
    (W2_ : zz G mX1_darkCells 1 0 0 Q 28 [none, some (.int (zfor (fX1_darkCells_4 σ) 18 l1)), none] [] (hh P σ) 0 0) :
    zz G mX1_darkCells 1 0 0 Q 4 [some (.ref 4), some (.int l1), some (.int (nI 0))] [] (hh P σ) 0 0 := by
  refine zfor_nI (fun i_ a_ => zz G mX1_darkCells 1 0 0 Q 4 [some (.ref 4), some (.int a_), some (.int i_)] [] (hh P σ) 0 0) (fX1_darkCells_4 σ) 18 l1 (fun i_ hi_ k_ => ?_) ?_
  · generalize zfor (fX1_darkCells_4 σ) i_ l1 = g_ at k_ ⊢
    rw [fX1_darkCells_4] at k_
    refine z_iload_n dX1_darkCells_4 rfl ?_
    refine z_bipush dX1_darkCells_5 k_bipush_18 ?_
    refine z_icmp_ge (tgt := 28) dX1_darkCells_7 (by decide) (fun c_ => absurd c_ (nI_ge hi_ (by decide))) (fun c_ => ?_)
    refine z_iload_n dX1_darkCells_10 rfl ?_
    refine z_aloadr_n dX1_darkCells_11 rfl ?_
    refine z_get (ci := 1) (r := (RX1, TX1, 3)) (j := 0) (v := .ref 5) dX1_darkCells_12 (Nat.le_of_ble_eq_true rfl) (zN rfl) rfl rfl (Nat.le_of_ble_eq_true rfl) fl_X1_11 rfl ?_
    refine z_iload_n dX1_darkCells_15 rfl ?_
    refine z_iald (v := ((σ 5) (nI i_).toNatClampNeg)) dX1_darkCells_16 (zN rfl) rfl (vp_in_nI (Nat.lt_of_lt_of_le hi_ (Nat.le_of_ble_eq_true rfl)) (by decide)) rfl ?_
    refine z_callS (As := [.int ((σ 5) (nI i_).toNatClampNeg)]) (rest := [.int g_]) (ctJ6_bitCount_0f7a4 P σ ((σ 5) (nI i_).toNatClampNeg)) dX1_darkCells_17 lk_X1_21 ls_J6_bitCount_0f7a4 rfl (Nat.le_of_ble_eq_true rfl) (Nat.le_of_ble_eq_true rfl) (Nat.le_of_ble_eq_true rfl) (Nat.le_of_ble_eq_true rfl) (fun r_ h_ e_ => ?_)
    obtain ⟨e1_, e2_⟩ := e_
    subst e1_
    subst e2_
    show zz G mX1_darkCells 1 0 0 Q 20 [some (.ref 4), some (.int g_), some (.int (nI i_))] [.int (rJ6_bitCount_0f7a4 ((σ 5) (nI i_).toNatClampNeg)), .int g_] (hh P σ) 0 0
    refine z_iadd (v := (g_ + (rJ6_bitCount_0f7a4 ((σ 5) (nI i_).toNatClampNeg)))) dX1_darkCells_20 rfl ?_
    refine z_istore_n (lv' := [some (.ref 4), some (.int (g_ + (rJ6_bitCount_0f7a4 ((σ 5) (nI i_).toNatClampNeg)))), some (.int (nI i_))]) dX1_darkCells_21 (Nat.le_of_ble_eq_true rfl) rfl ?_
    refine z_iinc (v := ((nI i_) + (1 : Int32))) (lv' := [some (.ref 4), some (.int (g_ + (rJ6_bitCount_0f7a4 ((σ 5) (nI i_).toNatClampNeg)))), some (.int ((nI i_) + (1 : Int32)))]) dX1_darkCells_22 (Nat.le_of_ble_eq_true rfl) rfl (by rw [k_iconst_1]) rfl ?_
    refine z_goto (tgt := 4) dX1_darkCells_25 (by decide) ?_
    rw [nI_1]
    exact k_
  · generalize zfor (fX1_darkCells_4 σ) 18 l1 = g_ at W2_ ⊢
    refine z_iload_n dX1_darkCells_4 rfl ?_
    refine z_bipush dX1_darkCells_5 k_bipush_18 ?_
    refine z_icmp_ge (tgt := 28) dX1_darkCells_7 (by decide) (fun c_ => ?_) (fun c_ => absurd (by decide) c_)
    exact zz_sub (lv' := [none, some (.int g_), none]) ⟨rfl, trivial⟩ W2_

theorem dX1_darkCells_0 : decode cX1_darkCells 0 = .ok (.iconst 0, 1) := by decide +kernel
theorem dX1_darkCells_1 : decode cX1_darkCells 1 = .ok (.istore_n 1, 1) := by decide +kernel
theorem dX1_darkCells_2 : decode cX1_darkCells 2 = .ok (.iconst 0, 1) := by decide +kernel
theorem dX1_darkCells_3 : decode cX1_darkCells 3 = .ok (.istore_n 2, 1) := by decide +kernel
theorem dX1_darkCells_29 : decode cX1_darkCells 29 = .ok (.ireturn, 1) := by decide +kernel
noncomputable def rX1_darkCells (σ : zc_N) : Int32 := (zfor (fX1_darkCells_4 σ) 18 (0 : Int32))
set_option maxHeartbeats 1000000 in
theorem ctX1_darkCells (P : zp) (σ : zc_N) : sp mX1_darkCells 1 0 0 [.ref 4] (hh P σ) (fun r_ h_ => r_ = some (.int (rX1_darkCells σ)) ∧ h_ = hh P σ) := by
  refine sp_of (lv := [some (.ref 4), none, none]) (by decide) (zcats_ok _ rfl) (Nat.le_of_ble_eq_true rfl) (zlv_ok _ 2 rfl) (fun G => ?_)
  generalize hQ_ : (fun (r_ : Option Value) (h_ : zc_H) => r_ = some (.int (rX1_darkCells σ)) ∧ h_ = hh P σ) = Q_
  refine z_iconst dX1_darkCells_0 k_iconst_0 ?_
  refine z_istore_n (lv' := [some (.ref 4), some (.int (0 : Int32)), none]) dX1_darkCells_1 (Nat.le_of_ble_eq_true rfl) rfl ?_
  refine z_iconst dX1_darkCells_2 k_iconst_0 ?_
  refine z_istore_n (lv' := [some (.ref 4), some (.int (0 : Int32)), some (.int (0 : Int32))]) dX1_darkCells_3 (Nat.le_of_ble_eq_true rfl) rfl ?_
  refine lpX1_darkCells_4 P σ (0 : Int32) ?_
  show zz G mX1_darkCells 1 0 0 Q_ 28 [none, some (.int (zfor (fX1_darkCells_4 σ) 18 (0 : Int32))), none] [] (hh P σ) 0 0
  refine z_iload_n dX1_darkCells_28 rfl ?_
  exact z_ireturn dX1_darkCells_29 rfl rfl (Nat.le_of_ble_eq_true rfl) (Nat.le_of_ble_eq_true rfl) (by rw [← hQ_]; exact ⟨(by rw [rX1_darkCells]), rfl⟩)

theorem dX1_sweepOnce_12 : decode cX1_sweepOnce 12 = .ok (.iload_n 3, 1) := by decide +kernel
theorem dX1_sweepOnce_13 : decode cX1_sweepOnce 13 = .ok (.bipush 16, 2) := by decide +kernel
theorem dX1_sweepOnce_15 : decode cX1_sweepOnce 15 = .ok (.if_icmp .ge 52, 3) := by decide +kernel
theorem dX1_sweepOnce_18 : decode cX1_sweepOnce 18 = .ok (.aload_n 0, 1) := by decide +kernel
theorem dX1_sweepOnce_19 : decode cX1_sweepOnce 19 = .ok (.iload_n 3, 1) := by decide +kernel
theorem dX1_sweepOnce_20 : decode cX1_sweepOnce 20 = .ok (.iload_n 2, 1) := by decide +kernel
theorem dX1_sweepOnce_21 : decode cX1_sweepOnce 21 = .ok (.invokevirtual 31, 3) := by decide +kernel
theorem dX1_sweepOnce_24 : decode cX1_sweepOnce 24 = .ok (.ifCond .eq 37, 3) := by decide +kernel
theorem dX1_sweepOnce_27 : decode cX1_sweepOnce 27 = .ok (.aload_n 0, 1) := by decide +kernel
theorem dX1_sweepOnce_28 : decode cX1_sweepOnce 28 = .ok (.iload_n 3, 1) := by decide +kernel
theorem dX1_sweepOnce_29 : decode cX1_sweepOnce 29 = .ok (.iload_n 2, 1) := by decide +kernel
theorem dX1_sweepOnce_30 : decode cX1_sweepOnce 30 = .ok (.invokevirtual 35, 3) := by decide +kernel
theorem dX1_sweepOnce_33 : decode cX1_sweepOnce 33 = .ok (.invokestatic 39, 3) := by decide +kernel
theorem dX1_sweepOnce_36 : decode cX1_sweepOnce 36 = .ok (.ifCond .eq 25, 3) := by decide +kernel
theorem dX1_sweepOnce_39 : decode cX1_sweepOnce 39 = .ok (.aload_n 0, 1) := by decide +kernel
theorem dX1_sweepOnce_40 : decode cX1_sweepOnce 40 = .ok (.getfield 11, 3) := by decide +kernel
theorem dX1_sweepOnce_43 : decode cX1_sweepOnce 43 = .ok (.iload_n 2, 1) := by decide +kernel
theorem dX1_sweepOnce_44 : decode cX1_sweepOnce 44 = .ok (.iconst 1, 1) := by decide +kernel
theorem dX1_sweepOnce_45 : decode cX1_sweepOnce 45 = .ok (.iadd, 1) := by decide +kernel
theorem dX1_sweepOnce_46 : decode cX1_sweepOnce 46 = .ok (.dup2, 1) := by decide +kernel
theorem dX1_sweepOnce_47 : decode cX1_sweepOnce 47 = .ok (.iaload, 1) := by decide +kernel
theorem dX1_sweepOnce_48 : decode cX1_sweepOnce 48 = .ok (.iconst 1, 1) := by decide +kernel
theorem dX1_sweepOnce_49 : decode cX1_sweepOnce 49 = .ok (.bipush 16, 2) := by decide +kernel
theorem dX1_sweepOnce_51 : decode cX1_sweepOnce 51 = .ok (.iload_n 3, 1) := by decide +kernel
theorem dX1_sweepOnce_52 : decode cX1_sweepOnce 52 = .ok (.isub, 1) := by decide +kernel
theorem dX1_sweepOnce_53 : decode cX1_sweepOnce 53 = .ok (.ishl, 1) := by decide +kernel
theorem dX1_sweepOnce_54 : decode cX1_sweepOnce 54 = .ok (.iconst (-1), 1) := by decide +kernel
theorem dX1_sweepOnce_55 : decode cX1_sweepOnce 55 = .ok (.ixor, 1) := by decide +kernel
theorem dX1_sweepOnce_56 : decode cX1_sweepOnce 56 = .ok (.iand, 1) := by decide +kernel
theorem dX1_sweepOnce_57 : decode cX1_sweepOnce 57 = .ok (.iastore, 1) := by decide +kernel
theorem dX1_sweepOnce_58 : decode cX1_sweepOnce 58 = .ok (.iinc 1 1, 3) := by decide +kernel
theorem dX1_sweepOnce_61 : decode cX1_sweepOnce 61 = .ok (.iinc 3 1, 3) := by decide +kernel
theorem dX1_sweepOnce_64 : decode cX1_sweepOnce 64 = .ok (.goto (-52), 3) := by decide +kernel
theorem dX1_sweepOnce_67 : decode cX1_sweepOnce 67 = .ok (.iinc 2 1, 3) := by decide +kernel
theorem dX1_sweepOnce_70 : decode cX1_sweepOnce 70 = .ok (.goto (-66), 3) := by decide +kernel
noncomputable def fX1_sweepOnce_12 (l2 : Int32) (i_ : Nat) (a_ : Int32 × zc_N) : Int32 × zc_N := ((if (rX1_isDark a_.2 (nI i_) l2) = (0 : Int32) then a_.1 else (if (rX1_goes (rX1_ringAt a_.2 (nI i_) l2)) = (0 : Int32) then a_.1 else (a_.1 + (1 : Int32)))), (if (rX1_isDark a_.2 (nI i_) l2) = (0 : Int32) then a_.2 else (if (rX1_goes (rX1_ringAt a_.2 (nI i_) l2)) = (0 : Int32) then a_.2 else (zu a_.2 5 (zu (a_.2 5) (l2 + (1 : Int32)).toNatClampNeg (((a_.2 5) (l2 + (1 : Int32)).toNatClampNeg) &&& ((zshl (1 : Int32) ((16 : Int32) - (nI i_))) ^^^ (-1 : Int32))))))))
def qX1_sweepOnce_12 (l2 : Int32) (i_ : Nat) (a_ : Int32 × zc_N) : Prop := ((pX1_isDark l2) ∧ (((rX1_isDark a_.2 (nI i_) l2) = (0 : Int32) → True) ∧ (¬ (rX1_isDark a_.2 (nI i_) l2) = (0 : Int32) → ((pX1_ringAt l2) ∧ (((rX1_goes (rX1_ringAt a_.2 (nI i_) l2)) = (0 : Int32) → True) ∧ (¬ (rX1_goes (rX1_ringAt a_.2 (nI i_) l2)) = (0 : Int32) → (vp_in (l2 + (1 : Int32)) 18 ∧ vp_in (l2 + (1 : Int32)) 18)))))))
set_option maxHeartbeats 2000000 in
theorem lpX1_sweepOnce_12 {G : zc_G} {Q : Option Value → zc_H → Prop} (P : zp) (σ : zc_N) (l1 : Int32) (l2 : Int32) (W1_ : ∀ i12_ : Nat, i12_ < 16 → qX1_sweepOnce_12 l2 i12_ (zfor (fX1_sweepOnce_12 l2) i12_ (l1, σ)))
    (W2_ : zz G mX1_sweepOnce 3 0 0 Q 67 [some (.ref 4), some (.int (zfor (fX1_sweepOnce_12 l2) 16 (l1, σ)).1), some (.int l2), none] [] (hh P (zfor (fX1_sweepOnce_12 l2) 16 (l1, σ)).2) 0 0) :
    zz G mX1_sweepOnce 3 0 0 Q 12 [some (.ref 4), some (.int l1), some (.int l2), some (.int (nI 0))] [] (hh P σ) 0 0 := by
  refine zfor_nI (fun i_ a_ => zz G mX1_sweepOnce 3 0 0 Q 12 [some (.ref 4), some (.int a_.1), some (.int l2), some (.int i_)] [] (hh P a_.2) 0 0) (fX1_sweepOnce_12 l2) 16 (l1, σ) (fun i_ hi_ k_ => ?_) ?_
  all_goals try dsimp only
  · have W3_ := W1_ i_ hi_
    generalize zfor (fX1_sweepOnce_12 l2) i_ (l1, σ) = g_ at k_ W3_ ⊢
    obtain ⟨x0_, x1_⟩ := g_
    dsimp only at k_ W3_ ⊢
    rw [fX1_sweepOnce_12] at k_
    rw [qX1_sweepOnce_12] at W3_
    try dsimp only at W3_
    dsimp only at k_
    refine z_iload_n dX1_sweepOnce_12 rfl ?_
    refine z_bipush dX1_sweepOnce_13 k_bipush_16 ?_
    refine z_icmp_ge (tgt := 67) dX1_sweepOnce_15 (by decide) (fun c_ => absurd c_ (nI_ge hi_ (by decide))) (fun c_ => ?_)
    refine z_aloadr_n dX1_sweepOnce_18 rfl ?_
    refine z_iload_n dX1_sweepOnce_19 rfl ?_
    refine z_iload_n dX1_sweepOnce_20 rfl ?_
    refine z_callV (ci := 1) (r := (RX1, TX1, 3)) (b := 4) (As := [.int (nI i_), .int l2]) (rest := []) (ctX1_isDark P x1_ (nI i_) l2 W3_.1) dX1_sweepOnce_21 lk_X1_31 lv_X1_isDark (Nat.le_of_ble_eq_true rfl) (zN rfl) rfl rfl rfl rfl (Nat.le_of_ble_eq_true rfl) (Nat.le_of_ble_eq_true rfl) (Nat.le_of_ble_eq_true rfl) (Nat.le_of_ble_eq_true rfl) (fun r_ h_ e_ => ?_)
    obtain ⟨e1_, e2_⟩ := e_
    subst e1_
    subst e2_
    show zz G mX1_sweepOnce 3 0 0 Q 24 [some (.ref 4), some (.int x0_), some (.int l2), some (.int (nI i_))] [.int (rX1_isDark x1_ (nI i_) l2)] (hh P x1_) 0 0
    refine z_if_eq (tgt := 61) dX1_sweepOnce_24 (by decide) (fun c_2 => ?_) (fun c_2 => ?_)
    · refine z_iinc (v := ((nI i_) + (1 : Int32))) (lv' := [some (.ref 4), some (.int x0_), some (.int l2), some (.int ((nI i_) + (1 : Int32)))]) dX1_sweepOnce_61 (Nat.le_of_ble_eq_true rfl) rfl (by rw [k_iconst_1]) rfl ?_
      refine z_goto (tgt := 12) dX1_sweepOnce_64 (by decide) ?_
      rw [nI_1]
      simpa only [if_pos c_2] using k_
    · refine z_aloadr_n dX1_sweepOnce_27 rfl ?_
      refine z_iload_n dX1_sweepOnce_28 rfl ?_
      refine z_iload_n dX1_sweepOnce_29 rfl ?_
      refine z_callV (ci := 1) (r := (RX1, TX1, 3)) (b := 4) (As := [.int (nI i_), .int l2]) (rest := []) (ctX1_ringAt P x1_ (nI i_) l2 ((W3_.2.2 c_2).1)) dX1_sweepOnce_30 lk_X1_35 lv_X1_ringAt (Nat.le_of_ble_eq_true rfl) (zN rfl) rfl rfl rfl rfl (Nat.le_of_ble_eq_true rfl) (Nat.le_of_ble_eq_true rfl) (Nat.le_of_ble_eq_true rfl) (Nat.le_of_ble_eq_true rfl) (fun r_ h_ e_ => ?_)
      obtain ⟨e1_, e2_⟩ := e_
      subst e1_
      subst e2_
      show zz G mX1_sweepOnce 3 0 0 Q 33 [some (.ref 4), some (.int x0_), some (.int l2), some (.int (nI i_))] [.int (rX1_ringAt x1_ (nI i_) l2)] (hh P x1_) 0 0
      refine z_callS (As := [.int (rX1_ringAt x1_ (nI i_) l2)]) (rest := []) (ctX1_goes P x1_ (rX1_ringAt x1_ (nI i_) l2)) dX1_sweepOnce_33 lk_X1_39 ls_X1_goes rfl (Nat.le_of_ble_eq_true rfl) (Nat.le_of_ble_eq_true rfl) (Nat.le_of_ble_eq_true rfl) (Nat.le_of_ble_eq_true rfl) (fun r_ h_ e_ => ?_)
      obtain ⟨e1_, e2_⟩ := e_
      subst e1_
      subst e2_
      show zz G mX1_sweepOnce 3 0 0 Q 36 [some (.ref 4), some (.int x0_), some (.int l2), some (.int (nI i_))] [.int (rX1_goes (rX1_ringAt x1_ (nI i_) l2))] (hh P x1_) 0 0
      refine z_if_eq (tgt := 61) dX1_sweepOnce_36 (by decide) (fun c_3 => ?_) (fun c_3 => ?_)
      · refine z_iinc (v := ((nI i_) + (1 : Int32))) (lv' := [some (.ref 4), some (.int x0_), some (.int l2), some (.int ((nI i_) + (1 : Int32)))]) dX1_sweepOnce_61 (Nat.le_of_ble_eq_true rfl) rfl (by rw [k_iconst_1]) rfl ?_
        refine z_goto (tgt := 12) dX1_sweepOnce_64 (by decide) ?_
        rw [nI_1]
        simpa only [if_neg c_2, if_pos c_3] using k_
      · refine z_aloadr_n dX1_sweepOnce_39 rfl ?_
        refine z_get (ci := 1) (r := (RX1, TX1, 3)) (j := 0) (v := .ref 5) dX1_sweepOnce_40 (Nat.le_of_ble_eq_true rfl) (zN rfl) rfl rfl (Nat.le_of_ble_eq_true rfl) fl_X1_11 rfl ?_
        refine z_iload_n dX1_sweepOnce_43 rfl ?_
        refine z_iconst dX1_sweepOnce_44 k_iconst_1 ?_
        refine z_iadd (v := (l2 + (1 : Int32))) dX1_sweepOnce_45 rfl ?_
        refine z_dup2 dX1_sweepOnce_46 rfl rfl ?_
        refine z_iald (v := ((x1_ 5) (l2 + (1 : Int32)).toNatClampNeg)) dX1_sweepOnce_47 (zN rfl) rfl (((W3_.2.2 c_2).2.2 c_3).1) rfl ?_
        refine z_iconst dX1_sweepOnce_48 k_iconst_1 ?_
        refine z_bipush dX1_sweepOnce_49 k_bipush_16 ?_
        refine z_iload_n dX1_sweepOnce_51 rfl ?_
        refine z_isub (v := ((16 : Int32) - (nI i_))) dX1_sweepOnce_52 rfl ?_
        refine z_ishl (v := (zshl (1 : Int32) ((16 : Int32) - (nI i_)))) dX1_sweepOnce_53 rfl ?_
        refine z_iconst dX1_sweepOnce_54 k_iconst_m1 ?_
        refine z_ixor (v := ((zshl (1 : Int32) ((16 : Int32) - (nI i_))) ^^^ (-1 : Int32))) dX1_sweepOnce_55 rfl ?_
        refine z_iand (v := (((x1_ 5) (l2 + (1 : Int32)).toNatClampNeg) &&& ((zshl (1 : Int32) ((16 : Int32) - (nI i_))) ^^^ (-1 : Int32)))) dX1_sweepOnce_56 rfl ?_
        refine z_iast (σ' := (zu x1_ 5 (zu (x1_ 5) (l2 + (1 : Int32)).toNatClampNeg (((x1_ 5) (l2 + (1 : Int32)).toNatClampNeg) &&& ((zshl (1 : Int32) ((16 : Int32) - (nI i_))) ^^^ (-1 : Int32)))))) dX1_sweepOnce_57 (Nat.le_of_ble_eq_true rfl) (zN rfl) rfl (((W3_.2.2 c_2).2.2 c_3).2) rfl ?_
        refine z_iinc (v := (x0_ + (1 : Int32))) (lv' := [some (.ref 4), some (.int (x0_ + (1 : Int32))), some (.int l2), some (.int (nI i_))]) dX1_sweepOnce_58 (Nat.le_of_ble_eq_true rfl) rfl (by rw [k_iconst_1]) rfl ?_
        refine z_iinc (v := ((nI i_) + (1 : Int32))) (lv' := [some (.ref 4), some (.int (x0_ + (1 : Int32))), some (.int l2), some (.int ((nI i_) + (1 : Int32)))]) dX1_sweepOnce_61 (Nat.le_of_ble_eq_true rfl) rfl (by rw [k_iconst_1]) rfl ?_
        refine z_goto (tgt := 12) dX1_sweepOnce_64 (by decide) ?_
        rw [nI_1]
        simpa only [if_neg c_2, if_neg c_3] using k_
  · generalize zfor (fX1_sweepOnce_12 l2) 16 (l1, σ) = g_ at W2_ ⊢
    obtain ⟨x0_, x1_⟩ := g_
    dsimp only at W2_ ⊢
    refine z_iload_n dX1_sweepOnce_12 rfl ?_
    refine z_bipush dX1_sweepOnce_13 k_bipush_16 ?_
    refine z_icmp_ge (tgt := 67) dX1_sweepOnce_15 (by decide) (fun c_ => ?_) (fun c_ => absurd (by decide) c_)
    exact zz_sub (lv' := [some (.ref 4), some (.int x0_), some (.int l2), none]) ⟨rfl, ⟨rfl, ⟨rfl, trivial⟩⟩⟩ W2_

theorem dX1_sweepOnce_4 : decode cX1_sweepOnce 4 = .ok (.iload_n 2, 1) := by decide +kernel
theorem dX1_sweepOnce_5 : decode cX1_sweepOnce 5 = .ok (.bipush 16, 2) := by decide +kernel
theorem dX1_sweepOnce_7 : decode cX1_sweepOnce 7 = .ok (.if_icmp .ge 66, 3) := by decide +kernel
theorem dX1_sweepOnce_10 : decode cX1_sweepOnce 10 = .ok (.iconst 0, 1) := by decide +kernel
theorem dX1_sweepOnce_11 : decode cX1_sweepOnce 11 = .ok (.istore_n 3, 1) := by decide +kernel
theorem dX1_sweepOnce_73 : decode cX1_sweepOnce 73 = .ok (.iload_n 1, 1) := by decide +kernel
noncomputable def fX1_sweepOnce_4 (i_ : Nat) (a_ : Int32 × zc_N) : Int32 × zc_N := ((zfor (fX1_sweepOnce_12 (nI i_)) 16 (a_.1, a_.2)).1, (zfor (fX1_sweepOnce_12 (nI i_)) 16 (a_.1, a_.2)).2)
def qX1_sweepOnce_4 (i_ : Nat) (a_ : Int32 × zc_N) : Prop := (∀ i12_ : Nat, i12_ < 16 → qX1_sweepOnce_12 (nI i_) i12_ (zfor (fX1_sweepOnce_12 (nI i_)) i12_ (a_.1, a_.2)))
set_option maxHeartbeats 2000000 in
theorem lpX1_sweepOnce_4 {G : zc_G} {Q : Option Value → zc_H → Prop} (P : zp) (σ : zc_N) (l1 : Int32) (W1_ : ∀ i4_ : Nat, i4_ < 16 → qX1_sweepOnce_4 i4_ (zfor fX1_sweepOnce_4 i4_ (l1, σ)))
    (W2_ : zz G mX1_sweepOnce 3 0 0 Q 73 [none, some (.int (zfor fX1_sweepOnce_4 16 (l1, σ)).1), none, none] [] (hh P (zfor fX1_sweepOnce_4 16 (l1, σ)).2) 0 0) :
    zz G mX1_sweepOnce 3 0 0 Q 4 [some (.ref 4), some (.int l1), some (.int (nI 0)), none] [] (hh P σ) 0 0 := by
  refine zfor_nI (fun i_ a_ => zz G mX1_sweepOnce 3 0 0 Q 4 [some (.ref 4), some (.int a_.1), some (.int i_), none] [] (hh P a_.2) 0 0) fX1_sweepOnce_4 16 (l1, σ) (fun i_ hi_ k_ => ?_) ?_
  all_goals try dsimp only
  · have W3_ := W1_ i_ hi_
    generalize zfor fX1_sweepOnce_4 i_ (l1, σ) = g_ at k_ W3_ ⊢
    obtain ⟨x0_, x1_⟩ := g_
    dsimp only at k_ W3_ ⊢
    rw [fX1_sweepOnce_4] at k_
    rw [qX1_sweepOnce_4] at W3_
    try dsimp only at W3_
    dsimp only at k_
    refine z_iload_n dX1_sweepOnce_4 rfl ?_
    refine z_bipush dX1_sweepOnce_5 k_bipush_16 ?_
    refine z_icmp_ge (tgt := 73) dX1_sweepOnce_7 (by decide) (fun c_ => absurd c_ (nI_ge hi_ (by decide))) (fun c_ => ?_)
    refine z_iconst dX1_sweepOnce_10 k_iconst_0 ?_
    refine z_istore_n (lv' := [some (.ref 4), some (.int x0_), some (.int (nI i_)), some (.int (0 : Int32))]) dX1_sweepOnce_11 (Nat.le_of_ble_eq_true rfl) rfl ?_
    refine lpX1_sweepOnce_12 P x1_ x0_ (nI i_) W3_ ?_
    show zz G mX1_sweepOnce 3 0 0 Q 67 [some (.ref 4), some (.int (zfor (fX1_sweepOnce_12 (nI i_)) 16 (x0_, x1_)).1), some (.int (nI i_)), none] [] (hh P (zfor (fX1_sweepOnce_12 (nI i_)) 16 (x0_, x1_)).2) 0 0
    refine z_iinc (v := ((nI i_) + (1 : Int32))) (lv' := [some (.ref 4), some (.int (zfor (fX1_sweepOnce_12 (nI i_)) 16 (x0_, x1_)).1), some (.int ((nI i_) + (1 : Int32))), none]) dX1_sweepOnce_67 (Nat.le_of_ble_eq_true rfl) rfl (by rw [k_iconst_1]) rfl ?_
    refine z_goto (tgt := 4) dX1_sweepOnce_70 (by decide) ?_
    rw [nI_1]
    exact k_
  · generalize zfor fX1_sweepOnce_4 16 (l1, σ) = g_ at W2_ ⊢
    obtain ⟨x0_, x1_⟩ := g_
    dsimp only at W2_ ⊢
    refine z_iload_n dX1_sweepOnce_4 rfl ?_
    refine z_bipush dX1_sweepOnce_5 k_bipush_16 ?_
    refine z_icmp_ge (tgt := 73) dX1_sweepOnce_7 (by decide) (fun c_ => ?_) (fun c_ => absurd (by decide) c_)
    exact zz_sub (lv' := [none, some (.int x0_), none, none]) ⟨rfl, trivial⟩ W2_

theorem dX1_sweepOnce_0 : decode cX1_sweepOnce 0 = .ok (.iconst 0, 1) := by decide +kernel
theorem dX1_sweepOnce_1 : decode cX1_sweepOnce 1 = .ok (.istore_n 1, 1) := by decide +kernel
theorem dX1_sweepOnce_2 : decode cX1_sweepOnce 2 = .ok (.iconst 0, 1) := by decide +kernel
theorem dX1_sweepOnce_3 : decode cX1_sweepOnce 3 = .ok (.istore_n 2, 1) := by decide +kernel
theorem dX1_sweepOnce_74 : decode cX1_sweepOnce 74 = .ok (.ireturn, 1) := by decide +kernel
def pX1_sweepOnce (σ : zc_N) : Prop := (∀ i4_ : Nat, i4_ < 16 → qX1_sweepOnce_4 i4_ (zfor fX1_sweepOnce_4 i4_ ((0 : Int32), σ)))
noncomputable def rX1_sweepOnce (σ : zc_N) : Int32 := (zfor fX1_sweepOnce_4 16 ((0 : Int32), σ)).1
noncomputable def sX1_sweepOnce (σ : zc_N) : zc_N := (zfor fX1_sweepOnce_4 16 ((0 : Int32), σ)).2
set_option maxHeartbeats 1000000 in
theorem ctX1_sweepOnce (P : zp) (σ : zc_N) (W_ : (pX1_sweepOnce σ)) : sp mX1_sweepOnce 3 0 0 [.ref 4] (hh P σ) (fun r_ h_ => r_ = some (.int (rX1_sweepOnce σ)) ∧ h_ = hh P (sX1_sweepOnce σ)) := by
  refine sp_of (lv := [some (.ref 4), none, none, none]) (by decide) (zcats_ok _ rfl) (Nat.le_of_ble_eq_true rfl) (zlv_ok _ 3 rfl) (fun G => ?_)
  generalize hQ_ : (fun (r_ : Option Value) (h_ : zc_H) => r_ = some (.int (rX1_sweepOnce σ)) ∧ h_ = hh P (sX1_sweepOnce σ)) = Q_
  unfold pX1_sweepOnce at W_
  refine z_iconst dX1_sweepOnce_0 k_iconst_0 ?_
  refine z_istore_n (lv' := [some (.ref 4), some (.int (0 : Int32)), none, none]) dX1_sweepOnce_1 (Nat.le_of_ble_eq_true rfl) rfl ?_
  refine z_iconst dX1_sweepOnce_2 k_iconst_0 ?_
  refine z_istore_n (lv' := [some (.ref 4), some (.int (0 : Int32)), some (.int (0 : Int32)), none]) dX1_sweepOnce_3 (Nat.le_of_ble_eq_true rfl) rfl ?_
  refine lpX1_sweepOnce_4 P σ (0 : Int32) W_ ?_
  show zz G mX1_sweepOnce 3 0 0 Q_ 73 [none, some (.int (zfor fX1_sweepOnce_4 16 ((0 : Int32), σ)).1), none, none] [] (hh P (zfor fX1_sweepOnce_4 16 ((0 : Int32), σ)).2) 0 0
  refine z_iload_n dX1_sweepOnce_73 rfl ?_
  exact z_ireturn dX1_sweepOnce_74 rfl rfl (Nat.le_of_ble_eq_true rfl) (Nat.le_of_ble_eq_true rfl) (by rw [← hQ_]; exact ⟨(by rw [rX1_sweepOnce]), (by rw [sX1_sweepOnce])⟩)

theorem dX9_row_16 : decode cX9_row 16 = .ok (.iload_n 3, 1) := by decide +kernel
theorem dX9_row_17 : decode cX9_row 17 = .ok (.bipush 16, 2) := by decide +kernel
theorem dX9_row_19 : decode cX9_row 19 = .ok (.if_icmp .ge 33, 3) := by decide +kernel
theorem dX9_row_22 : decode cX9_row 22 = .ok (.iconst 2, 1) := by decide +kernel
theorem dX9_row_23 : decode cX9_row 23 = .ok (.iload_n 2, 1) := by decide +kernel
theorem dX9_row_24 : decode cX9_row 24 = .ok (.imul, 1) := by decide +kernel
theorem dX9_row_25 : decode cX9_row 25 = .ok (.aload_n 0, 1) := by decide +kernel
theorem dX9_row_26 : decode cX9_row 26 = .ok (.getfield 9, 3) := by decide +kernel
theorem dX9_row_29 : decode cX9_row 29 = .ok (.bipush 16, 2) := by decide +kernel
theorem dX9_row_31 : decode cX9_row 31 = .ok (.iload_n 1, 1) := by decide +kernel
theorem dX9_row_32 : decode cX9_row 32 = .ok (.imul, 1) := by decide +kernel
theorem dX9_row_33 : decode cX9_row 33 = .ok (.iload_n 3, 1) := by decide +kernel
theorem dX9_row_34 : decode cX9_row 34 = .ok (.iadd, 1) := by decide +kernel
theorem dX9_row_35 : decode cX9_row 35 = .ok (.baload, 1) := by decide +kernel
theorem dX9_row_36 : decode cX9_row 36 = .ok (.ifCond .eq 7, 3) := by decide +kernel
theorem dX9_row_39 : decode cX9_row 39 = .ok (.iconst 1, 1) := by decide +kernel
theorem dX9_row_40 : decode cX9_row 40 = .ok (.goto 4, 3) := by decide +kernel
theorem dX9_row_43 : decode cX9_row 43 = .ok (.iconst 0, 1) := by decide +kernel
theorem dX9_row_44 : decode cX9_row 44 = .ok (.iadd, 1) := by decide +kernel
theorem dX9_row_45 : decode cX9_row 45 = .ok (.istore_n 2, 1) := by decide +kernel
theorem dX9_row_46 : decode cX9_row 46 = .ok (.iinc 3 1, 3) := by decide +kernel
theorem dX9_row_49 : decode cX9_row 49 = .ok (.goto (-33), 3) := by decide +kernel
theorem dX9_row_52 : decode cX9_row 52 = .ok (.iload_n 2, 1) := by decide +kernel
noncomputable def vX9_row_2 (l1 : Int32) (l2 : Int32) (l3 : Int32) (σ : zc_N) : Int32 := (((2 : Int32) * l2) + (if ((σ 33) (((16 : Int32) * l1) + l3).toNatClampNeg) = (0 : Int32) then (0 : Int32) else (1 : Int32)))
noncomputable def fX9_row_16 (σ : zc_N) (l1 : Int32) (i_ : Nat) (a_ : Int32) : Int32 := (vX9_row_2 l1 a_ (nI i_) σ)
def qX9_row_16 (l1 : Int32) (i_ : Nat) (a_ : Int32) : Prop := vp_in (((16 : Int32) * l1) + (nI i_)) 256
set_option maxHeartbeats 2000000 in
theorem lpX9_row_16 {G : zc_G} {Q : Option Value → zc_H → Prop} (P : zp) (σ : zc_N) (l1 : Int32) (l2 : Int32) (W1_ : ∀ i16_ : Nat, i16_ < 16 → qX9_row_16 l1 i16_ (zfor (fX9_row_16 σ l1) i16_ l2))
    (W2_ : zz G mX9_row 1 0 0 Q 52 [none, none, some (.int (zfor (fX9_row_16 σ l1) 16 l2)), none] [] (hh P σ) 0 0) :
    zz G mX9_row 1 0 0 Q 16 [some (.ref 32), some (.int l1), some (.int l2), some (.int (nI 0))] [] (hh P σ) 0 0 := by
  refine zfor_nI (fun i_ a_ => zz G mX9_row 1 0 0 Q 16 [some (.ref 32), some (.int l1), some (.int a_), some (.int i_)] [] (hh P σ) 0 0) (fX9_row_16 σ l1) 16 l2 (fun i_ hi_ k_ => ?_) ?_
  · have W3_ := W1_ i_ hi_
    generalize zfor (fX9_row_16 σ l1) i_ l2 = g_ at k_ W3_ ⊢
    rw [fX9_row_16] at k_
    rw [qX9_row_16] at W3_
    try dsimp only at W3_
    refine z_iload_n dX9_row_16 rfl ?_
    refine z_bipush dX9_row_17 k_bipush_16 ?_
    refine z_icmp_ge (tgt := 52) dX9_row_19 (by decide) (fun c_ => absurd c_ (nI_ge hi_ (by decide))) (fun c_ => ?_)
    refine z_iconst dX9_row_22 k_iconst_2 ?_
    refine z_iload_n dX9_row_23 rfl ?_
    refine z_imul (v := ((2 : Int32) * g_)) dX9_row_24 rfl ?_
    refine z_aloadr_n dX9_row_25 rfl ?_
    refine z_get (ci := 9) (r := (RX9, TX9, 38)) (j := 0) (v := .ref 33) dX9_row_26 (Nat.le_of_ble_eq_true rfl) (zN rfl) rfl rfl (Nat.le_of_ble_eq_true rfl) fl_X9_9 rfl ?_
    refine z_bipush dX9_row_29 k_bipush_16 ?_
    refine z_iload_n dX9_row_31 rfl ?_
    refine z_imul (v := ((16 : Int32) * l1)) dX9_row_32 rfl ?_
    refine z_iload_n dX9_row_33 rfl ?_
    refine z_iadd (v := (((16 : Int32) * l1) + (nI i_))) dX9_row_34 rfl ?_
    refine z_bald (v := ((σ 33) (((16 : Int32) * l1) + (nI i_)).toNatClampNeg)) dX9_row_35 (Nat.le_of_ble_eq_true rfl) (zN rfl) rfl W3_ rfl ?_
    have K_1 : zz G mX9_row 1 0 0 Q 44 [some (.ref 32), some (.int l1), none, some (.int (nI i_))] [.int (if ((σ 33) (((16 : Int32) * l1) + (nI i_)).toNatClampNeg) = (0 : Int32) then (0 : Int32) else (1 : Int32)), .int ((2 : Int32) * g_)] (hh P σ) 0 0 := by
      refine z_iadd (v := (((2 : Int32) * g_) + (if ((σ 33) (((16 : Int32) * l1) + (nI i_)).toNatClampNeg) = (0 : Int32) then (0 : Int32) else (1 : Int32)))) dX9_row_44 rfl ?_
      refine z_istore_n (lv' := [some (.ref 32), some (.int l1), some (.int (vX9_row_2 l1 g_ (nI i_) σ)), some (.int (nI i_))]) dX9_row_45 (Nat.le_of_ble_eq_true rfl) rfl ?_
      refine z_iinc (v := ((nI i_) + (1 : Int32))) (lv' := [some (.ref 32), some (.int l1), some (.int (vX9_row_2 l1 g_ (nI i_) σ)), some (.int ((nI i_) + (1 : Int32)))]) dX9_row_46 (Nat.le_of_ble_eq_true rfl) rfl (by rw [k_iconst_1]) rfl ?_
      refine z_goto (tgt := 16) dX9_row_49 (by decide) ?_
      rw [nI_1]
      exact k_
    refine z_if_eq (tgt := 43) dX9_row_36 (by decide) (fun c_2 => ?_) (fun c_2 => ?_)
    · refine z_iconst dX9_row_43 k_iconst_0 ?_
      refine zz_sub (lv' := [some (.ref 32), some (.int l1), none, some (.int (nI i_))]) ⟨rfl, ⟨rfl, ⟨rfl, trivial⟩⟩⟩ ?_
      rw [show (if ((σ 33) (((16 : Int32) * l1) + (nI i_)).toNatClampNeg) = (0 : Int32) then (0 : Int32) else (1 : Int32)) = (0 : Int32) from (if_pos c_2)] at K_1
      exact K_1
    · refine z_iconst dX9_row_39 k_iconst_1 ?_
      refine z_goto (tgt := 44) dX9_row_40 (by decide) ?_
      refine zz_sub (lv' := [some (.ref 32), some (.int l1), none, some (.int (nI i_))]) ⟨rfl, ⟨rfl, ⟨rfl, trivial⟩⟩⟩ ?_
      rw [show (if ((σ 33) (((16 : Int32) * l1) + (nI i_)).toNatClampNeg) = (0 : Int32) then (0 : Int32) else (1 : Int32)) = (1 : Int32) from (if_neg c_2)] at K_1
      exact K_1
  · generalize zfor (fX9_row_16 σ l1) 16 l2 = g_ at W2_ ⊢
    refine z_iload_n dX9_row_16 rfl ?_
    refine z_bipush dX9_row_17 k_bipush_16 ?_
    refine z_icmp_ge (tgt := 52) dX9_row_19 (by decide) (fun c_ => ?_) (fun c_ => absurd (by decide) c_)
    exact zz_sub (lv' := [none, none, some (.int g_), none]) ⟨rfl, trivial⟩ W2_

theorem dX9_row_0 : decode cX9_row 0 = .ok (.iload_n 1, 1) := by decide +kernel
theorem dX9_row_1 : decode cX9_row 1 = .ok (.iconst 0, 1) := by decide +kernel
theorem dX9_row_2 : decode cX9_row 2 = .ok (.bipush 15, 2) := by decide +kernel
theorem dX9_row_4 : decode cX9_row 4 = .ok (.invokestatic 96, 3) := by decide +kernel
theorem dX9_row_7 : decode cX9_row 7 = .ok (.ifCond .ne 5, 3) := by decide +kernel
theorem dX9_row_10 : decode cX9_row 10 = .ok (.iconst (-1), 1) := by decide +kernel
theorem dX9_row_11 : decode cX9_row 11 = .ok (.ireturn, 1) := by decide +kernel
theorem dX9_row_12 : decode cX9_row 12 = .ok (.iconst 0, 1) := by decide +kernel
theorem dX9_row_13 : decode cX9_row 13 = .ok (.istore_n 2, 1) := by decide +kernel
theorem dX9_row_14 : decode cX9_row 14 = .ok (.iconst 0, 1) := by decide +kernel
theorem dX9_row_15 : decode cX9_row 15 = .ok (.istore_n 3, 1) := by decide +kernel
theorem dX9_row_53 : decode cX9_row 53 = .ok (.ireturn, 1) := by decide +kernel
def pX9_row (σ : zc_N) (a1 : Int32) : Prop := (((rX9_within a1 (0 : Int32) (15 : Int32)) = (0 : Int32) → True) ∧ (¬ (rX9_within a1 (0 : Int32) (15 : Int32)) = (0 : Int32) → (∀ i16_ : Nat, i16_ < 16 → qX9_row_16 a1 i16_ (zfor (fX9_row_16 σ a1) i16_ (0 : Int32)))))
noncomputable def rX9_row (σ : zc_N) (a1 : Int32) : Int32 := (if (rX9_within a1 (0 : Int32) (15 : Int32)) = (0 : Int32) then (-1 : Int32) else (zfor (fX9_row_16 σ a1) 16 (0 : Int32)))
set_option maxHeartbeats 1000000 in
theorem ctX9_row (P : zp) (σ : zc_N) (a1 : Int32) (W_ : (pX9_row σ a1)) : sp mX9_row 1 0 0 [.ref 32, .int a1] (hh P σ) (fun r_ h_ => r_ = some (.int (rX9_row σ a1)) ∧ h_ = hh P σ) := by
  refine sp_of (lv := [some (.ref 32), some (.int a1), none, none]) (by decide) (zcats_ok _ rfl) (Nat.le_of_ble_eq_true rfl) (zlv_ok _ 2 rfl) (fun G => ?_)
  generalize hQ_ : (fun (r_ : Option Value) (h_ : zc_H) => r_ = some (.int (rX9_row σ a1)) ∧ h_ = hh P σ) = Q_
  unfold pX9_row at W_
  refine z_iload_n dX9_row_0 rfl ?_
  refine z_iconst dX9_row_1 k_iconst_0 ?_
  refine z_bipush dX9_row_2 k_bipush_15 ?_
  refine z_callS (As := [.int a1, .int (0 : Int32), .int (15 : Int32)]) (rest := []) (ctX9_within P σ a1 (0 : Int32) (15 : Int32)) dX9_row_4 lk_X9_96 ls_X9_within rfl (Nat.le_of_ble_eq_true rfl) (Nat.le_of_ble_eq_true rfl) (Nat.le_of_ble_eq_true rfl) (Nat.le_of_ble_eq_true rfl) (fun r_ h_ e_ => ?_)
  obtain ⟨e1_, e2_⟩ := e_
  subst e1_
  subst e2_
  show zz G mX9_row 1 0 0 Q_ 7 [some (.ref 32), some (.int a1), none, none] [.int (rX9_within a1 (0 : Int32) (15 : Int32))] (hh P σ) 0 0
  refine z_if_ne (tgt := 12) dX9_row_7 (by decide) (fun c_1 => ?_) (fun c_1 => ?_)
  · refine z_iconst dX9_row_12 k_iconst_0 ?_
    refine z_istore_n (lv' := [some (.ref 32), some (.int a1), some (.int (0 : Int32)), none]) dX9_row_13 (Nat.le_of_ble_eq_true rfl) rfl ?_
    refine z_iconst dX9_row_14 k_iconst_0 ?_
    refine z_istore_n (lv' := [some (.ref 32), some (.int a1), some (.int (0 : Int32)), some (.int (0 : Int32))]) dX9_row_15 (Nat.le_of_ble_eq_true rfl) rfl ?_
    refine lpX9_row_16 P σ a1 (0 : Int32) (W_.2 c_1) ?_
    show zz G mX9_row 1 0 0 Q_ 52 [none, none, some (.int (zfor (fX9_row_16 σ a1) 16 (0 : Int32))), none] [] (hh P σ) 0 0
    refine z_iload_n dX9_row_52 rfl ?_
    exact z_ireturn dX9_row_53 rfl rfl (Nat.le_of_ble_eq_true rfl) (Nat.le_of_ble_eq_true rfl) (by rw [← hQ_]; exact ⟨(by rw [rX9_row]; try simp only [if_neg c_1]), rfl⟩)
  · refine z_iconst dX9_row_10 k_iconst_m1 ?_
    exact z_ireturn dX9_row_11 rfl rfl (Nat.le_of_ble_eq_true rfl) (Nat.le_of_ble_eq_true rfl) (by rw [← hQ_]; exact ⟨(by rw [rX9_row]; try simp only [if_pos c_1]), rfl⟩)

theorem dX9_feed_24 : decode cX9_feed 24 = .ok (.iload_n 3, 1) := by decide +kernel
theorem dX9_feed_25 : decode cX9_feed 25 = .ok (.bipush 16, 2) := by decide +kernel
theorem dX9_feed_27 : decode cX9_feed 27 = .ok (.if_icmp .ge 37, 3) := by decide +kernel
theorem dX9_feed_30 : decode cX9_feed 30 = .ok (.aload_n 0, 1) := by decide +kernel
theorem dX9_feed_31 : decode cX9_feed 31 = .ok (.getfield 9, 3) := by decide +kernel
theorem dX9_feed_34 : decode cX9_feed 34 = .ok (.bipush 16, 2) := by decide +kernel
theorem dX9_feed_36 : decode cX9_feed 36 = .ok (.iload_n 1, 1) := by decide +kernel
theorem dX9_feed_37 : decode cX9_feed 37 = .ok (.imul, 1) := by decide +kernel
theorem dX9_feed_38 : decode cX9_feed 38 = .ok (.iload_n 3, 1) := by decide +kernel
theorem dX9_feed_39 : decode cX9_feed 39 = .ok (.iadd, 1) := by decide +kernel
theorem dX9_feed_40 : decode cX9_feed 40 = .ok (.iload_n 2, 1) := by decide +kernel
theorem dX9_feed_41 : decode cX9_feed 41 = .ok (.bipush 15, 2) := by decide +kernel
theorem dX9_feed_43 : decode cX9_feed 43 = .ok (.iload_n 3, 1) := by decide +kernel
theorem dX9_feed_44 : decode cX9_feed 44 = .ok (.isub, 1) := by decide +kernel
theorem dX9_feed_45 : decode cX9_feed 45 = .ok (.ishr, 1) := by decide +kernel
theorem dX9_feed_46 : decode cX9_feed 46 = .ok (.iconst 1, 1) := by decide +kernel
theorem dX9_feed_47 : decode cX9_feed 47 = .ok (.iand, 1) := by decide +kernel
theorem dX9_feed_48 : decode cX9_feed 48 = .ok (.iconst 1, 1) := by decide +kernel
theorem dX9_feed_49 : decode cX9_feed 49 = .ok (.if_icmp .ne 7, 3) := by decide +kernel
theorem dX9_feed_52 : decode cX9_feed 52 = .ok (.iconst 1, 1) := by decide +kernel
theorem dX9_feed_53 : decode cX9_feed 53 = .ok (.goto 4, 3) := by decide +kernel
theorem dX9_feed_56 : decode cX9_feed 56 = .ok (.iconst 0, 1) := by decide +kernel
theorem dX9_feed_57 : decode cX9_feed 57 = .ok (.bastore, 1) := by decide +kernel
theorem dX9_feed_58 : decode cX9_feed 58 = .ok (.iinc 3 1, 3) := by decide +kernel
theorem dX9_feed_61 : decode cX9_feed 61 = .ok (.goto (-37), 3) := by decide +kernel
theorem dX9_feed_64 : decode cX9_feed 64 = .ok (.aload_n 0, 1) := by decide +kernel
theorem dX9_feed_65 : decode cX9_feed 65 = .ok (.invokevirtual 101, 3) := by decide +kernel
noncomputable def fX9_feed_24 (l1 : Int32) (l2 : Int32) (i_ : Nat) (a_ : zc_N) : zc_N := (zu a_ 33 (zu (a_ 33) (((16 : Int32) * l1) + (nI i_)).toNatClampNeg (if ((zshr l2 ((15 : Int32) - (nI i_))) &&& (1 : Int32)) = (1 : Int32) then (1 : Int32) else (0 : Int32))))
def qX9_feed_24 (l1 : Int32) (i_ : Nat) (a_ : zc_N) : Prop := vp_in (((16 : Int32) * l1) + (nI i_)) 256
set_option maxHeartbeats 2000000 in
theorem lpX9_feed_24 {G : zc_G} {Q : Option Value → zc_H → Prop} (P : zp) (σ : zc_N) (l1 : Int32) (l2 : Int32) (W1_ : ∀ i24_ : Nat, i24_ < 16 → qX9_feed_24 l1 i24_ (zfor (fX9_feed_24 l1 l2) i24_ σ))
    (W2_ : zz G mX9_feed 1 0 0 Q 64 [some (.ref 32), none, none, none] [] (hh P (zfor (fX9_feed_24 l1 l2) 16 σ)) 0 0) :
    zz G mX9_feed 1 0 0 Q 24 [some (.ref 32), some (.int l1), some (.int l2), some (.int (nI 0))] [] (hh P σ) 0 0 := by
  refine zfor_nI (fun i_ a_ => zz G mX9_feed 1 0 0 Q 24 [some (.ref 32), some (.int l1), some (.int l2), some (.int i_)] [] (hh P a_) 0 0) (fX9_feed_24 l1 l2) 16 σ (fun i_ hi_ k_ => ?_) ?_
  · have W3_ := W1_ i_ hi_
    generalize zfor (fX9_feed_24 l1 l2) i_ σ = g_ at k_ W3_ ⊢
    rw [fX9_feed_24] at k_
    rw [qX9_feed_24] at W3_
    try dsimp only at W3_
    refine z_iload_n dX9_feed_24 rfl ?_
    refine z_bipush dX9_feed_25 k_bipush_16 ?_
    refine z_icmp_ge (tgt := 64) dX9_feed_27 (by decide) (fun c_ => absurd c_ (nI_ge hi_ (by decide))) (fun c_ => ?_)
    refine z_aloadr_n dX9_feed_30 rfl ?_
    refine z_get (ci := 9) (r := (RX9, TX9, 38)) (j := 0) (v := .ref 33) dX9_feed_31 (Nat.le_of_ble_eq_true rfl) (zN rfl) rfl rfl (Nat.le_of_ble_eq_true rfl) fl_X9_9 rfl ?_
    refine z_bipush dX9_feed_34 k_bipush_16 ?_
    refine z_iload_n dX9_feed_36 rfl ?_
    refine z_imul (v := ((16 : Int32) * l1)) dX9_feed_37 rfl ?_
    refine z_iload_n dX9_feed_38 rfl ?_
    refine z_iadd (v := (((16 : Int32) * l1) + (nI i_))) dX9_feed_39 rfl ?_
    refine z_iload_n dX9_feed_40 rfl ?_
    refine z_bipush dX9_feed_41 k_bipush_15 ?_
    refine z_iload_n dX9_feed_43 rfl ?_
    refine z_isub (v := ((15 : Int32) - (nI i_))) dX9_feed_44 rfl ?_
    refine z_ishr (v := (zshr l2 ((15 : Int32) - (nI i_)))) dX9_feed_45 rfl ?_
    refine z_iconst dX9_feed_46 k_iconst_1 ?_
    refine z_iand (v := ((zshr l2 ((15 : Int32) - (nI i_))) &&& (1 : Int32))) dX9_feed_47 rfl ?_
    refine z_iconst dX9_feed_48 k_iconst_1 ?_
    have K_1 : zz G mX9_feed 1 0 0 Q 57 [some (.ref 32), some (.int l1), some (.int l2), some (.int (nI i_))] [.int (if ((zshr l2 ((15 : Int32) - (nI i_))) &&& (1 : Int32)) = (1 : Int32) then (1 : Int32) else (0 : Int32)), .int (((16 : Int32) * l1) + (nI i_)), .ref 33] (hh P g_) 0 0 := by
      refine z_bast (σ' := (zu g_ 33 (zu (g_ 33) (((16 : Int32) * l1) + (nI i_)).toNatClampNeg (if ((zshr l2 ((15 : Int32) - (nI i_))) &&& (1 : Int32)) = (1 : Int32) then (1 : Int32) else (0 : Int32))))) dX9_feed_57 (Nat.le_of_ble_eq_true rfl) (zN rfl) rfl W3_ (by (repeat' split) <;> rfl) rfl ?_
      refine z_iinc (v := ((nI i_) + (1 : Int32))) (lv' := [some (.ref 32), some (.int l1), some (.int l2), some (.int ((nI i_) + (1 : Int32)))]) dX9_feed_58 (Nat.le_of_ble_eq_true rfl) rfl (by rw [k_iconst_1]) rfl ?_
      refine z_goto (tgt := 24) dX9_feed_61 (by decide) ?_
      rw [nI_1]
      exact k_
    refine z_icmp_ne (tgt := 56) dX9_feed_49 (by decide) (fun c_2 => ?_) (fun c_2 => ?_)
    · refine z_iconst dX9_feed_56 k_iconst_0 ?_
      rw [show (if ((zshr l2 ((15 : Int32) - (nI i_))) &&& (1 : Int32)) = (1 : Int32) then (1 : Int32) else (0 : Int32)) = (0 : Int32) from (if_neg c_2)] at K_1
      exact K_1
    · refine z_iconst dX9_feed_52 k_iconst_1 ?_
      refine z_goto (tgt := 57) dX9_feed_53 (by decide) ?_
      rw [show (if ((zshr l2 ((15 : Int32) - (nI i_))) &&& (1 : Int32)) = (1 : Int32) then (1 : Int32) else (0 : Int32)) = (1 : Int32) from (if_pos c_2)] at K_1
      exact K_1
  · generalize zfor (fX9_feed_24 l1 l2) 16 σ = g_ at W2_ ⊢
    refine z_iload_n dX9_feed_24 rfl ?_
    refine z_bipush dX9_feed_25 k_bipush_16 ?_
    refine z_icmp_ge (tgt := 64) dX9_feed_27 (by decide) (fun c_ => ?_) (fun c_ => absurd (by decide) c_)
    exact zz_sub (lv' := [some (.ref 32), none, none, none]) ⟨rfl, trivial⟩ W2_

theorem dX9_feed_0 : decode cX9_feed 0 = .ok (.iload_n 1, 1) := by decide +kernel
theorem dX9_feed_1 : decode cX9_feed 1 = .ok (.iconst 0, 1) := by decide +kernel
theorem dX9_feed_2 : decode cX9_feed 2 = .ok (.bipush 15, 2) := by decide +kernel
theorem dX9_feed_4 : decode cX9_feed 4 = .ok (.invokestatic 96, 3) := by decide +kernel
theorem dX9_feed_7 : decode cX9_feed 7 = .ok (.ifCond .eq 13, 3) := by decide +kernel
theorem dX9_feed_10 : decode cX9_feed 10 = .ok (.iload_n 2, 1) := by decide +kernel
theorem dX9_feed_11 : decode cX9_feed 11 = .ok (.iconst 0, 1) := by decide +kernel
theorem dX9_feed_12 : decode cX9_feed 12 = .ok (.ldc 100, 2) := by decide +kernel
theorem dX9_feed_14 : decode cX9_feed 14 = .ok (.invokestatic 96, 3) := by decide +kernel
theorem dX9_feed_17 : decode cX9_feed 17 = .ok (.ifCond .ne 5, 3) := by decide +kernel
theorem dX9_feed_20 : decode cX9_feed 20 = .ok (.iconst (-1), 1) := by decide +kernel
theorem dX9_feed_21 : decode cX9_feed 21 = .ok (.ireturn, 1) := by decide +kernel
theorem dX9_feed_22 : decode cX9_feed 22 = .ok (.iconst 0, 1) := by decide +kernel
theorem dX9_feed_23 : decode cX9_feed 23 = .ok (.istore_n 3, 1) := by decide +kernel
theorem dX9_feed_68 : decode cX9_feed 68 = .ok (.ireturn, 1) := by decide +kernel
def pX9_feed (σ : zc_N) (a1 : Int32) (a2 : Int32) : Prop := (((rX9_within a1 (0 : Int32) (15 : Int32)) = (0 : Int32) → True) ∧ (¬ (rX9_within a1 (0 : Int32) (15 : Int32)) = (0 : Int32) → (((rX9_within a2 (0 : Int32) (65535 : Int32)) = (0 : Int32) → True) ∧ (¬ (rX9_within a2 (0 : Int32) (65535 : Int32)) = (0 : Int32) → (∀ i24_ : Nat, i24_ < 16 → qX9_feed_24 a1 i24_ (zfor (fX9_feed_24 a1 a2) i24_ σ))))))
noncomputable def rX9_feed (σ : zc_N) (a1 : Int32) (a2 : Int32) : Int32 := (if (rX9_within a1 (0 : Int32) (15 : Int32)) = (0 : Int32) then (-1 : Int32) else (if (rX9_within a2 (0 : Int32) (65535 : Int32)) = (0 : Int32) then (-1 : Int32) else (rX9_darkMany (zfor (fX9_feed_24 a1 a2) 16 σ))))
noncomputable def sX9_feed (σ : zc_N) (a1 : Int32) (a2 : Int32) : zc_N := (if (rX9_within a1 (0 : Int32) (15 : Int32)) = (0 : Int32) then σ else (if (rX9_within a2 (0 : Int32) (65535 : Int32)) = (0 : Int32) then σ else (zfor (fX9_feed_24 a1 a2) 16 σ)))
set_option maxHeartbeats 1000000 in
theorem ctX9_feed (P : zp) (σ : zc_N) (a1 : Int32) (a2 : Int32) (W_ : (pX9_feed σ a1 a2)) : sp mX9_feed 1 0 0 [.ref 32, .int a1, .int a2] (hh P σ) (fun r_ h_ => r_ = some (.int (rX9_feed σ a1 a2)) ∧ h_ = hh P (sX9_feed σ a1 a2)) := by
  refine sp_of (lv := [some (.ref 32), some (.int a1), some (.int a2), none]) (by decide) (zcats_ok _ rfl) (Nat.le_of_ble_eq_true rfl) (zlv_ok _ 1 rfl) (fun G => ?_)
  generalize hQ_ : (fun (r_ : Option Value) (h_ : zc_H) => r_ = some (.int (rX9_feed σ a1 a2)) ∧ h_ = hh P (sX9_feed σ a1 a2)) = Q_
  unfold pX9_feed at W_
  refine z_iload_n dX9_feed_0 rfl ?_
  refine z_iconst dX9_feed_1 k_iconst_0 ?_
  refine z_bipush dX9_feed_2 k_bipush_15 ?_
  refine z_callS (As := [.int a1, .int (0 : Int32), .int (15 : Int32)]) (rest := []) (ctX9_within P σ a1 (0 : Int32) (15 : Int32)) dX9_feed_4 lk_X9_96 ls_X9_within rfl (Nat.le_of_ble_eq_true rfl) (Nat.le_of_ble_eq_true rfl) (Nat.le_of_ble_eq_true rfl) (Nat.le_of_ble_eq_true rfl) (fun r_ h_ e_ => ?_)
  obtain ⟨e1_, e2_⟩ := e_
  subst e1_
  subst e2_
  show zz G mX9_feed 1 0 0 Q_ 7 [some (.ref 32), some (.int a1), some (.int a2), none] [.int (rX9_within a1 (0 : Int32) (15 : Int32))] (hh P σ) 0 0
  refine z_if_eq (tgt := 20) dX9_feed_7 (by decide) (fun c_1 => ?_) (fun c_1 => ?_)
  · refine z_iconst dX9_feed_20 k_iconst_m1 ?_
    exact z_ireturn dX9_feed_21 rfl rfl (Nat.le_of_ble_eq_true rfl) (Nat.le_of_ble_eq_true rfl) (by rw [← hQ_]; exact ⟨(by rw [rX9_feed]; try simp only [if_pos c_1]), (by rw [sX9_feed]; try simp only [if_pos c_1])⟩)
  · refine z_iload_n dX9_feed_10 rfl ?_
    refine z_iconst dX9_feed_11 k_iconst_0 ?_
    refine z_ldc dX9_feed_12 ck_X9_100 ?_
    refine z_callS (As := [.int a2, .int (0 : Int32), .int (65535 : Int32)]) (rest := []) (ctX9_within P σ a2 (0 : Int32) (65535 : Int32)) dX9_feed_14 lk_X9_96 ls_X9_within rfl (Nat.le_of_ble_eq_true rfl) (Nat.le_of_ble_eq_true rfl) (Nat.le_of_ble_eq_true rfl) (Nat.le_of_ble_eq_true rfl) (fun r_ h_ e_ => ?_)
    obtain ⟨e1_, e2_⟩ := e_
    subst e1_
    subst e2_
    show zz G mX9_feed 1 0 0 Q_ 17 [some (.ref 32), some (.int a1), some (.int a2), none] [.int (rX9_within a2 (0 : Int32) (65535 : Int32))] (hh P σ) 0 0
    refine z_if_ne (tgt := 22) dX9_feed_17 (by decide) (fun c_2 => ?_) (fun c_2 => ?_)
    · refine z_iconst dX9_feed_22 k_iconst_0 ?_
      refine z_istore_n (lv' := [some (.ref 32), some (.int a1), some (.int a2), some (.int (0 : Int32))]) dX9_feed_23 (Nat.le_of_ble_eq_true rfl) rfl ?_
      refine lpX9_feed_24 P σ a1 a2 ((W_.2 c_1).2 c_2) ?_
      show zz G mX9_feed 1 0 0 Q_ 64 [some (.ref 32), none, none, none] [] (hh P (zfor (fX9_feed_24 a1 a2) 16 σ)) 0 0
      refine z_aloadr_n dX9_feed_64 rfl ?_
      refine z_callV (ci := 9) (r := (RX9, TX9, 38)) (b := 32) (As := []) (rest := []) (ctX9_darkMany P (zfor (fX9_feed_24 a1 a2) 16 σ)) dX9_feed_65 lk_X9_101 lv_X9_darkMany (Nat.le_of_ble_eq_true rfl) (zN rfl) rfl rfl rfl rfl (Nat.le_of_ble_eq_true rfl) (Nat.le_of_ble_eq_true rfl) (Nat.le_of_ble_eq_true rfl) (Nat.le_of_ble_eq_true rfl) (fun r_ h_ e_ => ?_)
      obtain ⟨e1_, e2_⟩ := e_
      subst e1_
      subst e2_
      show zz G mX9_feed 1 0 0 Q_ 68 [some (.ref 32), none, none, none] [.int (rX9_darkMany (zfor (fX9_feed_24 a1 a2) 16 σ))] (hh P (zfor (fX9_feed_24 a1 a2) 16 σ)) 0 0
      exact z_ireturn dX9_feed_68 rfl rfl (Nat.le_of_ble_eq_true rfl) (Nat.le_of_ble_eq_true rfl) (by rw [← hQ_]; exact ⟨(by rw [rX9_feed]; try simp only [if_neg c_1, if_neg c_2]), (by rw [sX9_feed]; try simp only [if_neg c_1, if_neg c_2])⟩)
    · refine z_iconst dX9_feed_20 k_iconst_m1 ?_
      exact z_ireturn dX9_feed_21 rfl rfl (Nat.le_of_ble_eq_true rfl) (Nat.le_of_ble_eq_true rfl) (by rw [← hQ_]; exact ⟨(by rw [rX9_feed]; try simp only [if_neg c_1, if_pos c_2]), (by rw [sX9_feed]; try simp only [if_neg c_1, if_pos c_2])⟩)

theorem dX9_neighbours_20 : decode cX9_neighbours 20 = .ok (.iload 5, 2) := by decide +kernel
theorem dX9_neighbours_22 : decode cX9_neighbours 22 = .ok (.iload_n 1, 1) := by decide +kernel
theorem dX9_neighbours_23 : decode cX9_neighbours 23 = .ok (.iconst 1, 1) := by decide +kernel
theorem dX9_neighbours_24 : decode cX9_neighbours 24 = .ok (.iadd, 1) := by decide +kernel
theorem dX9_neighbours_25 : decode cX9_neighbours 25 = .ok (.if_icmp .gt 40, 3) := by decide +kernel
theorem dX9_neighbours_28 : decode cX9_neighbours 28 = .ok (.iload_n 3, 1) := by decide +kernel
theorem dX9_neighbours_29 : decode cX9_neighbours 29 = .ok (.iload 5, 2) := by decide +kernel
theorem dX9_neighbours_31 : decode cX9_neighbours 31 = .ok (.iload_n 1, 1) := by decide +kernel
theorem dX9_neighbours_32 : decode cX9_neighbours 32 = .ok (.if_icmp .ne 9, 3) := by decide +kernel
theorem dX9_neighbours_35 : decode cX9_neighbours 35 = .ok (.iload 4, 2) := by decide +kernel
theorem dX9_neighbours_37 : decode cX9_neighbours 37 = .ok (.iload_n 2, 1) := by decide +kernel
theorem dX9_neighbours_38 : decode cX9_neighbours 38 = .ok (.if_icmp .eq 18, 3) := by decide +kernel
theorem dX9_neighbours_41 : decode cX9_neighbours 41 = .ok (.aload_n 0, 1) := by decide +kernel
theorem dX9_neighbours_42 : decode cX9_neighbours 42 = .ok (.iload 5, 2) := by decide +kernel
theorem dX9_neighbours_44 : decode cX9_neighbours 44 = .ok (.iload 4, 2) := by decide +kernel
theorem dX9_neighbours_46 : decode cX9_neighbours 46 = .ok (.invokevirtual 105, 3) := by decide +kernel
theorem dX9_neighbours_49 : decode cX9_neighbours 49 = .ok (.ifCond .eq 7, 3) := by decide +kernel
theorem dX9_neighbours_52 : decode cX9_neighbours 52 = .ok (.iconst 1, 1) := by decide +kernel
theorem dX9_neighbours_53 : decode cX9_neighbours 53 = .ok (.goto 4, 3) := by decide +kernel
theorem dX9_neighbours_56 : decode cX9_neighbours 56 = .ok (.iconst 0, 1) := by decide +kernel
theorem dX9_neighbours_57 : decode cX9_neighbours 57 = .ok (.iadd, 1) := by decide +kernel
theorem dX9_neighbours_58 : decode cX9_neighbours 58 = .ok (.istore_n 3, 1) := by decide +kernel
theorem dX9_neighbours_59 : decode cX9_neighbours 59 = .ok (.iinc 5 1, 3) := by decide +kernel
theorem dX9_neighbours_62 : decode cX9_neighbours 62 = .ok (.goto (-42), 3) := by decide +kernel
theorem dX9_neighbours_65 : decode cX9_neighbours 65 = .ok (.iinc 4 1, 3) := by decide +kernel
theorem dX9_neighbours_68 : decode cX9_neighbours 68 = .ok (.goto (-61), 3) := by decide +kernel
noncomputable def vX9_neighbours_1 (l1 : Int32) (l2 : Int32) (l3 : Int32) (l4 : Int32) (l5 : Int32) (σ : zc_N) : Int32 := (l3 + (if l5 = l1 then (if l4 = l2 then (0 : Int32) else (if (rX9_isDark σ l5 l4) = (0 : Int32) then (0 : Int32) else (1 : Int32))) else (if (rX9_isDark σ l5 l4) = (0 : Int32) then (0 : Int32) else (1 : Int32))))
noncomputable def fX9_neighbours_20 (σ : zc_N) (l1 : Int32) (l2 : Int32) (l4 : Int32) (s_ : Int32) (i_ : Nat) (a_ : Int32) : Int32 := (vX9_neighbours_1 l1 l2 a_ l4 (s_ + nI i_) σ)
set_option maxHeartbeats 2000000 in
theorem lpX9_neighbours_20 {G : zc_G} {Q : Option Value → zc_H → Prop} (P : zp) (σ : zc_N) (l1 : Int32) (l2 : Int32) (l3 : Int32) (l4 : Int32) (s_ : Int32) (n_ : Nat) (hC_ : ∀ i20_ : Nat, i20_ ≤ n_ → ((l1 + (1 : Int32)) < (s_ + nI i20_) ↔ n_ ≤ i20_))
    (W2_ : zz G mX9_neighbours 1 0 0 Q 65 [some (.ref 32), some (.int l1), some (.int l2), some (.int (zfor (fX9_neighbours_20 σ l1 l2 l4 s_) n_ l3)), some (.int l4), none] [] (hh P σ) 0 0) :
    zz G mX9_neighbours 1 0 0 Q 20 [some (.ref 32), some (.int l1), some (.int l2), some (.int l3), some (.int l4), some (.int s_)] [] (hh P σ) 0 0 := by
  refine zfor_sI (fun i_ a_ => zz G mX9_neighbours 1 0 0 Q 20 [some (.ref 32), some (.int l1), some (.int l2), some (.int a_), some (.int l4), some (.int i_)] [] (hh P σ) 0 0) (fX9_neighbours_20 σ l1 l2 l4 s_) s_ n_ l3 (fun i_ hi_ k_ => ?_) ?_
  · have hD_ := hC_ i_ (Nat.le_of_lt hi_)
    generalize zfor (fX9_neighbours_20 σ l1 l2 l4 s_) i_ l3 = g_ at k_ hD_ ⊢
    rw [fX9_neighbours_20] at k_
    refine z_iload dX9_neighbours_20 rfl ?_
    refine z_iload_n dX9_neighbours_22 rfl ?_
    refine z_iconst dX9_neighbours_23 k_iconst_1 ?_
    refine z_iadd (v := (l1 + (1 : Int32))) dX9_neighbours_24 rfl ?_
    refine z_icmp_gt (tgt := 65) dX9_neighbours_25 (by decide) (fun c_ => absurd c_ (fun q_ => Nat.not_le_of_lt hi_ (hD_.mp q_))) (fun c_ => ?_)
    refine z_iload_n dX9_neighbours_28 rfl ?_
    refine z_iload dX9_neighbours_29 rfl ?_
    refine z_iload_n dX9_neighbours_31 rfl ?_
    have K_1 : zz G mX9_neighbours 1 0 0 Q 57 [some (.ref 32), some (.int l1), some (.int l2), none, some (.int l4), some (.int (s_ + nI i_))] [.int (if (s_ + nI i_) = l1 then (if l4 = l2 then (0 : Int32) else (if (rX9_isDark σ (s_ + nI i_) l4) = (0 : Int32) then (0 : Int32) else (1 : Int32))) else (if (rX9_isDark σ (s_ + nI i_) l4) = (0 : Int32) then (0 : Int32) else (1 : Int32))), .int g_] (hh P σ) 0 0 := by
      refine z_iadd (v := (g_ + (if (s_ + nI i_) = l1 then (if l4 = l2 then (0 : Int32) else (if (rX9_isDark σ (s_ + nI i_) l4) = (0 : Int32) then (0 : Int32) else (1 : Int32))) else (if (rX9_isDark σ (s_ + nI i_) l4) = (0 : Int32) then (0 : Int32) else (1 : Int32))))) dX9_neighbours_57 rfl ?_
      refine z_istore_n (lv' := [some (.ref 32), some (.int l1), some (.int l2), some (.int (vX9_neighbours_1 l1 l2 g_ l4 (s_ + nI i_) σ)), some (.int l4), some (.int (s_ + nI i_))]) dX9_neighbours_58 (Nat.le_of_ble_eq_true rfl) rfl ?_
      refine z_iinc (v := ((s_ + nI i_) + (1 : Int32))) (lv' := [some (.ref 32), some (.int l1), some (.int l2), some (.int (vX9_neighbours_1 l1 l2 g_ l4 (s_ + nI i_) σ)), some (.int l4), some (.int ((s_ + nI i_) + (1 : Int32)))]) dX9_neighbours_59 (Nat.le_of_ble_eq_true rfl) rfl (by rw [k_iconst_1]) rfl ?_
      refine z_goto (tgt := 20) dX9_neighbours_62 (by decide) ?_
      rw [nS_1]
      exact k_
    refine z_icmp_ne (tgt := 41) dX9_neighbours_32 (by decide) (fun c_2 => ?_) (fun c_2 => ?_)
    · refine z_aloadr_n dX9_neighbours_41 rfl ?_
      refine z_iload dX9_neighbours_42 rfl ?_
      refine z_iload dX9_neighbours_44 rfl ?_
      refine z_callV (ci := 9) (r := (RX9, TX9, 38)) (b := 32) (As := [.int (s_ + nI i_), .int l4]) (rest := [.int g_]) (ctX9_isDark P σ (s_ + nI i_) l4 (pzX9_isDark P σ (s_ + nI i_) l4)) dX9_neighbours_46 lk_X9_105 lv_X9_isDark (Nat.le_of_ble_eq_true rfl) (zN rfl) rfl rfl rfl rfl (Nat.le_of_ble_eq_true rfl) (Nat.le_of_ble_eq_true rfl) (Nat.le_of_ble_eq_true rfl) (Nat.le_of_ble_eq_true rfl) (fun r_ h_ e_ => ?_)
      obtain ⟨e1_, e2_⟩ := e_
      subst e1_
      subst e2_
      show zz G mX9_neighbours 1 0 0 Q 49 [some (.ref 32), some (.int l1), some (.int l2), some (.int g_), some (.int l4), some (.int (s_ + nI i_))] [.int (rX9_isDark σ (s_ + nI i_) l4), .int g_] (hh P σ) 0 0
      refine z_if_eq (tgt := 56) dX9_neighbours_49 (by decide) (fun c_3 => ?_) (fun c_3 => ?_)
      · refine z_iconst dX9_neighbours_56 k_iconst_0 ?_
        refine zz_sub (lv' := [some (.ref 32), some (.int l1), some (.int l2), none, some (.int l4), some (.int (s_ + nI i_))]) ⟨rfl, ⟨rfl, ⟨rfl, ⟨rfl, ⟨rfl, trivial⟩⟩⟩⟩⟩ ?_
        rw [show (if (s_ + nI i_) = l1 then (if l4 = l2 then (0 : Int32) else (if (rX9_isDark σ (s_ + nI i_) l4) = (0 : Int32) then (0 : Int32) else (1 : Int32))) else (if (rX9_isDark σ (s_ + nI i_) l4) = (0 : Int32) then (0 : Int32) else (1 : Int32))) = (0 : Int32) from ((if_neg c_2).trans (if_pos c_3))] at K_1
        exact K_1
      · refine z_iconst dX9_neighbours_52 k_iconst_1 ?_
        refine z_goto (tgt := 57) dX9_neighbours_53 (by decide) ?_
        refine zz_sub (lv' := [some (.ref 32), some (.int l1), some (.int l2), none, some (.int l4), some (.int (s_ + nI i_))]) ⟨rfl, ⟨rfl, ⟨rfl, ⟨rfl, ⟨rfl, trivial⟩⟩⟩⟩⟩ ?_
        rw [show (if (s_ + nI i_) = l1 then (if l4 = l2 then (0 : Int32) else (if (rX9_isDark σ (s_ + nI i_) l4) = (0 : Int32) then (0 : Int32) else (1 : Int32))) else (if (rX9_isDark σ (s_ + nI i_) l4) = (0 : Int32) then (0 : Int32) else (1 : Int32))) = (1 : Int32) from ((if_neg c_2).trans (if_neg c_3))] at K_1
        exact K_1
    · refine z_iload dX9_neighbours_35 rfl ?_
      refine z_iload_n dX9_neighbours_37 rfl ?_
      refine z_icmp_eq (tgt := 56) dX9_neighbours_38 (by decide) (fun c_4 => ?_) (fun c_4 => ?_)
      · refine z_iconst dX9_neighbours_56 k_iconst_0 ?_
        refine zz_sub (lv' := [some (.ref 32), some (.int l1), some (.int l2), none, some (.int l4), some (.int (s_ + nI i_))]) ⟨rfl, ⟨rfl, ⟨rfl, ⟨rfl, ⟨rfl, trivial⟩⟩⟩⟩⟩ ?_
        rw [show (if (s_ + nI i_) = l1 then (if l4 = l2 then (0 : Int32) else (if (rX9_isDark σ (s_ + nI i_) l4) = (0 : Int32) then (0 : Int32) else (1 : Int32))) else (if (rX9_isDark σ (s_ + nI i_) l4) = (0 : Int32) then (0 : Int32) else (1 : Int32))) = (0 : Int32) from ((if_pos c_2).trans (if_pos c_4))] at K_1
        exact K_1
      · refine z_aloadr_n dX9_neighbours_41 rfl ?_
        refine z_iload dX9_neighbours_42 rfl ?_
        refine z_iload dX9_neighbours_44 rfl ?_
        refine z_callV (ci := 9) (r := (RX9, TX9, 38)) (b := 32) (As := [.int (s_ + nI i_), .int l4]) (rest := [.int g_]) (ctX9_isDark P σ (s_ + nI i_) l4 (pzX9_isDark P σ (s_ + nI i_) l4)) dX9_neighbours_46 lk_X9_105 lv_X9_isDark (Nat.le_of_ble_eq_true rfl) (zN rfl) rfl rfl rfl rfl (Nat.le_of_ble_eq_true rfl) (Nat.le_of_ble_eq_true rfl) (Nat.le_of_ble_eq_true rfl) (Nat.le_of_ble_eq_true rfl) (fun r_ h_ e_ => ?_)
        obtain ⟨e1_, e2_⟩ := e_
        subst e1_
        subst e2_
        show zz G mX9_neighbours 1 0 0 Q 49 [some (.ref 32), some (.int l1), some (.int l2), some (.int g_), some (.int l4), some (.int (s_ + nI i_))] [.int (rX9_isDark σ (s_ + nI i_) l4), .int g_] (hh P σ) 0 0
        refine z_if_eq (tgt := 56) dX9_neighbours_49 (by decide) (fun c_5 => ?_) (fun c_5 => ?_)
        · refine z_iconst dX9_neighbours_56 k_iconst_0 ?_
          refine zz_sub (lv' := [some (.ref 32), some (.int l1), some (.int l2), none, some (.int l4), some (.int (s_ + nI i_))]) ⟨rfl, ⟨rfl, ⟨rfl, ⟨rfl, ⟨rfl, trivial⟩⟩⟩⟩⟩ ?_
          rw [show (if (s_ + nI i_) = l1 then (if l4 = l2 then (0 : Int32) else (if (rX9_isDark σ (s_ + nI i_) l4) = (0 : Int32) then (0 : Int32) else (1 : Int32))) else (if (rX9_isDark σ (s_ + nI i_) l4) = (0 : Int32) then (0 : Int32) else (1 : Int32))) = (0 : Int32) from ((if_pos c_2).trans ((if_neg c_4).trans (if_pos c_5)))] at K_1
          exact K_1
        · refine z_iconst dX9_neighbours_52 k_iconst_1 ?_
          refine z_goto (tgt := 57) dX9_neighbours_53 (by decide) ?_
          refine zz_sub (lv' := [some (.ref 32), some (.int l1), some (.int l2), none, some (.int l4), some (.int (s_ + nI i_))]) ⟨rfl, ⟨rfl, ⟨rfl, ⟨rfl, ⟨rfl, trivial⟩⟩⟩⟩⟩ ?_
          rw [show (if (s_ + nI i_) = l1 then (if l4 = l2 then (0 : Int32) else (if (rX9_isDark σ (s_ + nI i_) l4) = (0 : Int32) then (0 : Int32) else (1 : Int32))) else (if (rX9_isDark σ (s_ + nI i_) l4) = (0 : Int32) then (0 : Int32) else (1 : Int32))) = (1 : Int32) from ((if_pos c_2).trans ((if_neg c_4).trans (if_neg c_5)))] at K_1
          exact K_1
  · have hD_ := hC_ n_ (Nat.le_refl _)
    generalize zfor (fX9_neighbours_20 σ l1 l2 l4 s_) n_ l3 = g_ at W2_ hD_ ⊢
    refine z_iload dX9_neighbours_20 rfl ?_
    refine z_iload_n dX9_neighbours_22 rfl ?_
    refine z_iconst dX9_neighbours_23 k_iconst_1 ?_
    refine z_iadd (v := (l1 + (1 : Int32))) dX9_neighbours_24 rfl ?_
    refine z_icmp_gt (tgt := 65) dX9_neighbours_25 (by decide) (fun c_ => ?_) (fun c_ => absurd (hD_.mpr (Nat.le_refl _)) c_)
    exact zz_sub (lv' := [some (.ref 32), some (.int l1), some (.int l2), some (.int g_), some (.int l4), none]) ⟨rfl, ⟨rfl, ⟨rfl, ⟨rfl, ⟨rfl, trivial⟩⟩⟩⟩⟩ W2_

theorem dX9_neighbours_7 : decode cX9_neighbours 7 = .ok (.iload 4, 2) := by decide +kernel
theorem dX9_neighbours_9 : decode cX9_neighbours 9 = .ok (.iload_n 2, 1) := by decide +kernel
theorem dX9_neighbours_10 : decode cX9_neighbours 10 = .ok (.iconst 1, 1) := by decide +kernel
theorem dX9_neighbours_11 : decode cX9_neighbours 11 = .ok (.iadd, 1) := by decide +kernel
theorem dX9_neighbours_12 : decode cX9_neighbours 12 = .ok (.if_icmp .gt 59, 3) := by decide +kernel
theorem dX9_neighbours_15 : decode cX9_neighbours 15 = .ok (.iload_n 1, 1) := by decide +kernel
theorem dX9_neighbours_16 : decode cX9_neighbours 16 = .ok (.iconst 1, 1) := by decide +kernel
theorem dX9_neighbours_17 : decode cX9_neighbours 17 = .ok (.isub, 1) := by decide +kernel
theorem dX9_neighbours_18 : decode cX9_neighbours 18 = .ok (.istore 5, 2) := by decide +kernel
theorem dX9_neighbours_71 : decode cX9_neighbours 71 = .ok (.iload_n 3, 1) := by decide +kernel
noncomputable def vX9_neighbours_2 (l1 : Int32) (l2 : Int32) (l3 : Int32) (l4 : Int32) (σ : zc_N) : Int32 := (zfor (fX9_neighbours_20 σ l1 l2 l4 (l1 - (1 : Int32))) (((l1 + (1 : Int32)) + (1 : Int32) - (l1 - (1 : Int32))).toNatClampNeg) l3)
noncomputable def fX9_neighbours_7 (σ : zc_N) (l1 : Int32) (l2 : Int32) (s_ : Int32) (i_ : Nat) (a_ : Int32) : Int32 := (vX9_neighbours_2 l1 l2 a_ (s_ + nI i_) σ)
def qX9_neighbours_7 (l1 : Int32) (i_ : Nat) (a_ : Int32) : Prop := (∀ i20_ : Nat, i20_ ≤ (((l1 + (1 : Int32)) + (1 : Int32) - (l1 - (1 : Int32))).toNatClampNeg) → ((l1 + (1 : Int32)) < ((l1 - (1 : Int32)) + nI i20_) ↔ (((l1 + (1 : Int32)) + (1 : Int32) - (l1 - (1 : Int32))).toNatClampNeg) ≤ i20_))
set_option maxHeartbeats 2000000 in
theorem lpX9_neighbours_7 {G : zc_G} {Q : Option Value → zc_H → Prop} (P : zp) (σ : zc_N) (l1 : Int32) (l2 : Int32) (l3 : Int32) (s_ : Int32) (n_ : Nat) (hC_ : ∀ i7_ : Nat, i7_ ≤ n_ → ((l2 + (1 : Int32)) < (s_ + nI i7_) ↔ n_ ≤ i7_)) (W1_ : ∀ i7_ : Nat, i7_ < n_ → qX9_neighbours_7 l1 i7_ (zfor (fX9_neighbours_7 σ l1 l2 s_) i7_ l3))
    (W2_ : zz G mX9_neighbours 1 0 0 Q 71 [none, none, none, some (.int (zfor (fX9_neighbours_7 σ l1 l2 s_) n_ l3)), none, none] [] (hh P σ) 0 0) :
    zz G mX9_neighbours 1 0 0 Q 7 [some (.ref 32), some (.int l1), some (.int l2), some (.int l3), some (.int s_), none] [] (hh P σ) 0 0 := by
  refine zfor_sI (fun i_ a_ => zz G mX9_neighbours 1 0 0 Q 7 [some (.ref 32), some (.int l1), some (.int l2), some (.int a_), some (.int i_), none] [] (hh P σ) 0 0) (fX9_neighbours_7 σ l1 l2 s_) s_ n_ l3 (fun i_ hi_ k_ => ?_) ?_
  · have W3_ := W1_ i_ hi_
    have hD_ := hC_ i_ (Nat.le_of_lt hi_)
    generalize zfor (fX9_neighbours_7 σ l1 l2 s_) i_ l3 = g_ at k_ W3_ hD_ ⊢
    rw [fX9_neighbours_7] at k_
    rw [qX9_neighbours_7] at W3_
    try dsimp only at W3_
    refine z_iload dX9_neighbours_7 rfl ?_
    refine z_iload_n dX9_neighbours_9 rfl ?_
    refine z_iconst dX9_neighbours_10 k_iconst_1 ?_
    refine z_iadd (v := (l2 + (1 : Int32))) dX9_neighbours_11 rfl ?_
    refine z_icmp_gt (tgt := 71) dX9_neighbours_12 (by decide) (fun c_ => absurd c_ (fun q_ => Nat.not_le_of_lt hi_ (hD_.mp q_))) (fun c_ => ?_)
    refine z_iload_n dX9_neighbours_15 rfl ?_
    refine z_iconst dX9_neighbours_16 k_iconst_1 ?_
    refine z_isub (v := (l1 - (1 : Int32))) dX9_neighbours_17 rfl ?_
    refine z_istore (lv' := [some (.ref 32), some (.int l1), some (.int l2), some (.int g_), some (.int (s_ + nI i_)), some (.int (l1 - (1 : Int32)))]) dX9_neighbours_18 (Nat.le_of_ble_eq_true rfl) rfl ?_
    refine lpX9_neighbours_20 P σ l1 l2 g_ (s_ + nI i_) (l1 - (1 : Int32)) (((l1 + (1 : Int32)) + (1 : Int32) - (l1 - (1 : Int32))).toNatClampNeg) W3_ ?_
    show zz G mX9_neighbours 1 0 0 Q 65 [some (.ref 32), some (.int l1), some (.int l2), some (.int (vX9_neighbours_2 l1 l2 g_ (s_ + nI i_) σ)), some (.int (s_ + nI i_)), none] [] (hh P σ) 0 0
    refine z_iinc (v := ((s_ + nI i_) + (1 : Int32))) (lv' := [some (.ref 32), some (.int l1), some (.int l2), some (.int (vX9_neighbours_2 l1 l2 g_ (s_ + nI i_) σ)), some (.int ((s_ + nI i_) + (1 : Int32))), none]) dX9_neighbours_65 (Nat.le_of_ble_eq_true rfl) rfl (by rw [k_iconst_1]) rfl ?_
    refine z_goto (tgt := 7) dX9_neighbours_68 (by decide) ?_
    rw [nS_1]
    exact k_
  · have hD_ := hC_ n_ (Nat.le_refl _)
    generalize zfor (fX9_neighbours_7 σ l1 l2 s_) n_ l3 = g_ at W2_ hD_ ⊢
    refine z_iload dX9_neighbours_7 rfl ?_
    refine z_iload_n dX9_neighbours_9 rfl ?_
    refine z_iconst dX9_neighbours_10 k_iconst_1 ?_
    refine z_iadd (v := (l2 + (1 : Int32))) dX9_neighbours_11 rfl ?_
    refine z_icmp_gt (tgt := 71) dX9_neighbours_12 (by decide) (fun c_ => ?_) (fun c_ => absurd (hD_.mpr (Nat.le_refl _)) c_)
    exact zz_sub (lv' := [none, none, none, some (.int g_), none, none]) ⟨rfl, trivial⟩ W2_

theorem dX9_neighbours_0 : decode cX9_neighbours 0 = .ok (.iconst 0, 1) := by decide +kernel
theorem dX9_neighbours_1 : decode cX9_neighbours 1 = .ok (.istore_n 3, 1) := by decide +kernel
theorem dX9_neighbours_2 : decode cX9_neighbours 2 = .ok (.iload_n 2, 1) := by decide +kernel
theorem dX9_neighbours_3 : decode cX9_neighbours 3 = .ok (.iconst 1, 1) := by decide +kernel
theorem dX9_neighbours_4 : decode cX9_neighbours 4 = .ok (.isub, 1) := by decide +kernel
theorem dX9_neighbours_5 : decode cX9_neighbours 5 = .ok (.istore 4, 2) := by decide +kernel
theorem dX9_neighbours_72 : decode cX9_neighbours 72 = .ok (.ireturn, 1) := by decide +kernel
noncomputable def vX9_neighbours_3 (a1 : Int32) (a2 : Int32) (σ : zc_N) : Int32 := (zfor (fX9_neighbours_7 σ a1 a2 (a2 - (1 : Int32))) (((a2 + (1 : Int32)) + (1 : Int32) - (a2 - (1 : Int32))).toNatClampNeg) (0 : Int32))
def pX9_neighbours (σ : zc_N) (a1 : Int32) (a2 : Int32) : Prop := ((∀ i7_ : Nat, i7_ ≤ (((a2 + (1 : Int32)) + (1 : Int32) - (a2 - (1 : Int32))).toNatClampNeg) → ((a2 + (1 : Int32)) < ((a2 - (1 : Int32)) + nI i7_) ↔ (((a2 + (1 : Int32)) + (1 : Int32) - (a2 - (1 : Int32))).toNatClampNeg) ≤ i7_)) ∧ (∀ i7_ : Nat, i7_ < (((a2 + (1 : Int32)) + (1 : Int32) - (a2 - (1 : Int32))).toNatClampNeg) → qX9_neighbours_7 a1 i7_ (zfor (fX9_neighbours_7 σ a1 a2 (a2 - (1 : Int32))) i7_ (0 : Int32))))
noncomputable def rX9_neighbours (σ : zc_N) (a1 : Int32) (a2 : Int32) : Int32 := (vX9_neighbours_3 a1 a2 σ)
set_option maxHeartbeats 1000000 in
theorem ctX9_neighbours (P : zp) (σ : zc_N) (a1 : Int32) (a2 : Int32) (W_ : (pX9_neighbours σ a1 a2)) : sp mX9_neighbours 1 0 0 [.ref 32, .int a1, .int a2] (hh P σ) (fun r_ h_ => r_ = some (.int (rX9_neighbours σ a1 a2)) ∧ h_ = hh P σ) := by
  refine sp_of (lv := [some (.ref 32), some (.int a1), some (.int a2), none, none, none]) (by decide) (zcats_ok _ rfl) (Nat.le_of_ble_eq_true rfl) (zlv_ok _ 3 rfl) (fun G => ?_)
  generalize hQ_ : (fun (r_ : Option Value) (h_ : zc_H) => r_ = some (.int (rX9_neighbours σ a1 a2)) ∧ h_ = hh P σ) = Q_
  unfold pX9_neighbours at W_
  refine z_iconst dX9_neighbours_0 k_iconst_0 ?_
  refine z_istore_n (lv' := [some (.ref 32), some (.int a1), some (.int a2), some (.int (0 : Int32)), none, none]) dX9_neighbours_1 (Nat.le_of_ble_eq_true rfl) rfl ?_
  refine z_iload_n dX9_neighbours_2 rfl ?_
  refine z_iconst dX9_neighbours_3 k_iconst_1 ?_
  refine z_isub (v := (a2 - (1 : Int32))) dX9_neighbours_4 rfl ?_
  refine z_istore (lv' := [some (.ref 32), some (.int a1), some (.int a2), some (.int (0 : Int32)), some (.int (a2 - (1 : Int32))), none]) dX9_neighbours_5 (Nat.le_of_ble_eq_true rfl) rfl ?_
  refine lpX9_neighbours_7 P σ a1 a2 (0 : Int32) (a2 - (1 : Int32)) (((a2 + (1 : Int32)) + (1 : Int32) - (a2 - (1 : Int32))).toNatClampNeg) W_.1 W_.2 ?_
  show zz G mX9_neighbours 1 0 0 Q_ 71 [none, none, none, some (.int (vX9_neighbours_3 a1 a2 σ)), none, none] [] (hh P σ) 0 0
  refine z_iload_n dX9_neighbours_71 rfl ?_
  exact z_ireturn dX9_neighbours_72 rfl rfl (Nat.le_of_ble_eq_true rfl) (Nat.le_of_ble_eq_true rfl) (by rw [← hQ_]; exact ⟨(by rw [rX9_neighbours]), rfl⟩)

theorem dX9_besideSeen_5 : decode cX9_besideSeen 5 = .ok (.iload 4, 2) := by decide +kernel
theorem dX9_besideSeen_7 : decode cX9_besideSeen 7 = .ok (.bipush 8, 2) := by decide +kernel
theorem dX9_besideSeen_9 : decode cX9_besideSeen 9 = .ok (.if_icmp .ge 123, 3) := by decide +kernel
theorem dX9_besideSeen_12 : decode cX9_besideSeen 12 = .ok (.iload_n 1, 1) := by decide +kernel
theorem dX9_besideSeen_13 : decode cX9_besideSeen 13 = .ok (.bipush 16, 2) := by decide +kernel
theorem dX9_besideSeen_15 : decode cX9_besideSeen 15 = .ok (.irem, 1) := by decide +kernel
theorem dX9_besideSeen_16 : decode cX9_besideSeen 16 = .ok (.iload 4, 2) := by decide +kernel
theorem dX9_besideSeen_18 : decode cX9_besideSeen 18 = .ok (.invokestatic 109, 3) := by decide +kernel
theorem dX9_besideSeen_21 : decode cX9_besideSeen 21 = .ok (.iadd, 1) := by decide +kernel
theorem dX9_besideSeen_22 : decode cX9_besideSeen 22 = .ok (.istore 5, 2) := by decide +kernel
theorem dX9_besideSeen_24 : decode cX9_besideSeen 24 = .ok (.iload_n 1, 1) := by decide +kernel
theorem dX9_besideSeen_25 : decode cX9_besideSeen 25 = .ok (.bipush 16, 2) := by decide +kernel
theorem dX9_besideSeen_27 : decode cX9_besideSeen 27 = .ok (.idiv, 1) := by decide +kernel
theorem dX9_besideSeen_28 : decode cX9_besideSeen 28 = .ok (.iload 4, 2) := by decide +kernel
theorem dX9_besideSeen_30 : decode cX9_besideSeen 30 = .ok (.invokestatic 113, 3) := by decide +kernel
theorem dX9_besideSeen_33 : decode cX9_besideSeen 33 = .ok (.iadd, 1) := by decide +kernel
theorem dX9_besideSeen_34 : decode cX9_besideSeen 34 = .ok (.istore 6, 2) := by decide +kernel
theorem dX9_besideSeen_36 : decode cX9_besideSeen 36 = .ok (.iload 5, 2) := by decide +kernel
theorem dX9_besideSeen_38 : decode cX9_besideSeen 38 = .ok (.ifCond .lt 26, 3) := by decide +kernel
theorem dX9_besideSeen_41 : decode cX9_besideSeen 41 = .ok (.iload 5, 2) := by decide +kernel
theorem dX9_besideSeen_43 : decode cX9_besideSeen 43 = .ok (.bipush 16, 2) := by decide +kernel
theorem dX9_besideSeen_45 : decode cX9_besideSeen 45 = .ok (.if_icmp .ge 19, 3) := by decide +kernel
theorem dX9_besideSeen_48 : decode cX9_besideSeen 48 = .ok (.iload 6, 2) := by decide +kernel
theorem dX9_besideSeen_50 : decode cX9_besideSeen 50 = .ok (.ifCond .lt 14, 3) := by decide +kernel
theorem dX9_besideSeen_53 : decode cX9_besideSeen 53 = .ok (.iload 6, 2) := by decide +kernel
theorem dX9_besideSeen_55 : decode cX9_besideSeen 55 = .ok (.bipush 16, 2) := by decide +kernel
theorem dX9_besideSeen_57 : decode cX9_besideSeen 57 = .ok (.if_icmp .ge 7, 3) := by decide +kernel
theorem dX9_besideSeen_60 : decode cX9_besideSeen 60 = .ok (.iconst 1, 1) := by decide +kernel
theorem dX9_besideSeen_61 : decode cX9_besideSeen 61 = .ok (.goto 4, 3) := by decide +kernel
theorem dX9_besideSeen_64 : decode cX9_besideSeen 64 = .ok (.iconst 0, 1) := by decide +kernel
theorem dX9_besideSeen_65 : decode cX9_besideSeen 65 = .ok (.istore 7, 2) := by decide +kernel
theorem dX9_besideSeen_67 : decode cX9_besideSeen 67 = .ok (.iload_n 3, 1) := by decide +kernel
theorem dX9_besideSeen_68 : decode cX9_besideSeen 68 = .ok (.ifCond .ne 52, 3) := by decide +kernel
theorem dX9_besideSeen_71 : decode cX9_besideSeen 71 = .ok (.iload 7, 2) := by decide +kernel
theorem dX9_besideSeen_73 : decode cX9_besideSeen 73 = .ok (.ifCond .eq 51, 3) := by decide +kernel
theorem dX9_besideSeen_76 : decode cX9_besideSeen 76 = .ok (.iload_n 2, 1) := by decide +kernel
theorem dX9_besideSeen_77 : decode cX9_besideSeen 77 = .ok (.ifCond .ne 10, 3) := by decide +kernel
theorem dX9_besideSeen_80 : decode cX9_besideSeen 80 = .ok (.iload 4, 2) := by decide +kernel
theorem dX9_besideSeen_82 : decode cX9_besideSeen 82 = .ok (.iconst 2, 1) := by decide +kernel
theorem dX9_besideSeen_83 : decode cX9_besideSeen 83 = .ok (.irem, 1) := by decide +kernel
theorem dX9_besideSeen_84 : decode cX9_besideSeen 84 = .ok (.ifCond .ne 40, 3) := by decide +kernel
theorem dX9_besideSeen_87 : decode cX9_besideSeen 87 = .ok (.aload_n 0, 1) := by decide +kernel
theorem dX9_besideSeen_88 : decode cX9_besideSeen 88 = .ok (.getfield 9, 3) := by decide +kernel
theorem dX9_besideSeen_91 : decode cX9_besideSeen 91 = .ok (.bipush 16, 2) := by decide +kernel
theorem dX9_besideSeen_93 : decode cX9_besideSeen 93 = .ok (.iload 6, 2) := by decide +kernel
theorem dX9_besideSeen_95 : decode cX9_besideSeen 95 = .ok (.imul, 1) := by decide +kernel
theorem dX9_besideSeen_96 : decode cX9_besideSeen 96 = .ok (.iload 5, 2) := by decide +kernel
theorem dX9_besideSeen_98 : decode cX9_besideSeen 98 = .ok (.iadd, 1) := by decide +kernel
theorem dX9_besideSeen_99 : decode cX9_besideSeen 99 = .ok (.baload, 1) := by decide +kernel
theorem dX9_besideSeen_100 : decode cX9_besideSeen 100 = .ok (.iload_n 2, 1) := by decide +kernel
theorem dX9_besideSeen_101 : decode cX9_besideSeen 101 = .ok (.if_icmp .ne 23, 3) := by decide +kernel
theorem dX9_besideSeen_104 : decode cX9_besideSeen 104 = .ok (.aload_n 0, 1) := by decide +kernel
theorem dX9_besideSeen_105 : decode cX9_besideSeen 105 = .ok (.getfield 13, 3) := by decide +kernel
theorem dX9_besideSeen_108 : decode cX9_besideSeen 108 = .ok (.bipush 16, 2) := by decide +kernel
theorem dX9_besideSeen_110 : decode cX9_besideSeen 110 = .ok (.iload 6, 2) := by decide +kernel
theorem dX9_besideSeen_112 : decode cX9_besideSeen 112 = .ok (.imul, 1) := by decide +kernel
theorem dX9_besideSeen_113 : decode cX9_besideSeen 113 = .ok (.iload 5, 2) := by decide +kernel
theorem dX9_besideSeen_115 : decode cX9_besideSeen 115 = .ok (.iadd, 1) := by decide +kernel
theorem dX9_besideSeen_116 : decode cX9_besideSeen 116 = .ok (.baload, 1) := by decide +kernel
theorem dX9_besideSeen_117 : decode cX9_besideSeen 117 = .ok (.ifCond .eq 7, 3) := by decide +kernel
theorem dX9_besideSeen_120 : decode cX9_besideSeen 120 = .ok (.iconst 1, 1) := by decide +kernel
theorem dX9_besideSeen_121 : decode cX9_besideSeen 121 = .ok (.goto 4, 3) := by decide +kernel
theorem dX9_besideSeen_124 : decode cX9_besideSeen 124 = .ok (.iconst 0, 1) := by decide +kernel
theorem dX9_besideSeen_125 : decode cX9_besideSeen 125 = .ok (.istore_n 3, 1) := by decide +kernel
theorem dX9_besideSeen_126 : decode cX9_besideSeen 126 = .ok (.iinc 4 1, 3) := by decide +kernel
theorem dX9_besideSeen_129 : decode cX9_besideSeen 129 = .ok (.goto (-124), 3) := by decide +kernel
theorem dX9_besideSeen_132 : decode cX9_besideSeen 132 = .ok (.iload_n 3, 1) := by decide +kernel
noncomputable def fX9_besideSeen_5 (σ : zc_N) (l1 : Int32) (l2 : Int32) (i_ : Nat) (a_ : Int32) : Int32 := (if a_ = (0 : Int32) then (if (if ((l1 - l1 / (16 : Int32) * (16 : Int32)) + (rX9_stepX (nI i_))) < (0 : Int32) then (0 : Int32) else (if (16 : Int32) ≤ ((l1 - l1 / (16 : Int32) * (16 : Int32)) + (rX9_stepX (nI i_))) then (0 : Int32) else (if ((l1 / (16 : Int32)) + (rX9_stepY (nI i_))) < (0 : Int32) then (0 : Int32) else (if (16 : Int32) ≤ ((l1 / (16 : Int32)) + (rX9_stepY (nI i_))) then (0 : Int32) else (1 : Int32))))) = (0 : Int32) then (0 : Int32) else (if l2 = (0 : Int32) then (if ((nI i_) - (nI i_) / (2 : Int32) * (2 : Int32)) = (0 : Int32) then (if ((σ 33) (((16 : Int32) * ((l1 / (16 : Int32)) + (rX9_stepY (nI i_)))) + ((l1 - l1 / (16 : Int32) * (16 : Int32)) + (rX9_stepX (nI i_)))).toNatClampNeg) = l2 then (if ((σ 34) (((16 : Int32) * ((l1 / (16 : Int32)) + (rX9_stepY (nI i_)))) + ((l1 - l1 / (16 : Int32) * (16 : Int32)) + (rX9_stepX (nI i_)))).toNatClampNeg) = (0 : Int32) then (0 : Int32) else (1 : Int32)) else (0 : Int32)) else (0 : Int32)) else (if ((σ 33) (((16 : Int32) * ((l1 / (16 : Int32)) + (rX9_stepY (nI i_)))) + ((l1 - l1 / (16 : Int32) * (16 : Int32)) + (rX9_stepX (nI i_)))).toNatClampNeg) = l2 then (if ((σ 34) (((16 : Int32) * ((l1 / (16 : Int32)) + (rX9_stepY (nI i_)))) + ((l1 - l1 / (16 : Int32) * (16 : Int32)) + (rX9_stepX (nI i_)))).toNatClampNeg) = (0 : Int32) then (0 : Int32) else (1 : Int32)) else (0 : Int32)))) else (1 : Int32))
def qX9_besideSeen_5 (σ : zc_N) (l1 : Int32) (l2 : Int32) (i_ : Nat) (a_ : Int32) : Prop := ((a_ = (0 : Int32) → (((if ((l1 - l1 / (16 : Int32) * (16 : Int32)) + (rX9_stepX (nI i_))) < (0 : Int32) then (0 : Int32) else (if (16 : Int32) ≤ ((l1 - l1 / (16 : Int32) * (16 : Int32)) + (rX9_stepX (nI i_))) then (0 : Int32) else (if ((l1 / (16 : Int32)) + (rX9_stepY (nI i_))) < (0 : Int32) then (0 : Int32) else (if (16 : Int32) ≤ ((l1 / (16 : Int32)) + (rX9_stepY (nI i_))) then (0 : Int32) else (1 : Int32))))) = (0 : Int32) → True) ∧ (¬ (if ((l1 - l1 / (16 : Int32) * (16 : Int32)) + (rX9_stepX (nI i_))) < (0 : Int32) then (0 : Int32) else (if (16 : Int32) ≤ ((l1 - l1 / (16 : Int32) * (16 : Int32)) + (rX9_stepX (nI i_))) then (0 : Int32) else (if ((l1 / (16 : Int32)) + (rX9_stepY (nI i_))) < (0 : Int32) then (0 : Int32) else (if (16 : Int32) ≤ ((l1 / (16 : Int32)) + (rX9_stepY (nI i_))) then (0 : Int32) else (1 : Int32))))) = (0 : Int32) → ((l2 = (0 : Int32) → ((((nI i_) - (nI i_) / (2 : Int32) * (2 : Int32)) = (0 : Int32) → (vp_in (((16 : Int32) * ((l1 / (16 : Int32)) + (rX9_stepY (nI i_)))) + ((l1 - l1 / (16 : Int32) * (16 : Int32)) + (rX9_stepX (nI i_)))) 256 ∧ ((((σ 33) (((16 : Int32) * ((l1 / (16 : Int32)) + (rX9_stepY (nI i_)))) + ((l1 - l1 / (16 : Int32) * (16 : Int32)) + (rX9_stepX (nI i_)))).toNatClampNeg) = l2 → vp_in (((16 : Int32) * ((l1 / (16 : Int32)) + (rX9_stepY (nI i_)))) + ((l1 - l1 / (16 : Int32) * (16 : Int32)) + (rX9_stepX (nI i_)))) 256) ∧ (¬ ((σ 33) (((16 : Int32) * ((l1 / (16 : Int32)) + (rX9_stepY (nI i_)))) + ((l1 - l1 / (16 : Int32) * (16 : Int32)) + (rX9_stepX (nI i_)))).toNatClampNeg) = l2 → True)))) ∧ (¬ ((nI i_) - (nI i_) / (2 : Int32) * (2 : Int32)) = (0 : Int32) → True))) ∧ (¬ l2 = (0 : Int32) → (vp_in (((16 : Int32) * ((l1 / (16 : Int32)) + (rX9_stepY (nI i_)))) + ((l1 - l1 / (16 : Int32) * (16 : Int32)) + (rX9_stepX (nI i_)))) 256 ∧ ((((σ 33) (((16 : Int32) * ((l1 / (16 : Int32)) + (rX9_stepY (nI i_)))) + ((l1 - l1 / (16 : Int32) * (16 : Int32)) + (rX9_stepX (nI i_)))).toNatClampNeg) = l2 → vp_in (((16 : Int32) * ((l1 / (16 : Int32)) + (rX9_stepY (nI i_)))) + ((l1 - l1 / (16 : Int32) * (16 : Int32)) + (rX9_stepX (nI i_)))) 256) ∧ (¬ ((σ 33) (((16 : Int32) * ((l1 / (16 : Int32)) + (rX9_stepY (nI i_)))) + ((l1 - l1 / (16 : Int32) * (16 : Int32)) + (rX9_stepX (nI i_)))).toNatClampNeg) = l2 → True)))))))) ∧ (¬ a_ = (0 : Int32) → True))
set_option maxHeartbeats 2000000 in
theorem lpX9_besideSeen_5 {G : zc_G} {Q : Option Value → zc_H → Prop} (P : zp) (σ : zc_N) (l1 : Int32) (l2 : Int32) (l3 : Int32) (W1_ : ∀ i5_ : Nat, i5_ < 8 → qX9_besideSeen_5 σ l1 l2 i5_ (zfor (fX9_besideSeen_5 σ l1 l2) i5_ l3))
    (W2_ : zz G mX9_besideSeen 1 0 0 Q 132 [none, none, none, some (.int (zfor (fX9_besideSeen_5 σ l1 l2) 8 l3)), none, none, none, none] [] (hh P σ) 0 0) :
    zz G mX9_besideSeen 1 0 0 Q 5 [some (.ref 32), some (.int l1), some (.int l2), some (.int l3), some (.int (nI 0)), none, none, none] [] (hh P σ) 0 0 := by
  refine zfor_nI (fun i_ a_ => zz G mX9_besideSeen 1 0 0 Q 5 [some (.ref 32), some (.int l1), some (.int l2), some (.int a_), some (.int i_), none, none, none] [] (hh P σ) 0 0) (fX9_besideSeen_5 σ l1 l2) 8 l3 (fun i_ hi_ k_ => ?_) ?_
  · have W3_ := W1_ i_ hi_
    generalize zfor (fX9_besideSeen_5 σ l1 l2) i_ l3 = g_ at k_ W3_ ⊢
    rw [fX9_besideSeen_5] at k_
    rw [qX9_besideSeen_5] at W3_
    try dsimp only at W3_
    refine z_iload dX9_besideSeen_5 rfl ?_
    refine z_bipush dX9_besideSeen_7 k_bipush_8 ?_
    refine z_icmp_ge (tgt := 132) dX9_besideSeen_9 (by decide) (fun c_ => absurd c_ (nI_ge hi_ (by decide))) (fun c_ => ?_)
    refine z_iload_n dX9_besideSeen_12 rfl ?_
    refine z_bipush dX9_besideSeen_13 k_bipush_16 ?_
    refine z_irem (v := (l1 - l1 / (16 : Int32) * (16 : Int32))) dX9_besideSeen_15 (by decide) rfl ?_
    refine z_iload dX9_besideSeen_16 rfl ?_
    refine z_callS (As := [.int (nI i_)]) (rest := [.int (l1 - l1 / (16 : Int32) * (16 : Int32))]) (ctX9_stepX P σ (nI i_)) dX9_besideSeen_18 lk_X9_109 ls_X9_stepX rfl (Nat.le_of_ble_eq_true rfl) (Nat.le_of_ble_eq_true rfl) (Nat.le_of_ble_eq_true rfl) (Nat.le_of_ble_eq_true rfl) (fun r_ h_ e_ => ?_)
    obtain ⟨e1_, e2_⟩ := e_
    subst e1_
    subst e2_
    show zz G mX9_besideSeen 1 0 0 Q 21 [some (.ref 32), some (.int l1), some (.int l2), some (.int g_), some (.int (nI i_)), none, none, none] [.int (rX9_stepX (nI i_)), .int (l1 - l1 / (16 : Int32) * (16 : Int32))] (hh P σ) 0 0
    refine z_iadd (v := ((l1 - l1 / (16 : Int32) * (16 : Int32)) + (rX9_stepX (nI i_)))) dX9_besideSeen_21 rfl ?_
    refine z_istore (lv' := [some (.ref 32), some (.int l1), some (.int l2), some (.int g_), some (.int (nI i_)), some (.int ((l1 - l1 / (16 : Int32) * (16 : Int32)) + (rX9_stepX (nI i_)))), none, none]) dX9_besideSeen_22 (Nat.le_of_ble_eq_true rfl) rfl ?_
    refine z_iload_n dX9_besideSeen_24 rfl ?_
    refine z_bipush dX9_besideSeen_25 k_bipush_16 ?_
    refine z_idiv (v := (l1 / (16 : Int32))) dX9_besideSeen_27 (by decide) rfl ?_
    refine z_iload dX9_besideSeen_28 rfl ?_
    refine z_callS (As := [.int (nI i_)]) (rest := [.int (l1 / (16 : Int32))]) (ctX9_stepY P σ (nI i_)) dX9_besideSeen_30 lk_X9_113 ls_X9_stepY rfl (Nat.le_of_ble_eq_true rfl) (Nat.le_of_ble_eq_true rfl) (Nat.le_of_ble_eq_true rfl) (Nat.le_of_ble_eq_true rfl) (fun r_ h_ e_ => ?_)
    obtain ⟨e1_, e2_⟩ := e_
    subst e1_
    subst e2_
    show zz G mX9_besideSeen 1 0 0 Q 33 [some (.ref 32), some (.int l1), some (.int l2), some (.int g_), some (.int (nI i_)), some (.int ((l1 - l1 / (16 : Int32) * (16 : Int32)) + (rX9_stepX (nI i_)))), none, none] [.int (rX9_stepY (nI i_)), .int (l1 / (16 : Int32))] (hh P σ) 0 0
    refine z_iadd (v := ((l1 / (16 : Int32)) + (rX9_stepY (nI i_)))) dX9_besideSeen_33 rfl ?_
    refine z_istore (lv' := [some (.ref 32), some (.int l1), some (.int l2), some (.int g_), some (.int (nI i_)), some (.int ((l1 - l1 / (16 : Int32) * (16 : Int32)) + (rX9_stepX (nI i_)))), some (.int ((l1 / (16 : Int32)) + (rX9_stepY (nI i_)))), none]) dX9_besideSeen_34 (Nat.le_of_ble_eq_true rfl) rfl ?_
    refine z_iload dX9_besideSeen_36 rfl ?_
    have K_1 : zz G mX9_besideSeen 1 0 0 Q 65 [some (.ref 32), some (.int l1), some (.int l2), some (.int g_), some (.int (nI i_)), some (.int ((l1 - l1 / (16 : Int32) * (16 : Int32)) + (rX9_stepX (nI i_)))), some (.int ((l1 / (16 : Int32)) + (rX9_stepY (nI i_)))), none] [.int (if ((l1 - l1 / (16 : Int32) * (16 : Int32)) + (rX9_stepX (nI i_))) < (0 : Int32) then (0 : Int32) else (if (16 : Int32) ≤ ((l1 - l1 / (16 : Int32) * (16 : Int32)) + (rX9_stepX (nI i_))) then (0 : Int32) else (if ((l1 / (16 : Int32)) + (rX9_stepY (nI i_))) < (0 : Int32) then (0 : Int32) else (if (16 : Int32) ≤ ((l1 / (16 : Int32)) + (rX9_stepY (nI i_))) then (0 : Int32) else (1 : Int32)))))] (hh P σ) 0 0 := by
      refine z_istore (lv' := [some (.ref 32), some (.int l1), some (.int l2), some (.int g_), some (.int (nI i_)), some (.int ((l1 - l1 / (16 : Int32) * (16 : Int32)) + (rX9_stepX (nI i_)))), some (.int ((l1 / (16 : Int32)) + (rX9_stepY (nI i_)))), some (.int (if ((l1 - l1 / (16 : Int32) * (16 : Int32)) + (rX9_stepX (nI i_))) < (0 : Int32) then (0 : Int32) else (if (16 : Int32) ≤ ((l1 - l1 / (16 : Int32) * (16 : Int32)) + (rX9_stepX (nI i_))) then (0 : Int32) else (if ((l1 / (16 : Int32)) + (rX9_stepY (nI i_))) < (0 : Int32) then (0 : Int32) else (if (16 : Int32) ≤ ((l1 / (16 : Int32)) + (rX9_stepY (nI i_))) then (0 : Int32) else (1 : Int32))))))]) dX9_besideSeen_65 (Nat.le_of_ble_eq_true rfl) rfl ?_
      refine z_iload_n dX9_besideSeen_67 rfl ?_
      have K_2 : zz G mX9_besideSeen 1 0 0 Q 125 [some (.ref 32), some (.int l1), some (.int l2), none, some (.int (nI i_)), none, none, none] [.int (if g_ = (0 : Int32) then (if (if ((l1 - l1 / (16 : Int32) * (16 : Int32)) + (rX9_stepX (nI i_))) < (0 : Int32) then (0 : Int32) else (if (16 : Int32) ≤ ((l1 - l1 / (16 : Int32) * (16 : Int32)) + (rX9_stepX (nI i_))) then (0 : Int32) else (if ((l1 / (16 : Int32)) + (rX9_stepY (nI i_))) < (0 : Int32) then (0 : Int32) else (if (16 : Int32) ≤ ((l1 / (16 : Int32)) + (rX9_stepY (nI i_))) then (0 : Int32) else (1 : Int32))))) = (0 : Int32) then (0 : Int32) else (if l2 = (0 : Int32) then (if ((nI i_) - (nI i_) / (2 : Int32) * (2 : Int32)) = (0 : Int32) then (if ((σ 33) (((16 : Int32) * ((l1 / (16 : Int32)) + (rX9_stepY (nI i_)))) + ((l1 - l1 / (16 : Int32) * (16 : Int32)) + (rX9_stepX (nI i_)))).toNatClampNeg) = l2 then (if ((σ 34) (((16 : Int32) * ((l1 / (16 : Int32)) + (rX9_stepY (nI i_)))) + ((l1 - l1 / (16 : Int32) * (16 : Int32)) + (rX9_stepX (nI i_)))).toNatClampNeg) = (0 : Int32) then (0 : Int32) else (1 : Int32)) else (0 : Int32)) else (0 : Int32)) else (if ((σ 33) (((16 : Int32) * ((l1 / (16 : Int32)) + (rX9_stepY (nI i_)))) + ((l1 - l1 / (16 : Int32) * (16 : Int32)) + (rX9_stepX (nI i_)))).toNatClampNeg) = l2 then (if ((σ 34) (((16 : Int32) * ((l1 / (16 : Int32)) + (rX9_stepY (nI i_)))) + ((l1 - l1 / (16 : Int32) * (16 : Int32)) + (rX9_stepX (nI i_)))).toNatClampNeg) = (0 : Int32) then (0 : Int32) else (1 : Int32)) else (0 : Int32)))) else (1 : Int32))] (hh P σ) 0 0 := by
        refine z_istore_n (lv' := [some (.ref 32), some (.int l1), some (.int l2), some (.int (if g_ = (0 : Int32) then (if (if ((l1 - l1 / (16 : Int32) * (16 : Int32)) + (rX9_stepX (nI i_))) < (0 : Int32) then (0 : Int32) else (if (16 : Int32) ≤ ((l1 - l1 / (16 : Int32) * (16 : Int32)) + (rX9_stepX (nI i_))) then (0 : Int32) else (if ((l1 / (16 : Int32)) + (rX9_stepY (nI i_))) < (0 : Int32) then (0 : Int32) else (if (16 : Int32) ≤ ((l1 / (16 : Int32)) + (rX9_stepY (nI i_))) then (0 : Int32) else (1 : Int32))))) = (0 : Int32) then (0 : Int32) else (if l2 = (0 : Int32) then (if ((nI i_) - (nI i_) / (2 : Int32) * (2 : Int32)) = (0 : Int32) then (if ((σ 33) (((16 : Int32) * ((l1 / (16 : Int32)) + (rX9_stepY (nI i_)))) + ((l1 - l1 / (16 : Int32) * (16 : Int32)) + (rX9_stepX (nI i_)))).toNatClampNeg) = l2 then (if ((σ 34) (((16 : Int32) * ((l1 / (16 : Int32)) + (rX9_stepY (nI i_)))) + ((l1 - l1 / (16 : Int32) * (16 : Int32)) + (rX9_stepX (nI i_)))).toNatClampNeg) = (0 : Int32) then (0 : Int32) else (1 : Int32)) else (0 : Int32)) else (0 : Int32)) else (if ((σ 33) (((16 : Int32) * ((l1 / (16 : Int32)) + (rX9_stepY (nI i_)))) + ((l1 - l1 / (16 : Int32) * (16 : Int32)) + (rX9_stepX (nI i_)))).toNatClampNeg) = l2 then (if ((σ 34) (((16 : Int32) * ((l1 / (16 : Int32)) + (rX9_stepY (nI i_)))) + ((l1 - l1 / (16 : Int32) * (16 : Int32)) + (rX9_stepX (nI i_)))).toNatClampNeg) = (0 : Int32) then (0 : Int32) else (1 : Int32)) else (0 : Int32)))) else (1 : Int32))), some (.int (nI i_)), none, none, none]) dX9_besideSeen_125 (Nat.le_of_ble_eq_true rfl) rfl ?_
        refine z_iinc (v := ((nI i_) + (1 : Int32))) (lv' := [some (.ref 32), some (.int l1), some (.int l2), some (.int (if g_ = (0 : Int32) then (if (if ((l1 - l1 / (16 : Int32) * (16 : Int32)) + (rX9_stepX (nI i_))) < (0 : Int32) then (0 : Int32) else (if (16 : Int32) ≤ ((l1 - l1 / (16 : Int32) * (16 : Int32)) + (rX9_stepX (nI i_))) then (0 : Int32) else (if ((l1 / (16 : Int32)) + (rX9_stepY (nI i_))) < (0 : Int32) then (0 : Int32) else (if (16 : Int32) ≤ ((l1 / (16 : Int32)) + (rX9_stepY (nI i_))) then (0 : Int32) else (1 : Int32))))) = (0 : Int32) then (0 : Int32) else (if l2 = (0 : Int32) then (if ((nI i_) - (nI i_) / (2 : Int32) * (2 : Int32)) = (0 : Int32) then (if ((σ 33) (((16 : Int32) * ((l1 / (16 : Int32)) + (rX9_stepY (nI i_)))) + ((l1 - l1 / (16 : Int32) * (16 : Int32)) + (rX9_stepX (nI i_)))).toNatClampNeg) = l2 then (if ((σ 34) (((16 : Int32) * ((l1 / (16 : Int32)) + (rX9_stepY (nI i_)))) + ((l1 - l1 / (16 : Int32) * (16 : Int32)) + (rX9_stepX (nI i_)))).toNatClampNeg) = (0 : Int32) then (0 : Int32) else (1 : Int32)) else (0 : Int32)) else (0 : Int32)) else (if ((σ 33) (((16 : Int32) * ((l1 / (16 : Int32)) + (rX9_stepY (nI i_)))) + ((l1 - l1 / (16 : Int32) * (16 : Int32)) + (rX9_stepX (nI i_)))).toNatClampNeg) = l2 then (if ((σ 34) (((16 : Int32) * ((l1 / (16 : Int32)) + (rX9_stepY (nI i_)))) + ((l1 - l1 / (16 : Int32) * (16 : Int32)) + (rX9_stepX (nI i_)))).toNatClampNeg) = (0 : Int32) then (0 : Int32) else (1 : Int32)) else (0 : Int32)))) else (1 : Int32))), some (.int ((nI i_) + (1 : Int32))), none, none, none]) dX9_besideSeen_126 (Nat.le_of_ble_eq_true rfl) rfl (by rw [k_iconst_1]) rfl ?_
        refine z_goto (tgt := 5) dX9_besideSeen_129 (by decide) ?_
        rw [nI_1]
        exact k_
      refine z_if_ne (tgt := 120) dX9_besideSeen_68 (by decide) (fun c_6 => ?_) (fun c_6 => ?_)
      · refine z_iconst dX9_besideSeen_120 k_iconst_1 ?_
        refine z_goto (tgt := 125) dX9_besideSeen_121 (by decide) ?_
        refine zz_sub (lv' := [some (.ref 32), some (.int l1), some (.int l2), none, some (.int (nI i_)), none, none, none]) ⟨rfl, ⟨rfl, ⟨rfl, ⟨rfl, trivial⟩⟩⟩⟩ ?_
        rw [show (if g_ = (0 : Int32) then (if (if ((l1 - l1 / (16 : Int32) * (16 : Int32)) + (rX9_stepX (nI i_))) < (0 : Int32) then (0 : Int32) else (if (16 : Int32) ≤ ((l1 - l1 / (16 : Int32) * (16 : Int32)) + (rX9_stepX (nI i_))) then (0 : Int32) else (if ((l1 / (16 : Int32)) + (rX9_stepY (nI i_))) < (0 : Int32) then (0 : Int32) else (if (16 : Int32) ≤ ((l1 / (16 : Int32)) + (rX9_stepY (nI i_))) then (0 : Int32) else (1 : Int32))))) = (0 : Int32) then (0 : Int32) else (if l2 = (0 : Int32) then (if ((nI i_) - (nI i_) / (2 : Int32) * (2 : Int32)) = (0 : Int32) then (if ((σ 33) (((16 : Int32) * ((l1 / (16 : Int32)) + (rX9_stepY (nI i_)))) + ((l1 - l1 / (16 : Int32) * (16 : Int32)) + (rX9_stepX (nI i_)))).toNatClampNeg) = l2 then (if ((σ 34) (((16 : Int32) * ((l1 / (16 : Int32)) + (rX9_stepY (nI i_)))) + ((l1 - l1 / (16 : Int32) * (16 : Int32)) + (rX9_stepX (nI i_)))).toNatClampNeg) = (0 : Int32) then (0 : Int32) else (1 : Int32)) else (0 : Int32)) else (0 : Int32)) else (if ((σ 33) (((16 : Int32) * ((l1 / (16 : Int32)) + (rX9_stepY (nI i_)))) + ((l1 - l1 / (16 : Int32) * (16 : Int32)) + (rX9_stepX (nI i_)))).toNatClampNeg) = l2 then (if ((σ 34) (((16 : Int32) * ((l1 / (16 : Int32)) + (rX9_stepY (nI i_)))) + ((l1 - l1 / (16 : Int32) * (16 : Int32)) + (rX9_stepX (nI i_)))).toNatClampNeg) = (0 : Int32) then (0 : Int32) else (1 : Int32)) else (0 : Int32)))) else (1 : Int32)) = (1 : Int32) from (if_neg c_6)] at K_2
        exact K_2
      · refine z_iload dX9_besideSeen_71 rfl ?_
        refine z_if_eq (tgt := 124) dX9_besideSeen_73 (by decide) (fun c_7 => ?_) (fun c_7 => ?_)
        · refine z_iconst dX9_besideSeen_124 k_iconst_0 ?_
          refine zz_sub (lv' := [some (.ref 32), some (.int l1), some (.int l2), none, some (.int (nI i_)), none, none, none]) ⟨rfl, ⟨rfl, ⟨rfl, ⟨rfl, trivial⟩⟩⟩⟩ ?_
          rw [show (if g_ = (0 : Int32) then (if (if ((l1 - l1 / (16 : Int32) * (16 : Int32)) + (rX9_stepX (nI i_))) < (0 : Int32) then (0 : Int32) else (if (16 : Int32) ≤ ((l1 - l1 / (16 : Int32) * (16 : Int32)) + (rX9_stepX (nI i_))) then (0 : Int32) else (if ((l1 / (16 : Int32)) + (rX9_stepY (nI i_))) < (0 : Int32) then (0 : Int32) else (if (16 : Int32) ≤ ((l1 / (16 : Int32)) + (rX9_stepY (nI i_))) then (0 : Int32) else (1 : Int32))))) = (0 : Int32) then (0 : Int32) else (if l2 = (0 : Int32) then (if ((nI i_) - (nI i_) / (2 : Int32) * (2 : Int32)) = (0 : Int32) then (if ((σ 33) (((16 : Int32) * ((l1 / (16 : Int32)) + (rX9_stepY (nI i_)))) + ((l1 - l1 / (16 : Int32) * (16 : Int32)) + (rX9_stepX (nI i_)))).toNatClampNeg) = l2 then (if ((σ 34) (((16 : Int32) * ((l1 / (16 : Int32)) + (rX9_stepY (nI i_)))) + ((l1 - l1 / (16 : Int32) * (16 : Int32)) + (rX9_stepX (nI i_)))).toNatClampNeg) = (0 : Int32) then (0 : Int32) else (1 : Int32)) else (0 : Int32)) else (0 : Int32)) else (if ((σ 33) (((16 : Int32) * ((l1 / (16 : Int32)) + (rX9_stepY (nI i_)))) + ((l1 - l1 / (16 : Int32) * (16 : Int32)) + (rX9_stepX (nI i_)))).toNatClampNeg) = l2 then (if ((σ 34) (((16 : Int32) * ((l1 / (16 : Int32)) + (rX9_stepY (nI i_)))) + ((l1 - l1 / (16 : Int32) * (16 : Int32)) + (rX9_stepX (nI i_)))).toNatClampNeg) = (0 : Int32) then (0 : Int32) else (1 : Int32)) else (0 : Int32)))) else (1 : Int32)) = (0 : Int32) from ((if_pos c_6).trans (if_pos c_7))] at K_2
          exact K_2
        · refine z_iload_n dX9_besideSeen_76 rfl ?_
          refine z_if_ne (tgt := 87) dX9_besideSeen_77 (by decide) (fun c_8 => ?_) (fun c_8 => ?_)
          · refine z_aloadr_n dX9_besideSeen_87 rfl ?_
            refine z_get (ci := 9) (r := (RX9, TX9, 38)) (j := 0) (v := .ref 33) dX9_besideSeen_88 (Nat.le_of_ble_eq_true rfl) (zN rfl) rfl rfl (Nat.le_of_ble_eq_true rfl) fl_X9_9 rfl ?_
            refine z_bipush dX9_besideSeen_91 k_bipush_16 ?_
            refine z_iload dX9_besideSeen_93 rfl ?_
            refine z_imul (v := ((16 : Int32) * ((l1 / (16 : Int32)) + (rX9_stepY (nI i_))))) dX9_besideSeen_95 rfl ?_
            refine z_iload dX9_besideSeen_96 rfl ?_
            refine z_iadd (v := (((16 : Int32) * ((l1 / (16 : Int32)) + (rX9_stepY (nI i_)))) + ((l1 - l1 / (16 : Int32) * (16 : Int32)) + (rX9_stepX (nI i_))))) dX9_besideSeen_98 rfl ?_
            refine z_bald (v := ((σ 33) (((16 : Int32) * ((l1 / (16 : Int32)) + (rX9_stepY (nI i_)))) + ((l1 - l1 / (16 : Int32) * (16 : Int32)) + (rX9_stepX (nI i_)))).toNatClampNeg)) dX9_besideSeen_99 (Nat.le_of_ble_eq_true rfl) (zN rfl) rfl ((((W3_.1 c_6).2 c_7).2 c_8).1) rfl ?_
            refine z_iload_n dX9_besideSeen_100 rfl ?_
            refine z_icmp_ne (tgt := 124) dX9_besideSeen_101 (by decide) (fun c_9 => ?_) (fun c_9 => ?_)
            · refine z_iconst dX9_besideSeen_124 k_iconst_0 ?_
              refine zz_sub (lv' := [some (.ref 32), some (.int l1), some (.int l2), none, some (.int (nI i_)), none, none, none]) ⟨rfl, ⟨rfl, ⟨rfl, ⟨rfl, trivial⟩⟩⟩⟩ ?_
              rw [show (if g_ = (0 : Int32) then (if (if ((l1 - l1 / (16 : Int32) * (16 : Int32)) + (rX9_stepX (nI i_))) < (0 : Int32) then (0 : Int32) else (if (16 : Int32) ≤ ((l1 - l1 / (16 : Int32) * (16 : Int32)) + (rX9_stepX (nI i_))) then (0 : Int32) else (if ((l1 / (16 : Int32)) + (rX9_stepY (nI i_))) < (0 : Int32) then (0 : Int32) else (if (16 : Int32) ≤ ((l1 / (16 : Int32)) + (rX9_stepY (nI i_))) then (0 : Int32) else (1 : Int32))))) = (0 : Int32) then (0 : Int32) else (if l2 = (0 : Int32) then (if ((nI i_) - (nI i_) / (2 : Int32) * (2 : Int32)) = (0 : Int32) then (if ((σ 33) (((16 : Int32) * ((l1 / (16 : Int32)) + (rX9_stepY (nI i_)))) + ((l1 - l1 / (16 : Int32) * (16 : Int32)) + (rX9_stepX (nI i_)))).toNatClampNeg) = l2 then (if ((σ 34) (((16 : Int32) * ((l1 / (16 : Int32)) + (rX9_stepY (nI i_)))) + ((l1 - l1 / (16 : Int32) * (16 : Int32)) + (rX9_stepX (nI i_)))).toNatClampNeg) = (0 : Int32) then (0 : Int32) else (1 : Int32)) else (0 : Int32)) else (0 : Int32)) else (if ((σ 33) (((16 : Int32) * ((l1 / (16 : Int32)) + (rX9_stepY (nI i_)))) + ((l1 - l1 / (16 : Int32) * (16 : Int32)) + (rX9_stepX (nI i_)))).toNatClampNeg) = l2 then (if ((σ 34) (((16 : Int32) * ((l1 / (16 : Int32)) + (rX9_stepY (nI i_)))) + ((l1 - l1 / (16 : Int32) * (16 : Int32)) + (rX9_stepX (nI i_)))).toNatClampNeg) = (0 : Int32) then (0 : Int32) else (1 : Int32)) else (0 : Int32)))) else (1 : Int32)) = (0 : Int32) from ((if_pos c_6).trans ((if_neg c_7).trans ((if_neg c_8).trans (if_neg c_9))))] at K_2
              exact K_2
            · refine z_aloadr_n dX9_besideSeen_104 rfl ?_
              refine z_get (ci := 9) (r := (RX9, TX9, 38)) (j := 1) (v := .ref 34) dX9_besideSeen_105 (Nat.le_of_ble_eq_true rfl) (zN rfl) rfl rfl (Nat.le_of_ble_eq_true rfl) fl_X9_13 rfl ?_
              refine z_bipush dX9_besideSeen_108 k_bipush_16 ?_
              refine z_iload dX9_besideSeen_110 rfl ?_
              refine z_imul (v := ((16 : Int32) * ((l1 / (16 : Int32)) + (rX9_stepY (nI i_))))) dX9_besideSeen_112 rfl ?_
              refine z_iload dX9_besideSeen_113 rfl ?_
              refine z_iadd (v := (((16 : Int32) * ((l1 / (16 : Int32)) + (rX9_stepY (nI i_)))) + ((l1 - l1 / (16 : Int32) * (16 : Int32)) + (rX9_stepX (nI i_))))) dX9_besideSeen_115 rfl ?_
              refine z_bald (v := ((σ 34) (((16 : Int32) * ((l1 / (16 : Int32)) + (rX9_stepY (nI i_)))) + ((l1 - l1 / (16 : Int32) * (16 : Int32)) + (rX9_stepX (nI i_)))).toNatClampNeg)) dX9_besideSeen_116 (Nat.le_of_ble_eq_true rfl) (zN rfl) rfl ((((W3_.1 c_6).2 c_7).2 c_8).2.1 c_9) rfl ?_
              refine z_if_eq (tgt := 124) dX9_besideSeen_117 (by decide) (fun c_10 => ?_) (fun c_10 => ?_)
              · refine z_iconst dX9_besideSeen_124 k_iconst_0 ?_
                refine zz_sub (lv' := [some (.ref 32), some (.int l1), some (.int l2), none, some (.int (nI i_)), none, none, none]) ⟨rfl, ⟨rfl, ⟨rfl, ⟨rfl, trivial⟩⟩⟩⟩ ?_
                rw [show (if g_ = (0 : Int32) then (if (if ((l1 - l1 / (16 : Int32) * (16 : Int32)) + (rX9_stepX (nI i_))) < (0 : Int32) then (0 : Int32) else (if (16 : Int32) ≤ ((l1 - l1 / (16 : Int32) * (16 : Int32)) + (rX9_stepX (nI i_))) then (0 : Int32) else (if ((l1 / (16 : Int32)) + (rX9_stepY (nI i_))) < (0 : Int32) then (0 : Int32) else (if (16 : Int32) ≤ ((l1 / (16 : Int32)) + (rX9_stepY (nI i_))) then (0 : Int32) else (1 : Int32))))) = (0 : Int32) then (0 : Int32) else (if l2 = (0 : Int32) then (if ((nI i_) - (nI i_) / (2 : Int32) * (2 : Int32)) = (0 : Int32) then (if ((σ 33) (((16 : Int32) * ((l1 / (16 : Int32)) + (rX9_stepY (nI i_)))) + ((l1 - l1 / (16 : Int32) * (16 : Int32)) + (rX9_stepX (nI i_)))).toNatClampNeg) = l2 then (if ((σ 34) (((16 : Int32) * ((l1 / (16 : Int32)) + (rX9_stepY (nI i_)))) + ((l1 - l1 / (16 : Int32) * (16 : Int32)) + (rX9_stepX (nI i_)))).toNatClampNeg) = (0 : Int32) then (0 : Int32) else (1 : Int32)) else (0 : Int32)) else (0 : Int32)) else (if ((σ 33) (((16 : Int32) * ((l1 / (16 : Int32)) + (rX9_stepY (nI i_)))) + ((l1 - l1 / (16 : Int32) * (16 : Int32)) + (rX9_stepX (nI i_)))).toNatClampNeg) = l2 then (if ((σ 34) (((16 : Int32) * ((l1 / (16 : Int32)) + (rX9_stepY (nI i_)))) + ((l1 - l1 / (16 : Int32) * (16 : Int32)) + (rX9_stepX (nI i_)))).toNatClampNeg) = (0 : Int32) then (0 : Int32) else (1 : Int32)) else (0 : Int32)))) else (1 : Int32)) = (0 : Int32) from ((if_pos c_6).trans ((if_neg c_7).trans ((if_neg c_8).trans ((if_pos c_9).trans (if_pos c_10)))))] at K_2
                exact K_2
              · refine z_iconst dX9_besideSeen_120 k_iconst_1 ?_
                refine z_goto (tgt := 125) dX9_besideSeen_121 (by decide) ?_
                refine zz_sub (lv' := [some (.ref 32), some (.int l1), some (.int l2), none, some (.int (nI i_)), none, none, none]) ⟨rfl, ⟨rfl, ⟨rfl, ⟨rfl, trivial⟩⟩⟩⟩ ?_
                rw [show (if g_ = (0 : Int32) then (if (if ((l1 - l1 / (16 : Int32) * (16 : Int32)) + (rX9_stepX (nI i_))) < (0 : Int32) then (0 : Int32) else (if (16 : Int32) ≤ ((l1 - l1 / (16 : Int32) * (16 : Int32)) + (rX9_stepX (nI i_))) then (0 : Int32) else (if ((l1 / (16 : Int32)) + (rX9_stepY (nI i_))) < (0 : Int32) then (0 : Int32) else (if (16 : Int32) ≤ ((l1 / (16 : Int32)) + (rX9_stepY (nI i_))) then (0 : Int32) else (1 : Int32))))) = (0 : Int32) then (0 : Int32) else (if l2 = (0 : Int32) then (if ((nI i_) - (nI i_) / (2 : Int32) * (2 : Int32)) = (0 : Int32) then (if ((σ 33) (((16 : Int32) * ((l1 / (16 : Int32)) + (rX9_stepY (nI i_)))) + ((l1 - l1 / (16 : Int32) * (16 : Int32)) + (rX9_stepX (nI i_)))).toNatClampNeg) = l2 then (if ((σ 34) (((16 : Int32) * ((l1 / (16 : Int32)) + (rX9_stepY (nI i_)))) + ((l1 - l1 / (16 : Int32) * (16 : Int32)) + (rX9_stepX (nI i_)))).toNatClampNeg) = (0 : Int32) then (0 : Int32) else (1 : Int32)) else (0 : Int32)) else (0 : Int32)) else (if ((σ 33) (((16 : Int32) * ((l1 / (16 : Int32)) + (rX9_stepY (nI i_)))) + ((l1 - l1 / (16 : Int32) * (16 : Int32)) + (rX9_stepX (nI i_)))).toNatClampNeg) = l2 then (if ((σ 34) (((16 : Int32) * ((l1 / (16 : Int32)) + (rX9_stepY (nI i_)))) + ((l1 - l1 / (16 : Int32) * (16 : Int32)) + (rX9_stepX (nI i_)))).toNatClampNeg) = (0 : Int32) then (0 : Int32) else (1 : Int32)) else (0 : Int32)))) else (1 : Int32)) = (1 : Int32) from ((if_pos c_6).trans ((if_neg c_7).trans ((if_neg c_8).trans ((if_pos c_9).trans (if_neg c_10)))))] at K_2
                exact K_2
          · refine z_iload dX9_besideSeen_80 rfl ?_
            refine z_iconst dX9_besideSeen_82 k_iconst_2 ?_
            refine z_irem (v := ((nI i_) - (nI i_) / (2 : Int32) * (2 : Int32))) dX9_besideSeen_83 (by decide) rfl ?_
            refine z_if_ne (tgt := 124) dX9_besideSeen_84 (by decide) (fun c_11 => ?_) (fun c_11 => ?_)
            · refine z_iconst dX9_besideSeen_124 k_iconst_0 ?_
              refine zz_sub (lv' := [some (.ref 32), some (.int l1), some (.int l2), none, some (.int (nI i_)), none, none, none]) ⟨rfl, ⟨rfl, ⟨rfl, ⟨rfl, trivial⟩⟩⟩⟩ ?_
              rw [show (if g_ = (0 : Int32) then (if (if ((l1 - l1 / (16 : Int32) * (16 : Int32)) + (rX9_stepX (nI i_))) < (0 : Int32) then (0 : Int32) else (if (16 : Int32) ≤ ((l1 - l1 / (16 : Int32) * (16 : Int32)) + (rX9_stepX (nI i_))) then (0 : Int32) else (if ((l1 / (16 : Int32)) + (rX9_stepY (nI i_))) < (0 : Int32) then (0 : Int32) else (if (16 : Int32) ≤ ((l1 / (16 : Int32)) + (rX9_stepY (nI i_))) then (0 : Int32) else (1 : Int32))))) = (0 : Int32) then (0 : Int32) else (if l2 = (0 : Int32) then (if ((nI i_) - (nI i_) / (2 : Int32) * (2 : Int32)) = (0 : Int32) then (if ((σ 33) (((16 : Int32) * ((l1 / (16 : Int32)) + (rX9_stepY (nI i_)))) + ((l1 - l1 / (16 : Int32) * (16 : Int32)) + (rX9_stepX (nI i_)))).toNatClampNeg) = l2 then (if ((σ 34) (((16 : Int32) * ((l1 / (16 : Int32)) + (rX9_stepY (nI i_)))) + ((l1 - l1 / (16 : Int32) * (16 : Int32)) + (rX9_stepX (nI i_)))).toNatClampNeg) = (0 : Int32) then (0 : Int32) else (1 : Int32)) else (0 : Int32)) else (0 : Int32)) else (if ((σ 33) (((16 : Int32) * ((l1 / (16 : Int32)) + (rX9_stepY (nI i_)))) + ((l1 - l1 / (16 : Int32) * (16 : Int32)) + (rX9_stepX (nI i_)))).toNatClampNeg) = l2 then (if ((σ 34) (((16 : Int32) * ((l1 / (16 : Int32)) + (rX9_stepY (nI i_)))) + ((l1 - l1 / (16 : Int32) * (16 : Int32)) + (rX9_stepX (nI i_)))).toNatClampNeg) = (0 : Int32) then (0 : Int32) else (1 : Int32)) else (0 : Int32)))) else (1 : Int32)) = (0 : Int32) from ((if_pos c_6).trans ((if_neg c_7).trans ((if_pos c_8).trans (if_neg c_11))))] at K_2
              exact K_2
            · refine z_aloadr_n dX9_besideSeen_87 rfl ?_
              refine z_get (ci := 9) (r := (RX9, TX9, 38)) (j := 0) (v := .ref 33) dX9_besideSeen_88 (Nat.le_of_ble_eq_true rfl) (zN rfl) rfl rfl (Nat.le_of_ble_eq_true rfl) fl_X9_9 rfl ?_
              refine z_bipush dX9_besideSeen_91 k_bipush_16 ?_
              refine z_iload dX9_besideSeen_93 rfl ?_
              refine z_imul (v := ((16 : Int32) * ((l1 / (16 : Int32)) + (rX9_stepY (nI i_))))) dX9_besideSeen_95 rfl ?_
              refine z_iload dX9_besideSeen_96 rfl ?_
              refine z_iadd (v := (((16 : Int32) * ((l1 / (16 : Int32)) + (rX9_stepY (nI i_)))) + ((l1 - l1 / (16 : Int32) * (16 : Int32)) + (rX9_stepX (nI i_))))) dX9_besideSeen_98 rfl ?_
              refine z_bald (v := ((σ 33) (((16 : Int32) * ((l1 / (16 : Int32)) + (rX9_stepY (nI i_)))) + ((l1 - l1 / (16 : Int32) * (16 : Int32)) + (rX9_stepX (nI i_)))).toNatClampNeg)) dX9_besideSeen_99 (Nat.le_of_ble_eq_true rfl) (zN rfl) rfl (((((W3_.1 c_6).2 c_7).1 c_8).1 c_11).1) rfl ?_
              refine z_iload_n dX9_besideSeen_100 rfl ?_
              refine z_icmp_ne (tgt := 124) dX9_besideSeen_101 (by decide) (fun c_12 => ?_) (fun c_12 => ?_)
              · refine z_iconst dX9_besideSeen_124 k_iconst_0 ?_
                refine zz_sub (lv' := [some (.ref 32), some (.int l1), some (.int l2), none, some (.int (nI i_)), none, none, none]) ⟨rfl, ⟨rfl, ⟨rfl, ⟨rfl, trivial⟩⟩⟩⟩ ?_
                rw [show (if g_ = (0 : Int32) then (if (if ((l1 - l1 / (16 : Int32) * (16 : Int32)) + (rX9_stepX (nI i_))) < (0 : Int32) then (0 : Int32) else (if (16 : Int32) ≤ ((l1 - l1 / (16 : Int32) * (16 : Int32)) + (rX9_stepX (nI i_))) then (0 : Int32) else (if ((l1 / (16 : Int32)) + (rX9_stepY (nI i_))) < (0 : Int32) then (0 : Int32) else (if (16 : Int32) ≤ ((l1 / (16 : Int32)) + (rX9_stepY (nI i_))) then (0 : Int32) else (1 : Int32))))) = (0 : Int32) then (0 : Int32) else (if l2 = (0 : Int32) then (if ((nI i_) - (nI i_) / (2 : Int32) * (2 : Int32)) = (0 : Int32) then (if ((σ 33) (((16 : Int32) * ((l1 / (16 : Int32)) + (rX9_stepY (nI i_)))) + ((l1 - l1 / (16 : Int32) * (16 : Int32)) + (rX9_stepX (nI i_)))).toNatClampNeg) = l2 then (if ((σ 34) (((16 : Int32) * ((l1 / (16 : Int32)) + (rX9_stepY (nI i_)))) + ((l1 - l1 / (16 : Int32) * (16 : Int32)) + (rX9_stepX (nI i_)))).toNatClampNeg) = (0 : Int32) then (0 : Int32) else (1 : Int32)) else (0 : Int32)) else (0 : Int32)) else (if ((σ 33) (((16 : Int32) * ((l1 / (16 : Int32)) + (rX9_stepY (nI i_)))) + ((l1 - l1 / (16 : Int32) * (16 : Int32)) + (rX9_stepX (nI i_)))).toNatClampNeg) = l2 then (if ((σ 34) (((16 : Int32) * ((l1 / (16 : Int32)) + (rX9_stepY (nI i_)))) + ((l1 - l1 / (16 : Int32) * (16 : Int32)) + (rX9_stepX (nI i_)))).toNatClampNeg) = (0 : Int32) then (0 : Int32) else (1 : Int32)) else (0 : Int32)))) else (1 : Int32)) = (0 : Int32) from ((if_pos c_6).trans ((if_neg c_7).trans ((if_pos c_8).trans ((if_pos c_11).trans (if_neg c_12)))))] at K_2
                exact K_2
              · refine z_aloadr_n dX9_besideSeen_104 rfl ?_
                refine z_get (ci := 9) (r := (RX9, TX9, 38)) (j := 1) (v := .ref 34) dX9_besideSeen_105 (Nat.le_of_ble_eq_true rfl) (zN rfl) rfl rfl (Nat.le_of_ble_eq_true rfl) fl_X9_13 rfl ?_
                refine z_bipush dX9_besideSeen_108 k_bipush_16 ?_
                refine z_iload dX9_besideSeen_110 rfl ?_
                refine z_imul (v := ((16 : Int32) * ((l1 / (16 : Int32)) + (rX9_stepY (nI i_))))) dX9_besideSeen_112 rfl ?_
                refine z_iload dX9_besideSeen_113 rfl ?_
                refine z_iadd (v := (((16 : Int32) * ((l1 / (16 : Int32)) + (rX9_stepY (nI i_)))) + ((l1 - l1 / (16 : Int32) * (16 : Int32)) + (rX9_stepX (nI i_))))) dX9_besideSeen_115 rfl ?_
                refine z_bald (v := ((σ 34) (((16 : Int32) * ((l1 / (16 : Int32)) + (rX9_stepY (nI i_)))) + ((l1 - l1 / (16 : Int32) * (16 : Int32)) + (rX9_stepX (nI i_)))).toNatClampNeg)) dX9_besideSeen_116 (Nat.le_of_ble_eq_true rfl) (zN rfl) rfl (((((W3_.1 c_6).2 c_7).1 c_8).1 c_11).2.1 c_12) rfl ?_
                refine z_if_eq (tgt := 124) dX9_besideSeen_117 (by decide) (fun c_13 => ?_) (fun c_13 => ?_)
                · refine z_iconst dX9_besideSeen_124 k_iconst_0 ?_
                  refine zz_sub (lv' := [some (.ref 32), some (.int l1), some (.int l2), none, some (.int (nI i_)), none, none, none]) ⟨rfl, ⟨rfl, ⟨rfl, ⟨rfl, trivial⟩⟩⟩⟩ ?_
                  rw [show (if g_ = (0 : Int32) then (if (if ((l1 - l1 / (16 : Int32) * (16 : Int32)) + (rX9_stepX (nI i_))) < (0 : Int32) then (0 : Int32) else (if (16 : Int32) ≤ ((l1 - l1 / (16 : Int32) * (16 : Int32)) + (rX9_stepX (nI i_))) then (0 : Int32) else (if ((l1 / (16 : Int32)) + (rX9_stepY (nI i_))) < (0 : Int32) then (0 : Int32) else (if (16 : Int32) ≤ ((l1 / (16 : Int32)) + (rX9_stepY (nI i_))) then (0 : Int32) else (1 : Int32))))) = (0 : Int32) then (0 : Int32) else (if l2 = (0 : Int32) then (if ((nI i_) - (nI i_) / (2 : Int32) * (2 : Int32)) = (0 : Int32) then (if ((σ 33) (((16 : Int32) * ((l1 / (16 : Int32)) + (rX9_stepY (nI i_)))) + ((l1 - l1 / (16 : Int32) * (16 : Int32)) + (rX9_stepX (nI i_)))).toNatClampNeg) = l2 then (if ((σ 34) (((16 : Int32) * ((l1 / (16 : Int32)) + (rX9_stepY (nI i_)))) + ((l1 - l1 / (16 : Int32) * (16 : Int32)) + (rX9_stepX (nI i_)))).toNatClampNeg) = (0 : Int32) then (0 : Int32) else (1 : Int32)) else (0 : Int32)) else (0 : Int32)) else (if ((σ 33) (((16 : Int32) * ((l1 / (16 : Int32)) + (rX9_stepY (nI i_)))) + ((l1 - l1 / (16 : Int32) * (16 : Int32)) + (rX9_stepX (nI i_)))).toNatClampNeg) = l2 then (if ((σ 34) (((16 : Int32) * ((l1 / (16 : Int32)) + (rX9_stepY (nI i_)))) + ((l1 - l1 / (16 : Int32) * (16 : Int32)) + (rX9_stepX (nI i_)))).toNatClampNeg) = (0 : Int32) then (0 : Int32) else (1 : Int32)) else (0 : Int32)))) else (1 : Int32)) = (0 : Int32) from ((if_pos c_6).trans ((if_neg c_7).trans ((if_pos c_8).trans ((if_pos c_11).trans ((if_pos c_12).trans (if_pos c_13))))))] at K_2
                  exact K_2
                · refine z_iconst dX9_besideSeen_120 k_iconst_1 ?_
                  refine z_goto (tgt := 125) dX9_besideSeen_121 (by decide) ?_
                  refine zz_sub (lv' := [some (.ref 32), some (.int l1), some (.int l2), none, some (.int (nI i_)), none, none, none]) ⟨rfl, ⟨rfl, ⟨rfl, ⟨rfl, trivial⟩⟩⟩⟩ ?_
                  rw [show (if g_ = (0 : Int32) then (if (if ((l1 - l1 / (16 : Int32) * (16 : Int32)) + (rX9_stepX (nI i_))) < (0 : Int32) then (0 : Int32) else (if (16 : Int32) ≤ ((l1 - l1 / (16 : Int32) * (16 : Int32)) + (rX9_stepX (nI i_))) then (0 : Int32) else (if ((l1 / (16 : Int32)) + (rX9_stepY (nI i_))) < (0 : Int32) then (0 : Int32) else (if (16 : Int32) ≤ ((l1 / (16 : Int32)) + (rX9_stepY (nI i_))) then (0 : Int32) else (1 : Int32))))) = (0 : Int32) then (0 : Int32) else (if l2 = (0 : Int32) then (if ((nI i_) - (nI i_) / (2 : Int32) * (2 : Int32)) = (0 : Int32) then (if ((σ 33) (((16 : Int32) * ((l1 / (16 : Int32)) + (rX9_stepY (nI i_)))) + ((l1 - l1 / (16 : Int32) * (16 : Int32)) + (rX9_stepX (nI i_)))).toNatClampNeg) = l2 then (if ((σ 34) (((16 : Int32) * ((l1 / (16 : Int32)) + (rX9_stepY (nI i_)))) + ((l1 - l1 / (16 : Int32) * (16 : Int32)) + (rX9_stepX (nI i_)))).toNatClampNeg) = (0 : Int32) then (0 : Int32) else (1 : Int32)) else (0 : Int32)) else (0 : Int32)) else (if ((σ 33) (((16 : Int32) * ((l1 / (16 : Int32)) + (rX9_stepY (nI i_)))) + ((l1 - l1 / (16 : Int32) * (16 : Int32)) + (rX9_stepX (nI i_)))).toNatClampNeg) = l2 then (if ((σ 34) (((16 : Int32) * ((l1 / (16 : Int32)) + (rX9_stepY (nI i_)))) + ((l1 - l1 / (16 : Int32) * (16 : Int32)) + (rX9_stepX (nI i_)))).toNatClampNeg) = (0 : Int32) then (0 : Int32) else (1 : Int32)) else (0 : Int32)))) else (1 : Int32)) = (1 : Int32) from ((if_pos c_6).trans ((if_neg c_7).trans ((if_pos c_8).trans ((if_pos c_11).trans ((if_pos c_12).trans (if_neg c_13))))))] at K_2
                  exact K_2
    refine z_if_lt (tgt := 64) dX9_besideSeen_38 (by decide) (fun c_2 => ?_) (fun c_2 => ?_)
    · refine z_iconst dX9_besideSeen_64 k_iconst_0 ?_
      rw [show (if ((l1 - l1 / (16 : Int32) * (16 : Int32)) + (rX9_stepX (nI i_))) < (0 : Int32) then (0 : Int32) else (if (16 : Int32) ≤ ((l1 - l1 / (16 : Int32) * (16 : Int32)) + (rX9_stepX (nI i_))) then (0 : Int32) else (if ((l1 / (16 : Int32)) + (rX9_stepY (nI i_))) < (0 : Int32) then (0 : Int32) else (if (16 : Int32) ≤ ((l1 / (16 : Int32)) + (rX9_stepY (nI i_))) then (0 : Int32) else (1 : Int32))))) = (0 : Int32) from (if_pos c_2)] at K_1
      exact K_1
    · refine z_iload dX9_besideSeen_41 rfl ?_
      refine z_bipush dX9_besideSeen_43 k_bipush_16 ?_
      refine z_icmp_ge (tgt := 64) dX9_besideSeen_45 (by decide) (fun c_3 => ?_) (fun c_3 => ?_)
      · refine z_iconst dX9_besideSeen_64 k_iconst_0 ?_
        rw [show (if ((l1 - l1 / (16 : Int32) * (16 : Int32)) + (rX9_stepX (nI i_))) < (0 : Int32) then (0 : Int32) else (if (16 : Int32) ≤ ((l1 - l1 / (16 : Int32) * (16 : Int32)) + (rX9_stepX (nI i_))) then (0 : Int32) else (if ((l1 / (16 : Int32)) + (rX9_stepY (nI i_))) < (0 : Int32) then (0 : Int32) else (if (16 : Int32) ≤ ((l1 / (16 : Int32)) + (rX9_stepY (nI i_))) then (0 : Int32) else (1 : Int32))))) = (0 : Int32) from ((if_neg c_2).trans (if_pos c_3))] at K_1
        exact K_1
      · refine z_iload dX9_besideSeen_48 rfl ?_
        refine z_if_lt (tgt := 64) dX9_besideSeen_50 (by decide) (fun c_4 => ?_) (fun c_4 => ?_)
        · refine z_iconst dX9_besideSeen_64 k_iconst_0 ?_
          rw [show (if ((l1 - l1 / (16 : Int32) * (16 : Int32)) + (rX9_stepX (nI i_))) < (0 : Int32) then (0 : Int32) else (if (16 : Int32) ≤ ((l1 - l1 / (16 : Int32) * (16 : Int32)) + (rX9_stepX (nI i_))) then (0 : Int32) else (if ((l1 / (16 : Int32)) + (rX9_stepY (nI i_))) < (0 : Int32) then (0 : Int32) else (if (16 : Int32) ≤ ((l1 / (16 : Int32)) + (rX9_stepY (nI i_))) then (0 : Int32) else (1 : Int32))))) = (0 : Int32) from ((if_neg c_2).trans ((if_neg c_3).trans (if_pos c_4)))] at K_1
          exact K_1
        · refine z_iload dX9_besideSeen_53 rfl ?_
          refine z_bipush dX9_besideSeen_55 k_bipush_16 ?_
          refine z_icmp_ge (tgt := 64) dX9_besideSeen_57 (by decide) (fun c_5 => ?_) (fun c_5 => ?_)
          · refine z_iconst dX9_besideSeen_64 k_iconst_0 ?_
            rw [show (if ((l1 - l1 / (16 : Int32) * (16 : Int32)) + (rX9_stepX (nI i_))) < (0 : Int32) then (0 : Int32) else (if (16 : Int32) ≤ ((l1 - l1 / (16 : Int32) * (16 : Int32)) + (rX9_stepX (nI i_))) then (0 : Int32) else (if ((l1 / (16 : Int32)) + (rX9_stepY (nI i_))) < (0 : Int32) then (0 : Int32) else (if (16 : Int32) ≤ ((l1 / (16 : Int32)) + (rX9_stepY (nI i_))) then (0 : Int32) else (1 : Int32))))) = (0 : Int32) from ((if_neg c_2).trans ((if_neg c_3).trans ((if_neg c_4).trans (if_pos c_5))))] at K_1
            exact K_1
          · refine z_iconst dX9_besideSeen_60 k_iconst_1 ?_
            refine z_goto (tgt := 65) dX9_besideSeen_61 (by decide) ?_
            rw [show (if ((l1 - l1 / (16 : Int32) * (16 : Int32)) + (rX9_stepX (nI i_))) < (0 : Int32) then (0 : Int32) else (if (16 : Int32) ≤ ((l1 - l1 / (16 : Int32) * (16 : Int32)) + (rX9_stepX (nI i_))) then (0 : Int32) else (if ((l1 / (16 : Int32)) + (rX9_stepY (nI i_))) < (0 : Int32) then (0 : Int32) else (if (16 : Int32) ≤ ((l1 / (16 : Int32)) + (rX9_stepY (nI i_))) then (0 : Int32) else (1 : Int32))))) = (1 : Int32) from ((if_neg c_2).trans ((if_neg c_3).trans ((if_neg c_4).trans (if_neg c_5))))] at K_1
            exact K_1
  · generalize zfor (fX9_besideSeen_5 σ l1 l2) 8 l3 = g_ at W2_ ⊢
    refine z_iload dX9_besideSeen_5 rfl ?_
    refine z_bipush dX9_besideSeen_7 k_bipush_8 ?_
    refine z_icmp_ge (tgt := 132) dX9_besideSeen_9 (by decide) (fun c_ => ?_) (fun c_ => absurd (by decide) c_)
    exact zz_sub (lv' := [none, none, none, some (.int g_), none, none, none, none]) ⟨rfl, trivial⟩ W2_

theorem dX9_besideSeen_0 : decode cX9_besideSeen 0 = .ok (.iconst 0, 1) := by decide +kernel
theorem dX9_besideSeen_1 : decode cX9_besideSeen 1 = .ok (.istore_n 3, 1) := by decide +kernel
theorem dX9_besideSeen_2 : decode cX9_besideSeen 2 = .ok (.iconst 0, 1) := by decide +kernel
theorem dX9_besideSeen_3 : decode cX9_besideSeen 3 = .ok (.istore 4, 2) := by decide +kernel
theorem dX9_besideSeen_133 : decode cX9_besideSeen 133 = .ok (.ireturn, 1) := by decide +kernel
def pX9_besideSeen (σ : zc_N) (a1 : Int32) (a2 : Int32) : Prop := ((∀ i5_ : Nat, i5_ < 8 → qX9_besideSeen_5 σ a1 a2 i5_ (zfor (fX9_besideSeen_5 σ a1 a2) i5_ (0 : Int32))) ∧ narrow .boolean (.int (zfor (fX9_besideSeen_5 σ a1 a2) 8 (0 : Int32))) = .int (zfor (fX9_besideSeen_5 σ a1 a2) 8 (0 : Int32)))
noncomputable def rX9_besideSeen (σ : zc_N) (a1 : Int32) (a2 : Int32) : Int32 := (zfor (fX9_besideSeen_5 σ a1 a2) 8 (0 : Int32))
set_option maxHeartbeats 1000000 in
theorem ctX9_besideSeen (P : zp) (σ : zc_N) (a1 : Int32) (a2 : Int32) (W_ : (pX9_besideSeen σ a1 a2)) : sp mX9_besideSeen 1 0 0 [.ref 32, .int a1, .int a2] (hh P σ) (fun r_ h_ => r_ = some (.int (rX9_besideSeen σ a1 a2)) ∧ h_ = hh P σ) := by
  refine sp_of (lv := [some (.ref 32), some (.int a1), some (.int a2), none, none, none, none, none]) (by decide) (zcats_ok _ rfl) (Nat.le_of_ble_eq_true rfl) (zlv_ok _ 5 rfl) (fun G => ?_)
  generalize hQ_ : (fun (r_ : Option Value) (h_ : zc_H) => r_ = some (.int (rX9_besideSeen σ a1 a2)) ∧ h_ = hh P σ) = Q_
  unfold pX9_besideSeen at W_
  refine z_iconst dX9_besideSeen_0 k_iconst_0 ?_
  refine z_istore_n (lv' := [some (.ref 32), some (.int a1), some (.int a2), some (.int (0 : Int32)), none, none, none, none]) dX9_besideSeen_1 (Nat.le_of_ble_eq_true rfl) rfl ?_
  refine z_iconst dX9_besideSeen_2 k_iconst_0 ?_
  refine z_istore (lv' := [some (.ref 32), some (.int a1), some (.int a2), some (.int (0 : Int32)), some (.int (0 : Int32)), none, none, none]) dX9_besideSeen_3 (Nat.le_of_ble_eq_true rfl) rfl ?_
  refine lpX9_besideSeen_5 P σ a1 a2 (0 : Int32) W_.1 ?_
  show zz G mX9_besideSeen 1 0 0 Q_ 132 [none, none, none, some (.int (zfor (fX9_besideSeen_5 σ a1 a2) 8 (0 : Int32))), none, none, none, none] [] (hh P σ) 0 0
  refine z_iload_n dX9_besideSeen_132 rfl ?_
  exact z_ireturn dX9_besideSeen_133 rfl W_.2 (Nat.le_of_ble_eq_true rfl) (Nat.le_of_ble_eq_true rfl) (by rw [← hQ_]; exact ⟨(by rw [rX9_besideSeen]), rfl⟩)

theorem dX1_readPoints_20 : decode cX1_readPoints 20 = .ok (.iload 6, 2) := by decide +kernel
theorem dX1_readPoints_22 : decode cX1_readPoints 22 = .ok (.bipush 16, 2) := by decide +kernel
theorem dX1_readPoints_24 : decode cX1_readPoints 24 = .ok (.if_icmp .ge 125, 3) := by decide +kernel
theorem dX1_readPoints_27 : decode cX1_readPoints 27 = .ok (.iload_n 3, 1) := by decide +kernel
theorem dX1_readPoints_28 : decode cX1_readPoints 28 = .ok (.iload 6, 2) := by decide +kernel
theorem dX1_readPoints_30 : decode cX1_readPoints 30 = .ok (.invokestatic 46, 3) := by decide +kernel
theorem dX1_readPoints_33 : decode cX1_readPoints 33 = .ok (.iload 5, 2) := by decide +kernel
theorem dX1_readPoints_35 : decode cX1_readPoints 35 = .ok (.iload 6, 2) := by decide +kernel
theorem dX1_readPoints_37 : decode cX1_readPoints 37 = .ok (.invokestatic 46, 3) := by decide +kernel
theorem dX1_readPoints_40 : decode cX1_readPoints 40 = .ok (.ior, 1) := by decide +kernel
theorem dX1_readPoints_41 : decode cX1_readPoints 41 = .ok (.ifCond .eq 7, 3) := by decide +kernel
theorem dX1_readPoints_44 : decode cX1_readPoints 44 = .ok (.iconst 1, 1) := by decide +kernel
theorem dX1_readPoints_45 : decode cX1_readPoints 45 = .ok (.goto 4, 3) := by decide +kernel
theorem dX1_readPoints_48 : decode cX1_readPoints 48 = .ok (.iconst 0, 1) := by decide +kernel
theorem dX1_readPoints_49 : decode cX1_readPoints 49 = .ok (.istore 7, 2) := by decide +kernel
theorem dX1_readPoints_51 : decode cX1_readPoints 51 = .ok (.aload_n 0, 1) := by decide +kernel
theorem dX1_readPoints_52 : decode cX1_readPoints 52 = .ok (.iload 6, 2) := by decide +kernel
theorem dX1_readPoints_54 : decode cX1_readPoints 54 = .ok (.iload 4, 2) := by decide +kernel
theorem dX1_readPoints_56 : decode cX1_readPoints 56 = .ok (.invokevirtual 31, 3) := by decide +kernel
theorem dX1_readPoints_59 : decode cX1_readPoints 59 = .ok (.ifCond .eq 22, 3) := by decide +kernel
theorem dX1_readPoints_62 : decode cX1_readPoints 62 = .ok (.aload_n 0, 1) := by decide +kernel
theorem dX1_readPoints_63 : decode cX1_readPoints 63 = .ok (.iload 6, 2) := by decide +kernel
theorem dX1_readPoints_65 : decode cX1_readPoints 65 = .ok (.iload 4, 2) := by decide +kernel
theorem dX1_readPoints_67 : decode cX1_readPoints 67 = .ok (.invokevirtual 35, 3) := by decide +kernel
theorem dX1_readPoints_70 : decode cX1_readPoints 70 = .ok (.invokestatic 21, 3) := by decide +kernel
theorem dX1_readPoints_73 : decode cX1_readPoints 73 = .ok (.iload 7, 2) := by decide +kernel
theorem dX1_readPoints_75 : decode cX1_readPoints 75 = .ok (.invokestatic 76, 3) := by decide +kernel
theorem dX1_readPoints_78 : decode cX1_readPoints 78 = .ok (.goto 4, 3) := by decide +kernel
theorem dX1_readPoints_81 : decode cX1_readPoints 81 = .ok (.iconst (-1), 1) := by decide +kernel
theorem dX1_readPoints_82 : decode cX1_readPoints 82 = .ok (.istore 8, 2) := by decide +kernel
theorem dX1_readPoints_84 : decode cX1_readPoints 84 = .ok (.iload 8, 2) := by decide +kernel
theorem dX1_readPoints_86 : decode cX1_readPoints 86 = .ok (.iconst 2, 1) := by decide +kernel
theorem dX1_readPoints_87 : decode cX1_readPoints 87 = .ok (.if_icmp .ne 15, 3) := by decide +kernel
theorem dX1_readPoints_90 : decode cX1_readPoints 90 = .ok (.iload 5, 2) := by decide +kernel
theorem dX1_readPoints_92 : decode cX1_readPoints 92 = .ok (.iconst 1, 1) := by decide +kernel
theorem dX1_readPoints_93 : decode cX1_readPoints 93 = .ok (.bipush 16, 2) := by decide +kernel
theorem dX1_readPoints_95 : decode cX1_readPoints 95 = .ok (.iload 6, 2) := by decide +kernel
theorem dX1_readPoints_97 : decode cX1_readPoints 97 = .ok (.isub, 1) := by decide +kernel
theorem dX1_readPoints_98 : decode cX1_readPoints 98 = .ok (.ishl, 1) := by decide +kernel
theorem dX1_readPoints_99 : decode cX1_readPoints 99 = .ok (.ior, 1) := by decide +kernel
theorem dX1_readPoints_100 : decode cX1_readPoints 100 = .ok (.istore 5, 2) := by decide +kernel
theorem dX1_readPoints_102 : decode cX1_readPoints 102 = .ok (.iload 8, 2) := by decide +kernel
theorem dX1_readPoints_104 : decode cX1_readPoints 104 = .ok (.iconst (-1), 1) := by decide +kernel
theorem dX1_readPoints_105 : decode cX1_readPoints 105 = .ok (.if_icmp .eq 29, 3) := by decide +kernel
theorem dX1_readPoints_108 : decode cX1_readPoints 108 = .ok (.iload_n 2, 1) := by decide +kernel
theorem dX1_readPoints_109 : decode cX1_readPoints 109 = .ok (.aload_n 1, 1) := by decide +kernel
theorem dX1_readPoints_110 : decode cX1_readPoints 110 = .ok (.arraylength, 1) := by decide +kernel
theorem dX1_readPoints_111 : decode cX1_readPoints 111 = .ok (.if_icmp .ge 23, 3) := by decide +kernel
theorem dX1_readPoints_114 : decode cX1_readPoints 114 = .ok (.aload_n 1, 1) := by decide +kernel
theorem dX1_readPoints_115 : decode cX1_readPoints 115 = .ok (.iload_n 2, 1) := by decide +kernel
theorem dX1_readPoints_116 : decode cX1_readPoints 116 = .ok (.iload 8, 2) := by decide +kernel
theorem dX1_readPoints_118 : decode cX1_readPoints 118 = .ok (.bipush 16, 2) := by decide +kernel
theorem dX1_readPoints_120 : decode cX1_readPoints 120 = .ok (.imul, 1) := by decide +kernel
theorem dX1_readPoints_121 : decode cX1_readPoints 121 = .ok (.bipush 16, 2) := by decide +kernel
theorem dX1_readPoints_123 : decode cX1_readPoints 123 = .ok (.imul, 1) := by decide +kernel
theorem dX1_readPoints_124 : decode cX1_readPoints 124 = .ok (.iload 4, 2) := by decide +kernel
theorem dX1_readPoints_126 : decode cX1_readPoints 126 = .ok (.bipush 16, 2) := by decide +kernel
theorem dX1_readPoints_128 : decode cX1_readPoints 128 = .ok (.imul, 1) := by decide +kernel
theorem dX1_readPoints_129 : decode cX1_readPoints 129 = .ok (.iadd, 1) := by decide +kernel
theorem dX1_readPoints_130 : decode cX1_readPoints 130 = .ok (.iload 6, 2) := by decide +kernel
theorem dX1_readPoints_132 : decode cX1_readPoints 132 = .ok (.iadd, 1) := by decide +kernel
theorem dX1_readPoints_133 : decode cX1_readPoints 133 = .ok (.iastore, 1) := by decide +kernel
theorem dX1_readPoints_134 : decode cX1_readPoints 134 = .ok (.iload 8, 2) := by decide +kernel
theorem dX1_readPoints_136 : decode cX1_readPoints 136 = .ok (.iconst (-1), 1) := by decide +kernel
theorem dX1_readPoints_137 : decode cX1_readPoints 137 = .ok (.if_icmp .eq 6, 3) := by decide +kernel
theorem dX1_readPoints_140 : decode cX1_readPoints 140 = .ok (.iinc 2 1, 3) := by decide +kernel
theorem dX1_readPoints_143 : decode cX1_readPoints 143 = .ok (.iinc 6 1, 3) := by decide +kernel
theorem dX1_readPoints_146 : decode cX1_readPoints 146 = .ok (.goto (-126), 3) := by decide +kernel
theorem dX1_readPoints_149 : decode cX1_readPoints 149 = .ok (.iload 5, 2) := by decide +kernel
theorem dX1_readPoints_151 : decode cX1_readPoints 151 = .ok (.istore_n 3, 1) := by decide +kernel
theorem dX1_readPoints_152 : decode cX1_readPoints 152 = .ok (.iinc 4 1, 3) := by decide +kernel
theorem dX1_readPoints_155 : decode cX1_readPoints 155 = .ok (.goto (-148), 3) := by decide +kernel
noncomputable def vX1_readPoints_2 (l3 : Int32) (l4 : Int32) (l5 : Int32) (l6 : Int32) (σ : zc_N) : Int32 := (if (rX1_isDark σ l6 l4) = (0 : Int32) then (-1 : Int32) else (rX1_kindOf (rJ6_bitCount_0f7a4 (rX1_ringAt σ l6 l4)) (if ((rX1_threeAt l3 l6) ||| (rX1_threeAt l5 l6)) = (0 : Int32) then (0 : Int32) else (1 : Int32))))
noncomputable def fX1_readPoints_20 (l3 : Int32) (l4 : Int32) (i_ : Nat) (a_ : Int32 × Int32 × zc_N) : Int32 × Int32 × zc_N := ((if (vX1_readPoints_2 l3 l4 a_.2.1 (nI i_) a_.2.2) = (-1 : Int32) then a_.1 else (a_.1 + (1 : Int32))), (if (vX1_readPoints_2 l3 l4 a_.2.1 (nI i_) a_.2.2) = (2 : Int32) then (a_.2.1 ||| (zshl (1 : Int32) ((16 : Int32) - (nI i_)))) else a_.2.1), (if (vX1_readPoints_2 l3 l4 a_.2.1 (nI i_) a_.2.2) = (-1 : Int32) then a_.2.2 else (if (12 : Int32) ≤ a_.1 then a_.2.2 else (zu a_.2.2 8 (zu (a_.2.2 8) a_.1.toNatClampNeg (((((vX1_readPoints_2 l3 l4 a_.2.1 (nI i_) a_.2.2) * (16 : Int32)) * (16 : Int32)) + (l4 * (16 : Int32))) + (nI i_)))))))
def qX1_readPoints_20 (l3 : Int32) (l4 : Int32) (i_ : Nat) (a_ : Int32 × Int32 × zc_N) : Prop := ((pX1_isDark l4) ∧ ((((rX1_isDark a_.2.2 (nI i_) l4) = (0 : Int32) → True) ∧ (¬ (rX1_isDark a_.2.2 (nI i_) l4) = (0 : Int32) → (pX1_ringAt l4))) ∧ (((vX1_readPoints_2 l3 l4 a_.2.1 (nI i_) a_.2.2) = (-1 : Int32) → True) ∧ (¬ (vX1_readPoints_2 l3 l4 a_.2.1 (nI i_) a_.2.2) = (-1 : Int32) → (((12 : Int32) ≤ a_.1 → True) ∧ (¬ (12 : Int32) ≤ a_.1 → vp_in a_.1 12))))))
set_option maxHeartbeats 2000000 in
theorem lpX1_readPoints_20 {G : zc_G} {Q : Option Value → zc_H → Prop} (P : zp) (σ : zc_N) (l2 : Int32) (l3 : Int32) (l4 : Int32) (l5 : Int32) (W1_ : ∀ i20_ : Nat, i20_ < 16 → qX1_readPoints_20 l3 l4 i20_ (zfor (fX1_readPoints_20 l3 l4) i20_ (l2, l5, σ)))
    (W2_ : zz G mX1_readPoints 2 0 0 Q 149 [some (.ref 4), some (.ref 8), some (.int (zfor (fX1_readPoints_20 l3 l4) 16 (l2, l5, σ)).1), none, some (.int l4), some (.int (zfor (fX1_readPoints_20 l3 l4) 16 (l2, l5, σ)).2.1), none, none, none] [] (hh P (zfor (fX1_readPoints_20 l3 l4) 16 (l2, l5, σ)).2.2) 0 0) :
    zz G mX1_readPoints 2 0 0 Q 20 [some (.ref 4), some (.ref 8), some (.int l2), some (.int l3), some (.int l4), some (.int l5), some (.int (nI 0)), none, none] [] (hh P σ) 0 0 := by
  refine zfor_nI (fun i_ a_ => zz G mX1_readPoints 2 0 0 Q 20 [some (.ref 4), some (.ref 8), some (.int a_.1), some (.int l3), some (.int l4), some (.int a_.2.1), some (.int i_), none, none] [] (hh P a_.2.2) 0 0) (fX1_readPoints_20 l3 l4) 16 (l2, l5, σ) (fun i_ hi_ k_ => ?_) ?_
  all_goals try dsimp only
  · have W3_ := W1_ i_ hi_
    generalize zfor (fX1_readPoints_20 l3 l4) i_ (l2, l5, σ) = g_ at k_ W3_ ⊢
    obtain ⟨x0_, x1_, x2_⟩ := g_
    dsimp only at k_ W3_ ⊢
    rw [fX1_readPoints_20] at k_
    rw [qX1_readPoints_20] at W3_
    try dsimp only at W3_
    dsimp only at k_
    refine z_iload dX1_readPoints_20 rfl ?_
    refine z_bipush dX1_readPoints_22 k_bipush_16 ?_
    refine z_icmp_ge (tgt := 149) dX1_readPoints_24 (by decide) (fun c_ => absurd c_ (nI_ge hi_ (by decide))) (fun c_ => ?_)
    refine z_iload_n dX1_readPoints_27 rfl ?_
    refine z_iload dX1_readPoints_28 rfl ?_
    refine z_callS (As := [.int l3, .int (nI i_)]) (rest := []) (ctX1_threeAt P x2_ l3 (nI i_)) dX1_readPoints_30 lk_X1_46 ls_X1_threeAt rfl (Nat.le_of_ble_eq_true rfl) (Nat.le_of_ble_eq_true rfl) (Nat.le_of_ble_eq_true rfl) (Nat.le_of_ble_eq_true rfl) (fun r_ h_ e_ => ?_)
    obtain ⟨e1_, e2_⟩ := e_
    subst e1_
    subst e2_
    show zz G mX1_readPoints 2 0 0 Q 33 [some (.ref 4), some (.ref 8), some (.int x0_), some (.int l3), some (.int l4), some (.int x1_), some (.int (nI i_)), none, none] [.int (rX1_threeAt l3 (nI i_))] (hh P x2_) 0 0
    refine z_iload dX1_readPoints_33 rfl ?_
    refine z_iload dX1_readPoints_35 rfl ?_
    refine z_callS (As := [.int x1_, .int (nI i_)]) (rest := [.int (rX1_threeAt l3 (nI i_))]) (ctX1_threeAt P x2_ x1_ (nI i_)) dX1_readPoints_37 lk_X1_46 ls_X1_threeAt rfl (Nat.le_of_ble_eq_true rfl) (Nat.le_of_ble_eq_true rfl) (Nat.le_of_ble_eq_true rfl) (Nat.le_of_ble_eq_true rfl) (fun r_ h_ e_ => ?_)
    obtain ⟨e1_, e2_⟩ := e_
    subst e1_
    subst e2_
    show zz G mX1_readPoints 2 0 0 Q 40 [some (.ref 4), some (.ref 8), some (.int x0_), some (.int l3), some (.int l4), some (.int x1_), some (.int (nI i_)), none, none] [.int (rX1_threeAt x1_ (nI i_)), .int (rX1_threeAt l3 (nI i_))] (hh P x2_) 0 0
    refine z_ior (v := ((rX1_threeAt l3 (nI i_)) ||| (rX1_threeAt x1_ (nI i_)))) dX1_readPoints_40 rfl ?_
    have K_1 : zz G mX1_readPoints 2 0 0 Q 49 [some (.ref 4), some (.ref 8), some (.int x0_), some (.int l3), some (.int l4), some (.int x1_), some (.int (nI i_)), none, none] [.int (if ((rX1_threeAt l3 (nI i_)) ||| (rX1_threeAt x1_ (nI i_))) = (0 : Int32) then (0 : Int32) else (1 : Int32))] (hh P x2_) 0 0 := by
      refine z_istore (lv' := [some (.ref 4), some (.ref 8), some (.int x0_), some (.int l3), some (.int l4), some (.int x1_), some (.int (nI i_)), some (.int (if ((rX1_threeAt l3 (nI i_)) ||| (rX1_threeAt x1_ (nI i_))) = (0 : Int32) then (0 : Int32) else (1 : Int32))), none]) dX1_readPoints_49 (Nat.le_of_ble_eq_true rfl) rfl ?_
      refine z_aloadr_n dX1_readPoints_51 rfl ?_
      refine z_iload dX1_readPoints_52 rfl ?_
      refine z_iload dX1_readPoints_54 rfl ?_
      refine z_callV (ci := 1) (r := (RX1, TX1, 3)) (b := 4) (As := [.int (nI i_), .int l4]) (rest := []) (ctX1_isDark P x2_ (nI i_) l4 W3_.1) dX1_readPoints_56 lk_X1_31 lv_X1_isDark (Nat.le_of_ble_eq_true rfl) (zN rfl) rfl rfl rfl rfl (Nat.le_of_ble_eq_true rfl) (Nat.le_of_ble_eq_true rfl) (Nat.le_of_ble_eq_true rfl) (Nat.le_of_ble_eq_true rfl) (fun r_ h_ e_ => ?_)
      obtain ⟨e1_, e2_⟩ := e_
      subst e1_
      subst e2_
      show zz G mX1_readPoints 2 0 0 Q 59 [some (.ref 4), some (.ref 8), some (.int x0_), some (.int l3), some (.int l4), some (.int x1_), some (.int (nI i_)), some (.int (if ((rX1_threeAt l3 (nI i_)) ||| (rX1_threeAt x1_ (nI i_))) = (0 : Int32) then (0 : Int32) else (1 : Int32))), none] [.int (rX1_isDark x2_ (nI i_) l4)] (hh P x2_) 0 0
      have K_2 : zz G mX1_readPoints 2 0 0 Q 82 [some (.ref 4), some (.ref 8), some (.int x0_), some (.int l3), some (.int l4), some (.int x1_), some (.int (nI i_)), none, none] [.int (if (rX1_isDark x2_ (nI i_) l4) = (0 : Int32) then (-1 : Int32) else (rX1_kindOf (rJ6_bitCount_0f7a4 (rX1_ringAt x2_ (nI i_) l4)) (if ((rX1_threeAt l3 (nI i_)) ||| (rX1_threeAt x1_ (nI i_))) = (0 : Int32) then (0 : Int32) else (1 : Int32))))] (hh P x2_) 0 0 := by
        refine z_istore (lv' := [some (.ref 4), some (.ref 8), some (.int x0_), some (.int l3), some (.int l4), some (.int x1_), some (.int (nI i_)), none, some (.int (vX1_readPoints_2 l3 l4 x1_ (nI i_) x2_))]) dX1_readPoints_82 (Nat.le_of_ble_eq_true rfl) rfl ?_
        refine z_iload dX1_readPoints_84 rfl ?_
        refine z_iconst dX1_readPoints_86 k_iconst_2 ?_
        have K_3 : zz G mX1_readPoints 2 0 0 Q 102 [some (.ref 4), some (.ref 8), some (.int x0_), some (.int l3), some (.int l4), some (.int (if (vX1_readPoints_2 l3 l4 x1_ (nI i_) x2_) = (2 : Int32) then (x1_ ||| (zshl (1 : Int32) ((16 : Int32) - (nI i_)))) else x1_)), some (.int (nI i_)), none, some (.int (vX1_readPoints_2 l3 l4 x1_ (nI i_) x2_))] [] (hh P x2_) 0 0 := by
          refine z_iload dX1_readPoints_102 rfl ?_
          refine z_iconst dX1_readPoints_104 k_iconst_m1 ?_
          refine z_icmp_eq (tgt := 134) dX1_readPoints_105 (by decide) (fun c_5 => ?_) (fun c_5 => ?_)
          · refine z_iload dX1_readPoints_134 rfl ?_
            refine z_iconst dX1_readPoints_136 k_iconst_m1 ?_
            have K_4 : zz G mX1_readPoints 2 0 0 Q 143 [some (.ref 4), some (.ref 8), some (.int (if (vX1_readPoints_2 l3 l4 x1_ (nI i_) x2_) = (-1 : Int32) then x0_ else (x0_ + (1 : Int32)))), some (.int l3), some (.int l4), some (.int (if (vX1_readPoints_2 l3 l4 x1_ (nI i_) x2_) = (2 : Int32) then (x1_ ||| (zshl (1 : Int32) ((16 : Int32) - (nI i_)))) else x1_)), some (.int (nI i_)), none, none] [] (hh P x2_) 0 0 := by
              refine z_iinc (v := ((nI i_) + (1 : Int32))) (lv' := [some (.ref 4), some (.ref 8), some (.int (if (vX1_readPoints_2 l3 l4 x1_ (nI i_) x2_) = (-1 : Int32) then x0_ else (x0_ + (1 : Int32)))), some (.int l3), some (.int l4), some (.int (if (vX1_readPoints_2 l3 l4 x1_ (nI i_) x2_) = (2 : Int32) then (x1_ ||| (zshl (1 : Int32) ((16 : Int32) - (nI i_)))) else x1_)), some (.int ((nI i_) + (1 : Int32))), none, none]) dX1_readPoints_143 (Nat.le_of_ble_eq_true rfl) rfl (by rw [k_iconst_1]) rfl ?_
              refine z_goto (tgt := 20) dX1_readPoints_146 (by decide) ?_
              rw [nI_1]
              simpa only [if_pos c_5] using k_
            refine z_icmp_eq (tgt := 143) dX1_readPoints_137 (by decide) (fun c_6 => ?_) (fun c_6 => ?_)
            · refine zz_sub (lv' := [some (.ref 4), some (.ref 8), some (.int x0_), some (.int l3), some (.int l4), some (.int (if (vX1_readPoints_2 l3 l4 x1_ (nI i_) x2_) = (2 : Int32) then (x1_ ||| (zshl (1 : Int32) ((16 : Int32) - (nI i_)))) else x1_)), some (.int (nI i_)), none, none]) ⟨rfl, ⟨rfl, ⟨rfl, ⟨rfl, ⟨rfl, ⟨rfl, ⟨rfl, trivial⟩⟩⟩⟩⟩⟩⟩ ?_
              rw [show (if (vX1_readPoints_2 l3 l4 x1_ (nI i_) x2_) = (-1 : Int32) then x0_ else (x0_ + (1 : Int32))) = x0_ from (if_pos c_6)] at K_4
              exact K_4
            · refine z_iinc (v := (x0_ + (1 : Int32))) (lv' := [some (.ref 4), some (.ref 8), some (.int (x0_ + (1 : Int32))), some (.int l3), some (.int l4), some (.int (if (vX1_readPoints_2 l3 l4 x1_ (nI i_) x2_) = (2 : Int32) then (x1_ ||| (zshl (1 : Int32) ((16 : Int32) - (nI i_)))) else x1_)), some (.int (nI i_)), none, some (.int (vX1_readPoints_2 l3 l4 x1_ (nI i_) x2_))]) dX1_readPoints_140 (Nat.le_of_ble_eq_true rfl) rfl (by rw [k_iconst_1]) rfl ?_
              refine zz_sub (lv' := [some (.ref 4), some (.ref 8), some (.int (x0_ + (1 : Int32))), some (.int l3), some (.int l4), some (.int (if (vX1_readPoints_2 l3 l4 x1_ (nI i_) x2_) = (2 : Int32) then (x1_ ||| (zshl (1 : Int32) ((16 : Int32) - (nI i_)))) else x1_)), some (.int (nI i_)), none, none]) ⟨rfl, ⟨rfl, ⟨rfl, ⟨rfl, ⟨rfl, ⟨rfl, ⟨rfl, trivial⟩⟩⟩⟩⟩⟩⟩ ?_
              rw [show (if (vX1_readPoints_2 l3 l4 x1_ (nI i_) x2_) = (-1 : Int32) then x0_ else (x0_ + (1 : Int32))) = (x0_ + (1 : Int32)) from (if_neg c_6)] at K_4
              exact K_4
          · refine z_iload_n dX1_readPoints_108 rfl ?_
            refine z_aloadr_n dX1_readPoints_109 rfl ?_
            refine z_alen0 (v := (12 : Int32)) dX1_readPoints_110 (zN rfl) rfl rfl ?_
            refine z_icmp_ge (tgt := 134) dX1_readPoints_111 (by decide) (fun c_7 => ?_) (fun c_7 => ?_)
            · refine z_iload dX1_readPoints_134 rfl ?_
              refine z_iconst dX1_readPoints_136 k_iconst_m1 ?_
              have K_5 : zz G mX1_readPoints 2 0 0 Q 143 [some (.ref 4), some (.ref 8), some (.int (if (vX1_readPoints_2 l3 l4 x1_ (nI i_) x2_) = (-1 : Int32) then x0_ else (x0_ + (1 : Int32)))), some (.int l3), some (.int l4), some (.int (if (vX1_readPoints_2 l3 l4 x1_ (nI i_) x2_) = (2 : Int32) then (x1_ ||| (zshl (1 : Int32) ((16 : Int32) - (nI i_)))) else x1_)), some (.int (nI i_)), none, none] [] (hh P x2_) 0 0 := by
                refine z_iinc (v := ((nI i_) + (1 : Int32))) (lv' := [some (.ref 4), some (.ref 8), some (.int (if (vX1_readPoints_2 l3 l4 x1_ (nI i_) x2_) = (-1 : Int32) then x0_ else (x0_ + (1 : Int32)))), some (.int l3), some (.int l4), some (.int (if (vX1_readPoints_2 l3 l4 x1_ (nI i_) x2_) = (2 : Int32) then (x1_ ||| (zshl (1 : Int32) ((16 : Int32) - (nI i_)))) else x1_)), some (.int ((nI i_) + (1 : Int32))), none, none]) dX1_readPoints_143 (Nat.le_of_ble_eq_true rfl) rfl (by rw [k_iconst_1]) rfl ?_
                refine z_goto (tgt := 20) dX1_readPoints_146 (by decide) ?_
                rw [nI_1]
                simpa only [if_neg c_5, if_pos c_7] using k_
              refine z_icmp_eq (tgt := 143) dX1_readPoints_137 (by decide) (fun c_8 => ?_) (fun c_8 => ?_)
              · refine zz_sub (lv' := [some (.ref 4), some (.ref 8), some (.int x0_), some (.int l3), some (.int l4), some (.int (if (vX1_readPoints_2 l3 l4 x1_ (nI i_) x2_) = (2 : Int32) then (x1_ ||| (zshl (1 : Int32) ((16 : Int32) - (nI i_)))) else x1_)), some (.int (nI i_)), none, none]) ⟨rfl, ⟨rfl, ⟨rfl, ⟨rfl, ⟨rfl, ⟨rfl, ⟨rfl, trivial⟩⟩⟩⟩⟩⟩⟩ ?_
                rw [show (if (vX1_readPoints_2 l3 l4 x1_ (nI i_) x2_) = (-1 : Int32) then x0_ else (x0_ + (1 : Int32))) = x0_ from (if_pos c_8)] at K_5
                exact K_5
              · refine z_iinc (v := (x0_ + (1 : Int32))) (lv' := [some (.ref 4), some (.ref 8), some (.int (x0_ + (1 : Int32))), some (.int l3), some (.int l4), some (.int (if (vX1_readPoints_2 l3 l4 x1_ (nI i_) x2_) = (2 : Int32) then (x1_ ||| (zshl (1 : Int32) ((16 : Int32) - (nI i_)))) else x1_)), some (.int (nI i_)), none, some (.int (vX1_readPoints_2 l3 l4 x1_ (nI i_) x2_))]) dX1_readPoints_140 (Nat.le_of_ble_eq_true rfl) rfl (by rw [k_iconst_1]) rfl ?_
                refine zz_sub (lv' := [some (.ref 4), some (.ref 8), some (.int (x0_ + (1 : Int32))), some (.int l3), some (.int l4), some (.int (if (vX1_readPoints_2 l3 l4 x1_ (nI i_) x2_) = (2 : Int32) then (x1_ ||| (zshl (1 : Int32) ((16 : Int32) - (nI i_)))) else x1_)), some (.int (nI i_)), none, none]) ⟨rfl, ⟨rfl, ⟨rfl, ⟨rfl, ⟨rfl, ⟨rfl, ⟨rfl, trivial⟩⟩⟩⟩⟩⟩⟩ ?_
                rw [show (if (vX1_readPoints_2 l3 l4 x1_ (nI i_) x2_) = (-1 : Int32) then x0_ else (x0_ + (1 : Int32))) = (x0_ + (1 : Int32)) from (if_neg c_8)] at K_5
                exact K_5
            · refine z_aloadr_n dX1_readPoints_114 rfl ?_
              refine z_iload_n dX1_readPoints_115 rfl ?_
              refine z_iload dX1_readPoints_116 rfl ?_
              refine z_bipush dX1_readPoints_118 k_bipush_16 ?_
              refine z_imul (v := ((vX1_readPoints_2 l3 l4 x1_ (nI i_) x2_) * (16 : Int32))) dX1_readPoints_120 rfl ?_
              refine z_bipush dX1_readPoints_121 k_bipush_16 ?_
              refine z_imul (v := (((vX1_readPoints_2 l3 l4 x1_ (nI i_) x2_) * (16 : Int32)) * (16 : Int32))) dX1_readPoints_123 rfl ?_
              refine z_iload dX1_readPoints_124 rfl ?_
              refine z_bipush dX1_readPoints_126 k_bipush_16 ?_
              refine z_imul (v := (l4 * (16 : Int32))) dX1_readPoints_128 rfl ?_
              refine z_iadd (v := ((((vX1_readPoints_2 l3 l4 x1_ (nI i_) x2_) * (16 : Int32)) * (16 : Int32)) + (l4 * (16 : Int32)))) dX1_readPoints_129 rfl ?_
              refine z_iload dX1_readPoints_130 rfl ?_
              refine z_iadd (v := (((((vX1_readPoints_2 l3 l4 x1_ (nI i_) x2_) * (16 : Int32)) * (16 : Int32)) + (l4 * (16 : Int32))) + (nI i_))) dX1_readPoints_132 rfl ?_
              refine z_iast (σ' := (zu x2_ 8 (zu (x2_ 8) x0_.toNatClampNeg (((((vX1_readPoints_2 l3 l4 x1_ (nI i_) x2_) * (16 : Int32)) * (16 : Int32)) + (l4 * (16 : Int32))) + (nI i_))))) dX1_readPoints_133 (Nat.le_of_ble_eq_true rfl) (zN rfl) rfl ((W3_.2.2.2 c_5).2 c_7) rfl ?_
              refine z_iload dX1_readPoints_134 rfl ?_
              refine z_iconst dX1_readPoints_136 k_iconst_m1 ?_
              have K_6 : zz G mX1_readPoints 2 0 0 Q 143 [some (.ref 4), some (.ref 8), some (.int (if (vX1_readPoints_2 l3 l4 x1_ (nI i_) x2_) = (-1 : Int32) then x0_ else (x0_ + (1 : Int32)))), some (.int l3), some (.int l4), some (.int (if (vX1_readPoints_2 l3 l4 x1_ (nI i_) x2_) = (2 : Int32) then (x1_ ||| (zshl (1 : Int32) ((16 : Int32) - (nI i_)))) else x1_)), some (.int (nI i_)), none, none] [] (hh P (zu x2_ 8 (zu (x2_ 8) x0_.toNatClampNeg (((((vX1_readPoints_2 l3 l4 x1_ (nI i_) x2_) * (16 : Int32)) * (16 : Int32)) + (l4 * (16 : Int32))) + (nI i_))))) 0 0 := by
                refine z_iinc (v := ((nI i_) + (1 : Int32))) (lv' := [some (.ref 4), some (.ref 8), some (.int (if (vX1_readPoints_2 l3 l4 x1_ (nI i_) x2_) = (-1 : Int32) then x0_ else (x0_ + (1 : Int32)))), some (.int l3), some (.int l4), some (.int (if (vX1_readPoints_2 l3 l4 x1_ (nI i_) x2_) = (2 : Int32) then (x1_ ||| (zshl (1 : Int32) ((16 : Int32) - (nI i_)))) else x1_)), some (.int ((nI i_) + (1 : Int32))), none, none]) dX1_readPoints_143 (Nat.le_of_ble_eq_true rfl) rfl (by rw [k_iconst_1]) rfl ?_
                refine z_goto (tgt := 20) dX1_readPoints_146 (by decide) ?_
                rw [nI_1]
                simpa only [if_neg c_5, if_neg c_7] using k_
              refine z_icmp_eq (tgt := 143) dX1_readPoints_137 (by decide) (fun c_9 => ?_) (fun c_9 => ?_)
              · refine zz_sub (lv' := [some (.ref 4), some (.ref 8), some (.int x0_), some (.int l3), some (.int l4), some (.int (if (vX1_readPoints_2 l3 l4 x1_ (nI i_) x2_) = (2 : Int32) then (x1_ ||| (zshl (1 : Int32) ((16 : Int32) - (nI i_)))) else x1_)), some (.int (nI i_)), none, none]) ⟨rfl, ⟨rfl, ⟨rfl, ⟨rfl, ⟨rfl, ⟨rfl, ⟨rfl, trivial⟩⟩⟩⟩⟩⟩⟩ ?_
                rw [show (if (vX1_readPoints_2 l3 l4 x1_ (nI i_) x2_) = (-1 : Int32) then x0_ else (x0_ + (1 : Int32))) = x0_ from (if_pos c_9)] at K_6
                exact K_6
              · refine z_iinc (v := (x0_ + (1 : Int32))) (lv' := [some (.ref 4), some (.ref 8), some (.int (x0_ + (1 : Int32))), some (.int l3), some (.int l4), some (.int (if (vX1_readPoints_2 l3 l4 x1_ (nI i_) x2_) = (2 : Int32) then (x1_ ||| (zshl (1 : Int32) ((16 : Int32) - (nI i_)))) else x1_)), some (.int (nI i_)), none, some (.int (vX1_readPoints_2 l3 l4 x1_ (nI i_) x2_))]) dX1_readPoints_140 (Nat.le_of_ble_eq_true rfl) rfl (by rw [k_iconst_1]) rfl ?_
                refine zz_sub (lv' := [some (.ref 4), some (.ref 8), some (.int (x0_ + (1 : Int32))), some (.int l3), some (.int l4), some (.int (if (vX1_readPoints_2 l3 l4 x1_ (nI i_) x2_) = (2 : Int32) then (x1_ ||| (zshl (1 : Int32) ((16 : Int32) - (nI i_)))) else x1_)), some (.int (nI i_)), none, none]) ⟨rfl, ⟨rfl, ⟨rfl, ⟨rfl, ⟨rfl, ⟨rfl, ⟨rfl, trivial⟩⟩⟩⟩⟩⟩⟩ ?_
                rw [show (if (vX1_readPoints_2 l3 l4 x1_ (nI i_) x2_) = (-1 : Int32) then x0_ else (x0_ + (1 : Int32))) = (x0_ + (1 : Int32)) from (if_neg c_9)] at K_6
                exact K_6
        refine z_icmp_ne (tgt := 102) dX1_readPoints_87 (by decide) (fun c_4 => ?_) (fun c_4 => ?_)
        · rw [show (if (vX1_readPoints_2 l3 l4 x1_ (nI i_) x2_) = (2 : Int32) then (x1_ ||| (zshl (1 : Int32) ((16 : Int32) - (nI i_)))) else x1_) = x1_ from (if_neg c_4)] at K_3
          exact K_3
        · refine z_iload dX1_readPoints_90 rfl ?_
          refine z_iconst dX1_readPoints_92 k_iconst_1 ?_
          refine z_bipush dX1_readPoints_93 k_bipush_16 ?_
          refine z_iload dX1_readPoints_95 rfl ?_
          refine z_isub (v := ((16 : Int32) - (nI i_))) dX1_readPoints_97 rfl ?_
          refine z_ishl (v := (zshl (1 : Int32) ((16 : Int32) - (nI i_)))) dX1_readPoints_98 rfl ?_
          refine z_ior (v := (x1_ ||| (zshl (1 : Int32) ((16 : Int32) - (nI i_))))) dX1_readPoints_99 rfl ?_
          refine z_istore (lv' := [some (.ref 4), some (.ref 8), some (.int x0_), some (.int l3), some (.int l4), some (.int (x1_ ||| (zshl (1 : Int32) ((16 : Int32) - (nI i_))))), some (.int (nI i_)), none, some (.int (vX1_readPoints_2 l3 l4 x1_ (nI i_) x2_))]) dX1_readPoints_100 (Nat.le_of_ble_eq_true rfl) rfl ?_
          rw [show (if (vX1_readPoints_2 l3 l4 x1_ (nI i_) x2_) = (2 : Int32) then (x1_ ||| (zshl (1 : Int32) ((16 : Int32) - (nI i_)))) else x1_) = (x1_ ||| (zshl (1 : Int32) ((16 : Int32) - (nI i_)))) from (if_pos c_4)] at K_3
          exact K_3
      refine z_if_eq (tgt := 81) dX1_readPoints_59 (by decide) (fun c_3 => ?_) (fun c_3 => ?_)
      · refine z_iconst dX1_readPoints_81 k_iconst_m1 ?_
        refine zz_sub (lv' := [some (.ref 4), some (.ref 8), some (.int x0_), some (.int l3), some (.int l4), some (.int x1_), some (.int (nI i_)), none, none]) ⟨rfl, ⟨rfl, ⟨rfl, ⟨rfl, ⟨rfl, ⟨rfl, ⟨rfl, trivial⟩⟩⟩⟩⟩⟩⟩ ?_
        rw [show (if (rX1_isDark x2_ (nI i_) l4) = (0 : Int32) then (-1 : Int32) else (rX1_kindOf (rJ6_bitCount_0f7a4 (rX1_ringAt x2_ (nI i_) l4)) (if ((rX1_threeAt l3 (nI i_)) ||| (rX1_threeAt x1_ (nI i_))) = (0 : Int32) then (0 : Int32) else (1 : Int32)))) = (-1 : Int32) from (if_pos c_3)] at K_2
        exact K_2
      · refine z_aloadr_n dX1_readPoints_62 rfl ?_
        refine z_iload dX1_readPoints_63 rfl ?_
        refine z_iload dX1_readPoints_65 rfl ?_
        refine z_callV (ci := 1) (r := (RX1, TX1, 3)) (b := 4) (As := [.int (nI i_), .int l4]) (rest := []) (ctX1_ringAt P x2_ (nI i_) l4 (W3_.2.1.2 c_3)) dX1_readPoints_67 lk_X1_35 lv_X1_ringAt (Nat.le_of_ble_eq_true rfl) (zN rfl) rfl rfl rfl rfl (Nat.le_of_ble_eq_true rfl) (Nat.le_of_ble_eq_true rfl) (Nat.le_of_ble_eq_true rfl) (Nat.le_of_ble_eq_true rfl) (fun r_ h_ e_ => ?_)
        obtain ⟨e1_, e2_⟩ := e_
        subst e1_
        subst e2_
        show zz G mX1_readPoints 2 0 0 Q 70 [some (.ref 4), some (.ref 8), some (.int x0_), some (.int l3), some (.int l4), some (.int x1_), some (.int (nI i_)), some (.int (if ((rX1_threeAt l3 (nI i_)) ||| (rX1_threeAt x1_ (nI i_))) = (0 : Int32) then (0 : Int32) else (1 : Int32))), none] [.int (rX1_ringAt x2_ (nI i_) l4)] (hh P x2_) 0 0
        refine z_callS (As := [.int (rX1_ringAt x2_ (nI i_) l4)]) (rest := []) (ctJ6_bitCount_0f7a4 P x2_ (rX1_ringAt x2_ (nI i_) l4)) dX1_readPoints_70 lk_X1_21 ls_J6_bitCount_0f7a4 rfl (Nat.le_of_ble_eq_true rfl) (Nat.le_of_ble_eq_true rfl) (Nat.le_of_ble_eq_true rfl) (Nat.le_of_ble_eq_true rfl) (fun r_ h_ e_ => ?_)
        obtain ⟨e1_, e2_⟩ := e_
        subst e1_
        subst e2_
        show zz G mX1_readPoints 2 0 0 Q 73 [some (.ref 4), some (.ref 8), some (.int x0_), some (.int l3), some (.int l4), some (.int x1_), some (.int (nI i_)), some (.int (if ((rX1_threeAt l3 (nI i_)) ||| (rX1_threeAt x1_ (nI i_))) = (0 : Int32) then (0 : Int32) else (1 : Int32))), none] [.int (rJ6_bitCount_0f7a4 (rX1_ringAt x2_ (nI i_) l4))] (hh P x2_) 0 0
        refine z_iload dX1_readPoints_73 rfl ?_
        refine z_callS (As := [.int (rJ6_bitCount_0f7a4 (rX1_ringAt x2_ (nI i_) l4)), .int (if ((rX1_threeAt l3 (nI i_)) ||| (rX1_threeAt x1_ (nI i_))) = (0 : Int32) then (0 : Int32) else (1 : Int32))]) (rest := []) (ctX1_kindOf P x2_ (rJ6_bitCount_0f7a4 (rX1_ringAt x2_ (nI i_) l4)) (if ((rX1_threeAt l3 (nI i_)) ||| (rX1_threeAt x1_ (nI i_))) = (0 : Int32) then (0 : Int32) else (1 : Int32))) dX1_readPoints_75 lk_X1_76 ls_X1_kindOf rfl (Nat.le_of_ble_eq_true rfl) (Nat.le_of_ble_eq_true rfl) (Nat.le_of_ble_eq_true rfl) (Nat.le_of_ble_eq_true rfl) (fun r_ h_ e_ => ?_)
        obtain ⟨e1_, e2_⟩ := e_
        subst e1_
        subst e2_
        show zz G mX1_readPoints 2 0 0 Q 78 [some (.ref 4), some (.ref 8), some (.int x0_), some (.int l3), some (.int l4), some (.int x1_), some (.int (nI i_)), some (.int (if ((rX1_threeAt l3 (nI i_)) ||| (rX1_threeAt x1_ (nI i_))) = (0 : Int32) then (0 : Int32) else (1 : Int32))), none] [.int (rX1_kindOf (rJ6_bitCount_0f7a4 (rX1_ringAt x2_ (nI i_) l4)) (if ((rX1_threeAt l3 (nI i_)) ||| (rX1_threeAt x1_ (nI i_))) = (0 : Int32) then (0 : Int32) else (1 : Int32)))] (hh P x2_) 0 0
        refine z_goto (tgt := 82) dX1_readPoints_78 (by decide) ?_
        refine zz_sub (lv' := [some (.ref 4), some (.ref 8), some (.int x0_), some (.int l3), some (.int l4), some (.int x1_), some (.int (nI i_)), none, none]) ⟨rfl, ⟨rfl, ⟨rfl, ⟨rfl, ⟨rfl, ⟨rfl, ⟨rfl, trivial⟩⟩⟩⟩⟩⟩⟩ ?_
        rw [show (if (rX1_isDark x2_ (nI i_) l4) = (0 : Int32) then (-1 : Int32) else (rX1_kindOf (rJ6_bitCount_0f7a4 (rX1_ringAt x2_ (nI i_) l4)) (if ((rX1_threeAt l3 (nI i_)) ||| (rX1_threeAt x1_ (nI i_))) = (0 : Int32) then (0 : Int32) else (1 : Int32)))) = (rX1_kindOf (rJ6_bitCount_0f7a4 (rX1_ringAt x2_ (nI i_) l4)) (if ((rX1_threeAt l3 (nI i_)) ||| (rX1_threeAt x1_ (nI i_))) = (0 : Int32) then (0 : Int32) else (1 : Int32))) from (if_neg c_3)] at K_2
        exact K_2
    refine z_if_eq (tgt := 48) dX1_readPoints_41 (by decide) (fun c_2 => ?_) (fun c_2 => ?_)
    · refine z_iconst dX1_readPoints_48 k_iconst_0 ?_
      rw [show (if ((rX1_threeAt l3 (nI i_)) ||| (rX1_threeAt x1_ (nI i_))) = (0 : Int32) then (0 : Int32) else (1 : Int32)) = (0 : Int32) from (if_pos c_2)] at K_1
      exact K_1
    · refine z_iconst dX1_readPoints_44 k_iconst_1 ?_
      refine z_goto (tgt := 49) dX1_readPoints_45 (by decide) ?_
      rw [show (if ((rX1_threeAt l3 (nI i_)) ||| (rX1_threeAt x1_ (nI i_))) = (0 : Int32) then (0 : Int32) else (1 : Int32)) = (1 : Int32) from (if_neg c_2)] at K_1
      exact K_1
  · generalize zfor (fX1_readPoints_20 l3 l4) 16 (l2, l5, σ) = g_ at W2_ ⊢
    obtain ⟨x0_, x1_, x2_⟩ := g_
    dsimp only at W2_ ⊢
    refine z_iload dX1_readPoints_20 rfl ?_
    refine z_bipush dX1_readPoints_22 k_bipush_16 ?_
    refine z_icmp_ge (tgt := 149) dX1_readPoints_24 (by decide) (fun c_ => ?_) (fun c_ => absurd (by decide) c_)
    exact zz_sub (lv' := [some (.ref 4), some (.ref 8), some (.int x0_), none, some (.int l4), some (.int x1_), none, none, none]) ⟨rfl, ⟨rfl, ⟨rfl, ⟨rfl, ⟨rfl, trivial⟩⟩⟩⟩⟩ W2_

theorem dX1_readPoints_7 : decode cX1_readPoints 7 = .ok (.iload 4, 2) := by decide +kernel
theorem dX1_readPoints_9 : decode cX1_readPoints 9 = .ok (.bipush 16, 2) := by decide +kernel
theorem dX1_readPoints_11 : decode cX1_readPoints 11 = .ok (.if_icmp .ge 147, 3) := by decide +kernel
theorem dX1_readPoints_14 : decode cX1_readPoints 14 = .ok (.iconst 0, 1) := by decide +kernel
theorem dX1_readPoints_15 : decode cX1_readPoints 15 = .ok (.istore 5, 2) := by decide +kernel
theorem dX1_readPoints_17 : decode cX1_readPoints 17 = .ok (.iconst 0, 1) := by decide +kernel
theorem dX1_readPoints_18 : decode cX1_readPoints 18 = .ok (.istore 6, 2) := by decide +kernel
theorem dX1_readPoints_158 : decode cX1_readPoints 158 = .ok (.iload_n 2, 1) := by decide +kernel
noncomputable def fX1_readPoints_7 (i_ : Nat) (a_ : Int32 × Int32 × zc_N) : Int32 × Int32 × zc_N := ((zfor (fX1_readPoints_20 a_.2.1 (nI i_)) 16 (a_.1, (0 : Int32), a_.2.2)).1, (zfor (fX1_readPoints_20 a_.2.1 (nI i_)) 16 (a_.1, (0 : Int32), a_.2.2)).2.1, (zfor (fX1_readPoints_20 a_.2.1 (nI i_)) 16 (a_.1, (0 : Int32), a_.2.2)).2.2)
def qX1_readPoints_7 (i_ : Nat) (a_ : Int32 × Int32 × zc_N) : Prop := (∀ i20_ : Nat, i20_ < 16 → qX1_readPoints_20 a_.2.1 (nI i_) i20_ (zfor (fX1_readPoints_20 a_.2.1 (nI i_)) i20_ (a_.1, (0 : Int32), a_.2.2)))
set_option maxHeartbeats 2000000 in
theorem lpX1_readPoints_7 {G : zc_G} {Q : Option Value → zc_H → Prop} (P : zp) (σ : zc_N) (l2 : Int32) (l3 : Int32) (W1_ : ∀ i7_ : Nat, i7_ < 16 → qX1_readPoints_7 i7_ (zfor fX1_readPoints_7 i7_ (l2, l3, σ)))
    (W2_ : zz G mX1_readPoints 2 0 0 Q 158 [none, none, some (.int (zfor fX1_readPoints_7 16 (l2, l3, σ)).1), none, none, none, none, none, none] [] (hh P (zfor fX1_readPoints_7 16 (l2, l3, σ)).2.2) 0 0) :
    zz G mX1_readPoints 2 0 0 Q 7 [some (.ref 4), some (.ref 8), some (.int l2), some (.int l3), some (.int (nI 0)), none, none, none, none] [] (hh P σ) 0 0 := by
  refine zfor_nI (fun i_ a_ => zz G mX1_readPoints 2 0 0 Q 7 [some (.ref 4), some (.ref 8), some (.int a_.1), some (.int a_.2.1), some (.int i_), none, none, none, none] [] (hh P a_.2.2) 0 0) fX1_readPoints_7 16 (l2, l3, σ) (fun i_ hi_ k_ => ?_) ?_
  all_goals try dsimp only
  · have W3_ := W1_ i_ hi_
    generalize zfor fX1_readPoints_7 i_ (l2, l3, σ) = g_ at k_ W3_ ⊢
    obtain ⟨x0_, x1_, x2_⟩ := g_
    dsimp only at k_ W3_ ⊢
    rw [fX1_readPoints_7] at k_
    rw [qX1_readPoints_7] at W3_
    try dsimp only at W3_
    dsimp only at k_
    refine z_iload dX1_readPoints_7 rfl ?_
    refine z_bipush dX1_readPoints_9 k_bipush_16 ?_
    refine z_icmp_ge (tgt := 158) dX1_readPoints_11 (by decide) (fun c_ => absurd c_ (nI_ge hi_ (by decide))) (fun c_ => ?_)
    refine z_iconst dX1_readPoints_14 k_iconst_0 ?_
    refine z_istore (lv' := [some (.ref 4), some (.ref 8), some (.int x0_), some (.int x1_), some (.int (nI i_)), some (.int (0 : Int32)), none, none, none]) dX1_readPoints_15 (Nat.le_of_ble_eq_true rfl) rfl ?_
    refine z_iconst dX1_readPoints_17 k_iconst_0 ?_
    refine z_istore (lv' := [some (.ref 4), some (.ref 8), some (.int x0_), some (.int x1_), some (.int (nI i_)), some (.int (0 : Int32)), some (.int (0 : Int32)), none, none]) dX1_readPoints_18 (Nat.le_of_ble_eq_true rfl) rfl ?_
    refine lpX1_readPoints_20 P x2_ x0_ x1_ (nI i_) (0 : Int32) W3_ ?_
    show zz G mX1_readPoints 2 0 0 Q 149 [some (.ref 4), some (.ref 8), some (.int (zfor (fX1_readPoints_20 x1_ (nI i_)) 16 (x0_, (0 : Int32), x2_)).1), none, some (.int (nI i_)), some (.int (zfor (fX1_readPoints_20 x1_ (nI i_)) 16 (x0_, (0 : Int32), x2_)).2.1), none, none, none] [] (hh P (zfor (fX1_readPoints_20 x1_ (nI i_)) 16 (x0_, (0 : Int32), x2_)).2.2) 0 0
    refine z_iload dX1_readPoints_149 rfl ?_
    refine z_istore_n (lv' := [some (.ref 4), some (.ref 8), some (.int (zfor (fX1_readPoints_20 x1_ (nI i_)) 16 (x0_, (0 : Int32), x2_)).1), some (.int (zfor (fX1_readPoints_20 x1_ (nI i_)) 16 (x0_, (0 : Int32), x2_)).2.1), some (.int (nI i_)), some (.int (zfor (fX1_readPoints_20 x1_ (nI i_)) 16 (x0_, (0 : Int32), x2_)).2.1), none, none, none]) dX1_readPoints_151 (Nat.le_of_ble_eq_true rfl) rfl ?_
    refine z_iinc (v := ((nI i_) + (1 : Int32))) (lv' := [some (.ref 4), some (.ref 8), some (.int (zfor (fX1_readPoints_20 x1_ (nI i_)) 16 (x0_, (0 : Int32), x2_)).1), some (.int (zfor (fX1_readPoints_20 x1_ (nI i_)) 16 (x0_, (0 : Int32), x2_)).2.1), some (.int ((nI i_) + (1 : Int32))), some (.int (zfor (fX1_readPoints_20 x1_ (nI i_)) 16 (x0_, (0 : Int32), x2_)).2.1), none, none, none]) dX1_readPoints_152 (Nat.le_of_ble_eq_true rfl) rfl (by rw [k_iconst_1]) rfl ?_
    refine z_goto (tgt := 7) dX1_readPoints_155 (by decide) ?_
    refine zz_sub (lv' := [some (.ref 4), some (.ref 8), some (.int (zfor (fX1_readPoints_20 x1_ (nI i_)) 16 (x0_, (0 : Int32), x2_)).1), some (.int (zfor (fX1_readPoints_20 x1_ (nI i_)) 16 (x0_, (0 : Int32), x2_)).2.1), some (.int ((nI i_) + (1 : Int32))), none, none, none, none]) ⟨rfl, ⟨rfl, ⟨rfl, ⟨rfl, ⟨rfl, trivial⟩⟩⟩⟩⟩ ?_
    rw [nI_1]
    exact k_
  · generalize zfor fX1_readPoints_7 16 (l2, l3, σ) = g_ at W2_ ⊢
    obtain ⟨x0_, x1_, x2_⟩ := g_
    dsimp only at W2_ ⊢
    refine z_iload dX1_readPoints_7 rfl ?_
    refine z_bipush dX1_readPoints_9 k_bipush_16 ?_
    refine z_icmp_ge (tgt := 158) dX1_readPoints_11 (by decide) (fun c_ => ?_) (fun c_ => absurd (by decide) c_)
    exact zz_sub (lv' := [none, none, some (.int x0_), none, none, none, none, none, none]) ⟨rfl, trivial⟩ W2_

theorem dX1_readPoints_0 : decode cX1_readPoints 0 = .ok (.iconst 0, 1) := by decide +kernel
theorem dX1_readPoints_1 : decode cX1_readPoints 1 = .ok (.istore_n 2, 1) := by decide +kernel
theorem dX1_readPoints_2 : decode cX1_readPoints 2 = .ok (.iconst 0, 1) := by decide +kernel
theorem dX1_readPoints_3 : decode cX1_readPoints 3 = .ok (.istore_n 3, 1) := by decide +kernel
theorem dX1_readPoints_4 : decode cX1_readPoints 4 = .ok (.iconst 0, 1) := by decide +kernel
theorem dX1_readPoints_5 : decode cX1_readPoints 5 = .ok (.istore 4, 2) := by decide +kernel
theorem dX1_readPoints_159 : decode cX1_readPoints 159 = .ok (.ireturn, 1) := by decide +kernel
def pX1_readPoints (σ : zc_N) : Prop := (∀ i7_ : Nat, i7_ < 16 → qX1_readPoints_7 i7_ (zfor fX1_readPoints_7 i7_ ((0 : Int32), (0 : Int32), σ)))
noncomputable def rX1_readPoints (σ : zc_N) : Int32 := (zfor fX1_readPoints_7 16 ((0 : Int32), (0 : Int32), σ)).1
noncomputable def sX1_readPoints (σ : zc_N) : zc_N := (zfor fX1_readPoints_7 16 ((0 : Int32), (0 : Int32), σ)).2.2
set_option maxHeartbeats 1000000 in
theorem ctX1_readPoints (P : zp) (σ : zc_N) (W_ : (pX1_readPoints σ)) : sp mX1_readPoints 2 0 0 [.ref 4, .ref 8] (hh P σ) (fun r_ h_ => r_ = some (.int (rX1_readPoints σ)) ∧ h_ = hh P (sX1_readPoints σ)) := by
  refine sp_of (lv := [some (.ref 4), some (.ref 8), none, none, none, none, none, none, none]) (by decide) (zcats_ok _ rfl) (Nat.le_of_ble_eq_true rfl) (zlv_ok _ 7 rfl) (fun G => ?_)
  generalize hQ_ : (fun (r_ : Option Value) (h_ : zc_H) => r_ = some (.int (rX1_readPoints σ)) ∧ h_ = hh P (sX1_readPoints σ)) = Q_
  unfold pX1_readPoints at W_
  refine z_iconst dX1_readPoints_0 k_iconst_0 ?_
  refine z_istore_n (lv' := [some (.ref 4), some (.ref 8), some (.int (0 : Int32)), none, none, none, none, none, none]) dX1_readPoints_1 (Nat.le_of_ble_eq_true rfl) rfl ?_
  refine z_iconst dX1_readPoints_2 k_iconst_0 ?_
  refine z_istore_n (lv' := [some (.ref 4), some (.ref 8), some (.int (0 : Int32)), some (.int (0 : Int32)), none, none, none, none, none]) dX1_readPoints_3 (Nat.le_of_ble_eq_true rfl) rfl ?_
  refine z_iconst dX1_readPoints_4 k_iconst_0 ?_
  refine z_istore (lv' := [some (.ref 4), some (.ref 8), some (.int (0 : Int32)), some (.int (0 : Int32)), some (.int (0 : Int32)), none, none, none, none]) dX1_readPoints_5 (Nat.le_of_ble_eq_true rfl) rfl ?_
  refine lpX1_readPoints_7 P σ (0 : Int32) (0 : Int32) W_ ?_
  show zz G mX1_readPoints 2 0 0 Q_ 158 [none, none, some (.int (zfor fX1_readPoints_7 16 ((0 : Int32), (0 : Int32), σ)).1), none, none, none, none, none, none] [] (hh P (zfor fX1_readPoints_7 16 ((0 : Int32), (0 : Int32), σ)).2.2) 0 0
  refine z_iload_n dX1_readPoints_158 rfl ?_
  exact z_ireturn dX1_readPoints_159 rfl rfl (Nat.le_of_ble_eq_true rfl) (Nat.le_of_ble_eq_true rfl) (by rw [← hQ_]; exact ⟨(by rw [rX1_readPoints]), (by rw [sX1_readPoints])⟩)

theorem dX2_lastComing_5 : decode cX2_lastComing 5 = .ok (.iload 4, 2) := by decide +kernel
theorem dX2_lastComing_7 : decode cX2_lastComing 7 = .ok (.bipush 12, 2) := by decide +kernel
theorem dX2_lastComing_9 : decode cX2_lastComing 9 = .ok (.if_icmp .ge 35, 3) := by decide +kernel
theorem dX2_lastComing_12 : decode cX2_lastComing 12 = .ok (.iload_n 1, 1) := by decide +kernel
theorem dX2_lastComing_13 : decode cX2_lastComing 13 = .ok (.aload_n 0, 1) := by decide +kernel
theorem dX2_lastComing_14 : decode cX2_lastComing 14 = .ok (.getfield 9, 3) := by decide +kernel
theorem dX2_lastComing_17 : decode cX2_lastComing 17 = .ok (.iand, 1) := by decide +kernel
theorem dX2_lastComing_18 : decode cX2_lastComing 18 = .ok (.iload 4, 2) := by decide +kernel
theorem dX2_lastComing_20 : decode cX2_lastComing 20 = .ok (.ishr, 1) := by decide +kernel
theorem dX2_lastComing_21 : decode cX2_lastComing 21 = .ok (.iconst 1, 1) := by decide +kernel
theorem dX2_lastComing_22 : decode cX2_lastComing 22 = .ok (.iand, 1) := by decide +kernel
theorem dX2_lastComing_23 : decode cX2_lastComing 23 = .ok (.ifCond .eq 15, 3) := by decide +kernel
theorem dX2_lastComing_26 : decode cX2_lastComing 26 = .ok (.iload_n 3, 1) := by decide +kernel
theorem dX2_lastComing_27 : decode cX2_lastComing 27 = .ok (.aload_n 0, 1) := by decide +kernel
theorem dX2_lastComing_28 : decode cX2_lastComing 28 = .ok (.getfield 15, 3) := by decide +kernel
theorem dX2_lastComing_31 : decode cX2_lastComing 31 = .ok (.iload 4, 2) := by decide +kernel
theorem dX2_lastComing_33 : decode cX2_lastComing 33 = .ok (.iaload, 1) := by decide +kernel
theorem dX2_lastComing_34 : decode cX2_lastComing 34 = .ok (.invokestatic 42, 3) := by decide +kernel
theorem dX2_lastComing_37 : decode cX2_lastComing 37 = .ok (.istore_n 3, 1) := by decide +kernel
theorem dX2_lastComing_38 : decode cX2_lastComing 38 = .ok (.iinc 4 1, 3) := by decide +kernel
theorem dX2_lastComing_41 : decode cX2_lastComing 41 = .ok (.goto (-36), 3) := by decide +kernel
theorem dX2_lastComing_44 : decode cX2_lastComing 44 = .ok (.iload_n 3, 1) := by decide +kernel
noncomputable def fX2_lastComing_5 (σ : zc_N) (l1 : Int32) (i_ : Nat) (a_ : Int32) : Int32 := (if ((zshr (l1 &&& ((σ 27) 0)) (nI i_)) &&& (1 : Int32)) = (0 : Int32) then a_ else (if a_ < ((σ 28) (nI i_).toNatClampNeg) then ((σ 28) (nI i_).toNatClampNeg) else a_))
set_option maxHeartbeats 2000000 in
theorem lpX2_lastComing_5 {G : zc_G} {Q : Option Value → zc_H → Prop} (P : zp) (σ : zc_N) (l1 : Int32) (l3 : Int32)
    (W2_ : zz G mX2_lastComing 1 0 0 Q 44 [none, none, none, some (.int (zfor (fX2_lastComing_5 σ l1) 12 l3)), none] [] (hh P σ) 0 0) :
    zz G mX2_lastComing 1 0 0 Q 5 [some (.ref 27), some (.int l1), none, some (.int l3), some (.int (nI 0))] [] (hh P σ) 0 0 := by
  refine zfor_nI (fun i_ a_ => zz G mX2_lastComing 1 0 0 Q 5 [some (.ref 27), some (.int l1), none, some (.int a_), some (.int i_)] [] (hh P σ) 0 0) (fX2_lastComing_5 σ l1) 12 l3 (fun i_ hi_ k_ => ?_) ?_
  · generalize zfor (fX2_lastComing_5 σ l1) i_ l3 = g_ at k_ ⊢
    rw [fX2_lastComing_5] at k_
    refine z_iload dX2_lastComing_5 rfl ?_
    refine z_bipush dX2_lastComing_7 k_bipush_12 ?_
    refine z_icmp_ge (tgt := 44) dX2_lastComing_9 (by decide) (fun c_ => absurd c_ (nI_ge hi_ (by decide))) (fun c_ => ?_)
    refine z_iload_n dX2_lastComing_12 rfl ?_
    refine z_aloadr_n dX2_lastComing_13 rfl ?_
    refine z_get (ci := 2) (r := (RX2, TX2, 6)) (j := 0) (v := .int ((σ 27) 0)) dX2_lastComing_14 (Nat.le_of_ble_eq_true rfl) (zN rfl) rfl rfl (Nat.le_of_ble_eq_true rfl) fl_X2_9 rfl ?_
    refine z_iand (v := (l1 &&& ((σ 27) 0))) dX2_lastComing_17 rfl ?_
    refine z_iload dX2_lastComing_18 rfl ?_
    refine z_ishr (v := (zshr (l1 &&& ((σ 27) 0)) (nI i_))) dX2_lastComing_20 rfl ?_
    refine z_iconst dX2_lastComing_21 k_iconst_1 ?_
    refine z_iand (v := ((zshr (l1 &&& ((σ 27) 0)) (nI i_)) &&& (1 : Int32))) dX2_lastComing_22 rfl ?_
    have K_1 : zz G mX2_lastComing 1 0 0 Q 38 [some (.ref 27), some (.int l1), none, some (.int (if ((zshr (l1 &&& ((σ 27) 0)) (nI i_)) &&& (1 : Int32)) = (0 : Int32) then g_ else (if g_ < ((σ 28) (nI i_).toNatClampNeg) then ((σ 28) (nI i_).toNatClampNeg) else g_))), some (.int (nI i_))] [] (hh P σ) 0 0 := by
      refine z_iinc (v := ((nI i_) + (1 : Int32))) (lv' := [some (.ref 27), some (.int l1), none, some (.int (if ((zshr (l1 &&& ((σ 27) 0)) (nI i_)) &&& (1 : Int32)) = (0 : Int32) then g_ else (if g_ < ((σ 28) (nI i_).toNatClampNeg) then ((σ 28) (nI i_).toNatClampNeg) else g_))), some (.int ((nI i_) + (1 : Int32)))]) dX2_lastComing_38 (Nat.le_of_ble_eq_true rfl) rfl (by rw [k_iconst_1]) rfl ?_
      refine z_goto (tgt := 5) dX2_lastComing_41 (by decide) ?_
      rw [nI_1]
      exact k_
    refine z_if_eq (tgt := 38) dX2_lastComing_23 (by decide) (fun c_2 => ?_) (fun c_2 => ?_)
    · rw [show (if ((zshr (l1 &&& ((σ 27) 0)) (nI i_)) &&& (1 : Int32)) = (0 : Int32) then g_ else (if g_ < ((σ 28) (nI i_).toNatClampNeg) then ((σ 28) (nI i_).toNatClampNeg) else g_)) = g_ from (if_pos c_2)] at K_1
      exact K_1
    · refine z_iload_n dX2_lastComing_26 rfl ?_
      refine z_aloadr_n dX2_lastComing_27 rfl ?_
      refine z_get (ci := 2) (r := (RX2, TX2, 6)) (j := 1) (v := .ref 28) dX2_lastComing_28 (Nat.le_of_ble_eq_true rfl) (zN rfl) rfl rfl (Nat.le_of_ble_eq_true rfl) fl_X2_15 rfl ?_
      refine z_iload dX2_lastComing_31 rfl ?_
      refine z_iald (v := ((σ 28) (nI i_).toNatClampNeg)) dX2_lastComing_33 (zN rfl) rfl (vp_in_nI (Nat.lt_of_lt_of_le hi_ (Nat.le_of_ble_eq_true rfl)) (by decide)) rfl ?_
      refine z_mmax dX2_lastComing_34 lk_X2_42 (Nat.le_of_ble_eq_true rfl) (Nat.le_of_ble_eq_true rfl) (Nat.le_of_ble_eq_true rfl) (Nat.le_of_ble_eq_true rfl) ?_
      refine z_istore_n (lv' := [some (.ref 27), some (.int l1), none, some (.int (if g_ < ((σ 28) (nI i_).toNatClampNeg) then ((σ 28) (nI i_).toNatClampNeg) else g_)), some (.int (nI i_))]) dX2_lastComing_37 (Nat.le_of_ble_eq_true rfl) rfl ?_
      rw [show (if ((zshr (l1 &&& ((σ 27) 0)) (nI i_)) &&& (1 : Int32)) = (0 : Int32) then g_ else (if g_ < ((σ 28) (nI i_).toNatClampNeg) then ((σ 28) (nI i_).toNatClampNeg) else g_)) = (if g_ < ((σ 28) (nI i_).toNatClampNeg) then ((σ 28) (nI i_).toNatClampNeg) else g_) from (if_neg c_2)] at K_1
      exact K_1
  · generalize zfor (fX2_lastComing_5 σ l1) 12 l3 = g_ at W2_ ⊢
    refine z_iload dX2_lastComing_5 rfl ?_
    refine z_bipush dX2_lastComing_7 k_bipush_12 ?_
    refine z_icmp_ge (tgt := 44) dX2_lastComing_9 (by decide) (fun c_ => ?_) (fun c_ => absurd (by decide) c_)
    exact zz_sub (lv' := [none, none, none, some (.int g_), none]) ⟨rfl, trivial⟩ W2_

theorem dX2_lastComing_0 : decode cX2_lastComing 0 = .ok (.iload_n 2, 1) := by decide +kernel
theorem dX2_lastComing_1 : decode cX2_lastComing 1 = .ok (.istore_n 3, 1) := by decide +kernel
theorem dX2_lastComing_2 : decode cX2_lastComing 2 = .ok (.iconst 0, 1) := by decide +kernel
theorem dX2_lastComing_3 : decode cX2_lastComing 3 = .ok (.istore 4, 2) := by decide +kernel
theorem dX2_lastComing_45 : decode cX2_lastComing 45 = .ok (.ireturn, 1) := by decide +kernel
noncomputable def rX2_lastComing (σ : zc_N) (a1 : Int32) (a2 : Int32) : Int32 := (zfor (fX2_lastComing_5 σ a1) 12 a2)
set_option maxHeartbeats 1000000 in
theorem ctX2_lastComing (P : zp) (σ : zc_N) (a1 : Int32) (a2 : Int32) : sp mX2_lastComing 1 0 0 [.ref 27, .int a1, .int a2] (hh P σ) (fun r_ h_ => r_ = some (.int (rX2_lastComing σ a1 a2)) ∧ h_ = hh P σ) := by
  refine sp_of (lv := [some (.ref 27), some (.int a1), some (.int a2), none, none]) (by decide) (zcats_ok _ rfl) (Nat.le_of_ble_eq_true rfl) (zlv_ok _ 2 rfl) (fun G => ?_)
  generalize hQ_ : (fun (r_ : Option Value) (h_ : zc_H) => r_ = some (.int (rX2_lastComing σ a1 a2)) ∧ h_ = hh P σ) = Q_
  refine z_iload_n dX2_lastComing_0 rfl ?_
  refine z_istore_n (lv' := [some (.ref 27), some (.int a1), some (.int a2), some (.int a2), none]) dX2_lastComing_1 (Nat.le_of_ble_eq_true rfl) rfl ?_
  refine z_iconst dX2_lastComing_2 k_iconst_0 ?_
  refine z_istore (lv' := [some (.ref 27), some (.int a1), some (.int a2), some (.int a2), some (.int (0 : Int32))]) dX2_lastComing_3 (Nat.le_of_ble_eq_true rfl) rfl ?_
  refine zz_sub (lv' := [some (.ref 27), some (.int a1), none, some (.int a2), some (.int (0 : Int32))]) ⟨rfl, ⟨rfl, ⟨rfl, ⟨rfl, trivial⟩⟩⟩⟩ ?_
  refine lpX2_lastComing_5 P σ a1 a2 ?_
  show zz G mX2_lastComing 1 0 0 Q_ 44 [none, none, none, some (.int (zfor (fX2_lastComing_5 σ a1) 12 a2)), none] [] (hh P σ) 0 0
  refine z_iload_n dX2_lastComing_44 rfl ?_
  exact z_ireturn dX2_lastComing_45 rfl rfl (Nat.le_of_ble_eq_true rfl) (Nat.le_of_ble_eq_true rfl) (by rw [← hQ_]; exact ⟨(by rw [rX2_lastComing]), rfl⟩)

theorem dX2_firstComing_5 : decode cX2_firstComing 5 = .ok (.iload 4, 2) := by decide +kernel
theorem dX2_firstComing_7 : decode cX2_firstComing 7 = .ok (.bipush 12, 2) := by decide +kernel
theorem dX2_firstComing_9 : decode cX2_firstComing 9 = .ok (.if_icmp .ge 35, 3) := by decide +kernel
theorem dX2_firstComing_12 : decode cX2_firstComing 12 = .ok (.iload_n 1, 1) := by decide +kernel
theorem dX2_firstComing_13 : decode cX2_firstComing 13 = .ok (.aload_n 0, 1) := by decide +kernel
theorem dX2_firstComing_14 : decode cX2_firstComing 14 = .ok (.getfield 9, 3) := by decide +kernel
theorem dX2_firstComing_17 : decode cX2_firstComing 17 = .ok (.iand, 1) := by decide +kernel
theorem dX2_firstComing_18 : decode cX2_firstComing 18 = .ok (.iload 4, 2) := by decide +kernel
theorem dX2_firstComing_20 : decode cX2_firstComing 20 = .ok (.ishr, 1) := by decide +kernel
theorem dX2_firstComing_21 : decode cX2_firstComing 21 = .ok (.iconst 1, 1) := by decide +kernel
theorem dX2_firstComing_22 : decode cX2_firstComing 22 = .ok (.iand, 1) := by decide +kernel
theorem dX2_firstComing_23 : decode cX2_firstComing 23 = .ok (.ifCond .eq 15, 3) := by decide +kernel
theorem dX2_firstComing_26 : decode cX2_firstComing 26 = .ok (.iload_n 3, 1) := by decide +kernel
theorem dX2_firstComing_27 : decode cX2_firstComing 27 = .ok (.aload_n 0, 1) := by decide +kernel
theorem dX2_firstComing_28 : decode cX2_firstComing 28 = .ok (.getfield 15, 3) := by decide +kernel
theorem dX2_firstComing_31 : decode cX2_firstComing 31 = .ok (.iload 4, 2) := by decide +kernel
theorem dX2_firstComing_33 : decode cX2_firstComing 33 = .ok (.iaload, 1) := by decide +kernel
theorem dX2_firstComing_34 : decode cX2_firstComing 34 = .ok (.invokestatic 48, 3) := by decide +kernel
theorem dX2_firstComing_37 : decode cX2_firstComing 37 = .ok (.istore_n 3, 1) := by decide +kernel
theorem dX2_firstComing_38 : decode cX2_firstComing 38 = .ok (.iinc 4 1, 3) := by decide +kernel
theorem dX2_firstComing_41 : decode cX2_firstComing 41 = .ok (.goto (-36), 3) := by decide +kernel
theorem dX2_firstComing_44 : decode cX2_firstComing 44 = .ok (.iload_n 3, 1) := by decide +kernel
noncomputable def fX2_firstComing_5 (σ : zc_N) (l1 : Int32) (i_ : Nat) (a_ : Int32) : Int32 := (if ((zshr (l1 &&& ((σ 27) 0)) (nI i_)) &&& (1 : Int32)) = (0 : Int32) then a_ else (if ((σ 28) (nI i_).toNatClampNeg) < a_ then ((σ 28) (nI i_).toNatClampNeg) else a_))
set_option maxHeartbeats 2000000 in
theorem lpX2_firstComing_5 {G : zc_G} {Q : Option Value → zc_H → Prop} (P : zp) (σ : zc_N) (l1 : Int32) (l3 : Int32)
    (W2_ : zz G mX2_firstComing 1 0 0 Q 44 [none, none, none, some (.int (zfor (fX2_firstComing_5 σ l1) 12 l3)), none] [] (hh P σ) 0 0) :
    zz G mX2_firstComing 1 0 0 Q 5 [some (.ref 27), some (.int l1), none, some (.int l3), some (.int (nI 0))] [] (hh P σ) 0 0 := by
  refine zfor_nI (fun i_ a_ => zz G mX2_firstComing 1 0 0 Q 5 [some (.ref 27), some (.int l1), none, some (.int a_), some (.int i_)] [] (hh P σ) 0 0) (fX2_firstComing_5 σ l1) 12 l3 (fun i_ hi_ k_ => ?_) ?_
  · generalize zfor (fX2_firstComing_5 σ l1) i_ l3 = g_ at k_ ⊢
    rw [fX2_firstComing_5] at k_
    refine z_iload dX2_firstComing_5 rfl ?_
    refine z_bipush dX2_firstComing_7 k_bipush_12 ?_
    refine z_icmp_ge (tgt := 44) dX2_firstComing_9 (by decide) (fun c_ => absurd c_ (nI_ge hi_ (by decide))) (fun c_ => ?_)
    refine z_iload_n dX2_firstComing_12 rfl ?_
    refine z_aloadr_n dX2_firstComing_13 rfl ?_
    refine z_get (ci := 2) (r := (RX2, TX2, 6)) (j := 0) (v := .int ((σ 27) 0)) dX2_firstComing_14 (Nat.le_of_ble_eq_true rfl) (zN rfl) rfl rfl (Nat.le_of_ble_eq_true rfl) fl_X2_9 rfl ?_
    refine z_iand (v := (l1 &&& ((σ 27) 0))) dX2_firstComing_17 rfl ?_
    refine z_iload dX2_firstComing_18 rfl ?_
    refine z_ishr (v := (zshr (l1 &&& ((σ 27) 0)) (nI i_))) dX2_firstComing_20 rfl ?_
    refine z_iconst dX2_firstComing_21 k_iconst_1 ?_
    refine z_iand (v := ((zshr (l1 &&& ((σ 27) 0)) (nI i_)) &&& (1 : Int32))) dX2_firstComing_22 rfl ?_
    have K_1 : zz G mX2_firstComing 1 0 0 Q 38 [some (.ref 27), some (.int l1), none, some (.int (if ((zshr (l1 &&& ((σ 27) 0)) (nI i_)) &&& (1 : Int32)) = (0 : Int32) then g_ else (if ((σ 28) (nI i_).toNatClampNeg) < g_ then ((σ 28) (nI i_).toNatClampNeg) else g_))), some (.int (nI i_))] [] (hh P σ) 0 0 := by
      refine z_iinc (v := ((nI i_) + (1 : Int32))) (lv' := [some (.ref 27), some (.int l1), none, some (.int (if ((zshr (l1 &&& ((σ 27) 0)) (nI i_)) &&& (1 : Int32)) = (0 : Int32) then g_ else (if ((σ 28) (nI i_).toNatClampNeg) < g_ then ((σ 28) (nI i_).toNatClampNeg) else g_))), some (.int ((nI i_) + (1 : Int32)))]) dX2_firstComing_38 (Nat.le_of_ble_eq_true rfl) rfl (by rw [k_iconst_1]) rfl ?_
      refine z_goto (tgt := 5) dX2_firstComing_41 (by decide) ?_
      rw [nI_1]
      exact k_
    refine z_if_eq (tgt := 38) dX2_firstComing_23 (by decide) (fun c_2 => ?_) (fun c_2 => ?_)
    · rw [show (if ((zshr (l1 &&& ((σ 27) 0)) (nI i_)) &&& (1 : Int32)) = (0 : Int32) then g_ else (if ((σ 28) (nI i_).toNatClampNeg) < g_ then ((σ 28) (nI i_).toNatClampNeg) else g_)) = g_ from (if_pos c_2)] at K_1
      exact K_1
    · refine z_iload_n dX2_firstComing_26 rfl ?_
      refine z_aloadr_n dX2_firstComing_27 rfl ?_
      refine z_get (ci := 2) (r := (RX2, TX2, 6)) (j := 1) (v := .ref 28) dX2_firstComing_28 (Nat.le_of_ble_eq_true rfl) (zN rfl) rfl rfl (Nat.le_of_ble_eq_true rfl) fl_X2_15 rfl ?_
      refine z_iload dX2_firstComing_31 rfl ?_
      refine z_iald (v := ((σ 28) (nI i_).toNatClampNeg)) dX2_firstComing_33 (zN rfl) rfl (vp_in_nI (Nat.lt_of_lt_of_le hi_ (Nat.le_of_ble_eq_true rfl)) (by decide)) rfl ?_
      refine z_mmin dX2_firstComing_34 lk_X2_48 (Nat.le_of_ble_eq_true rfl) (Nat.le_of_ble_eq_true rfl) (Nat.le_of_ble_eq_true rfl) (Nat.le_of_ble_eq_true rfl) ?_
      refine z_istore_n (lv' := [some (.ref 27), some (.int l1), none, some (.int (if ((σ 28) (nI i_).toNatClampNeg) < g_ then ((σ 28) (nI i_).toNatClampNeg) else g_)), some (.int (nI i_))]) dX2_firstComing_37 (Nat.le_of_ble_eq_true rfl) rfl ?_
      rw [show (if ((zshr (l1 &&& ((σ 27) 0)) (nI i_)) &&& (1 : Int32)) = (0 : Int32) then g_ else (if ((σ 28) (nI i_).toNatClampNeg) < g_ then ((σ 28) (nI i_).toNatClampNeg) else g_)) = (if ((σ 28) (nI i_).toNatClampNeg) < g_ then ((σ 28) (nI i_).toNatClampNeg) else g_) from (if_neg c_2)] at K_1
      exact K_1
  · generalize zfor (fX2_firstComing_5 σ l1) 12 l3 = g_ at W2_ ⊢
    refine z_iload dX2_firstComing_5 rfl ?_
    refine z_bipush dX2_firstComing_7 k_bipush_12 ?_
    refine z_icmp_ge (tgt := 44) dX2_firstComing_9 (by decide) (fun c_ => ?_) (fun c_ => absurd (by decide) c_)
    exact zz_sub (lv' := [none, none, none, some (.int g_), none]) ⟨rfl, trivial⟩ W2_

theorem dX2_firstComing_0 : decode cX2_firstComing 0 = .ok (.iload_n 2, 1) := by decide +kernel
theorem dX2_firstComing_1 : decode cX2_firstComing 1 = .ok (.istore_n 3, 1) := by decide +kernel
theorem dX2_firstComing_2 : decode cX2_firstComing 2 = .ok (.iconst 0, 1) := by decide +kernel
theorem dX2_firstComing_3 : decode cX2_firstComing 3 = .ok (.istore 4, 2) := by decide +kernel
theorem dX2_firstComing_45 : decode cX2_firstComing 45 = .ok (.ireturn, 1) := by decide +kernel
noncomputable def rX2_firstComing (σ : zc_N) (a1 : Int32) (a2 : Int32) : Int32 := (zfor (fX2_firstComing_5 σ a1) 12 a2)
set_option maxHeartbeats 1000000 in
theorem ctX2_firstComing (P : zp) (σ : zc_N) (a1 : Int32) (a2 : Int32) : sp mX2_firstComing 1 0 0 [.ref 27, .int a1, .int a2] (hh P σ) (fun r_ h_ => r_ = some (.int (rX2_firstComing σ a1 a2)) ∧ h_ = hh P σ) := by
  refine sp_of (lv := [some (.ref 27), some (.int a1), some (.int a2), none, none]) (by decide) (zcats_ok _ rfl) (Nat.le_of_ble_eq_true rfl) (zlv_ok _ 2 rfl) (fun G => ?_)
  generalize hQ_ : (fun (r_ : Option Value) (h_ : zc_H) => r_ = some (.int (rX2_firstComing σ a1 a2)) ∧ h_ = hh P σ) = Q_
  refine z_iload_n dX2_firstComing_0 rfl ?_
  refine z_istore_n (lv' := [some (.ref 27), some (.int a1), some (.int a2), some (.int a2), none]) dX2_firstComing_1 (Nat.le_of_ble_eq_true rfl) rfl ?_
  refine z_iconst dX2_firstComing_2 k_iconst_0 ?_
  refine z_istore (lv' := [some (.ref 27), some (.int a1), some (.int a2), some (.int a2), some (.int (0 : Int32))]) dX2_firstComing_3 (Nat.le_of_ble_eq_true rfl) rfl ?_
  refine zz_sub (lv' := [some (.ref 27), some (.int a1), none, some (.int a2), some (.int (0 : Int32))]) ⟨rfl, ⟨rfl, ⟨rfl, ⟨rfl, trivial⟩⟩⟩⟩ ?_
  refine lpX2_firstComing_5 P σ a1 a2 ?_
  show zz G mX2_firstComing 1 0 0 Q_ 44 [none, none, none, some (.int (zfor (fX2_firstComing_5 σ a1) 12 a2)), none] [] (hh P σ) 0 0
  refine z_iload_n dX2_firstComing_44 rfl ?_
  exact z_ireturn dX2_firstComing_45 rfl rfl (Nat.le_of_ble_eq_true rfl) (Nat.le_of_ble_eq_true rfl) (by rw [← hQ_]; exact ⟨(by rw [rX2_firstComing]), rfl⟩)

theorem dX2_hear_56 : decode cX2_hear 56 = .ok (.iload 4, 2) := by decide +kernel
theorem dX2_hear_58 : decode cX2_hear 58 = .ok (.bipush 12, 2) := by decide +kernel
theorem dX2_hear_60 : decode cX2_hear 60 = .ok (.if_icmp .ge 39, 3) := by decide +kernel
theorem dX2_hear_63 : decode cX2_hear 63 = .ok (.iload_n 3, 1) := by decide +kernel
theorem dX2_hear_64 : decode cX2_hear 64 = .ok (.iload 4, 2) := by decide +kernel
theorem dX2_hear_66 : decode cX2_hear 66 = .ok (.ishr, 1) := by decide +kernel
theorem dX2_hear_67 : decode cX2_hear 67 = .ok (.iconst 1, 1) := by decide +kernel
theorem dX2_hear_68 : decode cX2_hear 68 = .ok (.iand, 1) := by decide +kernel
theorem dX2_hear_69 : decode cX2_hear 69 = .ok (.ifCond .eq 24, 3) := by decide +kernel
theorem dX2_hear_72 : decode cX2_hear 72 = .ok (.aload_n 0, 1) := by decide +kernel
theorem dX2_hear_73 : decode cX2_hear 73 = .ok (.getfield 28, 3) := by decide +kernel
theorem dX2_hear_76 : decode cX2_hear 76 = .ok (.iload 4, 2) := by decide +kernel
theorem dX2_hear_78 : decode cX2_hear 78 = .ok (.aload_n 0, 1) := by decide +kernel
theorem dX2_hear_79 : decode cX2_hear 79 = .ok (.getfield 28, 3) := by decide +kernel
theorem dX2_hear_82 : decode cX2_hear 82 = .ok (.iload 4, 2) := by decide +kernel
theorem dX2_hear_84 : decode cX2_hear 84 = .ok (.iaload, 1) := by decide +kernel
theorem dX2_hear_85 : decode cX2_hear 85 = .ok (.aload_n 1, 1) := by decide +kernel
theorem dX2_hear_86 : decode cX2_hear 86 = .ok (.getfield 37, 3) := by decide +kernel
theorem dX2_hear_89 : decode cX2_hear 89 = .ok (.invokestatic 42, 3) := by decide +kernel
theorem dX2_hear_92 : decode cX2_hear 92 = .ok (.iastore, 1) := by decide +kernel
theorem dX2_hear_93 : decode cX2_hear 93 = .ok (.iinc 4 1, 3) := by decide +kernel
theorem dX2_hear_96 : decode cX2_hear 96 = .ok (.goto (-40), 3) := by decide +kernel
noncomputable def fX2_hear_56 (i1 : Nat) (l3 : Int32) (i_ : Nat) (a_ : zc_N) : zc_N := (if ((zshr l3 (nI i_)) &&& (1 : Int32)) = (0 : Int32) then a_ else (zu a_ 31 (zu (a_ 31) (nI i_).toNatClampNeg (if ((a_ 31) (nI i_).toNatClampNeg) < ((a_ (pO i1)) 4) then ((a_ (pO i1)) 4) else ((a_ 31) (nI i_).toNatClampNeg)))))
set_option maxHeartbeats 2000000 in
theorem lpX2_hear_56 {G : zc_G} {Q : Option Value → zc_H → Prop} (P : zp) (σ : zc_N) (i1 : Nat) (h1 : i1 < P.2.1) (l3 : Int32)
    (W2_ : zz G mX2_hear 1 0 0 Q 99 [none, none, none, none, none] [] (hh P (zfor (fX2_hear_56 i1 l3) 12 σ)) 0 0) :
    zz G mX2_hear 1 0 0 Q 56 [some (.ref 27), some (.ref (pO i1)), none, some (.int l3), some (.int (nI 0))] [] (hh P σ) 0 0 := by
  refine zfor_nI (fun i_ a_ => zz G mX2_hear 1 0 0 Q 56 [some (.ref 27), some (.ref (pO i1)), none, some (.int l3), some (.int i_)] [] (hh P a_) 0 0) (fX2_hear_56 i1 l3) 12 σ (fun i_ hi_ k_ => ?_) ?_
  · generalize zfor (fX2_hear_56 i1 l3) i_ σ = g_ at k_ ⊢
    rw [fX2_hear_56] at k_
    refine z_iload dX2_hear_56 rfl ?_
    refine z_bipush dX2_hear_58 k_bipush_12 ?_
    refine z_icmp_ge (tgt := 99) dX2_hear_60 (by decide) (fun c_ => absurd c_ (nI_ge hi_ (by decide))) (fun c_ => ?_)
    refine z_iload_n dX2_hear_63 rfl ?_
    refine z_iload dX2_hear_64 rfl ?_
    refine z_ishr (v := (zshr l3 (nI i_))) dX2_hear_66 rfl ?_
    refine z_iconst dX2_hear_67 k_iconst_1 ?_
    refine z_iand (v := ((zshr l3 (nI i_)) &&& (1 : Int32))) dX2_hear_68 rfl ?_
    refine z_if_eq (tgt := 93) dX2_hear_69 (by decide) (fun c_2 => ?_) (fun c_2 => ?_)
    · refine z_iinc (v := ((nI i_) + (1 : Int32))) (lv' := [some (.ref 27), some (.ref (pO i1)), none, some (.int l3), some (.int ((nI i_) + (1 : Int32)))]) dX2_hear_93 (Nat.le_of_ble_eq_true rfl) rfl (by rw [k_iconst_1]) rfl ?_
      refine z_goto (tgt := 56) dX2_hear_96 (by decide) ?_
      rw [nI_1]
      simpa only [if_pos c_2] using k_
    · refine z_aloadr_n dX2_hear_72 rfl ?_
      refine z_get (ci := 2) (r := (RX2, TX2, 6)) (j := 5) (v := .ref 31) dX2_hear_73 (Nat.le_of_ble_eq_true rfl) (zN rfl) rfl rfl (Nat.le_of_ble_eq_true rfl) fl_X2_28 rfl ?_
      refine z_iload dX2_hear_76 rfl ?_
      refine z_aloadr_n dX2_hear_78 rfl ?_
      refine z_get (ci := 2) (r := (RX2, TX2, 6)) (j := 5) (v := .ref 31) dX2_hear_79 (Nat.le_of_ble_eq_true rfl) (zN rfl) rfl rfl (Nat.le_of_ble_eq_true rfl) fl_X2_28 rfl ?_
      refine z_iload dX2_hear_82 rfl ?_
      refine z_iald (v := ((g_ 31) (nI i_).toNatClampNeg)) dX2_hear_84 (zN rfl) rfl (vp_in_nI (Nat.lt_of_lt_of_le hi_ (Nat.le_of_ble_eq_true rfl)) (by decide)) rfl ?_
      refine z_aloadr_n dX2_hear_85 rfl ?_
      refine z_get (ci := 7) (r := (RX7, TX7, 5)) (j := 4) (v := .int ((g_ (pO i1)) 4)) dX2_hear_86 (z3O i1) (zNO h1) (SH_pO P i1) rfl (Nat.le_of_ble_eq_true rfl) fl_X2_37 rfl ?_
      refine z_mmax dX2_hear_89 lk_X2_42 (Nat.le_of_ble_eq_true rfl) (Nat.le_of_ble_eq_true rfl) (Nat.le_of_ble_eq_true rfl) (Nat.le_of_ble_eq_true rfl) ?_
      refine z_iast (σ' := (zu g_ 31 (zu (g_ 31) (nI i_).toNatClampNeg (if ((g_ 31) (nI i_).toNatClampNeg) < ((g_ (pO i1)) 4) then ((g_ (pO i1)) 4) else ((g_ 31) (nI i_).toNatClampNeg))))) dX2_hear_92 (Nat.le_of_ble_eq_true rfl) (zN rfl) rfl (vp_in_nI (Nat.lt_of_lt_of_le hi_ (Nat.le_of_ble_eq_true rfl)) (by decide)) rfl ?_
      refine z_iinc (v := ((nI i_) + (1 : Int32))) (lv' := [some (.ref 27), some (.ref (pO i1)), none, some (.int l3), some (.int ((nI i_) + (1 : Int32)))]) dX2_hear_93 (Nat.le_of_ble_eq_true rfl) rfl (by rw [k_iconst_1]) rfl ?_
      refine z_goto (tgt := 56) dX2_hear_96 (by decide) ?_
      rw [nI_1]
      simpa only [if_neg c_2] using k_
  · generalize zfor (fX2_hear_56 i1 l3) 12 σ = g_ at W2_ ⊢
    refine z_iload dX2_hear_56 rfl ?_
    refine z_bipush dX2_hear_58 k_bipush_12 ?_
    refine z_icmp_ge (tgt := 99) dX2_hear_60 (by decide) (fun c_ => ?_) (fun c_ => absurd (by decide) c_)
    exact zz_sub (lv' := [none, none, none, none, none]) trivial W2_

theorem dX2_hear_0 : decode cX2_hear 0 = .ok (.aload_n 0, 1) := by decide +kernel
theorem dX2_hear_1 : decode cX2_hear 1 = .ok (.getfield 19, 3) := by decide +kernel
theorem dX2_hear_4 : decode cX2_hear 4 = .ok (.bipush 24, 2) := by decide +kernel
theorem dX2_hear_6 : decode cX2_hear 6 = .ok (.if_icmp .lt 4, 3) := by decide +kernel
theorem dX2_hear_9 : decode cX2_hear 9 = .ok (.return_, 1) := by decide +kernel
theorem dX2_hear_10 : decode cX2_hear 10 = .ok (.aload_n 0, 1) := by decide +kernel
theorem dX2_hear_11 : decode cX2_hear 11 = .ok (.getfield 22, 3) := by decide +kernel
theorem dX2_hear_14 : decode cX2_hear 14 = .ok (.aload_n 0, 1) := by decide +kernel
theorem dX2_hear_15 : decode cX2_hear 15 = .ok (.getfield 19, 3) := by decide +kernel
theorem dX2_hear_18 : decode cX2_hear 18 = .ok (.aload_n 1, 1) := by decide +kernel
theorem dX2_hear_19 : decode cX2_hear 19 = .ok (.getfield 37, 3) := by decide +kernel
theorem dX2_hear_22 : decode cX2_hear 22 = .ok (.iastore, 1) := by decide +kernel
theorem dX2_hear_23 : decode cX2_hear 23 = .ok (.aload_n 0, 1) := by decide +kernel
theorem dX2_hear_24 : decode cX2_hear 24 = .ok (.getfield 25, 3) := by decide +kernel
theorem dX2_hear_27 : decode cX2_hear 27 = .ok (.aload_n 0, 1) := by decide +kernel
theorem dX2_hear_28 : decode cX2_hear 28 = .ok (.getfield 19, 3) := by decide +kernel
theorem dX2_hear_31 : decode cX2_hear 31 = .ok (.iload_n 2, 1) := by decide +kernel
theorem dX2_hear_32 : decode cX2_hear 32 = .ok (.iastore, 1) := by decide +kernel
theorem dX2_hear_33 : decode cX2_hear 33 = .ok (.aload_n 0, 1) := by decide +kernel
theorem dX2_hear_34 : decode cX2_hear 34 = .ok (.dup, 1) := by decide +kernel
theorem dX2_hear_35 : decode cX2_hear 35 = .ok (.getfield 19, 3) := by decide +kernel
theorem dX2_hear_38 : decode cX2_hear 38 = .ok (.iconst 1, 1) := by decide +kernel
theorem dX2_hear_39 : decode cX2_hear 39 = .ok (.iadd, 1) := by decide +kernel
theorem dX2_hear_40 : decode cX2_hear 40 = .ok (.putfield 19, 3) := by decide +kernel
theorem dX2_hear_43 : decode cX2_hear 43 = .ok (.aload_n 0, 1) := by decide +kernel
theorem dX2_hear_44 : decode cX2_hear 44 = .ok (.dup, 1) := by decide +kernel
theorem dX2_hear_45 : decode cX2_hear 45 = .ok (.getfield 9, 3) := by decide +kernel
theorem dX2_hear_48 : decode cX2_hear 48 = .ok (.iload_n 3, 1) := by decide +kernel
theorem dX2_hear_49 : decode cX2_hear 49 = .ok (.ior, 1) := by decide +kernel
theorem dX2_hear_50 : decode cX2_hear 50 = .ok (.putfield 9, 3) := by decide +kernel
theorem dX2_hear_53 : decode cX2_hear 53 = .ok (.iconst 0, 1) := by decide +kernel
theorem dX2_hear_54 : decode cX2_hear 54 = .ok (.istore 4, 2) := by decide +kernel
theorem dX2_hear_99 : decode cX2_hear 99 = .ok (.return_, 1) := by decide +kernel
noncomputable def vX2_hear_1 (a2 : Int32) (a3 : Int32) (i1 : Nat) (σ : zc_N) : zc_N := (zfor (fX2_hear_56 i1 a3) 12 (zu (zu (zu σ 29 (zu (σ 29) ((σ 27) 2).toNatClampNeg ((σ (pO i1)) 4))) 30 (zu (σ 30) ((σ 27) 2).toNatClampNeg a2)) 27 (zu (zu (σ 27) 2 (((σ 27) 2) + (1 : Int32))) 0 (((zu (σ 27) 2 (((σ 27) 2) + (1 : Int32))) 0) ||| a3))))
def pX2_hear (σ : zc_N) : Prop := ((((σ 27) 2) < (24 : Int32) → (vp_in ((σ 27) 2) 24 ∧ vp_in ((σ 27) 2) 24)) ∧ (¬ ((σ 27) 2) < (24 : Int32) → True))
noncomputable def sX2_hear (σ : zc_N) (i1 : Nat) (a2 : Int32) (a3 : Int32) : zc_N := (if ((σ 27) 2) < (24 : Int32) then (vX2_hear_1 a2 a3 i1 σ) else σ)
set_option maxHeartbeats 1000000 in
theorem ctX2_hear (P : zp) (σ : zc_N) (i1 : Nat) (h1 : i1 < P.2.1) (a2 : Int32) (a3 : Int32) (W_ : (pX2_hear σ)) : sp mX2_hear 1 0 0 [.ref 27, .ref (pO i1), .int a2, .int a3] (hh P σ) (fun r_ h_ => r_ = none ∧ h_ = hh P (sX2_hear σ i1 a2 a3)) := by
  refine sp_of (lv := [some (.ref 27), some (.ref (pO i1)), some (.int a2), some (.int a3), none]) (by decide) (zcats_ok _ rfl) (Nat.le_of_ble_eq_true rfl) (zlv_ok _ 1 rfl) (fun G => ?_)
  generalize hQ_ : (fun (r_ : Option Value) (h_ : zc_H) => r_ = none ∧ h_ = hh P (sX2_hear σ i1 a2 a3)) = Q_
  unfold pX2_hear at W_
  refine z_aloadr_n dX2_hear_0 rfl ?_
  refine z_get (ci := 2) (r := (RX2, TX2, 6)) (j := 2) (v := .int ((σ 27) 2)) dX2_hear_1 (Nat.le_of_ble_eq_true rfl) (zN rfl) rfl rfl (Nat.le_of_ble_eq_true rfl) fl_X2_19 rfl ?_
  refine z_bipush dX2_hear_4 k_bipush_24 ?_
  refine z_icmp_lt (tgt := 10) dX2_hear_6 (by decide) (fun c_1 => ?_) (fun c_1 => ?_)
  · refine z_aloadr_n dX2_hear_10 rfl ?_
    refine z_get (ci := 2) (r := (RX2, TX2, 6)) (j := 3) (v := .ref 29) dX2_hear_11 (Nat.le_of_ble_eq_true rfl) (zN rfl) rfl rfl (Nat.le_of_ble_eq_true rfl) fl_X2_22 rfl ?_
    refine z_aloadr_n dX2_hear_14 rfl ?_
    refine z_get (ci := 2) (r := (RX2, TX2, 6)) (j := 2) (v := .int ((σ 27) 2)) dX2_hear_15 (Nat.le_of_ble_eq_true rfl) (zN rfl) rfl rfl (Nat.le_of_ble_eq_true rfl) fl_X2_19 rfl ?_
    refine z_aloadr_n dX2_hear_18 rfl ?_
    refine z_get (ci := 7) (r := (RX7, TX7, 5)) (j := 4) (v := .int ((σ (pO i1)) 4)) dX2_hear_19 (z3O i1) (zNO h1) (SH_pO P i1) rfl (Nat.le_of_ble_eq_true rfl) fl_X2_37 rfl ?_
    refine z_iast (σ' := (zu σ 29 (zu (σ 29) ((σ 27) 2).toNatClampNeg ((σ (pO i1)) 4)))) dX2_hear_22 (Nat.le_of_ble_eq_true rfl) (zN rfl) rfl ((W_.1 c_1).1) rfl ?_
    refine z_aloadr_n dX2_hear_23 rfl ?_
    refine z_get (ci := 2) (r := (RX2, TX2, 6)) (j := 4) (v := .ref 30) dX2_hear_24 (Nat.le_of_ble_eq_true rfl) (zN rfl) rfl rfl (Nat.le_of_ble_eq_true rfl) fl_X2_25 rfl ?_
    refine z_aloadr_n dX2_hear_27 rfl ?_
    refine z_get (ci := 2) (r := (RX2, TX2, 6)) (j := 2) (v := .int ((σ 27) 2)) dX2_hear_28 (Nat.le_of_ble_eq_true rfl) (zN rfl) rfl rfl (Nat.le_of_ble_eq_true rfl) fl_X2_19 (congrArg Value.int (congrFun (zu_ne _ _ (by decide)) _)) ?_
    refine z_iload_n dX2_hear_31 rfl ?_
    refine z_iast (σ' := (zu (zu σ 29 (zu (σ 29) ((σ 27) 2).toNatClampNeg ((σ (pO i1)) 4))) 30 (zu (σ 30) ((σ 27) 2).toNatClampNeg a2))) dX2_hear_32 (Nat.le_of_ble_eq_true rfl) (zN rfl) rfl ((W_.1 c_1).2) (congrArg (fun g_ => zu _ _ (zu g_ _ _)) (zu_ne _ _ (by decide))) ?_
    refine z_aloadr_n dX2_hear_33 rfl ?_
    refine z_dup dX2_hear_34 rfl ?_
    refine z_get (ci := 2) (r := (RX2, TX2, 6)) (j := 2) (v := .int ((σ 27) 2)) dX2_hear_35 (Nat.le_of_ble_eq_true rfl) (zN rfl) rfl rfl (Nat.le_of_ble_eq_true rfl) fl_X2_19 (congrArg Value.int (congrFun ((zu_ne _ _ (by decide)).trans (zu_ne _ _ (by decide))) _)) ?_
    refine z_iconst dX2_hear_38 k_iconst_1 ?_
    refine z_iadd (v := (((σ 27) 2) + (1 : Int32))) dX2_hear_39 rfl ?_
    refine z_put (ci := 2) (r := (RX2, TX2, 6)) (j := 2) (σ' := (zu (zu (zu σ 29 (zu (σ 29) ((σ 27) 2).toNatClampNeg ((σ (pO i1)) 4))) 30 (zu (σ 30) ((σ 27) 2).toNatClampNeg a2)) 27 (zu (σ 27) 2 (((σ 27) 2) + (1 : Int32))))) dX2_hear_40 (Nat.le_of_ble_eq_true rfl) (zN rfl) rfl rfl (Nat.le_of_ble_eq_true rfl) fl_X2_19 rfl rfl rfl rfl (congrArg (fun g_ => zu _ _ (zu g_ _ _)) ((zu_ne _ _ (by decide)).trans (zu_ne _ _ (by decide)))) ?_
    refine z_aloadr_n dX2_hear_43 rfl ?_
    refine z_dup dX2_hear_44 rfl ?_
    refine z_get (ci := 2) (r := (RX2, TX2, 6)) (j := 0) (v := .int ((zu (σ 27) 2 (((σ 27) 2) + (1 : Int32))) 0)) dX2_hear_45 (Nat.le_of_ble_eq_true rfl) (zN rfl) rfl rfl (Nat.le_of_ble_eq_true rfl) fl_X2_9 (congrArg Value.int (congrFun (zu_self _ _ _) _)) ?_
    refine z_iload_n dX2_hear_48 rfl ?_
    refine z_ior (v := (((zu (σ 27) 2 (((σ 27) 2) + (1 : Int32))) 0) ||| a3)) dX2_hear_49 rfl ?_
    refine z_put (ci := 2) (r := (RX2, TX2, 6)) (j := 0) (σ' := (zu (zu (zu σ 29 (zu (σ 29) ((σ 27) 2).toNatClampNeg ((σ (pO i1)) 4))) 30 (zu (σ 30) ((σ 27) 2).toNatClampNeg a2)) 27 (zu (zu (σ 27) 2 (((σ 27) 2) + (1 : Int32))) 0 (((zu (σ 27) 2 (((σ 27) 2) + (1 : Int32))) 0) ||| a3)))) dX2_hear_50 (Nat.le_of_ble_eq_true rfl) (zN rfl) rfl rfl (Nat.le_of_ble_eq_true rfl) fl_X2_9 rfl rfl rfl rfl ((congrArg (fun g_ => zu _ _ (zu g_ _ _)) (zu_self _ _ _)).trans (zu_zu _ _ _ _)) ?_
    refine z_iconst dX2_hear_53 k_iconst_0 ?_
    refine z_istore (lv' := [some (.ref 27), some (.ref (pO i1)), some (.int a2), some (.int a3), some (.int (0 : Int32))]) dX2_hear_54 (Nat.le_of_ble_eq_true rfl) rfl ?_
    refine zz_sub (lv' := [some (.ref 27), some (.ref (pO i1)), none, some (.int a3), some (.int (0 : Int32))]) ⟨rfl, ⟨rfl, ⟨rfl, ⟨rfl, trivial⟩⟩⟩⟩ ?_
    refine lpX2_hear_56 P (zu (zu (zu σ 29 (zu (σ 29) ((σ 27) 2).toNatClampNeg ((σ (pO i1)) 4))) 30 (zu (σ 30) ((σ 27) 2).toNatClampNeg a2)) 27 (zu (zu (σ 27) 2 (((σ 27) 2) + (1 : Int32))) 0 (((zu (σ 27) 2 (((σ 27) 2) + (1 : Int32))) 0) ||| a3))) i1 h1 a3 ?_
    show zz G mX2_hear 1 0 0 Q_ 99 [none, none, none, none, none] [] (hh P (vX2_hear_1 a2 a3 i1 σ)) 0 0
    exact z_return dX2_hear_99 rfl (Nat.le_of_ble_eq_true rfl) (Nat.le_of_ble_eq_true rfl) (by rw [← hQ_]; exact ⟨rfl, (by rw [sX2_hear]; try simp only [if_pos c_1])⟩)
  · exact z_return dX2_hear_9 rfl (Nat.le_of_ble_eq_true rfl) (Nat.le_of_ble_eq_true rfl) (by rw [← hQ_]; exact ⟨rfl, (by rw [sX2_hear]; try simp only [if_neg c_1])⟩)

theorem dX2_dateFlaws_19 : decode cX2_dateFlaws 19 = .ok (.iload_n 2, 1) := by decide +kernel
theorem dX2_dateFlaws_20 : decode cX2_dateFlaws 20 = .ok (.aload_n 0, 1) := by decide +kernel
theorem dX2_dateFlaws_21 : decode cX2_dateFlaws 21 = .ok (.getfield 19, 3) := by decide +kernel
theorem dX2_dateFlaws_24 : decode cX2_dateFlaws 24 = .ok (.if_icmp .ge 58, 3) := by decide +kernel
theorem dX2_dateFlaws_27 : decode cX2_dateFlaws 27 = .ok (.aload_n 0, 1) := by decide +kernel
theorem dX2_dateFlaws_28 : decode cX2_dateFlaws 28 = .ok (.getfield 25, 3) := by decide +kernel
theorem dX2_dateFlaws_31 : decode cX2_dateFlaws 31 = .ok (.iload_n 2, 1) := by decide +kernel
theorem dX2_dateFlaws_32 : decode cX2_dateFlaws 32 = .ok (.iaload, 1) := by decide +kernel
theorem dX2_dateFlaws_33 : decode cX2_dateFlaws 33 = .ok (.iload_n 1, 1) := by decide +kernel
theorem dX2_dateFlaws_34 : decode cX2_dateFlaws 34 = .ok (.ishr, 1) := by decide +kernel
theorem dX2_dateFlaws_35 : decode cX2_dateFlaws 35 = .ok (.iconst 1, 1) := by decide +kernel
theorem dX2_dateFlaws_36 : decode cX2_dateFlaws 36 = .ok (.iand, 1) := by decide +kernel
theorem dX2_dateFlaws_37 : decode cX2_dateFlaws 37 = .ok (.ifCond .eq 39, 3) := by decide +kernel
theorem dX2_dateFlaws_40 : decode cX2_dateFlaws 40 = .ok (.aload_n 0, 1) := by decide +kernel
theorem dX2_dateFlaws_41 : decode cX2_dateFlaws 41 = .ok (.getfield 22, 3) := by decide +kernel
theorem dX2_dateFlaws_44 : decode cX2_dateFlaws 44 = .ok (.iload_n 2, 1) := by decide +kernel
theorem dX2_dateFlaws_45 : decode cX2_dateFlaws 45 = .ok (.iaload, 1) := by decide +kernel
theorem dX2_dateFlaws_46 : decode cX2_dateFlaws 46 = .ok (.aload_n 0, 1) := by decide +kernel
theorem dX2_dateFlaws_47 : decode cX2_dateFlaws 47 = .ok (.getfield 28, 3) := by decide +kernel
theorem dX2_dateFlaws_50 : decode cX2_dateFlaws 50 = .ok (.iload_n 1, 1) := by decide +kernel
theorem dX2_dateFlaws_51 : decode cX2_dateFlaws 51 = .ok (.iaload, 1) := by decide +kernel
theorem dX2_dateFlaws_52 : decode cX2_dateFlaws 52 = .ok (.if_icmp .le 24, 3) := by decide +kernel
theorem dX2_dateFlaws_55 : decode cX2_dateFlaws 55 = .ok (.aload_n 0, 1) := by decide +kernel
theorem dX2_dateFlaws_56 : decode cX2_dateFlaws 56 = .ok (.getfield 15, 3) := by decide +kernel
theorem dX2_dateFlaws_59 : decode cX2_dateFlaws 59 = .ok (.iload_n 1, 1) := by decide +kernel
theorem dX2_dateFlaws_60 : decode cX2_dateFlaws 60 = .ok (.aload_n 0, 1) := by decide +kernel
theorem dX2_dateFlaws_61 : decode cX2_dateFlaws 61 = .ok (.getfield 15, 3) := by decide +kernel
theorem dX2_dateFlaws_64 : decode cX2_dateFlaws 64 = .ok (.iload_n 1, 1) := by decide +kernel
theorem dX2_dateFlaws_65 : decode cX2_dateFlaws 65 = .ok (.iaload, 1) := by decide +kernel
theorem dX2_dateFlaws_66 : decode cX2_dateFlaws 66 = .ok (.aload_n 0, 1) := by decide +kernel
theorem dX2_dateFlaws_67 : decode cX2_dateFlaws 67 = .ok (.getfield 22, 3) := by decide +kernel
theorem dX2_dateFlaws_70 : decode cX2_dateFlaws 70 = .ok (.iload_n 2, 1) := by decide +kernel
theorem dX2_dateFlaws_71 : decode cX2_dateFlaws 71 = .ok (.iaload, 1) := by decide +kernel
theorem dX2_dateFlaws_72 : decode cX2_dateFlaws 72 = .ok (.invokestatic 48, 3) := by decide +kernel
theorem dX2_dateFlaws_75 : decode cX2_dateFlaws 75 = .ok (.iastore, 1) := by decide +kernel
theorem dX2_dateFlaws_76 : decode cX2_dateFlaws 76 = .ok (.iinc 2 1, 3) := by decide +kernel
theorem dX2_dateFlaws_79 : decode cX2_dateFlaws 79 = .ok (.goto (-60), 3) := by decide +kernel
theorem dX2_dateFlaws_82 : decode cX2_dateFlaws 82 = .ok (.iinc 1 1, 3) := by decide +kernel
theorem dX2_dateFlaws_85 : decode cX2_dateFlaws 85 = .ok (.goto (-83), 3) := by decide +kernel
noncomputable def fX2_dateFlaws_19 (l1 : Int32) (i_ : Nat) (a_ : zc_N) : zc_N := (if ((zshr ((a_ 30) (nI i_).toNatClampNeg) l1) &&& (1 : Int32)) = (0 : Int32) then a_ else (if ((a_ 29) (nI i_).toNatClampNeg) ≤ ((a_ 31) l1.toNatClampNeg) then a_ else (zu a_ 28 (zu (a_ 28) l1.toNatClampNeg (if ((a_ 29) (nI i_).toNatClampNeg) < ((a_ 28) l1.toNatClampNeg) then ((a_ 29) (nI i_).toNatClampNeg) else ((a_ 28) l1.toNatClampNeg))))))
def qX2_dateFlaws_19 (l1 : Int32) (i_ : Nat) (a_ : zc_N) : Prop := (vp_in (nI i_) 24 ∧ ((((zshr ((a_ 30) (nI i_).toNatClampNeg) l1) &&& (1 : Int32)) = (0 : Int32) → True) ∧ (¬ ((zshr ((a_ 30) (nI i_).toNatClampNeg) l1) &&& (1 : Int32)) = (0 : Int32) → (vp_in (nI i_) 24 ∧ (vp_in l1 12 ∧ ((((a_ 29) (nI i_).toNatClampNeg) ≤ ((a_ 31) l1.toNatClampNeg) → True) ∧ (¬ ((a_ 29) (nI i_).toNatClampNeg) ≤ ((a_ 31) l1.toNatClampNeg) → (vp_in l1 12 ∧ (vp_in (nI i_) 24 ∧ vp_in l1 12)))))))))
set_option maxHeartbeats 2000000 in
theorem lpX2_dateFlaws_19 {G : zc_G} {Q : Option Value → zc_H → Prop} (P : zp) (σ : zc_N) (l1 : Int32) (n_ : Nat) (hC_ : ∀ i19_ : Nat, i19_ ≤ n_ → ((((zfor (fX2_dateFlaws_19 l1) i19_ σ) 27) 2) ≤ (nI i19_) ↔ n_ ≤ i19_)) (W1_ : ∀ i19_ : Nat, i19_ < n_ → qX2_dateFlaws_19 l1 i19_ (zfor (fX2_dateFlaws_19 l1) i19_ σ))
    (W2_ : zz G mX2_dateFlaws 1 0 0 Q 82 [some (.ref 27), some (.int l1), none] [] (hh P (zfor (fX2_dateFlaws_19 l1) n_ σ)) 0 0) :
    zz G mX2_dateFlaws 1 0 0 Q 19 [some (.ref 27), some (.int l1), some (.int (nI 0))] [] (hh P σ) 0 0 := by
  refine zfor_nI (fun i_ a_ => zz G mX2_dateFlaws 1 0 0 Q 19 [some (.ref 27), some (.int l1), some (.int i_)] [] (hh P a_) 0 0) (fX2_dateFlaws_19 l1) n_ σ (fun i_ hi_ k_ => ?_) ?_
  · have W3_ := W1_ i_ hi_
    have hD_ := hC_ i_ (Nat.le_of_lt hi_)
    generalize zfor (fX2_dateFlaws_19 l1) i_ σ = g_ at k_ W3_ hD_ ⊢
    rw [fX2_dateFlaws_19] at k_
    rw [qX2_dateFlaws_19] at W3_
    try dsimp only at W3_
    refine z_iload_n dX2_dateFlaws_19 rfl ?_
    refine z_aloadr_n dX2_dateFlaws_20 rfl ?_
    refine z_get (ci := 2) (r := (RX2, TX2, 6)) (j := 2) (v := .int ((g_ 27) 2)) dX2_dateFlaws_21 (Nat.le_of_ble_eq_true rfl) (zN rfl) rfl rfl (Nat.le_of_ble_eq_true rfl) fl_X2_19 rfl ?_
    refine z_icmp_ge (tgt := 82) dX2_dateFlaws_24 (by decide) (fun c_ => absurd c_ (fun q_ => Nat.not_le_of_lt hi_ (hD_.mp q_))) (fun c_ => ?_)
    refine z_aloadr_n dX2_dateFlaws_27 rfl ?_
    refine z_get (ci := 2) (r := (RX2, TX2, 6)) (j := 4) (v := .ref 30) dX2_dateFlaws_28 (Nat.le_of_ble_eq_true rfl) (zN rfl) rfl rfl (Nat.le_of_ble_eq_true rfl) fl_X2_25 rfl ?_
    refine z_iload_n dX2_dateFlaws_31 rfl ?_
    refine z_iald (v := ((g_ 30) (nI i_).toNatClampNeg)) dX2_dateFlaws_32 (zN rfl) rfl W3_.1 rfl ?_
    refine z_iload_n dX2_dateFlaws_33 rfl ?_
    refine z_ishr (v := (zshr ((g_ 30) (nI i_).toNatClampNeg) l1)) dX2_dateFlaws_34 rfl ?_
    refine z_iconst dX2_dateFlaws_35 k_iconst_1 ?_
    refine z_iand (v := ((zshr ((g_ 30) (nI i_).toNatClampNeg) l1) &&& (1 : Int32))) dX2_dateFlaws_36 rfl ?_
    refine z_if_eq (tgt := 76) dX2_dateFlaws_37 (by decide) (fun c_2 => ?_) (fun c_2 => ?_)
    · refine z_iinc (v := ((nI i_) + (1 : Int32))) (lv' := [some (.ref 27), some (.int l1), some (.int ((nI i_) + (1 : Int32)))]) dX2_dateFlaws_76 (Nat.le_of_ble_eq_true rfl) rfl (by rw [k_iconst_1]) rfl ?_
      refine z_goto (tgt := 19) dX2_dateFlaws_79 (by decide) ?_
      rw [nI_1]
      simpa only [if_pos c_2] using k_
    · refine z_aloadr_n dX2_dateFlaws_40 rfl ?_
      refine z_get (ci := 2) (r := (RX2, TX2, 6)) (j := 3) (v := .ref 29) dX2_dateFlaws_41 (Nat.le_of_ble_eq_true rfl) (zN rfl) rfl rfl (Nat.le_of_ble_eq_true rfl) fl_X2_22 rfl ?_
      refine z_iload_n dX2_dateFlaws_44 rfl ?_
      refine z_iald (v := ((g_ 29) (nI i_).toNatClampNeg)) dX2_dateFlaws_45 (zN rfl) rfl ((W3_.2.2 c_2).1) rfl ?_
      refine z_aloadr_n dX2_dateFlaws_46 rfl ?_
      refine z_get (ci := 2) (r := (RX2, TX2, 6)) (j := 5) (v := .ref 31) dX2_dateFlaws_47 (Nat.le_of_ble_eq_true rfl) (zN rfl) rfl rfl (Nat.le_of_ble_eq_true rfl) fl_X2_28 rfl ?_
      refine z_iload_n dX2_dateFlaws_50 rfl ?_
      refine z_iald (v := ((g_ 31) l1.toNatClampNeg)) dX2_dateFlaws_51 (zN rfl) rfl ((W3_.2.2 c_2).2.1) rfl ?_
      refine z_icmp_le (tgt := 76) dX2_dateFlaws_52 (by decide) (fun c_3 => ?_) (fun c_3 => ?_)
      · refine z_iinc (v := ((nI i_) + (1 : Int32))) (lv' := [some (.ref 27), some (.int l1), some (.int ((nI i_) + (1 : Int32)))]) dX2_dateFlaws_76 (Nat.le_of_ble_eq_true rfl) rfl (by rw [k_iconst_1]) rfl ?_
        refine z_goto (tgt := 19) dX2_dateFlaws_79 (by decide) ?_
        rw [nI_1]
        simpa only [if_neg c_2, if_pos c_3] using k_
      · refine z_aloadr_n dX2_dateFlaws_55 rfl ?_
        refine z_get (ci := 2) (r := (RX2, TX2, 6)) (j := 1) (v := .ref 28) dX2_dateFlaws_56 (Nat.le_of_ble_eq_true rfl) (zN rfl) rfl rfl (Nat.le_of_ble_eq_true rfl) fl_X2_15 rfl ?_
        refine z_iload_n dX2_dateFlaws_59 rfl ?_
        refine z_aloadr_n dX2_dateFlaws_60 rfl ?_
        refine z_get (ci := 2) (r := (RX2, TX2, 6)) (j := 1) (v := .ref 28) dX2_dateFlaws_61 (Nat.le_of_ble_eq_true rfl) (zN rfl) rfl rfl (Nat.le_of_ble_eq_true rfl) fl_X2_15 rfl ?_
        refine z_iload_n dX2_dateFlaws_64 rfl ?_
        refine z_iald (v := ((g_ 28) l1.toNatClampNeg)) dX2_dateFlaws_65 (zN rfl) rfl (((W3_.2.2 c_2).2.2.2 c_3).1) rfl ?_
        refine z_aloadr_n dX2_dateFlaws_66 rfl ?_
        refine z_get (ci := 2) (r := (RX2, TX2, 6)) (j := 3) (v := .ref 29) dX2_dateFlaws_67 (Nat.le_of_ble_eq_true rfl) (zN rfl) rfl rfl (Nat.le_of_ble_eq_true rfl) fl_X2_22 rfl ?_
        refine z_iload_n dX2_dateFlaws_70 rfl ?_
        refine z_iald (v := ((g_ 29) (nI i_).toNatClampNeg)) dX2_dateFlaws_71 (zN rfl) rfl (((W3_.2.2 c_2).2.2.2 c_3).2.1) rfl ?_
        refine z_mmin dX2_dateFlaws_72 lk_X2_48 (Nat.le_of_ble_eq_true rfl) (Nat.le_of_ble_eq_true rfl) (Nat.le_of_ble_eq_true rfl) (Nat.le_of_ble_eq_true rfl) ?_
        refine z_iast (σ' := (zu g_ 28 (zu (g_ 28) l1.toNatClampNeg (if ((g_ 29) (nI i_).toNatClampNeg) < ((g_ 28) l1.toNatClampNeg) then ((g_ 29) (nI i_).toNatClampNeg) else ((g_ 28) l1.toNatClampNeg))))) dX2_dateFlaws_75 (Nat.le_of_ble_eq_true rfl) (zN rfl) rfl (((W3_.2.2 c_2).2.2.2 c_3).2.2) rfl ?_
        refine z_iinc (v := ((nI i_) + (1 : Int32))) (lv' := [some (.ref 27), some (.int l1), some (.int ((nI i_) + (1 : Int32)))]) dX2_dateFlaws_76 (Nat.le_of_ble_eq_true rfl) rfl (by rw [k_iconst_1]) rfl ?_
        refine z_goto (tgt := 19) dX2_dateFlaws_79 (by decide) ?_
        rw [nI_1]
        simpa only [if_neg c_2, if_neg c_3] using k_
  · have hD_ := hC_ n_ (Nat.le_refl _)
    generalize zfor (fX2_dateFlaws_19 l1) n_ σ = g_ at W2_ hD_ ⊢
    refine z_iload_n dX2_dateFlaws_19 rfl ?_
    refine z_aloadr_n dX2_dateFlaws_20 rfl ?_
    refine z_get (ci := 2) (r := (RX2, TX2, 6)) (j := 2) (v := .int ((g_ 27) 2)) dX2_dateFlaws_21 (Nat.le_of_ble_eq_true rfl) (zN rfl) rfl rfl (Nat.le_of_ble_eq_true rfl) fl_X2_19 rfl ?_
    refine z_icmp_ge (tgt := 82) dX2_dateFlaws_24 (by decide) (fun c_ => ?_) (fun c_ => absurd (hD_.mpr (Nat.le_refl _)) c_)
    exact zz_sub (lv' := [some (.ref 27), some (.int l1), none]) ⟨rfl, ⟨rfl, trivial⟩⟩ W2_

theorem dX2_dateFlaws_2 : decode cX2_dateFlaws 2 = .ok (.iload_n 1, 1) := by decide +kernel
theorem dX2_dateFlaws_3 : decode cX2_dateFlaws 3 = .ok (.bipush 12, 2) := by decide +kernel
theorem dX2_dateFlaws_5 : decode cX2_dateFlaws 5 = .ok (.if_icmp .ge 83, 3) := by decide +kernel
theorem dX2_dateFlaws_8 : decode cX2_dateFlaws 8 = .ok (.aload_n 0, 1) := by decide +kernel
theorem dX2_dateFlaws_9 : decode cX2_dateFlaws 9 = .ok (.getfield 15, 3) := by decide +kernel
theorem dX2_dateFlaws_12 : decode cX2_dateFlaws 12 = .ok (.iload_n 1, 1) := by decide +kernel
theorem dX2_dateFlaws_13 : decode cX2_dateFlaws 13 = .ok (.sipush 10000, 3) := by decide +kernel
theorem dX2_dateFlaws_16 : decode cX2_dateFlaws 16 = .ok (.iastore, 1) := by decide +kernel
theorem dX2_dateFlaws_17 : decode cX2_dateFlaws 17 = .ok (.iconst 0, 1) := by decide +kernel
theorem dX2_dateFlaws_18 : decode cX2_dateFlaws 18 = .ok (.istore_n 2, 1) := by decide +kernel
noncomputable def vX2_dateFlaws_2 (l1 : Int32) (σ : zc_N) : zc_N := (zfor (fX2_dateFlaws_19 l1) (((((zu σ 28 (zu (σ 28) l1.toNatClampNeg (10000 : Int32))) 27) 2)).toNatClampNeg) (zu σ 28 (zu (σ 28) l1.toNatClampNeg (10000 : Int32))))
noncomputable def fX2_dateFlaws_2 (i_ : Nat) (a_ : zc_N) : zc_N := (vX2_dateFlaws_2 (nI i_) a_)
def qX2_dateFlaws_2 (i_ : Nat) (a_ : zc_N) : Prop := ((∀ i19_ : Nat, i19_ ≤ (((((zu a_ 28 (zu (a_ 28) (nI i_).toNatClampNeg (10000 : Int32))) 27) 2)).toNatClampNeg) → ((((zfor (fX2_dateFlaws_19 (nI i_)) i19_ (zu a_ 28 (zu (a_ 28) (nI i_).toNatClampNeg (10000 : Int32)))) 27) 2) ≤ (nI i19_) ↔ (((((zu a_ 28 (zu (a_ 28) (nI i_).toNatClampNeg (10000 : Int32))) 27) 2)).toNatClampNeg) ≤ i19_)) ∧ (∀ i19_ : Nat, i19_ < (((((zu a_ 28 (zu (a_ 28) (nI i_).toNatClampNeg (10000 : Int32))) 27) 2)).toNatClampNeg) → qX2_dateFlaws_19 (nI i_) i19_ (zfor (fX2_dateFlaws_19 (nI i_)) i19_ (zu a_ 28 (zu (a_ 28) (nI i_).toNatClampNeg (10000 : Int32))))))
set_option maxHeartbeats 2000000 in
theorem lpX2_dateFlaws_2 {G : zc_G} {Q : Option Value → zc_H → Prop} (P : zp) (σ : zc_N) (W1_ : ∀ i2_ : Nat, i2_ < 12 → qX2_dateFlaws_2 i2_ (zfor fX2_dateFlaws_2 i2_ σ))
    (W2_ : zz G mX2_dateFlaws 1 0 0 Q 88 [none, none, none] [] (hh P (zfor fX2_dateFlaws_2 12 σ)) 0 0) :
    zz G mX2_dateFlaws 1 0 0 Q 2 [some (.ref 27), some (.int (nI 0)), none] [] (hh P σ) 0 0 := by
  refine zfor_nI (fun i_ a_ => zz G mX2_dateFlaws 1 0 0 Q 2 [some (.ref 27), some (.int i_), none] [] (hh P a_) 0 0) fX2_dateFlaws_2 12 σ (fun i_ hi_ k_ => ?_) ?_
  · have W3_ := W1_ i_ hi_
    generalize zfor fX2_dateFlaws_2 i_ σ = g_ at k_ W3_ ⊢
    rw [fX2_dateFlaws_2] at k_
    rw [qX2_dateFlaws_2] at W3_
    try dsimp only at W3_
    refine z_iload_n dX2_dateFlaws_2 rfl ?_
    refine z_bipush dX2_dateFlaws_3 k_bipush_12 ?_
    refine z_icmp_ge (tgt := 88) dX2_dateFlaws_5 (by decide) (fun c_ => absurd c_ (nI_ge hi_ (by decide))) (fun c_ => ?_)
    refine z_aloadr_n dX2_dateFlaws_8 rfl ?_
    refine z_get (ci := 2) (r := (RX2, TX2, 6)) (j := 1) (v := .ref 28) dX2_dateFlaws_9 (Nat.le_of_ble_eq_true rfl) (zN rfl) rfl rfl (Nat.le_of_ble_eq_true rfl) fl_X2_15 rfl ?_
    refine z_iload_n dX2_dateFlaws_12 rfl ?_
    refine z_sipush dX2_dateFlaws_13 k_sipush_10000 ?_
    refine z_iast (σ' := (zu g_ 28 (zu (g_ 28) (nI i_).toNatClampNeg (10000 : Int32)))) dX2_dateFlaws_16 (Nat.le_of_ble_eq_true rfl) (zN rfl) rfl (vp_in_nI (Nat.lt_of_lt_of_le hi_ (Nat.le_of_ble_eq_true rfl)) (by decide)) rfl ?_
    refine z_iconst dX2_dateFlaws_17 k_iconst_0 ?_
    refine z_istore_n (lv' := [some (.ref 27), some (.int (nI i_)), some (.int (0 : Int32))]) dX2_dateFlaws_18 (Nat.le_of_ble_eq_true rfl) rfl ?_
    refine lpX2_dateFlaws_19 P (zu g_ 28 (zu (g_ 28) (nI i_).toNatClampNeg (10000 : Int32))) (nI i_) (((((zu g_ 28 (zu (g_ 28) (nI i_).toNatClampNeg (10000 : Int32))) 27) 2)).toNatClampNeg) W3_.1 W3_.2 ?_
    show zz G mX2_dateFlaws 1 0 0 Q 82 [some (.ref 27), some (.int (nI i_)), none] [] (hh P (vX2_dateFlaws_2 (nI i_) g_)) 0 0
    refine z_iinc (v := ((nI i_) + (1 : Int32))) (lv' := [some (.ref 27), some (.int ((nI i_) + (1 : Int32))), none]) dX2_dateFlaws_82 (Nat.le_of_ble_eq_true rfl) rfl (by rw [k_iconst_1]) rfl ?_
    refine z_goto (tgt := 2) dX2_dateFlaws_85 (by decide) ?_
    rw [nI_1]
    exact k_
  · generalize zfor fX2_dateFlaws_2 12 σ = g_ at W2_ ⊢
    refine z_iload_n dX2_dateFlaws_2 rfl ?_
    refine z_bipush dX2_dateFlaws_3 k_bipush_12 ?_
    refine z_icmp_ge (tgt := 88) dX2_dateFlaws_5 (by decide) (fun c_ => ?_) (fun c_ => absurd (by decide) c_)
    exact zz_sub (lv' := [none, none, none]) trivial W2_

theorem dX2_dateFlaws_0 : decode cX2_dateFlaws 0 = .ok (.iconst 0, 1) := by decide +kernel
theorem dX2_dateFlaws_1 : decode cX2_dateFlaws 1 = .ok (.istore_n 1, 1) := by decide +kernel
theorem dX2_dateFlaws_88 : decode cX2_dateFlaws 88 = .ok (.return_, 1) := by decide +kernel
def pX2_dateFlaws (σ : zc_N) : Prop := (∀ i2_ : Nat, i2_ < 12 → qX2_dateFlaws_2 i2_ (zfor fX2_dateFlaws_2 i2_ σ))
noncomputable def sX2_dateFlaws (σ : zc_N) : zc_N := (zfor fX2_dateFlaws_2 12 σ)
set_option maxHeartbeats 1000000 in
theorem ctX2_dateFlaws (P : zp) (σ : zc_N) (W_ : (pX2_dateFlaws σ)) : sp mX2_dateFlaws 1 0 0 [.ref 27] (hh P σ) (fun r_ h_ => r_ = none ∧ h_ = hh P (sX2_dateFlaws σ)) := by
  refine sp_of (lv := [some (.ref 27), none, none]) (by decide) (zcats_ok _ rfl) (Nat.le_of_ble_eq_true rfl) (zlv_ok _ 2 rfl) (fun G => ?_)
  generalize hQ_ : (fun (r_ : Option Value) (h_ : zc_H) => r_ = none ∧ h_ = hh P (sX2_dateFlaws σ)) = Q_
  unfold pX2_dateFlaws at W_
  refine z_iconst dX2_dateFlaws_0 k_iconst_0 ?_
  refine z_istore_n (lv' := [some (.ref 27), some (.int (0 : Int32)), none]) dX2_dateFlaws_1 (Nat.le_of_ble_eq_true rfl) rfl ?_
  refine lpX2_dateFlaws_2 P σ W_ ?_
  show zz G mX2_dateFlaws 1 0 0 Q_ 88 [none, none, none] [] (hh P (zfor fX2_dateFlaws_2 12 σ)) 0 0
  exact z_return dX2_dateFlaws_88 rfl (Nat.le_of_ble_eq_true rfl) (Nat.le_of_ble_eq_true rfl) (by rw [← hQ_]; exact ⟨rfl, (by rw [sX2_dateFlaws])⟩)

theorem dX5_bound_6 : decode cX5_bound 6 = .ok (.iload_n 3, 1) := by decide +kernel
theorem dX5_bound_7 : decode cX5_bound 7 = .ok (.aload_n 0, 1) := by decide +kernel
theorem dX5_bound_8 : decode cX5_bound 8 = .ok (.getfield 15, 3) := by decide +kernel
theorem dX5_bound_11 : decode cX5_bound 11 = .ok (.if_icmp .ge 35, 3) := by decide +kernel
theorem dX5_bound_14 : decode cX5_bound 14 = .ok (.iload_n 1, 1) := by decide +kernel
theorem dX5_bound_15 : decode cX5_bound 15 = .ok (.aload_n 0, 1) := by decide +kernel
theorem dX5_bound_16 : decode cX5_bound 16 = .ok (.getfield 9, 3) := by decide +kernel
theorem dX5_bound_19 : decode cX5_bound 19 = .ok (.iload_n 3, 1) := by decide +kernel
theorem dX5_bound_20 : decode cX5_bound 20 = .ok (.iaload, 1) := by decide +kernel
theorem dX5_bound_21 : decode cX5_bound 21 = .ok (.ifCond .eq 7, 3) := by decide +kernel
theorem dX5_bound_24 : decode cX5_bound 24 = .ok (.iconst 1, 1) := by decide +kernel
theorem dX5_bound_25 : decode cX5_bound 25 = .ok (.goto 4, 3) := by decide +kernel
theorem dX5_bound_28 : decode cX5_bound 28 = .ok (.iconst 0, 1) := by decide +kernel
theorem dX5_bound_29 : decode cX5_bound 29 = .ok (.iadd, 1) := by decide +kernel
theorem dX5_bound_30 : decode cX5_bound 30 = .ok (.istore_n 1, 1) := by decide +kernel
theorem dX5_bound_31 : decode cX5_bound 31 = .ok (.iload_n 2, 1) := by decide +kernel
theorem dX5_bound_32 : decode cX5_bound 32 = .ok (.aload_n 0, 1) := by decide +kernel
theorem dX5_bound_33 : decode cX5_bound 33 = .ok (.getfield 9, 3) := by decide +kernel
theorem dX5_bound_36 : decode cX5_bound 36 = .ok (.iload_n 3, 1) := by decide +kernel
theorem dX5_bound_37 : decode cX5_bound 37 = .ok (.iaload, 1) := by decide +kernel
theorem dX5_bound_38 : decode cX5_bound 38 = .ok (.ior, 1) := by decide +kernel
theorem dX5_bound_39 : decode cX5_bound 39 = .ok (.istore_n 2, 1) := by decide +kernel
theorem dX5_bound_40 : decode cX5_bound 40 = .ok (.iinc 3 1, 3) := by decide +kernel
theorem dX5_bound_43 : decode cX5_bound 43 = .ok (.goto (-37), 3) := by decide +kernel
theorem dX5_bound_46 : decode cX5_bound 46 = .ok (.iload_n 1, 1) := by decide +kernel
theorem dX5_bound_47 : decode cX5_bound 47 = .ok (.iload_n 2, 1) := by decide +kernel
theorem dX5_bound_48 : decode cX5_bound 48 = .ok (.invokestatic 25, 3) := by decide +kernel
theorem dX5_bound_51 : decode cX5_bound 51 = .ok (.invokestatic 31, 3) := by decide +kernel
noncomputable def fX5_bound_6 (σ : zc_N) (i_ : Nat) (a_ : Int32 × Int32) : Int32 × Int32 := ((a_.1 + (if ((σ 17) (nI i_).toNatClampNeg) = (0 : Int32) then (0 : Int32) else (1 : Int32))), (a_.2 ||| ((σ 17) (nI i_).toNatClampNeg)))
def qX5_bound_6 (i_ : Nat) (a_ : Int32 × Int32) : Prop := (vp_in (nI i_) 12 ∧ vp_in (nI i_) 12)
set_option maxHeartbeats 2000000 in
theorem lpX5_bound_6 {G : zc_G} {Q : Option Value → zc_H → Prop} (P : zp) (σ : zc_N) (l1 : Int32) (l2 : Int32) (n_ : Nat) (hC_ : ∀ i6_ : Nat, i6_ ≤ n_ → (((σ 16) 1) ≤ (nI i6_) ↔ n_ ≤ i6_)) (W1_ : ∀ i6_ : Nat, i6_ < n_ → qX5_bound_6 i6_ (zfor (fX5_bound_6 σ) i6_ (l1, l2)))
    (W2_ : zz G mX5_bound 1 0 0 Q 46 [none, some (.int (zfor (fX5_bound_6 σ) n_ (l1, l2)).1), some (.int (zfor (fX5_bound_6 σ) n_ (l1, l2)).2), none] [] (hh P σ) 0 0) :
    zz G mX5_bound 1 0 0 Q 6 [some (.ref 16), some (.int l1), some (.int l2), some (.int (nI 0))] [] (hh P σ) 0 0 := by
  refine zfor_nI (fun i_ a_ => zz G mX5_bound 1 0 0 Q 6 [some (.ref 16), some (.int a_.1), some (.int a_.2), some (.int i_)] [] (hh P σ) 0 0) (fX5_bound_6 σ) n_ (l1, l2) (fun i_ hi_ k_ => ?_) ?_
  all_goals try dsimp only
  · have W3_ := W1_ i_ hi_
    have hD_ := hC_ i_ (Nat.le_of_lt hi_)
    generalize zfor (fX5_bound_6 σ) i_ (l1, l2) = g_ at k_ W3_ hD_ ⊢
    obtain ⟨x0_, x1_⟩ := g_
    dsimp only at k_ W3_ hD_ ⊢
    rw [fX5_bound_6] at k_
    rw [qX5_bound_6] at W3_
    try dsimp only at W3_
    dsimp only at k_
    refine z_iload_n dX5_bound_6 rfl ?_
    refine z_aloadr_n dX5_bound_7 rfl ?_
    refine z_get (ci := 5) (r := (RX5, TX5, 4)) (j := 1) (v := .int ((σ 16) 1)) dX5_bound_8 (Nat.le_of_ble_eq_true rfl) (zN rfl) rfl rfl (Nat.le_of_ble_eq_true rfl) fl_X5_15 rfl ?_
    refine z_icmp_ge (tgt := 46) dX5_bound_11 (by decide) (fun c_ => absurd c_ (fun q_ => Nat.not_le_of_lt hi_ (hD_.mp q_))) (fun c_ => ?_)
    refine z_iload_n dX5_bound_14 rfl ?_
    refine z_aloadr_n dX5_bound_15 rfl ?_
    refine z_get (ci := 5) (r := (RX5, TX5, 4)) (j := 0) (v := .ref 17) dX5_bound_16 (Nat.le_of_ble_eq_true rfl) (zN rfl) rfl rfl (Nat.le_of_ble_eq_true rfl) fl_X5_9 rfl ?_
    refine z_iload_n dX5_bound_19 rfl ?_
    refine z_iald (v := ((σ 17) (nI i_).toNatClampNeg)) dX5_bound_20 (zN rfl) rfl W3_.1 rfl ?_
    have K_1 : zz G mX5_bound 1 0 0 Q 29 [some (.ref 16), none, some (.int x1_), some (.int (nI i_))] [.int (if ((σ 17) (nI i_).toNatClampNeg) = (0 : Int32) then (0 : Int32) else (1 : Int32)), .int x0_] (hh P σ) 0 0 := by
      refine z_iadd (v := (x0_ + (if ((σ 17) (nI i_).toNatClampNeg) = (0 : Int32) then (0 : Int32) else (1 : Int32)))) dX5_bound_29 rfl ?_
      refine z_istore_n (lv' := [some (.ref 16), some (.int (x0_ + (if ((σ 17) (nI i_).toNatClampNeg) = (0 : Int32) then (0 : Int32) else (1 : Int32)))), some (.int x1_), some (.int (nI i_))]) dX5_bound_30 (Nat.le_of_ble_eq_true rfl) rfl ?_
      refine z_iload_n dX5_bound_31 rfl ?_
      refine z_aloadr_n dX5_bound_32 rfl ?_
      refine z_get (ci := 5) (r := (RX5, TX5, 4)) (j := 0) (v := .ref 17) dX5_bound_33 (Nat.le_of_ble_eq_true rfl) (zN rfl) rfl rfl (Nat.le_of_ble_eq_true rfl) fl_X5_9 rfl ?_
      refine z_iload_n dX5_bound_36 rfl ?_
      refine z_iald (v := ((σ 17) (nI i_).toNatClampNeg)) dX5_bound_37 (zN rfl) rfl W3_.2 rfl ?_
      refine z_ior (v := (x1_ ||| ((σ 17) (nI i_).toNatClampNeg))) dX5_bound_38 rfl ?_
      refine z_istore_n (lv' := [some (.ref 16), some (.int (x0_ + (if ((σ 17) (nI i_).toNatClampNeg) = (0 : Int32) then (0 : Int32) else (1 : Int32)))), some (.int (x1_ ||| ((σ 17) (nI i_).toNatClampNeg))), some (.int (nI i_))]) dX5_bound_39 (Nat.le_of_ble_eq_true rfl) rfl ?_
      refine z_iinc (v := ((nI i_) + (1 : Int32))) (lv' := [some (.ref 16), some (.int (x0_ + (if ((σ 17) (nI i_).toNatClampNeg) = (0 : Int32) then (0 : Int32) else (1 : Int32)))), some (.int (x1_ ||| ((σ 17) (nI i_).toNatClampNeg))), some (.int ((nI i_) + (1 : Int32)))]) dX5_bound_40 (Nat.le_of_ble_eq_true rfl) rfl (by rw [k_iconst_1]) rfl ?_
      refine z_goto (tgt := 6) dX5_bound_43 (by decide) ?_
      rw [nI_1]
      exact k_
    refine z_if_eq (tgt := 28) dX5_bound_21 (by decide) (fun c_2 => ?_) (fun c_2 => ?_)
    · refine z_iconst dX5_bound_28 k_iconst_0 ?_
      refine zz_sub (lv' := [some (.ref 16), none, some (.int x1_), some (.int (nI i_))]) ⟨rfl, ⟨rfl, ⟨rfl, trivial⟩⟩⟩ ?_
      rw [show (if ((σ 17) (nI i_).toNatClampNeg) = (0 : Int32) then (0 : Int32) else (1 : Int32)) = (0 : Int32) from (if_pos c_2)] at K_1
      exact K_1
    · refine z_iconst dX5_bound_24 k_iconst_1 ?_
      refine z_goto (tgt := 29) dX5_bound_25 (by decide) ?_
      refine zz_sub (lv' := [some (.ref 16), none, some (.int x1_), some (.int (nI i_))]) ⟨rfl, ⟨rfl, ⟨rfl, trivial⟩⟩⟩ ?_
      rw [show (if ((σ 17) (nI i_).toNatClampNeg) = (0 : Int32) then (0 : Int32) else (1 : Int32)) = (1 : Int32) from (if_neg c_2)] at K_1
      exact K_1
  · have hD_ := hC_ n_ (Nat.le_refl _)
    generalize zfor (fX5_bound_6 σ) n_ (l1, l2) = g_ at W2_ hD_ ⊢
    obtain ⟨x0_, x1_⟩ := g_
    dsimp only at W2_ hD_ ⊢
    refine z_iload_n dX5_bound_6 rfl ?_
    refine z_aloadr_n dX5_bound_7 rfl ?_
    refine z_get (ci := 5) (r := (RX5, TX5, 4)) (j := 1) (v := .int ((σ 16) 1)) dX5_bound_8 (Nat.le_of_ble_eq_true rfl) (zN rfl) rfl rfl (Nat.le_of_ble_eq_true rfl) fl_X5_15 rfl ?_
    refine z_icmp_ge (tgt := 46) dX5_bound_11 (by decide) (fun c_ => ?_) (fun c_ => absurd (hD_.mpr (Nat.le_refl _)) c_)
    exact zz_sub (lv' := [none, some (.int x0_), some (.int x1_), none]) ⟨rfl, ⟨rfl, trivial⟩⟩ W2_

theorem dX5_bound_0 : decode cX5_bound 0 = .ok (.iconst 0, 1) := by decide +kernel
theorem dX5_bound_1 : decode cX5_bound 1 = .ok (.istore_n 1, 1) := by decide +kernel
theorem dX5_bound_2 : decode cX5_bound 2 = .ok (.iconst 0, 1) := by decide +kernel
theorem dX5_bound_3 : decode cX5_bound 3 = .ok (.istore_n 2, 1) := by decide +kernel
theorem dX5_bound_4 : decode cX5_bound 4 = .ok (.iconst 0, 1) := by decide +kernel
theorem dX5_bound_5 : decode cX5_bound 5 = .ok (.istore_n 3, 1) := by decide +kernel
theorem dX5_bound_54 : decode cX5_bound 54 = .ok (.ireturn, 1) := by decide +kernel
def pX5_bound (σ : zc_N) : Prop := ((∀ i6_ : Nat, i6_ ≤ ((((σ 16) 1)).toNatClampNeg) → (((σ 16) 1) ≤ (nI i6_) ↔ ((((σ 16) 1)).toNatClampNeg) ≤ i6_)) ∧ (∀ i6_ : Nat, i6_ < ((((σ 16) 1)).toNatClampNeg) → qX5_bound_6 i6_ (zfor (fX5_bound_6 σ) i6_ ((0 : Int32), (0 : Int32)))))
noncomputable def rX5_bound (σ : zc_N) : Int32 := (if (rJ6_bitCount_0f7a4 ((zfor (fX5_bound_6 σ) ((((σ 16) 1)).toNatClampNeg) ((0 : Int32), (0 : Int32))).2)) < (zfor (fX5_bound_6 σ) ((((σ 16) 1)).toNatClampNeg) ((0 : Int32), (0 : Int32))).1 then (rJ6_bitCount_0f7a4 ((zfor (fX5_bound_6 σ) ((((σ 16) 1)).toNatClampNeg) ((0 : Int32), (0 : Int32))).2)) else (zfor (fX5_bound_6 σ) ((((σ 16) 1)).toNatClampNeg) ((0 : Int32), (0 : Int32))).1)
set_option maxHeartbeats 1000000 in
theorem ctX5_bound (P : zp) (σ : zc_N) (W_ : (pX5_bound σ)) : sp mX5_bound 1 0 0 [.ref 16] (hh P σ) (fun r_ h_ => r_ = some (.int (rX5_bound σ)) ∧ h_ = hh P σ) := by
  refine sp_of (lv := [some (.ref 16), none, none, none]) (by decide) (zcats_ok _ rfl) (Nat.le_of_ble_eq_true rfl) (zlv_ok _ 3 rfl) (fun G => ?_)
  generalize hQ_ : (fun (r_ : Option Value) (h_ : zc_H) => r_ = some (.int (rX5_bound σ)) ∧ h_ = hh P σ) = Q_
  unfold pX5_bound at W_
  refine z_iconst dX5_bound_0 k_iconst_0 ?_
  refine z_istore_n (lv' := [some (.ref 16), some (.int (0 : Int32)), none, none]) dX5_bound_1 (Nat.le_of_ble_eq_true rfl) rfl ?_
  refine z_iconst dX5_bound_2 k_iconst_0 ?_
  refine z_istore_n (lv' := [some (.ref 16), some (.int (0 : Int32)), some (.int (0 : Int32)), none]) dX5_bound_3 (Nat.le_of_ble_eq_true rfl) rfl ?_
  refine z_iconst dX5_bound_4 k_iconst_0 ?_
  refine z_istore_n (lv' := [some (.ref 16), some (.int (0 : Int32)), some (.int (0 : Int32)), some (.int (0 : Int32))]) dX5_bound_5 (Nat.le_of_ble_eq_true rfl) rfl ?_
  refine lpX5_bound_6 P σ (0 : Int32) (0 : Int32) ((((σ 16) 1)).toNatClampNeg) W_.1 W_.2 ?_
  show zz G mX5_bound 1 0 0 Q_ 46 [none, some (.int (zfor (fX5_bound_6 σ) ((((σ 16) 1)).toNatClampNeg) ((0 : Int32), (0 : Int32))).1), some (.int (zfor (fX5_bound_6 σ) ((((σ 16) 1)).toNatClampNeg) ((0 : Int32), (0 : Int32))).2), none] [] (hh P σ) 0 0
  refine z_iload_n dX5_bound_46 rfl ?_
  refine z_iload_n dX5_bound_47 rfl ?_
  refine z_callS (As := [.int (zfor (fX5_bound_6 σ) ((((σ 16) 1)).toNatClampNeg) ((0 : Int32), (0 : Int32))).2]) (rest := [.int (zfor (fX5_bound_6 σ) ((((σ 16) 1)).toNatClampNeg) ((0 : Int32), (0 : Int32))).1]) (ctJ6_bitCount_0f7a4 P σ ((zfor (fX5_bound_6 σ) ((((σ 16) 1)).toNatClampNeg) ((0 : Int32), (0 : Int32))).2)) dX5_bound_48 lk_X5_25 ls_J6_bitCount_0f7a4 rfl (Nat.le_of_ble_eq_true rfl) (Nat.le_of_ble_eq_true rfl) (Nat.le_of_ble_eq_true rfl) (Nat.le_of_ble_eq_true rfl) (fun r_ h_ e_ => ?_)
  obtain ⟨e1_, e2_⟩ := e_
  subst e1_
  subst e2_
  show zz G mX5_bound 1 0 0 Q_ 51 [none, some (.int (zfor (fX5_bound_6 σ) ((((σ 16) 1)).toNatClampNeg) ((0 : Int32), (0 : Int32))).1), some (.int (zfor (fX5_bound_6 σ) ((((σ 16) 1)).toNatClampNeg) ((0 : Int32), (0 : Int32))).2), none] [.int (rJ6_bitCount_0f7a4 ((zfor (fX5_bound_6 σ) ((((σ 16) 1)).toNatClampNeg) ((0 : Int32), (0 : Int32))).2)), .int (zfor (fX5_bound_6 σ) ((((σ 16) 1)).toNatClampNeg) ((0 : Int32), (0 : Int32))).1] (hh P σ) 0 0
  refine z_mmin dX5_bound_51 lk_X5_31 (Nat.le_of_ble_eq_true rfl) (Nat.le_of_ble_eq_true rfl) (Nat.le_of_ble_eq_true rfl) (Nat.le_of_ble_eq_true rfl) ?_
  exact z_ireturn dX5_bound_54 rfl rfl (Nat.le_of_ble_eq_true rfl) (Nat.le_of_ble_eq_true rfl) (by rw [← hQ_]; exact ⟨(by rw [rX5_bound]), rfl⟩)

theorem dX9_keptBy_4 : decode cX9_keptBy 4 = .ok (.iload_n 3, 1) := by decide +kernel
theorem dX9_keptBy_5 : decode cX9_keptBy 5 = .ok (.aload_n 0, 1) := by decide +kernel
theorem dX9_keptBy_6 : decode cX9_keptBy 6 = .ok (.getfield 131, 3) := by decide +kernel
theorem dX9_keptBy_9 : decode cX9_keptBy 9 = .ok (.if_icmp .ge 27, 3) := by decide +kernel
theorem dX9_keptBy_12 : decode cX9_keptBy 12 = .ok (.iload_n 2, 1) := by decide +kernel
theorem dX9_keptBy_13 : decode cX9_keptBy 13 = .ok (.aload_n 0, 1) := by decide +kernel
theorem dX9_keptBy_14 : decode cX9_keptBy 14 = .ok (.getfield 38, 3) := by decide +kernel
theorem dX9_keptBy_17 : decode cX9_keptBy 17 = .ok (.iload_n 3, 1) := by decide +kernel
theorem dX9_keptBy_18 : decode cX9_keptBy 18 = .ok (.iaload, 1) := by decide +kernel
theorem dX9_keptBy_19 : decode cX9_keptBy 19 = .ok (.iload_n 1, 1) := by decide +kernel
theorem dX9_keptBy_20 : decode cX9_keptBy 20 = .ok (.if_icmp .ne 7, 3) := by decide +kernel
theorem dX9_keptBy_23 : decode cX9_keptBy 23 = .ok (.iconst 1, 1) := by decide +kernel
theorem dX9_keptBy_24 : decode cX9_keptBy 24 = .ok (.goto 4, 3) := by decide +kernel
theorem dX9_keptBy_27 : decode cX9_keptBy 27 = .ok (.iconst 0, 1) := by decide +kernel
theorem dX9_keptBy_28 : decode cX9_keptBy 28 = .ok (.iadd, 1) := by decide +kernel
theorem dX9_keptBy_29 : decode cX9_keptBy 29 = .ok (.istore_n 2, 1) := by decide +kernel
theorem dX9_keptBy_30 : decode cX9_keptBy 30 = .ok (.iinc 3 1, 3) := by decide +kernel
theorem dX9_keptBy_33 : decode cX9_keptBy 33 = .ok (.goto (-29), 3) := by decide +kernel
theorem dX9_keptBy_36 : decode cX9_keptBy 36 = .ok (.iload_n 2, 1) := by decide +kernel
noncomputable def fX9_keptBy_4 (σ : zc_N) (l1 : Int32) (i_ : Nat) (a_ : Int32) : Int32 := (a_ + (if ((σ 42) (nI i_).toNatClampNeg) = l1 then (1 : Int32) else (0 : Int32)))
def qX9_keptBy_4 (i_ : Nat) (a_ : Int32) : Prop := vp_in (nI i_) 24
set_option maxHeartbeats 2000000 in
theorem lpX9_keptBy_4 {G : zc_G} {Q : Option Value → zc_H → Prop} (P : zp) (σ : zc_N) (l1 : Int32) (l2 : Int32) (n_ : Nat) (hC_ : ∀ i4_ : Nat, i4_ ≤ n_ → (((σ 32) 11) ≤ (nI i4_) ↔ n_ ≤ i4_)) (W1_ : ∀ i4_ : Nat, i4_ < n_ → qX9_keptBy_4 i4_ (zfor (fX9_keptBy_4 σ l1) i4_ l2))
    (W2_ : zz G mX9_keptBy 0 0 0 Q 36 [none, none, some (.int (zfor (fX9_keptBy_4 σ l1) n_ l2)), none] [] (hh P σ) 0 0) :
    zz G mX9_keptBy 0 0 0 Q 4 [some (.ref 32), some (.int l1), some (.int l2), some (.int (nI 0))] [] (hh P σ) 0 0 := by
  refine zfor_nI (fun i_ a_ => zz G mX9_keptBy 0 0 0 Q 4 [some (.ref 32), some (.int l1), some (.int a_), some (.int i_)] [] (hh P σ) 0 0) (fX9_keptBy_4 σ l1) n_ l2 (fun i_ hi_ k_ => ?_) ?_
  · have W3_ := W1_ i_ hi_
    have hD_ := hC_ i_ (Nat.le_of_lt hi_)
    generalize zfor (fX9_keptBy_4 σ l1) i_ l2 = g_ at k_ W3_ hD_ ⊢
    rw [fX9_keptBy_4] at k_
    rw [qX9_keptBy_4] at W3_
    try dsimp only at W3_
    refine z_iload_n dX9_keptBy_4 rfl ?_
    refine z_aloadr_n dX9_keptBy_5 rfl ?_
    refine z_get (ci := 9) (r := (RX9, TX9, 38)) (j := 11) (v := .int ((σ 32) 11)) dX9_keptBy_6 (Nat.le_of_ble_eq_true rfl) (zN rfl) rfl rfl (Nat.le_of_ble_eq_true rfl) fl_X9_131 rfl ?_
    refine z_icmp_ge (tgt := 36) dX9_keptBy_9 (by decide) (fun c_ => absurd c_ (fun q_ => Nat.not_le_of_lt hi_ (hD_.mp q_))) (fun c_ => ?_)
    refine z_iload_n dX9_keptBy_12 rfl ?_
    refine z_aloadr_n dX9_keptBy_13 rfl ?_
    refine z_get (ci := 9) (r := (RX9, TX9, 38)) (j := 9) (v := .ref 42) dX9_keptBy_14 (Nat.le_of_ble_eq_true rfl) (zN rfl) rfl rfl (Nat.le_of_ble_eq_true rfl) fl_X9_38 rfl ?_
    refine z_iload_n dX9_keptBy_17 rfl ?_
    refine z_iald (v := ((σ 42) (nI i_).toNatClampNeg)) dX9_keptBy_18 (zN rfl) rfl W3_ rfl ?_
    refine z_iload_n dX9_keptBy_19 rfl ?_
    have K_1 : zz G mX9_keptBy 0 0 0 Q 28 [some (.ref 32), some (.int l1), none, some (.int (nI i_))] [.int (if ((σ 42) (nI i_).toNatClampNeg) = l1 then (1 : Int32) else (0 : Int32)), .int g_] (hh P σ) 0 0 := by
      refine z_iadd (v := (g_ + (if ((σ 42) (nI i_).toNatClampNeg) = l1 then (1 : Int32) else (0 : Int32)))) dX9_keptBy_28 rfl ?_
      refine z_istore_n (lv' := [some (.ref 32), some (.int l1), some (.int (g_ + (if ((σ 42) (nI i_).toNatClampNeg) = l1 then (1 : Int32) else (0 : Int32)))), some (.int (nI i_))]) dX9_keptBy_29 (Nat.le_of_ble_eq_true rfl) rfl ?_
      refine z_iinc (v := ((nI i_) + (1 : Int32))) (lv' := [some (.ref 32), some (.int l1), some (.int (g_ + (if ((σ 42) (nI i_).toNatClampNeg) = l1 then (1 : Int32) else (0 : Int32)))), some (.int ((nI i_) + (1 : Int32)))]) dX9_keptBy_30 (Nat.le_of_ble_eq_true rfl) rfl (by rw [k_iconst_1]) rfl ?_
      refine z_goto (tgt := 4) dX9_keptBy_33 (by decide) ?_
      rw [nI_1]
      exact k_
    refine z_icmp_ne (tgt := 27) dX9_keptBy_20 (by decide) (fun c_2 => ?_) (fun c_2 => ?_)
    · refine z_iconst dX9_keptBy_27 k_iconst_0 ?_
      refine zz_sub (lv' := [some (.ref 32), some (.int l1), none, some (.int (nI i_))]) ⟨rfl, ⟨rfl, ⟨rfl, trivial⟩⟩⟩ ?_
      rw [show (if ((σ 42) (nI i_).toNatClampNeg) = l1 then (1 : Int32) else (0 : Int32)) = (0 : Int32) from (if_neg c_2)] at K_1
      exact K_1
    · refine z_iconst dX9_keptBy_23 k_iconst_1 ?_
      refine z_goto (tgt := 28) dX9_keptBy_24 (by decide) ?_
      refine zz_sub (lv' := [some (.ref 32), some (.int l1), none, some (.int (nI i_))]) ⟨rfl, ⟨rfl, ⟨rfl, trivial⟩⟩⟩ ?_
      rw [show (if ((σ 42) (nI i_).toNatClampNeg) = l1 then (1 : Int32) else (0 : Int32)) = (1 : Int32) from (if_pos c_2)] at K_1
      exact K_1
  · have hD_ := hC_ n_ (Nat.le_refl _)
    generalize zfor (fX9_keptBy_4 σ l1) n_ l2 = g_ at W2_ hD_ ⊢
    refine z_iload_n dX9_keptBy_4 rfl ?_
    refine z_aloadr_n dX9_keptBy_5 rfl ?_
    refine z_get (ci := 9) (r := (RX9, TX9, 38)) (j := 11) (v := .int ((σ 32) 11)) dX9_keptBy_6 (Nat.le_of_ble_eq_true rfl) (zN rfl) rfl rfl (Nat.le_of_ble_eq_true rfl) fl_X9_131 rfl ?_
    refine z_icmp_ge (tgt := 36) dX9_keptBy_9 (by decide) (fun c_ => ?_) (fun c_ => absurd (hD_.mpr (Nat.le_refl _)) c_)
    exact zz_sub (lv' := [none, none, some (.int g_), none]) ⟨rfl, trivial⟩ W2_

theorem dX9_keptBy_0 : decode cX9_keptBy 0 = .ok (.iconst 0, 1) := by decide +kernel
theorem dX9_keptBy_1 : decode cX9_keptBy 1 = .ok (.istore_n 2, 1) := by decide +kernel
theorem dX9_keptBy_2 : decode cX9_keptBy 2 = .ok (.iconst 0, 1) := by decide +kernel
theorem dX9_keptBy_3 : decode cX9_keptBy 3 = .ok (.istore_n 3, 1) := by decide +kernel
theorem dX9_keptBy_37 : decode cX9_keptBy 37 = .ok (.ireturn, 1) := by decide +kernel
def pX9_keptBy (σ : zc_N) (a1 : Int32) : Prop := ((∀ i4_ : Nat, i4_ ≤ ((((σ 32) 11)).toNatClampNeg) → (((σ 32) 11) ≤ (nI i4_) ↔ ((((σ 32) 11)).toNatClampNeg) ≤ i4_)) ∧ (∀ i4_ : Nat, i4_ < ((((σ 32) 11)).toNatClampNeg) → qX9_keptBy_4 i4_ (zfor (fX9_keptBy_4 σ a1) i4_ (0 : Int32))))
noncomputable def rX9_keptBy (σ : zc_N) (a1 : Int32) : Int32 := (zfor (fX9_keptBy_4 σ a1) ((((σ 32) 11)).toNatClampNeg) (0 : Int32))
set_option maxHeartbeats 1000000 in
theorem ctX9_keptBy (P : zp) (σ : zc_N) (a1 : Int32) (W_ : (pX9_keptBy σ a1)) : sp mX9_keptBy 0 0 0 [.ref 32, .int a1] (hh P σ) (fun r_ h_ => r_ = some (.int (rX9_keptBy σ a1)) ∧ h_ = hh P σ) := by
  refine sp_of (lv := [some (.ref 32), some (.int a1), none, none]) (by decide) (zcats_ok _ rfl) (Nat.le_of_ble_eq_true rfl) (zlv_ok _ 2 rfl) (fun G => ?_)
  generalize hQ_ : (fun (r_ : Option Value) (h_ : zc_H) => r_ = some (.int (rX9_keptBy σ a1)) ∧ h_ = hh P σ) = Q_
  unfold pX9_keptBy at W_
  refine z_iconst dX9_keptBy_0 k_iconst_0 ?_
  refine z_istore_n (lv' := [some (.ref 32), some (.int a1), some (.int (0 : Int32)), none]) dX9_keptBy_1 (Nat.le_of_ble_eq_true rfl) rfl ?_
  refine z_iconst dX9_keptBy_2 k_iconst_0 ?_
  refine z_istore_n (lv' := [some (.ref 32), some (.int a1), some (.int (0 : Int32)), some (.int (0 : Int32))]) dX9_keptBy_3 (Nat.le_of_ble_eq_true rfl) rfl ?_
  refine lpX9_keptBy_4 P σ a1 (0 : Int32) ((((σ 32) 11)).toNatClampNeg) W_.1 W_.2 ?_
  show zz G mX9_keptBy 0 0 0 Q_ 36 [none, none, some (.int (zfor (fX9_keptBy_4 σ a1) ((((σ 32) 11)).toNatClampNeg) (0 : Int32))), none] [] (hh P σ) 0 0
  refine z_iload_n dX9_keptBy_36 rfl ?_
  exact z_ireturn dX9_keptBy_37 rfl rfl (Nat.le_of_ble_eq_true rfl) (Nat.le_of_ble_eq_true rfl) (by rw [← hQ_]; exact ⟨(by rw [rX9_keptBy]), rfl⟩)
