/-! ===== printed by wip/whole/p12.py: methods with counted loops ===== -/
def zfor {α : Type} (f : Nat → α → α) : Nat → α → α
  | 0, a => a
  | n + 1, a => f n (zfor f n a)
theorem zfor_nI {α : Type} (Z : Int32 → α → Prop) (f : Nat → α → α) (N : Nat) (a : α) (hs : ∀ i : Nat, i < N → Z (nI (i + 1)) (f i (zfor f i a)) → Z (nI i) (zfor f i a)) (hx : Z (nI N) (zfor f N a)) : Z (nI 0) a := by
  have key : ∀ k : Nat, k ≤ N → Z (nI k) (zfor f k a) := by
    intro k hk
    obtain ⟨j, rfl⟩ : ∃ j, N = k + j := ⟨N - k, by omega⟩
    induction j generalizing k with
    | zero => exact hx
    | succ j ih =>
      refine hs k (by omega) ?_
      have e : k + (j + 1) = k + 1 + j := by omega
      have h2 := ih (k + 1) (fun i hi => hs i (by omega)) (by rw [← e]; exact hx) (by omega)
      exact h2
  exact key 0 (Nat.zero_le N)

theorem dX9_darkMany_4 : decode cX9_darkMany 4 = .ok (.iload_n 2, 1) := by decide +kernel
theorem dX9_darkMany_5 : decode cX9_darkMany 5 = .ok (.sipush 256, 3) := by decide +kernel
theorem dX9_darkMany_8 : decode cX9_darkMany 8 = .ok (.if_icmp .ge 26, 3) := by decide +kernel
theorem dX9_darkMany_11 : decode cX9_darkMany 11 = .ok (.iload_n 1, 1) := by decide +kernel
theorem dX9_darkMany_12 : decode cX9_darkMany 12 = .ok (.aload_n 0, 1) := by decide +kernel
theorem dX9_darkMany_13 : decode cX9_darkMany 13 = .ok (.getfield 9, 3) := by decide +kernel
theorem dX9_darkMany_16 : decode cX9_darkMany 16 = .ok (.iload_n 2, 1) := by decide +kernel
theorem dX9_darkMany_17 : decode cX9_darkMany 17 = .ok (.baload, 1) := by decide +kernel
theorem dX9_darkMany_18 : decode cX9_darkMany 18 = .ok (.ifCond .eq 7, 3) := by decide +kernel
theorem dX9_darkMany_21 : decode cX9_darkMany 21 = .ok (.iconst 1, 1) := by decide +kernel
theorem dX9_darkMany_22 : decode cX9_darkMany 22 = .ok (.goto 4, 3) := by decide +kernel
theorem dX9_darkMany_25 : decode cX9_darkMany 25 = .ok (.iconst 0, 1) := by decide +kernel
theorem dX9_darkMany_26 : decode cX9_darkMany 26 = .ok (.iadd, 1) := by decide +kernel
theorem dX9_darkMany_27 : decode cX9_darkMany 27 = .ok (.istore_n 1, 1) := by decide +kernel
theorem dX9_darkMany_28 : decode cX9_darkMany 28 = .ok (.iinc 2 1, 3) := by decide +kernel
theorem dX9_darkMany_31 : decode cX9_darkMany 31 = .ok (.goto (-27), 3) := by decide +kernel
theorem dX9_darkMany_34 : decode cX9_darkMany 34 = .ok (.iload_n 1, 1) := by decide +kernel
def fX9_darkMany_4 (σ : zc_N) (i_ : Nat) (a_ : Int32) : Int32 := (a_ + (if ((σ 33) (nI i_).toNatClampNeg) = (0 : Int32) then (0 : Int32) else (1 : Int32)))
theorem lpX9_darkMany_4 {G : zc_G} {Q : Option Value → zc_H → Prop} (P : zp) (σ : zc_N) (l1 : Int32)
    (W2_ : zz G mX9_darkMany 0 0 0 Q 34 [none, some (.int (zfor (fX9_darkMany_4 σ) 256 l1)), none] [] (hh P σ) 0 0) :
    zz G mX9_darkMany 0 0 0 Q 4 [some (.ref 32), some (.int l1), some (.int (nI 0))] [] (hh P σ) 0 0 := by
  refine zfor_nI (fun i_ a_ => zz G mX9_darkMany 0 0 0 Q 4 [some (.ref 32), some (.int a_), some (.int i_)] [] (hh P σ) 0 0) (fX9_darkMany_4 σ) 256 l1 (fun i_ hi_ k_ => ?_) ?_
  · generalize hg_ : zfor (fX9_darkMany_4 σ) i_ l1 = g_ at k_ ⊢
    rw [fX9_darkMany_4] at k_
    refine z_iload_n dX9_darkMany_4 rfl ?_
    refine z_sipush dX9_darkMany_5 k_sipush_256 ?_
    refine z_icmp_ge (tgt := 34) dX9_darkMany_8 (by decide) (fun c_ => absurd c_ (nI_ge hi_ (by decide))) (fun c_ => ?_)
    refine z_iload_n dX9_darkMany_11 rfl ?_
    refine z_aloadr_n dX9_darkMany_12 rfl ?_
    refine z_get (ci := 9) (r := (RX9, TX9, 38)) (j := 0) (v := .ref 33) dX9_darkMany_13 (Nat.le_of_ble_eq_true rfl) (zN rfl) rfl rfl (Nat.le_of_ble_eq_true rfl) fl_X9_9 rfl ?_
    refine z_iload_n dX9_darkMany_16 rfl ?_
    refine z_bald (v := ((σ 33) (nI i_).toNatClampNeg)) dX9_darkMany_17 (Nat.le_of_ble_eq_true rfl) (zN rfl) rfl (vp_in_nI (Nat.lt_of_lt_of_le hi_ (Nat.le_of_ble_eq_true rfl)) (by decide)) rfl ?_
    have K_1 : zz G mX9_darkMany 0 0 0 Q 26 [some (.ref 32), none, some (.int (nI i_))] [.int (if ((σ 33) (nI i_).toNatClampNeg) = (0 : Int32) then (0 : Int32) else (1 : Int32)), .int g_] (hh P σ) 0 0 := by
      refine z_iadd (v := (g_ + (if ((σ 33) (nI i_).toNatClampNeg) = (0 : Int32) then (0 : Int32) else (1 : Int32)))) dX9_darkMany_26 rfl ?_
      refine z_istore_n (lv' := [some (.ref 32), some (.int (g_ + (if ((σ 33) (nI i_).toNatClampNeg) = (0 : Int32) then (0 : Int32) else (1 : Int32)))), some (.int (nI i_))]) dX9_darkMany_27 (Nat.le_of_ble_eq_true rfl) rfl ?_
      refine z_iinc (v := ((nI i_) + (1 : Int32))) (lv' := [some (.ref 32), some (.int (g_ + (if ((σ 33) (nI i_).toNatClampNeg) = (0 : Int32) then (0 : Int32) else (1 : Int32)))), some (.int ((nI i_) + (1 : Int32)))]) dX9_darkMany_28 (Nat.le_of_ble_eq_true rfl) rfl (by rw [k_iconst_1]) rfl ?_
      refine z_goto (tgt := 4) dX9_darkMany_31 (by decide) ?_
      rw [nI_1]
      exact k_
    refine z_if_eq (tgt := 25) dX9_darkMany_18 (by decide) (fun c_2 => ?_) (fun c_2 => ?_)
    · refine z_iconst dX9_darkMany_25 k_iconst_0 ?_
      refine zz_sub (lv' := [some (.ref 32), none, some (.int (nI i_))]) ⟨rfl, ⟨rfl, trivial⟩⟩ ?_
      first | exact K_1 | simpa only [if_pos c_2] using K_1
    · refine z_iconst dX9_darkMany_21 k_iconst_1 ?_
      refine z_goto (tgt := 26) dX9_darkMany_22 (by decide) ?_
      refine zz_sub (lv' := [some (.ref 32), none, some (.int (nI i_))]) ⟨rfl, ⟨rfl, trivial⟩⟩ ?_
      first | exact K_1 | simpa only [if_neg c_2] using K_1
  · generalize zfor (fX9_darkMany_4 σ) 256 l1 = g_ at W2_ ⊢
    refine z_iload_n dX9_darkMany_4 rfl ?_
    refine z_sipush dX9_darkMany_5 k_sipush_256 ?_
    refine z_icmp_ge (tgt := 34) dX9_darkMany_8 (by decide) (fun c_ => ?_) (fun c_ => absurd (by decide) c_)
    exact zz_sub (lv' := [none, some (.int g_), none]) ⟨rfl, trivial⟩ W2_

theorem dX9_darkMany_0 : decode cX9_darkMany 0 = .ok (.iconst 0, 1) := by decide +kernel
theorem dX9_darkMany_1 : decode cX9_darkMany 1 = .ok (.istore_n 1, 1) := by decide +kernel
theorem dX9_darkMany_2 : decode cX9_darkMany 2 = .ok (.iconst 0, 1) := by decide +kernel
theorem dX9_darkMany_3 : decode cX9_darkMany 3 = .ok (.istore_n 2, 1) := by decide +kernel
theorem dX9_darkMany_35 : decode cX9_darkMany 35 = .ok (.ireturn, 1) := by decide +kernel
def rX9_darkMany (σ : zc_N) : Int32 := (zfor (fX9_darkMany_4 σ) 256 (0 : Int32))
set_option maxHeartbeats 1000000 in
theorem ctX9_darkMany (P : zp) (σ : zc_N) : sp mX9_darkMany 0 0 0 [.ref 32] (hh P σ) (fun r_ h_ => r_ = some (.int (rX9_darkMany σ)) ∧ h_ = hh P σ) := by
  refine sp_of (lv := [some (.ref 32), none, none]) (by decide) (zcats_ok _ rfl) (Nat.le_of_ble_eq_true rfl) (zlv_ok _ 2 rfl) (fun G => ?_)
  generalize hQ_ : (fun (r_ : Option Value) (h_ : zc_H) => r_ = some (.int (rX9_darkMany σ)) ∧ h_ = hh P σ) = Q_
  refine z_iconst dX9_darkMany_0 k_iconst_0 ?_
  refine z_istore_n (lv' := [some (.ref 32), some (.int (0 : Int32)), none]) dX9_darkMany_1 (Nat.le_of_ble_eq_true rfl) rfl ?_
  refine z_iconst dX9_darkMany_2 k_iconst_0 ?_
  refine z_istore_n (lv' := [some (.ref 32), some (.int (0 : Int32)), some (.int (0 : Int32))]) dX9_darkMany_3 (Nat.le_of_ble_eq_true rfl) rfl ?_
  refine lpX9_darkMany_4 P σ (0 : Int32) ?_
  refine z_iload_n dX9_darkMany_34 rfl ?_
  exact z_ireturn dX9_darkMany_35 rfl rfl (Nat.le_of_ble_eq_true rfl) (Nat.le_of_ble_eq_true rfl) (by rw [← hQ_]; exact ⟨(by rw [rX9_darkMany]), rfl⟩)

theorem dX1_darkCells_4 : decode cX1_darkCells 4 = .ok (.iload_n 2, 1) := by decide +kernel
theorem dX1_darkCells_5 : decode cX1_darkCells 5 = .ok (.bipush 18, 2) := by decide +kernel
theorem dX1_darkCells_7 : decode cX1_darkCells 7 = .ok (.if_icmp .ge 21, 3) := by decide +kernel
theorem dX1_darkCells_10 : decode cX1_darkCells 10 = .ok (.iload_n 1, 1) := by decide +kernel
theorem dX1_darkCells_11 : decode cX1_darkCells 11 = .ok (.aload_n 0, 1) := by decide +kernel
theorem dX1_darkCells_12 : decode cX1_darkCells 12 = .ok (.getfield 11, 3) := by decide +kernel
theorem dX1_darkCells_15 : decode cX1_darkCells 15 = .ok (.iload_n 2, 1) := by decide +kernel
theorem dX1_darkCells_16 : decode cX1_darkCells 16 = .ok (.iaload, 1) := by decide +kernel
theorem dX1_darkCells_17 : decode cX1_darkCells 17 = .ok (.invokestatic 21, 3) := by decide +kernel
theorem dX1_darkCells_20 : decode cX1_darkCells 20 = .ok (.iadd, 1) := by decide +kernel
theorem dX1_darkCells_21 : decode cX1_darkCells 21 = .ok (.istore_n 1, 1) := by decide +kernel
theorem dX1_darkCells_22 : decode cX1_darkCells 22 = .ok (.iinc 2 1, 3) := by decide +kernel
theorem dX1_darkCells_25 : decode cX1_darkCells 25 = .ok (.goto (-21), 3) := by decide +kernel
theorem dX1_darkCells_28 : decode cX1_darkCells 28 = .ok (.iload_n 1, 1) := by decide +kernel
def fX1_darkCells_4 (σ : zc_N) (i_ : Nat) (a_ : Int32) : Int32 := (a_ + (rJ6_bitCount_0f7a4 ((σ 5) (nI i_).toNatClampNeg)))
theorem lpX1_darkCells_4 {G : zc_G} {Q : Option Value → zc_H → Prop} (P : zp) (σ : zc_N) (l1 : Int32)
    (W2_ : zz G mX1_darkCells 1 0 0 Q 28 [none, some (.int (zfor (fX1_darkCells_4 σ) 18 l1)), none] [] (hh P σ) 0 0) :
    zz G mX1_darkCells 1 0 0 Q 4 [some (.ref 4), some (.int l1), some (.int (nI 0))] [] (hh P σ) 0 0 := by
  refine zfor_nI (fun i_ a_ => zz G mX1_darkCells 1 0 0 Q 4 [some (.ref 4), some (.int a_), some (.int i_)] [] (hh P σ) 0 0) (fX1_darkCells_4 σ) 18 l1 (fun i_ hi_ k_ => ?_) ?_
  · generalize hg_ : zfor (fX1_darkCells_4 σ) i_ l1 = g_ at k_ ⊢
    rw [fX1_darkCells_4] at k_
    refine z_iload_n dX1_darkCells_4 rfl ?_
    refine z_bipush dX1_darkCells_5 k_bipush_18 ?_
    refine z_icmp_ge (tgt := 28) dX1_darkCells_7 (by decide) (fun c_ => absurd c_ (nI_ge hi_ (by decide))) (fun c_ => ?_)
    refine z_iload_n dX1_darkCells_10 rfl ?_
    refine z_aloadr_n dX1_darkCells_11 rfl ?_
    refine z_get (ci := 1) (r := (RX1, TX1, 3)) (j := 0) (v := .ref 5) dX1_darkCells_12 (Nat.le_of_ble_eq_true rfl) (zN rfl) rfl rfl (Nat.le_of_ble_eq_true rfl) fl_X1_11 rfl ?_
    refine z_iload_n dX1_darkCells_15 rfl ?_
    refine z_iald (v := ((σ 5) (nI i_).toNatClampNeg)) dX1_darkCells_16 (zN rfl) rfl (vp_in_nI (Nat.lt_of_lt_of_le hi_ (Nat.le_of_ble_eq_true rfl)) (by decide)) rfl ?_
    refine z_callS (As := [.int ((σ 5) (nI i_).toNatClampNeg)]) (rest := [.int g_]) (ctJ6_bitCount_0f7a4 P σ ((σ 5) (nI i_).toNatClampNeg)) dX1_darkCells_17 lk_X1_21 ls_J6_bitCount_0f7a4 rfl (Nat.le_of_ble_eq_true rfl) (Nat.le_of_ble_eq_true rfl) (Nat.le_of_ble_eq_true rfl) (Nat.le_of_ble_eq_true rfl) (fun r_ h_ e_ => ?_)
    obtain ⟨e1_, e2_⟩ := e_
    subst e1_
    subst e2_
    show zz G mX1_darkCells 1 0 0 Q 20 [some (.ref 4), some (.int g_), some (.int (nI i_))] [.int (rJ6_bitCount_0f7a4 ((σ 5) (nI i_).toNatClampNeg)), .int g_] (hh P σ) 0 0
    refine z_iadd (v := (g_ + (rJ6_bitCount_0f7a4 ((σ 5) (nI i_).toNatClampNeg)))) dX1_darkCells_20 rfl ?_
    refine z_istore_n (lv' := [some (.ref 4), some (.int (g_ + (rJ6_bitCount_0f7a4 ((σ 5) (nI i_).toNatClampNeg)))), some (.int (nI i_))]) dX1_darkCells_21 (Nat.le_of_ble_eq_true rfl) rfl ?_
    refine z_iinc (v := ((nI i_) + (1 : Int32))) (lv' := [some (.ref 4), some (.int (g_ + (rJ6_bitCount_0f7a4 ((σ 5) (nI i_).toNatClampNeg)))), some (.int ((nI i_) + (1 : Int32)))]) dX1_darkCells_22 (Nat.le_of_ble_eq_true rfl) rfl (by rw [k_iconst_1]) rfl ?_
    refine z_goto (tgt := 4) dX1_darkCells_25 (by decide) ?_
    rw [nI_1]
    exact k_
  · generalize zfor (fX1_darkCells_4 σ) 18 l1 = g_ at W2_ ⊢
    refine z_iload_n dX1_darkCells_4 rfl ?_
    refine z_bipush dX1_darkCells_5 k_bipush_18 ?_
    refine z_icmp_ge (tgt := 28) dX1_darkCells_7 (by decide) (fun c_ => ?_) (fun c_ => absurd (by decide) c_)
    exact zz_sub (lv' := [none, some (.int g_), none]) ⟨rfl, trivial⟩ W2_

theorem dX1_darkCells_0 : decode cX1_darkCells 0 = .ok (.iconst 0, 1) := by decide +kernel
theorem dX1_darkCells_1 : decode cX1_darkCells 1 = .ok (.istore_n 1, 1) := by decide +kernel
theorem dX1_darkCells_2 : decode cX1_darkCells 2 = .ok (.iconst 0, 1) := by decide +kernel
theorem dX1_darkCells_3 : decode cX1_darkCells 3 = .ok (.istore_n 2, 1) := by decide +kernel
theorem dX1_darkCells_29 : decode cX1_darkCells 29 = .ok (.ireturn, 1) := by decide +kernel
def rX1_darkCells (σ : zc_N) : Int32 := (zfor (fX1_darkCells_4 σ) 18 (0 : Int32))
set_option maxHeartbeats 1000000 in
theorem ctX1_darkCells (P : zp) (σ : zc_N) : sp mX1_darkCells 1 0 0 [.ref 4] (hh P σ) (fun r_ h_ => r_ = some (.int (rX1_darkCells σ)) ∧ h_ = hh P σ) := by
  refine sp_of (lv := [some (.ref 4), none, none]) (by decide) (zcats_ok _ rfl) (Nat.le_of_ble_eq_true rfl) (zlv_ok _ 2 rfl) (fun G => ?_)
  generalize hQ_ : (fun (r_ : Option Value) (h_ : zc_H) => r_ = some (.int (rX1_darkCells σ)) ∧ h_ = hh P σ) = Q_
  refine z_iconst dX1_darkCells_0 k_iconst_0 ?_
  refine z_istore_n (lv' := [some (.ref 4), some (.int (0 : Int32)), none]) dX1_darkCells_1 (Nat.le_of_ble_eq_true rfl) rfl ?_
  refine z_iconst dX1_darkCells_2 k_iconst_0 ?_
  refine z_istore_n (lv' := [some (.ref 4), some (.int (0 : Int32)), some (.int (0 : Int32))]) dX1_darkCells_3 (Nat.le_of_ble_eq_true rfl) rfl ?_
  refine lpX1_darkCells_4 P σ (0 : Int32) ?_
  refine z_iload_n dX1_darkCells_28 rfl ?_
  exact z_ireturn dX1_darkCells_29 rfl rfl (Nat.le_of_ble_eq_true rfl) (Nat.le_of_ble_eq_true rfl) (by rw [← hQ_]; exact ⟨(by rw [rX1_darkCells]), rfl⟩)
