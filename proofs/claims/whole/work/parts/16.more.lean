/-! ===== printed by wip/whole/p16.py ===== -/
theorem zC_lit (N : Nat) (h : N < 2 ^ 31) : ∀ i : Nat, i ≤ N → (nI N ≤ nI i ↔ N ≤ i) := fun i hi => nI_leI h (Nat.lt_of_le_of_lt hi h)
theorem aw_X1_49 : Cond.methodLink RX1 49 arraycopyName ∈ zc_tb := zc_mem (by decide +kernel) rfl

theorem dJ7_fill_53178_5 : decode cJ7_fill_53178 5 = .ok (.iload_n 2, 1) := by decide +kernel
theorem dJ7_fill_53178_6 : decode cJ7_fill_53178 6 = .ok (.iload_n 3, 1) := by decide +kernel
theorem dJ7_fill_53178_7 : decode cJ7_fill_53178 7 = .ok (.if_icmp .ge 13, 3) := by decide +kernel
theorem dJ7_fill_53178_10 : decode cJ7_fill_53178 10 = .ok (.aload_n 0, 1) := by decide +kernel
theorem dJ7_fill_53178_11 : decode cJ7_fill_53178 11 = .ok (.iload_n 2, 1) := by decide +kernel
theorem dJ7_fill_53178_12 : decode cJ7_fill_53178 12 = .ok (.iload_n 1, 1) := by decide +kernel
theorem dJ7_fill_53178_13 : decode cJ7_fill_53178 13 = .ok (.iastore, 1) := by decide +kernel
theorem dJ7_fill_53178_14 : decode cJ7_fill_53178 14 = .ok (.iinc 2 1, 3) := by decide +kernel
theorem dJ7_fill_53178_17 : decode cJ7_fill_53178 17 = .ok (.goto (-12), 3) := by decide +kernel
noncomputable def fJ7_fill_53178_13_5 (l1 : Int32) (i_ : Nat) (a_ : zc_N) : zc_N := (zu a_ 13 (zu (a_ 13) (nI i_).toNatClampNeg l1))
def qJ7_fill_53178_13_5 (i_ : Nat) (a_ : zc_N) : Prop := vp_in (nI i_) 22
set_option maxHeartbeats 2000000 in
theorem lpJ7_fill_53178_13_5 {G : zc_G} {Q : Option Value → zc_H → Prop} (P : zp) (σ : zc_N) (l1 : Int32) (l3 : Int32) (n_ : Nat) (hC_ : ∀ i5_ : Nat, i5_ ≤ n_ → (l3 ≤ (nI i5_) ↔ n_ ≤ i5_)) (W1_ : ∀ i5_ : Nat, i5_ < n_ → qJ7_fill_53178_13_5 i5_ (zfor (fJ7_fill_53178_13_5 l1) i5_ σ))
    (W2_ : zz G mJ7_fill_53178 0 0 0 Q 20 [none, none, none, none] [] (hh P (zfor (fJ7_fill_53178_13_5 l1) n_ σ)) 0 0) :
    zz G mJ7_fill_53178 0 0 0 Q 5 [some (.ref 13), some (.int l1), some (.int (nI 0)), some (.int l3)] [] (hh P σ) 0 0 := by
  refine zfor_nI (fun i_ a_ => zz G mJ7_fill_53178 0 0 0 Q 5 [some (.ref 13), some (.int l1), some (.int i_), some (.int l3)] [] (hh P a_) 0 0) (fJ7_fill_53178_13_5 l1) n_ σ (fun i_ hi_ k_ => ?_) ?_
  · have W3_ := W1_ i_ hi_
    have hD_ := hC_ i_ (Nat.le_of_lt hi_)
    generalize zfor (fJ7_fill_53178_13_5 l1) i_ σ = g_ at k_ W3_ hD_ ⊢
    rw [fJ7_fill_53178_13_5] at k_
    rw [qJ7_fill_53178_13_5] at W3_
    try dsimp only at W3_
    refine z_iload_n dJ7_fill_53178_5 rfl ?_
    refine z_iload_n dJ7_fill_53178_6 rfl ?_
    refine z_icmp_ge (tgt := 20) dJ7_fill_53178_7 (by decide) (fun c_ => absurd c_ (fun q_ => Nat.not_le_of_lt hi_ (hD_.mp q_))) (fun c_ => ?_)
    refine z_aloadr_n dJ7_fill_53178_10 rfl ?_
    refine z_iload_n dJ7_fill_53178_11 rfl ?_
    refine z_iload_n dJ7_fill_53178_12 rfl ?_
    refine z_iast (σ' := (zu g_ 13 (zu (g_ 13) (nI i_).toNatClampNeg l1))) dJ7_fill_53178_13 (Nat.le_of_ble_eq_true rfl) (zN rfl) rfl W3_ rfl ?_
    refine z_iinc (v := ((nI i_) + (1 : Int32))) (lv' := [some (.ref 13), some (.int l1), some (.int ((nI i_) + (1 : Int32))), some (.int l3)]) dJ7_fill_53178_14 (Nat.le_of_ble_eq_true rfl) rfl (by rw [k_iconst_1]) rfl ?_
    refine z_goto (tgt := 5) dJ7_fill_53178_17 (by decide) ?_
    rw [nI_1]
    exact k_
  · have hD_ := hC_ n_ (Nat.le_refl _)
    generalize zfor (fJ7_fill_53178_13_5 l1) n_ σ = g_ at W2_ hD_ ⊢
    refine z_iload_n dJ7_fill_53178_5 rfl ?_
    refine z_iload_n dJ7_fill_53178_6 rfl ?_
    refine z_icmp_ge (tgt := 20) dJ7_fill_53178_7 (by decide) (fun c_ => ?_) (fun c_ => absurd (hD_.mpr (Nat.le_refl _)) c_)
    exact zz_sub (lv' := [none, none, none, none]) trivial W2_

theorem dJ7_fill_53178_0 : decode cJ7_fill_53178 0 = .ok (.iconst 0, 1) := by decide +kernel
theorem dJ7_fill_53178_1 : decode cJ7_fill_53178 1 = .ok (.istore_n 2, 1) := by decide +kernel
theorem dJ7_fill_53178_2 : decode cJ7_fill_53178 2 = .ok (.aload_n 0, 1) := by decide +kernel
theorem dJ7_fill_53178_3 : decode cJ7_fill_53178 3 = .ok (.arraylength, 1) := by decide +kernel
theorem dJ7_fill_53178_4 : decode cJ7_fill_53178 4 = .ok (.istore_n 3, 1) := by decide +kernel
theorem dJ7_fill_53178_20 : decode cJ7_fill_53178 20 = .ok (.return_, 1) := by decide +kernel
def pJ7_fill_53178_13 (σ : zc_N) (a1 : Int32) : Prop := (∀ i5_ : Nat, i5_ < 22 → qJ7_fill_53178_13_5 i5_ (zfor (fJ7_fill_53178_13_5 a1) i5_ σ))
noncomputable def sJ7_fill_53178_13 (σ : zc_N) (a1 : Int32) : zc_N := (zfor (fJ7_fill_53178_13_5 a1) 22 σ)
set_option maxHeartbeats 1000000 in
theorem ctJ7_fill_53178_13 (P : zp) (σ : zc_N) (a1 : Int32) (W_ : (pJ7_fill_53178_13 σ a1)) : sp mJ7_fill_53178 0 0 0 [.ref 13, .int a1] (hh P σ) (fun r_ h_ => r_ = none ∧ h_ = hh P (sJ7_fill_53178_13 σ a1)) := by
  refine sp_of (lv := [some (.ref 13), some (.int a1), none, none]) (by decide) (zcats_ok _ rfl) (Nat.le_of_ble_eq_true rfl) (zlv_ok _ 2 rfl) (fun G => ?_)
  generalize hQ_ : (fun (r_ : Option Value) (h_ : zc_H) => r_ = none ∧ h_ = hh P (sJ7_fill_53178_13 σ a1)) = Q_
  unfold pJ7_fill_53178_13 at W_
  refine z_iconst dJ7_fill_53178_0 k_iconst_0 ?_
  refine z_istore_n (lv' := [some (.ref 13), some (.int a1), some (.int (0 : Int32)), none]) dJ7_fill_53178_1 (Nat.le_of_ble_eq_true rfl) rfl ?_
  refine z_aloadr_n dJ7_fill_53178_2 rfl ?_
  refine z_alen0 (v := (22 : Int32)) dJ7_fill_53178_3 (zN rfl) rfl rfl ?_
  refine z_istore_n (lv' := [some (.ref 13), some (.int a1), some (.int (0 : Int32)), some (.int (22 : Int32))]) dJ7_fill_53178_4 (Nat.le_of_ble_eq_true rfl) rfl ?_
  refine lpJ7_fill_53178_13_5 P σ a1 (22 : Int32) 22 (zC_lit 22 (by decide)) W_ ?_
  show zz G mJ7_fill_53178 0 0 0 Q_ 20 [none, none, none, none] [] (hh P (zfor (fJ7_fill_53178_13_5 a1) 22 σ)) 0 0
  exact z_return dJ7_fill_53178_20 rfl (Nat.le_of_ble_eq_true rfl) (Nat.le_of_ble_eq_true rfl) (by rw [← hQ_]; exact ⟨rfl, (by rw [sJ7_fill_53178_13])⟩)


noncomputable def fJ7_fill_53178_14_5 (l1 : Int32) (i_ : Nat) (a_ : zc_N) : zc_N := (zu a_ 14 (zu (a_ 14) (nI i_).toNatClampNeg l1))
def qJ7_fill_53178_14_5 (i_ : Nat) (a_ : zc_N) : Prop := vp_in (nI i_) 22
set_option maxHeartbeats 2000000 in
theorem lpJ7_fill_53178_14_5 {G : zc_G} {Q : Option Value → zc_H → Prop} (P : zp) (σ : zc_N) (l1 : Int32) (l3 : Int32) (n_ : Nat) (hC_ : ∀ i5_ : Nat, i5_ ≤ n_ → (l3 ≤ (nI i5_) ↔ n_ ≤ i5_)) (W1_ : ∀ i5_ : Nat, i5_ < n_ → qJ7_fill_53178_14_5 i5_ (zfor (fJ7_fill_53178_14_5 l1) i5_ σ))
    (W2_ : zz G mJ7_fill_53178 0 0 0 Q 20 [none, none, none, none] [] (hh P (zfor (fJ7_fill_53178_14_5 l1) n_ σ)) 0 0) :
    zz G mJ7_fill_53178 0 0 0 Q 5 [some (.ref 14), some (.int l1), some (.int (nI 0)), some (.int l3)] [] (hh P σ) 0 0 := by
  refine zfor_nI (fun i_ a_ => zz G mJ7_fill_53178 0 0 0 Q 5 [some (.ref 14), some (.int l1), some (.int i_), some (.int l3)] [] (hh P a_) 0 0) (fJ7_fill_53178_14_5 l1) n_ σ (fun i_ hi_ k_ => ?_) ?_
  · have W3_ := W1_ i_ hi_
    have hD_ := hC_ i_ (Nat.le_of_lt hi_)
    generalize zfor (fJ7_fill_53178_14_5 l1) i_ σ = g_ at k_ W3_ hD_ ⊢
    rw [fJ7_fill_53178_14_5] at k_
    rw [qJ7_fill_53178_14_5] at W3_
    try dsimp only at W3_
    refine z_iload_n dJ7_fill_53178_5 rfl ?_
    refine z_iload_n dJ7_fill_53178_6 rfl ?_
    refine z_icmp_ge (tgt := 20) dJ7_fill_53178_7 (by decide) (fun c_ => absurd c_ (fun q_ => Nat.not_le_of_lt hi_ (hD_.mp q_))) (fun c_ => ?_)
    refine z_aloadr_n dJ7_fill_53178_10 rfl ?_
    refine z_iload_n dJ7_fill_53178_11 rfl ?_
    refine z_iload_n dJ7_fill_53178_12 rfl ?_
    refine z_iast (σ' := (zu g_ 14 (zu (g_ 14) (nI i_).toNatClampNeg l1))) dJ7_fill_53178_13 (Nat.le_of_ble_eq_true rfl) (zN rfl) rfl W3_ rfl ?_
    refine z_iinc (v := ((nI i_) + (1 : Int32))) (lv' := [some (.ref 14), some (.int l1), some (.int ((nI i_) + (1 : Int32))), some (.int l3)]) dJ7_fill_53178_14 (Nat.le_of_ble_eq_true rfl) rfl (by rw [k_iconst_1]) rfl ?_
    refine z_goto (tgt := 5) dJ7_fill_53178_17 (by decide) ?_
    rw [nI_1]
    exact k_
  · have hD_ := hC_ n_ (Nat.le_refl _)
    generalize zfor (fJ7_fill_53178_14_5 l1) n_ σ = g_ at W2_ hD_ ⊢
    refine z_iload_n dJ7_fill_53178_5 rfl ?_
    refine z_iload_n dJ7_fill_53178_6 rfl ?_
    refine z_icmp_ge (tgt := 20) dJ7_fill_53178_7 (by decide) (fun c_ => ?_) (fun c_ => absurd (hD_.mpr (Nat.le_refl _)) c_)
    exact zz_sub (lv' := [none, none, none, none]) trivial W2_


def pJ7_fill_53178_14 (σ : zc_N) (a1 : Int32) : Prop := (∀ i5_ : Nat, i5_ < 22 → qJ7_fill_53178_14_5 i5_ (zfor (fJ7_fill_53178_14_5 a1) i5_ σ))
noncomputable def sJ7_fill_53178_14 (σ : zc_N) (a1 : Int32) : zc_N := (zfor (fJ7_fill_53178_14_5 a1) 22 σ)
set_option maxHeartbeats 1000000 in
theorem ctJ7_fill_53178_14 (P : zp) (σ : zc_N) (a1 : Int32) (W_ : (pJ7_fill_53178_14 σ a1)) : sp mJ7_fill_53178 0 0 0 [.ref 14, .int a1] (hh P σ) (fun r_ h_ => r_ = none ∧ h_ = hh P (sJ7_fill_53178_14 σ a1)) := by
  refine sp_of (lv := [some (.ref 14), some (.int a1), none, none]) (by decide) (zcats_ok _ rfl) (Nat.le_of_ble_eq_true rfl) (zlv_ok _ 2 rfl) (fun G => ?_)
  generalize hQ_ : (fun (r_ : Option Value) (h_ : zc_H) => r_ = none ∧ h_ = hh P (sJ7_fill_53178_14 σ a1)) = Q_
  unfold pJ7_fill_53178_14 at W_
  refine z_iconst dJ7_fill_53178_0 k_iconst_0 ?_
  refine z_istore_n (lv' := [some (.ref 14), some (.int a1), some (.int (0 : Int32)), none]) dJ7_fill_53178_1 (Nat.le_of_ble_eq_true rfl) rfl ?_
  refine z_aloadr_n dJ7_fill_53178_2 rfl ?_
  refine z_alen0 (v := (22 : Int32)) dJ7_fill_53178_3 (zN rfl) rfl rfl ?_
  refine z_istore_n (lv' := [some (.ref 14), some (.int a1), some (.int (0 : Int32)), some (.int (22 : Int32))]) dJ7_fill_53178_4 (Nat.le_of_ble_eq_true rfl) rfl ?_
  refine lpJ7_fill_53178_14_5 P σ a1 (22 : Int32) 22 (zC_lit 22 (by decide)) W_ ?_
  show zz G mJ7_fill_53178 0 0 0 Q_ 20 [none, none, none, none] [] (hh P (zfor (fJ7_fill_53178_14_5 a1) 22 σ)) 0 0
  exact z_return dJ7_fill_53178_20 rfl (Nat.le_of_ble_eq_true rfl) (Nat.le_of_ble_eq_true rfl) (by rw [← hQ_]; exact ⟨rfl, (by rw [sJ7_fill_53178_14])⟩)


noncomputable def fJ7_fill_53178_15_5 (l1 : Int32) (i_ : Nat) (a_ : zc_N) : zc_N := (zu a_ 15 (zu (a_ 15) (nI i_).toNatClampNeg l1))
def qJ7_fill_53178_15_5 (i_ : Nat) (a_ : zc_N) : Prop := vp_in (nI i_) 3
set_option maxHeartbeats 2000000 in
theorem lpJ7_fill_53178_15_5 {G : zc_G} {Q : Option Value → zc_H → Prop} (P : zp) (σ : zc_N) (l1 : Int32) (l3 : Int32) (n_ : Nat) (hC_ : ∀ i5_ : Nat, i5_ ≤ n_ → (l3 ≤ (nI i5_) ↔ n_ ≤ i5_)) (W1_ : ∀ i5_ : Nat, i5_ < n_ → qJ7_fill_53178_15_5 i5_ (zfor (fJ7_fill_53178_15_5 l1) i5_ σ))
    (W2_ : zz G mJ7_fill_53178 0 0 0 Q 20 [none, none, none, none] [] (hh P (zfor (fJ7_fill_53178_15_5 l1) n_ σ)) 0 0) :
    zz G mJ7_fill_53178 0 0 0 Q 5 [some (.ref 15), some (.int l1), some (.int (nI 0)), some (.int l3)] [] (hh P σ) 0 0 := by
  refine zfor_nI (fun i_ a_ => zz G mJ7_fill_53178 0 0 0 Q 5 [some (.ref 15), some (.int l1), some (.int i_), some (.int l3)] [] (hh P a_) 0 0) (fJ7_fill_53178_15_5 l1) n_ σ (fun i_ hi_ k_ => ?_) ?_
  · have W3_ := W1_ i_ hi_
    have hD_ := hC_ i_ (Nat.le_of_lt hi_)
    generalize zfor (fJ7_fill_53178_15_5 l1) i_ σ = g_ at k_ W3_ hD_ ⊢
    rw [fJ7_fill_53178_15_5] at k_
    rw [qJ7_fill_53178_15_5] at W3_
    try dsimp only at W3_
    refine z_iload_n dJ7_fill_53178_5 rfl ?_
    refine z_iload_n dJ7_fill_53178_6 rfl ?_
    refine z_icmp_ge (tgt := 20) dJ7_fill_53178_7 (by decide) (fun c_ => absurd c_ (fun q_ => Nat.not_le_of_lt hi_ (hD_.mp q_))) (fun c_ => ?_)
    refine z_aloadr_n dJ7_fill_53178_10 rfl ?_
    refine z_iload_n dJ7_fill_53178_11 rfl ?_
    refine z_iload_n dJ7_fill_53178_12 rfl ?_
    refine z_iast (σ' := (zu g_ 15 (zu (g_ 15) (nI i_).toNatClampNeg l1))) dJ7_fill_53178_13 (Nat.le_of_ble_eq_true rfl) (zN rfl) rfl W3_ rfl ?_
    refine z_iinc (v := ((nI i_) + (1 : Int32))) (lv' := [some (.ref 15), some (.int l1), some (.int ((nI i_) + (1 : Int32))), some (.int l3)]) dJ7_fill_53178_14 (Nat.le_of_ble_eq_true rfl) rfl (by rw [k_iconst_1]) rfl ?_
    refine z_goto (tgt := 5) dJ7_fill_53178_17 (by decide) ?_
    rw [nI_1]
    exact k_
  · have hD_ := hC_ n_ (Nat.le_refl _)
    generalize zfor (fJ7_fill_53178_15_5 l1) n_ σ = g_ at W2_ hD_ ⊢
    refine z_iload_n dJ7_fill_53178_5 rfl ?_
    refine z_iload_n dJ7_fill_53178_6 rfl ?_
    refine z_icmp_ge (tgt := 20) dJ7_fill_53178_7 (by decide) (fun c_ => ?_) (fun c_ => absurd (hD_.mpr (Nat.le_refl _)) c_)
    exact zz_sub (lv' := [none, none, none, none]) trivial W2_


def pJ7_fill_53178_15 (σ : zc_N) (a1 : Int32) : Prop := (∀ i5_ : Nat, i5_ < 3 → qJ7_fill_53178_15_5 i5_ (zfor (fJ7_fill_53178_15_5 a1) i5_ σ))
noncomputable def sJ7_fill_53178_15 (σ : zc_N) (a1 : Int32) : zc_N := (zfor (fJ7_fill_53178_15_5 a1) 3 σ)
set_option maxHeartbeats 1000000 in
theorem ctJ7_fill_53178_15 (P : zp) (σ : zc_N) (a1 : Int32) (W_ : (pJ7_fill_53178_15 σ a1)) : sp mJ7_fill_53178 0 0 0 [.ref 15, .int a1] (hh P σ) (fun r_ h_ => r_ = none ∧ h_ = hh P (sJ7_fill_53178_15 σ a1)) := by
  refine sp_of (lv := [some (.ref 15), some (.int a1), none, none]) (by decide) (zcats_ok _ rfl) (Nat.le_of_ble_eq_true rfl) (zlv_ok _ 2 rfl) (fun G => ?_)
  generalize hQ_ : (fun (r_ : Option Value) (h_ : zc_H) => r_ = none ∧ h_ = hh P (sJ7_fill_53178_15 σ a1)) = Q_
  unfold pJ7_fill_53178_15 at W_
  refine z_iconst dJ7_fill_53178_0 k_iconst_0 ?_
  refine z_istore_n (lv' := [some (.ref 15), some (.int a1), some (.int (0 : Int32)), none]) dJ7_fill_53178_1 (Nat.le_of_ble_eq_true rfl) rfl ?_
  refine z_aloadr_n dJ7_fill_53178_2 rfl ?_
  refine z_alen0 (v := (3 : Int32)) dJ7_fill_53178_3 (zN rfl) rfl rfl ?_
  refine z_istore_n (lv' := [some (.ref 15), some (.int a1), some (.int (0 : Int32)), some (.int (3 : Int32))]) dJ7_fill_53178_4 (Nat.le_of_ble_eq_true rfl) rfl ?_
  refine lpJ7_fill_53178_15_5 P σ a1 (3 : Int32) 3 (zC_lit 3 (by decide)) W_ ?_
  show zz G mJ7_fill_53178 0 0 0 Q_ 20 [none, none, none, none] [] (hh P (zfor (fJ7_fill_53178_15_5 a1) 3 σ)) 0 0
  exact z_return dJ7_fill_53178_20 rfl (Nat.le_of_ble_eq_true rfl) (Nat.le_of_ble_eq_true rfl) (by rw [← hQ_]; exact ⟨rfl, (by rw [sJ7_fill_53178_15])⟩)


noncomputable def fJ7_fill_53178_18_5 (l1 : Int32) (i_ : Nat) (a_ : zc_N) : zc_N := (zu a_ 18 (zu (a_ 18) (nI i_).toNatClampNeg l1))
def qJ7_fill_53178_18_5 (i_ : Nat) (a_ : zc_N) : Prop := vp_in (nI i_) 12
set_option maxHeartbeats 2000000 in
theorem lpJ7_fill_53178_18_5 {G : zc_G} {Q : Option Value → zc_H → Prop} (P : zp) (σ : zc_N) (l1 : Int32) (l3 : Int32) (n_ : Nat) (hC_ : ∀ i5_ : Nat, i5_ ≤ n_ → (l3 ≤ (nI i5_) ↔ n_ ≤ i5_)) (W1_ : ∀ i5_ : Nat, i5_ < n_ → qJ7_fill_53178_18_5 i5_ (zfor (fJ7_fill_53178_18_5 l1) i5_ σ))
    (W2_ : zz G mJ7_fill_53178 0 0 0 Q 20 [none, none, none, none] [] (hh P (zfor (fJ7_fill_53178_18_5 l1) n_ σ)) 0 0) :
    zz G mJ7_fill_53178 0 0 0 Q 5 [some (.ref 18), some (.int l1), some (.int (nI 0)), some (.int l3)] [] (hh P σ) 0 0 := by
  refine zfor_nI (fun i_ a_ => zz G mJ7_fill_53178 0 0 0 Q 5 [some (.ref 18), some (.int l1), some (.int i_), some (.int l3)] [] (hh P a_) 0 0) (fJ7_fill_53178_18_5 l1) n_ σ (fun i_ hi_ k_ => ?_) ?_
  · have W3_ := W1_ i_ hi_
    have hD_ := hC_ i_ (Nat.le_of_lt hi_)
    generalize zfor (fJ7_fill_53178_18_5 l1) i_ σ = g_ at k_ W3_ hD_ ⊢
    rw [fJ7_fill_53178_18_5] at k_
    rw [qJ7_fill_53178_18_5] at W3_
    try dsimp only at W3_
    refine z_iload_n dJ7_fill_53178_5 rfl ?_
    refine z_iload_n dJ7_fill_53178_6 rfl ?_
    refine z_icmp_ge (tgt := 20) dJ7_fill_53178_7 (by decide) (fun c_ => absurd c_ (fun q_ => Nat.not_le_of_lt hi_ (hD_.mp q_))) (fun c_ => ?_)
    refine z_aloadr_n dJ7_fill_53178_10 rfl ?_
    refine z_iload_n dJ7_fill_53178_11 rfl ?_
    refine z_iload_n dJ7_fill_53178_12 rfl ?_
    refine z_iast (σ' := (zu g_ 18 (zu (g_ 18) (nI i_).toNatClampNeg l1))) dJ7_fill_53178_13 (Nat.le_of_ble_eq_true rfl) (zN rfl) rfl W3_ rfl ?_
    refine z_iinc (v := ((nI i_) + (1 : Int32))) (lv' := [some (.ref 18), some (.int l1), some (.int ((nI i_) + (1 : Int32))), some (.int l3)]) dJ7_fill_53178_14 (Nat.le_of_ble_eq_true rfl) rfl (by rw [k_iconst_1]) rfl ?_
    refine z_goto (tgt := 5) dJ7_fill_53178_17 (by decide) ?_
    rw [nI_1]
    exact k_
  · have hD_ := hC_ n_ (Nat.le_refl _)
    generalize zfor (fJ7_fill_53178_18_5 l1) n_ σ = g_ at W2_ hD_ ⊢
    refine z_iload_n dJ7_fill_53178_5 rfl ?_
    refine z_iload_n dJ7_fill_53178_6 rfl ?_
    refine z_icmp_ge (tgt := 20) dJ7_fill_53178_7 (by decide) (fun c_ => ?_) (fun c_ => absurd (hD_.mpr (Nat.le_refl _)) c_)
    exact zz_sub (lv' := [none, none, none, none]) trivial W2_


def pJ7_fill_53178_18 (σ : zc_N) (a1 : Int32) : Prop := (∀ i5_ : Nat, i5_ < 12 → qJ7_fill_53178_18_5 i5_ (zfor (fJ7_fill_53178_18_5 a1) i5_ σ))
noncomputable def sJ7_fill_53178_18 (σ : zc_N) (a1 : Int32) : zc_N := (zfor (fJ7_fill_53178_18_5 a1) 12 σ)
set_option maxHeartbeats 1000000 in
theorem ctJ7_fill_53178_18 (P : zp) (σ : zc_N) (a1 : Int32) (W_ : (pJ7_fill_53178_18 σ a1)) : sp mJ7_fill_53178 0 0 0 [.ref 18, .int a1] (hh P σ) (fun r_ h_ => r_ = none ∧ h_ = hh P (sJ7_fill_53178_18 σ a1)) := by
  refine sp_of (lv := [some (.ref 18), some (.int a1), none, none]) (by decide) (zcats_ok _ rfl) (Nat.le_of_ble_eq_true rfl) (zlv_ok _ 2 rfl) (fun G => ?_)
  generalize hQ_ : (fun (r_ : Option Value) (h_ : zc_H) => r_ = none ∧ h_ = hh P (sJ7_fill_53178_18 σ a1)) = Q_
  unfold pJ7_fill_53178_18 at W_
  refine z_iconst dJ7_fill_53178_0 k_iconst_0 ?_
  refine z_istore_n (lv' := [some (.ref 18), some (.int a1), some (.int (0 : Int32)), none]) dJ7_fill_53178_1 (Nat.le_of_ble_eq_true rfl) rfl ?_
  refine z_aloadr_n dJ7_fill_53178_2 rfl ?_
  refine z_alen0 (v := (12 : Int32)) dJ7_fill_53178_3 (zN rfl) rfl rfl ?_
  refine z_istore_n (lv' := [some (.ref 18), some (.int a1), some (.int (0 : Int32)), some (.int (12 : Int32))]) dJ7_fill_53178_4 (Nat.le_of_ble_eq_true rfl) rfl ?_
  refine lpJ7_fill_53178_18_5 P σ a1 (12 : Int32) 12 (zC_lit 12 (by decide)) W_ ?_
  show zz G mJ7_fill_53178 0 0 0 Q_ 20 [none, none, none, none] [] (hh P (zfor (fJ7_fill_53178_18_5 a1) 12 σ)) 0 0
  exact z_return dJ7_fill_53178_20 rfl (Nat.le_of_ble_eq_true rfl) (Nat.le_of_ble_eq_true rfl) (by rw [← hQ_]; exact ⟨rfl, (by rw [sJ7_fill_53178_18])⟩)


noncomputable def fJ7_fill_53178_22_5 (l1 : Int32) (i_ : Nat) (a_ : zc_N) : zc_N := (zu a_ 22 (zu (a_ 22) (nI i_).toNatClampNeg l1))
def qJ7_fill_53178_22_5 (i_ : Nat) (a_ : zc_N) : Prop := vp_in (nI i_) 31
set_option maxHeartbeats 2000000 in
theorem lpJ7_fill_53178_22_5 {G : zc_G} {Q : Option Value → zc_H → Prop} (P : zp) (σ : zc_N) (l1 : Int32) (l3 : Int32) (n_ : Nat) (hC_ : ∀ i5_ : Nat, i5_ ≤ n_ → (l3 ≤ (nI i5_) ↔ n_ ≤ i5_)) (W1_ : ∀ i5_ : Nat, i5_ < n_ → qJ7_fill_53178_22_5 i5_ (zfor (fJ7_fill_53178_22_5 l1) i5_ σ))
    (W2_ : zz G mJ7_fill_53178 0 0 0 Q 20 [none, none, none, none] [] (hh P (zfor (fJ7_fill_53178_22_5 l1) n_ σ)) 0 0) :
    zz G mJ7_fill_53178 0 0 0 Q 5 [some (.ref 22), some (.int l1), some (.int (nI 0)), some (.int l3)] [] (hh P σ) 0 0 := by
  refine zfor_nI (fun i_ a_ => zz G mJ7_fill_53178 0 0 0 Q 5 [some (.ref 22), some (.int l1), some (.int i_), some (.int l3)] [] (hh P a_) 0 0) (fJ7_fill_53178_22_5 l1) n_ σ (fun i_ hi_ k_ => ?_) ?_
  · have W3_ := W1_ i_ hi_
    have hD_ := hC_ i_ (Nat.le_of_lt hi_)
    generalize zfor (fJ7_fill_53178_22_5 l1) i_ σ = g_ at k_ W3_ hD_ ⊢
    rw [fJ7_fill_53178_22_5] at k_
    rw [qJ7_fill_53178_22_5] at W3_
    try dsimp only at W3_
    refine z_iload_n dJ7_fill_53178_5 rfl ?_
    refine z_iload_n dJ7_fill_53178_6 rfl ?_
    refine z_icmp_ge (tgt := 20) dJ7_fill_53178_7 (by decide) (fun c_ => absurd c_ (fun q_ => Nat.not_le_of_lt hi_ (hD_.mp q_))) (fun c_ => ?_)
    refine z_aloadr_n dJ7_fill_53178_10 rfl ?_
    refine z_iload_n dJ7_fill_53178_11 rfl ?_
    refine z_iload_n dJ7_fill_53178_12 rfl ?_
    refine z_iast (σ' := (zu g_ 22 (zu (g_ 22) (nI i_).toNatClampNeg l1))) dJ7_fill_53178_13 (Nat.le_of_ble_eq_true rfl) (zN rfl) rfl W3_ rfl ?_
    refine z_iinc (v := ((nI i_) + (1 : Int32))) (lv' := [some (.ref 22), some (.int l1), some (.int ((nI i_) + (1 : Int32))), some (.int l3)]) dJ7_fill_53178_14 (Nat.le_of_ble_eq_true rfl) rfl (by rw [k_iconst_1]) rfl ?_
    refine z_goto (tgt := 5) dJ7_fill_53178_17 (by decide) ?_
    rw [nI_1]
    exact k_
  · have hD_ := hC_ n_ (Nat.le_refl _)
    generalize zfor (fJ7_fill_53178_22_5 l1) n_ σ = g_ at W2_ hD_ ⊢
    refine z_iload_n dJ7_fill_53178_5 rfl ?_
    refine z_iload_n dJ7_fill_53178_6 rfl ?_
    refine z_icmp_ge (tgt := 20) dJ7_fill_53178_7 (by decide) (fun c_ => ?_) (fun c_ => absurd (hD_.mpr (Nat.le_refl _)) c_)
    exact zz_sub (lv' := [none, none, none, none]) trivial W2_


def pJ7_fill_53178_22 (σ : zc_N) (a1 : Int32) : Prop := (∀ i5_ : Nat, i5_ < 31 → qJ7_fill_53178_22_5 i5_ (zfor (fJ7_fill_53178_22_5 a1) i5_ σ))
noncomputable def sJ7_fill_53178_22 (σ : zc_N) (a1 : Int32) : zc_N := (zfor (fJ7_fill_53178_22_5 a1) 31 σ)
set_option maxHeartbeats 1000000 in
theorem ctJ7_fill_53178_22 (P : zp) (σ : zc_N) (a1 : Int32) (W_ : (pJ7_fill_53178_22 σ a1)) : sp mJ7_fill_53178 0 0 0 [.ref 22, .int a1] (hh P σ) (fun r_ h_ => r_ = none ∧ h_ = hh P (sJ7_fill_53178_22 σ a1)) := by
  refine sp_of (lv := [some (.ref 22), some (.int a1), none, none]) (by decide) (zcats_ok _ rfl) (Nat.le_of_ble_eq_true rfl) (zlv_ok _ 2 rfl) (fun G => ?_)
  generalize hQ_ : (fun (r_ : Option Value) (h_ : zc_H) => r_ = none ∧ h_ = hh P (sJ7_fill_53178_22 σ a1)) = Q_
  unfold pJ7_fill_53178_22 at W_
  refine z_iconst dJ7_fill_53178_0 k_iconst_0 ?_
  refine z_istore_n (lv' := [some (.ref 22), some (.int a1), some (.int (0 : Int32)), none]) dJ7_fill_53178_1 (Nat.le_of_ble_eq_true rfl) rfl ?_
  refine z_aloadr_n dJ7_fill_53178_2 rfl ?_
  refine z_alen0 (v := (31 : Int32)) dJ7_fill_53178_3 (zN rfl) rfl rfl ?_
  refine z_istore_n (lv' := [some (.ref 22), some (.int a1), some (.int (0 : Int32)), some (.int (31 : Int32))]) dJ7_fill_53178_4 (Nat.le_of_ble_eq_true rfl) rfl ?_
  refine lpJ7_fill_53178_22_5 P σ a1 (31 : Int32) 31 (zC_lit 31 (by decide)) W_ ?_
  show zz G mJ7_fill_53178 0 0 0 Q_ 20 [none, none, none, none] [] (hh P (zfor (fJ7_fill_53178_22_5 a1) 31 σ)) 0 0
  exact z_return dJ7_fill_53178_20 rfl (Nat.le_of_ble_eq_true rfl) (Nat.le_of_ble_eq_true rfl) (by rw [← hQ_]; exact ⟨rfl, (by rw [sJ7_fill_53178_22])⟩)


noncomputable def fJ7_fill_53178_24_5 (l1 : Int32) (i_ : Nat) (a_ : zc_N) : zc_N := (zu a_ 24 (zu (a_ 24) (nI i_).toNatClampNeg l1))
def qJ7_fill_53178_24_5 (i_ : Nat) (a_ : zc_N) : Prop := vp_in (nI i_) 12
set_option maxHeartbeats 2000000 in
theorem lpJ7_fill_53178_24_5 {G : zc_G} {Q : Option Value → zc_H → Prop} (P : zp) (σ : zc_N) (l1 : Int32) (l3 : Int32) (n_ : Nat) (hC_ : ∀ i5_ : Nat, i5_ ≤ n_ → (l3 ≤ (nI i5_) ↔ n_ ≤ i5_)) (W1_ : ∀ i5_ : Nat, i5_ < n_ → qJ7_fill_53178_24_5 i5_ (zfor (fJ7_fill_53178_24_5 l1) i5_ σ))
    (W2_ : zz G mJ7_fill_53178 0 0 0 Q 20 [none, none, none, none] [] (hh P (zfor (fJ7_fill_53178_24_5 l1) n_ σ)) 0 0) :
    zz G mJ7_fill_53178 0 0 0 Q 5 [some (.ref 24), some (.int l1), some (.int (nI 0)), some (.int l3)] [] (hh P σ) 0 0 := by
  refine zfor_nI (fun i_ a_ => zz G mJ7_fill_53178 0 0 0 Q 5 [some (.ref 24), some (.int l1), some (.int i_), some (.int l3)] [] (hh P a_) 0 0) (fJ7_fill_53178_24_5 l1) n_ σ (fun i_ hi_ k_ => ?_) ?_
  · have W3_ := W1_ i_ hi_
    have hD_ := hC_ i_ (Nat.le_of_lt hi_)
    generalize zfor (fJ7_fill_53178_24_5 l1) i_ σ = g_ at k_ W3_ hD_ ⊢
    rw [fJ7_fill_53178_24_5] at k_
    rw [qJ7_fill_53178_24_5] at W3_
    try dsimp only at W3_
    refine z_iload_n dJ7_fill_53178_5 rfl ?_
    refine z_iload_n dJ7_fill_53178_6 rfl ?_
    refine z_icmp_ge (tgt := 20) dJ7_fill_53178_7 (by decide) (fun c_ => absurd c_ (fun q_ => Nat.not_le_of_lt hi_ (hD_.mp q_))) (fun c_ => ?_)
    refine z_aloadr_n dJ7_fill_53178_10 rfl ?_
    refine z_iload_n dJ7_fill_53178_11 rfl ?_
    refine z_iload_n dJ7_fill_53178_12 rfl ?_
    refine z_iast (σ' := (zu g_ 24 (zu (g_ 24) (nI i_).toNatClampNeg l1))) dJ7_fill_53178_13 (Nat.le_of_ble_eq_true rfl) (zN rfl) rfl W3_ rfl ?_
    refine z_iinc (v := ((nI i_) + (1 : Int32))) (lv' := [some (.ref 24), some (.int l1), some (.int ((nI i_) + (1 : Int32))), some (.int l3)]) dJ7_fill_53178_14 (Nat.le_of_ble_eq_true rfl) rfl (by rw [k_iconst_1]) rfl ?_
    refine z_goto (tgt := 5) dJ7_fill_53178_17 (by decide) ?_
    rw [nI_1]
    exact k_
  · have hD_ := hC_ n_ (Nat.le_refl _)
    generalize zfor (fJ7_fill_53178_24_5 l1) n_ σ = g_ at W2_ hD_ ⊢
    refine z_iload_n dJ7_fill_53178_5 rfl ?_
    refine z_iload_n dJ7_fill_53178_6 rfl ?_
    refine z_icmp_ge (tgt := 20) dJ7_fill_53178_7 (by decide) (fun c_ => ?_) (fun c_ => absurd (hD_.mpr (Nat.le_refl _)) c_)
    exact zz_sub (lv' := [none, none, none, none]) trivial W2_


def pJ7_fill_53178_24 (σ : zc_N) (a1 : Int32) : Prop := (∀ i5_ : Nat, i5_ < 12 → qJ7_fill_53178_24_5 i5_ (zfor (fJ7_fill_53178_24_5 a1) i5_ σ))
noncomputable def sJ7_fill_53178_24 (σ : zc_N) (a1 : Int32) : zc_N := (zfor (fJ7_fill_53178_24_5 a1) 12 σ)
set_option maxHeartbeats 1000000 in
theorem ctJ7_fill_53178_24 (P : zp) (σ : zc_N) (a1 : Int32) (W_ : (pJ7_fill_53178_24 σ a1)) : sp mJ7_fill_53178 0 0 0 [.ref 24, .int a1] (hh P σ) (fun r_ h_ => r_ = none ∧ h_ = hh P (sJ7_fill_53178_24 σ a1)) := by
  refine sp_of (lv := [some (.ref 24), some (.int a1), none, none]) (by decide) (zcats_ok _ rfl) (Nat.le_of_ble_eq_true rfl) (zlv_ok _ 2 rfl) (fun G => ?_)
  generalize hQ_ : (fun (r_ : Option Value) (h_ : zc_H) => r_ = none ∧ h_ = hh P (sJ7_fill_53178_24 σ a1)) = Q_
  unfold pJ7_fill_53178_24 at W_
  refine z_iconst dJ7_fill_53178_0 k_iconst_0 ?_
  refine z_istore_n (lv' := [some (.ref 24), some (.int a1), some (.int (0 : Int32)), none]) dJ7_fill_53178_1 (Nat.le_of_ble_eq_true rfl) rfl ?_
  refine z_aloadr_n dJ7_fill_53178_2 rfl ?_
  refine z_alen0 (v := (12 : Int32)) dJ7_fill_53178_3 (zN rfl) rfl rfl ?_
  refine z_istore_n (lv' := [some (.ref 24), some (.int a1), some (.int (0 : Int32)), some (.int (12 : Int32))]) dJ7_fill_53178_4 (Nat.le_of_ble_eq_true rfl) rfl ?_
  refine lpJ7_fill_53178_24_5 P σ a1 (12 : Int32) 12 (zC_lit 12 (by decide)) W_ ?_
  show zz G mJ7_fill_53178 0 0 0 Q_ 20 [none, none, none, none] [] (hh P (zfor (fJ7_fill_53178_24_5 a1) 12 σ)) 0 0
  exact z_return dJ7_fill_53178_20 rfl (Nat.le_of_ble_eq_true rfl) (Nat.le_of_ble_eq_true rfl) (by rw [← hQ_]; exact ⟨rfl, (by rw [sJ7_fill_53178_24])⟩)


noncomputable def fJ7_fill_53178_26_5 (l1 : Int32) (i_ : Nat) (a_ : zc_N) : zc_N := (zu a_ 26 (zu (a_ 26) (nI i_).toNatClampNeg l1))
def qJ7_fill_53178_26_5 (i_ : Nat) (a_ : zc_N) : Prop := vp_in (nI i_) 12
set_option maxHeartbeats 2000000 in
theorem lpJ7_fill_53178_26_5 {G : zc_G} {Q : Option Value → zc_H → Prop} (P : zp) (σ : zc_N) (l1 : Int32) (l3 : Int32) (n_ : Nat) (hC_ : ∀ i5_ : Nat, i5_ ≤ n_ → (l3 ≤ (nI i5_) ↔ n_ ≤ i5_)) (W1_ : ∀ i5_ : Nat, i5_ < n_ → qJ7_fill_53178_26_5 i5_ (zfor (fJ7_fill_53178_26_5 l1) i5_ σ))
    (W2_ : zz G mJ7_fill_53178 0 0 0 Q 20 [none, none, none, none] [] (hh P (zfor (fJ7_fill_53178_26_5 l1) n_ σ)) 0 0) :
    zz G mJ7_fill_53178 0 0 0 Q 5 [some (.ref 26), some (.int l1), some (.int (nI 0)), some (.int l3)] [] (hh P σ) 0 0 := by
  refine zfor_nI (fun i_ a_ => zz G mJ7_fill_53178 0 0 0 Q 5 [some (.ref 26), some (.int l1), some (.int i_), some (.int l3)] [] (hh P a_) 0 0) (fJ7_fill_53178_26_5 l1) n_ σ (fun i_ hi_ k_ => ?_) ?_
  · have W3_ := W1_ i_ hi_
    have hD_ := hC_ i_ (Nat.le_of_lt hi_)
    generalize zfor (fJ7_fill_53178_26_5 l1) i_ σ = g_ at k_ W3_ hD_ ⊢
    rw [fJ7_fill_53178_26_5] at k_
    rw [qJ7_fill_53178_26_5] at W3_
    try dsimp only at W3_
    refine z_iload_n dJ7_fill_53178_5 rfl ?_
    refine z_iload_n dJ7_fill_53178_6 rfl ?_
    refine z_icmp_ge (tgt := 20) dJ7_fill_53178_7 (by decide) (fun c_ => absurd c_ (fun q_ => Nat.not_le_of_lt hi_ (hD_.mp q_))) (fun c_ => ?_)
    refine z_aloadr_n dJ7_fill_53178_10 rfl ?_
    refine z_iload_n dJ7_fill_53178_11 rfl ?_
    refine z_iload_n dJ7_fill_53178_12 rfl ?_
    refine z_iast (σ' := (zu g_ 26 (zu (g_ 26) (nI i_).toNatClampNeg l1))) dJ7_fill_53178_13 (Nat.le_of_ble_eq_true rfl) (zN rfl) rfl W3_ rfl ?_
    refine z_iinc (v := ((nI i_) + (1 : Int32))) (lv' := [some (.ref 26), some (.int l1), some (.int ((nI i_) + (1 : Int32))), some (.int l3)]) dJ7_fill_53178_14 (Nat.le_of_ble_eq_true rfl) rfl (by rw [k_iconst_1]) rfl ?_
    refine z_goto (tgt := 5) dJ7_fill_53178_17 (by decide) ?_
    rw [nI_1]
    exact k_
  · have hD_ := hC_ n_ (Nat.le_refl _)
    generalize zfor (fJ7_fill_53178_26_5 l1) n_ σ = g_ at W2_ hD_ ⊢
    refine z_iload_n dJ7_fill_53178_5 rfl ?_
    refine z_iload_n dJ7_fill_53178_6 rfl ?_
    refine z_icmp_ge (tgt := 20) dJ7_fill_53178_7 (by decide) (fun c_ => ?_) (fun c_ => absurd (hD_.mpr (Nat.le_refl _)) c_)
    exact zz_sub (lv' := [none, none, none, none]) trivial W2_


def pJ7_fill_53178_26 (σ : zc_N) (a1 : Int32) : Prop := (∀ i5_ : Nat, i5_ < 12 → qJ7_fill_53178_26_5 i5_ (zfor (fJ7_fill_53178_26_5 a1) i5_ σ))
noncomputable def sJ7_fill_53178_26 (σ : zc_N) (a1 : Int32) : zc_N := (zfor (fJ7_fill_53178_26_5 a1) 12 σ)
set_option maxHeartbeats 1000000 in
theorem ctJ7_fill_53178_26 (P : zp) (σ : zc_N) (a1 : Int32) (W_ : (pJ7_fill_53178_26 σ a1)) : sp mJ7_fill_53178 0 0 0 [.ref 26, .int a1] (hh P σ) (fun r_ h_ => r_ = none ∧ h_ = hh P (sJ7_fill_53178_26 σ a1)) := by
  refine sp_of (lv := [some (.ref 26), some (.int a1), none, none]) (by decide) (zcats_ok _ rfl) (Nat.le_of_ble_eq_true rfl) (zlv_ok _ 2 rfl) (fun G => ?_)
  generalize hQ_ : (fun (r_ : Option Value) (h_ : zc_H) => r_ = none ∧ h_ = hh P (sJ7_fill_53178_26 σ a1)) = Q_
  unfold pJ7_fill_53178_26 at W_
  refine z_iconst dJ7_fill_53178_0 k_iconst_0 ?_
  refine z_istore_n (lv' := [some (.ref 26), some (.int a1), some (.int (0 : Int32)), none]) dJ7_fill_53178_1 (Nat.le_of_ble_eq_true rfl) rfl ?_
  refine z_aloadr_n dJ7_fill_53178_2 rfl ?_
  refine z_alen0 (v := (12 : Int32)) dJ7_fill_53178_3 (zN rfl) rfl rfl ?_
  refine z_istore_n (lv' := [some (.ref 26), some (.int a1), some (.int (0 : Int32)), some (.int (12 : Int32))]) dJ7_fill_53178_4 (Nat.le_of_ble_eq_true rfl) rfl ?_
  refine lpJ7_fill_53178_26_5 P σ a1 (12 : Int32) 12 (zC_lit 12 (by decide)) W_ ?_
  show zz G mJ7_fill_53178 0 0 0 Q_ 20 [none, none, none, none] [] (hh P (zfor (fJ7_fill_53178_26_5 a1) 12 σ)) 0 0
  exact z_return dJ7_fill_53178_20 rfl (Nat.le_of_ble_eq_true rfl) (Nat.le_of_ble_eq_true rfl) (by rw [← hQ_]; exact ⟨rfl, (by rw [sJ7_fill_53178_26])⟩)


noncomputable def fJ7_fill_53178_31_5 (l1 : Int32) (i_ : Nat) (a_ : zc_N) : zc_N := (zu a_ 31 (zu (a_ 31) (nI i_).toNatClampNeg l1))
def qJ7_fill_53178_31_5 (i_ : Nat) (a_ : zc_N) : Prop := vp_in (nI i_) 12
set_option maxHeartbeats 2000000 in
theorem lpJ7_fill_53178_31_5 {G : zc_G} {Q : Option Value → zc_H → Prop} (P : zp) (σ : zc_N) (l1 : Int32) (l3 : Int32) (n_ : Nat) (hC_ : ∀ i5_ : Nat, i5_ ≤ n_ → (l3 ≤ (nI i5_) ↔ n_ ≤ i5_)) (W1_ : ∀ i5_ : Nat, i5_ < n_ → qJ7_fill_53178_31_5 i5_ (zfor (fJ7_fill_53178_31_5 l1) i5_ σ))
    (W2_ : zz G mJ7_fill_53178 0 0 0 Q 20 [none, none, none, none] [] (hh P (zfor (fJ7_fill_53178_31_5 l1) n_ σ)) 0 0) :
    zz G mJ7_fill_53178 0 0 0 Q 5 [some (.ref 31), some (.int l1), some (.int (nI 0)), some (.int l3)] [] (hh P σ) 0 0 := by
  refine zfor_nI (fun i_ a_ => zz G mJ7_fill_53178 0 0 0 Q 5 [some (.ref 31), some (.int l1), some (.int i_), some (.int l3)] [] (hh P a_) 0 0) (fJ7_fill_53178_31_5 l1) n_ σ (fun i_ hi_ k_ => ?_) ?_
  · have W3_ := W1_ i_ hi_
    have hD_ := hC_ i_ (Nat.le_of_lt hi_)
    generalize zfor (fJ7_fill_53178_31_5 l1) i_ σ = g_ at k_ W3_ hD_ ⊢
    rw [fJ7_fill_53178_31_5] at k_
    rw [qJ7_fill_53178_31_5] at W3_
    try dsimp only at W3_
    refine z_iload_n dJ7_fill_53178_5 rfl ?_
    refine z_iload_n dJ7_fill_53178_6 rfl ?_
    refine z_icmp_ge (tgt := 20) dJ7_fill_53178_7 (by decide) (fun c_ => absurd c_ (fun q_ => Nat.not_le_of_lt hi_ (hD_.mp q_))) (fun c_ => ?_)
    refine z_aloadr_n dJ7_fill_53178_10 rfl ?_
    refine z_iload_n dJ7_fill_53178_11 rfl ?_
    refine z_iload_n dJ7_fill_53178_12 rfl ?_
    refine z_iast (σ' := (zu g_ 31 (zu (g_ 31) (nI i_).toNatClampNeg l1))) dJ7_fill_53178_13 (Nat.le_of_ble_eq_true rfl) (zN rfl) rfl W3_ rfl ?_
    refine z_iinc (v := ((nI i_) + (1 : Int32))) (lv' := [some (.ref 31), some (.int l1), some (.int ((nI i_) + (1 : Int32))), some (.int l3)]) dJ7_fill_53178_14 (Nat.le_of_ble_eq_true rfl) rfl (by rw [k_iconst_1]) rfl ?_
    refine z_goto (tgt := 5) dJ7_fill_53178_17 (by decide) ?_
    rw [nI_1]
    exact k_
  · have hD_ := hC_ n_ (Nat.le_refl _)
    generalize zfor (fJ7_fill_53178_31_5 l1) n_ σ = g_ at W2_ hD_ ⊢
    refine z_iload_n dJ7_fill_53178_5 rfl ?_
    refine z_iload_n dJ7_fill_53178_6 rfl ?_
    refine z_icmp_ge (tgt := 20) dJ7_fill_53178_7 (by decide) (fun c_ => ?_) (fun c_ => absurd (hD_.mpr (Nat.le_refl _)) c_)
    exact zz_sub (lv' := [none, none, none, none]) trivial W2_


def pJ7_fill_53178_31 (σ : zc_N) (a1 : Int32) : Prop := (∀ i5_ : Nat, i5_ < 12 → qJ7_fill_53178_31_5 i5_ (zfor (fJ7_fill_53178_31_5 a1) i5_ σ))
noncomputable def sJ7_fill_53178_31 (σ : zc_N) (a1 : Int32) : zc_N := (zfor (fJ7_fill_53178_31_5 a1) 12 σ)
set_option maxHeartbeats 1000000 in
theorem ctJ7_fill_53178_31 (P : zp) (σ : zc_N) (a1 : Int32) (W_ : (pJ7_fill_53178_31 σ a1)) : sp mJ7_fill_53178 0 0 0 [.ref 31, .int a1] (hh P σ) (fun r_ h_ => r_ = none ∧ h_ = hh P (sJ7_fill_53178_31 σ a1)) := by
  refine sp_of (lv := [some (.ref 31), some (.int a1), none, none]) (by decide) (zcats_ok _ rfl) (Nat.le_of_ble_eq_true rfl) (zlv_ok _ 2 rfl) (fun G => ?_)
  generalize hQ_ : (fun (r_ : Option Value) (h_ : zc_H) => r_ = none ∧ h_ = hh P (sJ7_fill_53178_31 σ a1)) = Q_
  unfold pJ7_fill_53178_31 at W_
  refine z_iconst dJ7_fill_53178_0 k_iconst_0 ?_
  refine z_istore_n (lv' := [some (.ref 31), some (.int a1), some (.int (0 : Int32)), none]) dJ7_fill_53178_1 (Nat.le_of_ble_eq_true rfl) rfl ?_
  refine z_aloadr_n dJ7_fill_53178_2 rfl ?_
  refine z_alen0 (v := (12 : Int32)) dJ7_fill_53178_3 (zN rfl) rfl rfl ?_
  refine z_istore_n (lv' := [some (.ref 31), some (.int a1), some (.int (0 : Int32)), some (.int (12 : Int32))]) dJ7_fill_53178_4 (Nat.le_of_ble_eq_true rfl) rfl ?_
  refine lpJ7_fill_53178_31_5 P σ a1 (12 : Int32) 12 (zC_lit 12 (by decide)) W_ ?_
  show zz G mJ7_fill_53178 0 0 0 Q_ 20 [none, none, none, none] [] (hh P (zfor (fJ7_fill_53178_31_5 a1) 12 σ)) 0 0
  exact z_return dJ7_fill_53178_20 rfl (Nat.le_of_ble_eq_true rfl) (Nat.le_of_ble_eq_true rfl) (by rw [← hQ_]; exact ⟨rfl, (by rw [sJ7_fill_53178_31])⟩)

theorem dX0_mark_5 : decode cX0_mark 5 = .ok (.iload 4, 2) := by decide +kernel
theorem dX0_mark_7 : decode cX0_mark 7 = .ok (.iload_n 1, 1) := by decide +kernel
theorem dX0_mark_8 : decode cX0_mark 8 = .ok (.iload_n 2, 1) := by decide +kernel
theorem dX0_mark_9 : decode cX0_mark 9 = .ok (.iadd, 1) := by decide +kernel
theorem dX0_mark_10 : decode cX0_mark 10 = .ok (.if_icmp .gt 19, 3) := by decide +kernel
theorem dX0_mark_13 : decode cX0_mark 13 = .ok (.aload_n 0, 1) := by decide +kernel
theorem dX0_mark_14 : decode cX0_mark 14 = .ok (.iload 4, 2) := by decide +kernel
theorem dX0_mark_16 : decode cX0_mark 16 = .ok (.iconst 3, 1) := by decide +kernel
theorem dX0_mark_17 : decode cX0_mark 17 = .ok (.iadd, 1) := by decide +kernel
theorem dX0_mark_18 : decode cX0_mark 18 = .ok (.dup2, 1) := by decide +kernel
theorem dX0_mark_19 : decode cX0_mark 19 = .ok (.iaload, 1) := by decide +kernel
theorem dX0_mark_20 : decode cX0_mark 20 = .ok (.iload_n 3, 1) := by decide +kernel
theorem dX0_mark_21 : decode cX0_mark 21 = .ok (.ior, 1) := by decide +kernel
theorem dX0_mark_22 : decode cX0_mark 22 = .ok (.iastore, 1) := by decide +kernel
theorem dX0_mark_23 : decode cX0_mark 23 = .ok (.iinc 4 1, 3) := by decide +kernel
theorem dX0_mark_26 : decode cX0_mark 26 = .ok (.goto (-21), 3) := by decide +kernel
noncomputable def fX0_mark_13_5 (l3 : Int32) (s_ : Int32) (i_ : Nat) (a_ : zc_N) : zc_N := (zu a_ 13 (zu (a_ 13) ((s_ + nI i_) + (3 : Int32)).toNatClampNeg (((a_ 13) ((s_ + nI i_) + (3 : Int32)).toNatClampNeg) ||| l3)))
def qX0_mark_13_5 (s_ : Int32) (i_ : Nat) (a_ : zc_N) : Prop := (vp_in ((s_ + nI i_) + (3 : Int32)) 22 ∧ vp_in ((s_ + nI i_) + (3 : Int32)) 22)
set_option maxHeartbeats 2000000 in
theorem lpX0_mark_13_5 {G : zc_G} {Q : Option Value → zc_H → Prop} (P : zp) (σ : zc_N) (l1 : Int32) (l2 : Int32) (l3 : Int32) (s_ : Int32) (n_ : Nat) (hC_ : ∀ i5_ : Nat, i5_ ≤ n_ → ((l1 + l2) < (s_ + nI i5_) ↔ n_ ≤ i5_)) (W1_ : ∀ i5_ : Nat, i5_ < n_ → qX0_mark_13_5 s_ i5_ (zfor (fX0_mark_13_5 l3 s_) i5_ σ))
    (W2_ : zz G mX0_mark 0 0 0 Q 29 [none, none, none, none, none] [] (hh P (zfor (fX0_mark_13_5 l3 s_) n_ σ)) 0 0) :
    zz G mX0_mark 0 0 0 Q 5 [some (.ref 13), some (.int l1), some (.int l2), some (.int l3), some (.int s_)] [] (hh P σ) 0 0 := by
  refine zfor_sI (fun i_ a_ => zz G mX0_mark 0 0 0 Q 5 [some (.ref 13), some (.int l1), some (.int l2), some (.int l3), some (.int i_)] [] (hh P a_) 0 0) (fX0_mark_13_5 l3 s_) s_ n_ σ (fun i_ hi_ k_ => ?_) ?_
  · have W3_ := W1_ i_ hi_
    have hD_ := hC_ i_ (Nat.le_of_lt hi_)
    generalize zfor (fX0_mark_13_5 l3 s_) i_ σ = g_ at k_ W3_ hD_ ⊢
    rw [fX0_mark_13_5] at k_
    rw [qX0_mark_13_5] at W3_
    try dsimp only at W3_
    refine z_iload dX0_mark_5 rfl ?_
    refine z_iload_n dX0_mark_7 rfl ?_
    refine z_iload_n dX0_mark_8 rfl ?_
    refine z_iadd (v := (l1 + l2)) dX0_mark_9 rfl ?_
    refine z_icmp_gt (tgt := 29) dX0_mark_10 (by decide) (fun c_ => absurd c_ (fun q_ => Nat.not_le_of_lt hi_ (hD_.mp q_))) (fun c_ => ?_)
    refine z_aloadr_n dX0_mark_13 rfl ?_
    refine z_iload dX0_mark_14 rfl ?_
    refine z_iconst dX0_mark_16 k_iconst_3 ?_
    refine z_iadd (v := ((s_ + nI i_) + (3 : Int32))) dX0_mark_17 rfl ?_
    refine z_dup2 dX0_mark_18 rfl rfl ?_
    refine z_iald (v := ((g_ 13) ((s_ + nI i_) + (3 : Int32)).toNatClampNeg)) dX0_mark_19 (zN rfl) rfl W3_.1 rfl ?_
    refine z_iload_n dX0_mark_20 rfl ?_
    refine z_ior (v := (((g_ 13) ((s_ + nI i_) + (3 : Int32)).toNatClampNeg) ||| l3)) dX0_mark_21 rfl ?_
    refine z_iast (σ' := (zu g_ 13 (zu (g_ 13) ((s_ + nI i_) + (3 : Int32)).toNatClampNeg (((g_ 13) ((s_ + nI i_) + (3 : Int32)).toNatClampNeg) ||| l3)))) dX0_mark_22 (Nat.le_of_ble_eq_true rfl) (zN rfl) rfl W3_.2 rfl ?_
    refine z_iinc (v := ((s_ + nI i_) + (1 : Int32))) (lv' := [some (.ref 13), some (.int l1), some (.int l2), some (.int l3), some (.int ((s_ + nI i_) + (1 : Int32)))]) dX0_mark_23 (Nat.le_of_ble_eq_true rfl) rfl (by rw [k_iconst_1]) rfl ?_
    refine z_goto (tgt := 5) dX0_mark_26 (by decide) ?_
    rw [nS_1]
    exact k_
  · have hD_ := hC_ n_ (Nat.le_refl _)
    generalize zfor (fX0_mark_13_5 l3 s_) n_ σ = g_ at W2_ hD_ ⊢
    refine z_iload dX0_mark_5 rfl ?_
    refine z_iload_n dX0_mark_7 rfl ?_
    refine z_iload_n dX0_mark_8 rfl ?_
    refine z_iadd (v := (l1 + l2)) dX0_mark_9 rfl ?_
    refine z_icmp_gt (tgt := 29) dX0_mark_10 (by decide) (fun c_ => ?_) (fun c_ => absurd (hD_.mpr (Nat.le_refl _)) c_)
    exact zz_sub (lv' := [none, none, none, none, none]) trivial W2_

theorem dX0_mark_0 : decode cX0_mark 0 = .ok (.iload_n 1, 1) := by decide +kernel
theorem dX0_mark_1 : decode cX0_mark 1 = .ok (.iload_n 2, 1) := by decide +kernel
theorem dX0_mark_2 : decode cX0_mark 2 = .ok (.isub, 1) := by decide +kernel
theorem dX0_mark_3 : decode cX0_mark 3 = .ok (.istore 4, 2) := by decide +kernel
theorem dX0_mark_29 : decode cX0_mark 29 = .ok (.return_, 1) := by decide +kernel
noncomputable def vX0_mark_13_1 (a1 : Int32) (a2 : Int32) (a3 : Int32) (σ : zc_N) : zc_N := (zfor (fX0_mark_13_5 a3 (a1 - a2)) (((a1 + a2) + (1 : Int32) - (a1 - a2)).toNatClampNeg) σ)
def pX0_mark_13 (σ : zc_N) (a1 : Int32) (a2 : Int32) (a3 : Int32) : Prop := ((∀ i5_ : Nat, i5_ ≤ (((a1 + a2) + (1 : Int32) - (a1 - a2)).toNatClampNeg) → ((a1 + a2) < ((a1 - a2) + nI i5_) ↔ (((a1 + a2) + (1 : Int32) - (a1 - a2)).toNatClampNeg) ≤ i5_)) ∧ (∀ i5_ : Nat, i5_ < (((a1 + a2) + (1 : Int32) - (a1 - a2)).toNatClampNeg) → qX0_mark_13_5 (a1 - a2) i5_ (zfor (fX0_mark_13_5 a3 (a1 - a2)) i5_ σ)))
noncomputable def sX0_mark_13 (σ : zc_N) (a1 : Int32) (a2 : Int32) (a3 : Int32) : zc_N := (vX0_mark_13_1 a1 a2 a3 σ)
set_option maxHeartbeats 1000000 in
theorem ctX0_mark_13 (P : zp) (σ : zc_N) (a1 : Int32) (a2 : Int32) (a3 : Int32) (W_ : (pX0_mark_13 σ a1 a2 a3)) : sp mX0_mark 0 0 0 [.ref 13, .int a1, .int a2, .int a3] (hh P σ) (fun r_ h_ => r_ = none ∧ h_ = hh P (sX0_mark_13 σ a1 a2 a3)) := by
  refine sp_of (lv := [some (.ref 13), some (.int a1), some (.int a2), some (.int a3), none]) (by decide) (zcats_ok _ rfl) (Nat.le_of_ble_eq_true rfl) (zlv_ok _ 1 rfl) (fun G => ?_)
  generalize hQ_ : (fun (r_ : Option Value) (h_ : zc_H) => r_ = none ∧ h_ = hh P (sX0_mark_13 σ a1 a2 a3)) = Q_
  unfold pX0_mark_13 at W_
  refine z_iload_n dX0_mark_0 rfl ?_
  refine z_iload_n dX0_mark_1 rfl ?_
  refine z_isub (v := (a1 - a2)) dX0_mark_2 rfl ?_
  refine z_istore (lv' := [some (.ref 13), some (.int a1), some (.int a2), some (.int a3), some (.int (a1 - a2))]) dX0_mark_3 (Nat.le_of_ble_eq_true rfl) rfl ?_
  refine lpX0_mark_13_5 P σ a1 a2 a3 (a1 - a2) (((a1 + a2) + (1 : Int32) - (a1 - a2)).toNatClampNeg) W_.1 W_.2 ?_
  show zz G mX0_mark 0 0 0 Q_ 29 [none, none, none, none, none] [] (hh P (vX0_mark_13_1 a1 a2 a3 σ)) 0 0
  exact z_return dX0_mark_29 rfl (Nat.le_of_ble_eq_true rfl) (Nat.le_of_ble_eq_true rfl) (by rw [← hQ_]; exact ⟨rfl, (by rw [sX0_mark_13])⟩)


noncomputable def fX0_mark_14_5 (l3 : Int32) (s_ : Int32) (i_ : Nat) (a_ : zc_N) : zc_N := (zu a_ 14 (zu (a_ 14) ((s_ + nI i_) + (3 : Int32)).toNatClampNeg (((a_ 14) ((s_ + nI i_) + (3 : Int32)).toNatClampNeg) ||| l3)))
def qX0_mark_14_5 (s_ : Int32) (i_ : Nat) (a_ : zc_N) : Prop := (vp_in ((s_ + nI i_) + (3 : Int32)) 22 ∧ vp_in ((s_ + nI i_) + (3 : Int32)) 22)
set_option maxHeartbeats 2000000 in
theorem lpX0_mark_14_5 {G : zc_G} {Q : Option Value → zc_H → Prop} (P : zp) (σ : zc_N) (l1 : Int32) (l2 : Int32) (l3 : Int32) (s_ : Int32) (n_ : Nat) (hC_ : ∀ i5_ : Nat, i5_ ≤ n_ → ((l1 + l2) < (s_ + nI i5_) ↔ n_ ≤ i5_)) (W1_ : ∀ i5_ : Nat, i5_ < n_ → qX0_mark_14_5 s_ i5_ (zfor (fX0_mark_14_5 l3 s_) i5_ σ))
    (W2_ : zz G mX0_mark 0 0 0 Q 29 [none, none, none, none, none] [] (hh P (zfor (fX0_mark_14_5 l3 s_) n_ σ)) 0 0) :
    zz G mX0_mark 0 0 0 Q 5 [some (.ref 14), some (.int l1), some (.int l2), some (.int l3), some (.int s_)] [] (hh P σ) 0 0 := by
  refine zfor_sI (fun i_ a_ => zz G mX0_mark 0 0 0 Q 5 [some (.ref 14), some (.int l1), some (.int l2), some (.int l3), some (.int i_)] [] (hh P a_) 0 0) (fX0_mark_14_5 l3 s_) s_ n_ σ (fun i_ hi_ k_ => ?_) ?_
  · have W3_ := W1_ i_ hi_
    have hD_ := hC_ i_ (Nat.le_of_lt hi_)
    generalize zfor (fX0_mark_14_5 l3 s_) i_ σ = g_ at k_ W3_ hD_ ⊢
    rw [fX0_mark_14_5] at k_
    rw [qX0_mark_14_5] at W3_
    try dsimp only at W3_
    refine z_iload dX0_mark_5 rfl ?_
    refine z_iload_n dX0_mark_7 rfl ?_
    refine z_iload_n dX0_mark_8 rfl ?_
    refine z_iadd (v := (l1 + l2)) dX0_mark_9 rfl ?_
    refine z_icmp_gt (tgt := 29) dX0_mark_10 (by decide) (fun c_ => absurd c_ (fun q_ => Nat.not_le_of_lt hi_ (hD_.mp q_))) (fun c_ => ?_)
    refine z_aloadr_n dX0_mark_13 rfl ?_
    refine z_iload dX0_mark_14 rfl ?_
    refine z_iconst dX0_mark_16 k_iconst_3 ?_
    refine z_iadd (v := ((s_ + nI i_) + (3 : Int32))) dX0_mark_17 rfl ?_
    refine z_dup2 dX0_mark_18 rfl rfl ?_
    refine z_iald (v := ((g_ 14) ((s_ + nI i_) + (3 : Int32)).toNatClampNeg)) dX0_mark_19 (zN rfl) rfl W3_.1 rfl ?_
    refine z_iload_n dX0_mark_20 rfl ?_
    refine z_ior (v := (((g_ 14) ((s_ + nI i_) + (3 : Int32)).toNatClampNeg) ||| l3)) dX0_mark_21 rfl ?_
    refine z_iast (σ' := (zu g_ 14 (zu (g_ 14) ((s_ + nI i_) + (3 : Int32)).toNatClampNeg (((g_ 14) ((s_ + nI i_) + (3 : Int32)).toNatClampNeg) ||| l3)))) dX0_mark_22 (Nat.le_of_ble_eq_true rfl) (zN rfl) rfl W3_.2 rfl ?_
    refine z_iinc (v := ((s_ + nI i_) + (1 : Int32))) (lv' := [some (.ref 14), some (.int l1), some (.int l2), some (.int l3), some (.int ((s_ + nI i_) + (1 : Int32)))]) dX0_mark_23 (Nat.le_of_ble_eq_true rfl) rfl (by rw [k_iconst_1]) rfl ?_
    refine z_goto (tgt := 5) dX0_mark_26 (by decide) ?_
    rw [nS_1]
    exact k_
  · have hD_ := hC_ n_ (Nat.le_refl _)
    generalize zfor (fX0_mark_14_5 l3 s_) n_ σ = g_ at W2_ hD_ ⊢
    refine z_iload dX0_mark_5 rfl ?_
    refine z_iload_n dX0_mark_7 rfl ?_
    refine z_iload_n dX0_mark_8 rfl ?_
    refine z_iadd (v := (l1 + l2)) dX0_mark_9 rfl ?_
    refine z_icmp_gt (tgt := 29) dX0_mark_10 (by decide) (fun c_ => ?_) (fun c_ => absurd (hD_.mpr (Nat.le_refl _)) c_)
    exact zz_sub (lv' := [none, none, none, none, none]) trivial W2_


noncomputable def vX0_mark_14_2 (a1 : Int32) (a2 : Int32) (a3 : Int32) (σ : zc_N) : zc_N := (zfor (fX0_mark_14_5 a3 (a1 - a2)) (((a1 + a2) + (1 : Int32) - (a1 - a2)).toNatClampNeg) σ)
def pX0_mark_14 (σ : zc_N) (a1 : Int32) (a2 : Int32) (a3 : Int32) : Prop := ((∀ i5_ : Nat, i5_ ≤ (((a1 + a2) + (1 : Int32) - (a1 - a2)).toNatClampNeg) → ((a1 + a2) < ((a1 - a2) + nI i5_) ↔ (((a1 + a2) + (1 : Int32) - (a1 - a2)).toNatClampNeg) ≤ i5_)) ∧ (∀ i5_ : Nat, i5_ < (((a1 + a2) + (1 : Int32) - (a1 - a2)).toNatClampNeg) → qX0_mark_14_5 (a1 - a2) i5_ (zfor (fX0_mark_14_5 a3 (a1 - a2)) i5_ σ)))
noncomputable def sX0_mark_14 (σ : zc_N) (a1 : Int32) (a2 : Int32) (a3 : Int32) : zc_N := (vX0_mark_14_2 a1 a2 a3 σ)
set_option maxHeartbeats 1000000 in
theorem ctX0_mark_14 (P : zp) (σ : zc_N) (a1 : Int32) (a2 : Int32) (a3 : Int32) (W_ : (pX0_mark_14 σ a1 a2 a3)) : sp mX0_mark 0 0 0 [.ref 14, .int a1, .int a2, .int a3] (hh P σ) (fun r_ h_ => r_ = none ∧ h_ = hh P (sX0_mark_14 σ a1 a2 a3)) := by
  refine sp_of (lv := [some (.ref 14), some (.int a1), some (.int a2), some (.int a3), none]) (by decide) (zcats_ok _ rfl) (Nat.le_of_ble_eq_true rfl) (zlv_ok _ 1 rfl) (fun G => ?_)
  generalize hQ_ : (fun (r_ : Option Value) (h_ : zc_H) => r_ = none ∧ h_ = hh P (sX0_mark_14 σ a1 a2 a3)) = Q_
  unfold pX0_mark_14 at W_
  refine z_iload_n dX0_mark_0 rfl ?_
  refine z_iload_n dX0_mark_1 rfl ?_
  refine z_isub (v := (a1 - a2)) dX0_mark_2 rfl ?_
  refine z_istore (lv' := [some (.ref 14), some (.int a1), some (.int a2), some (.int a3), some (.int (a1 - a2))]) dX0_mark_3 (Nat.le_of_ble_eq_true rfl) rfl ?_
  refine lpX0_mark_14_5 P σ a1 a2 a3 (a1 - a2) (((a1 + a2) + (1 : Int32) - (a1 - a2)).toNatClampNeg) W_.1 W_.2 ?_
  show zz G mX0_mark 0 0 0 Q_ 29 [none, none, none, none, none] [] (hh P (vX0_mark_14_2 a1 a2 a3 σ)) 0 0
  exact z_return dX0_mark_29 rfl (Nat.le_of_ble_eq_true rfl) (Nat.le_of_ble_eq_true rfl) (by rw [← hQ_]; exact ⟨rfl, (by rw [sX0_mark_14])⟩)

theorem dX0_learn_26 : decode cX0_learn 26 = .ok (.iload_n 3, 1) := by decide +kernel
theorem dX0_learn_27 : decode cX0_learn 27 = .ok (.aload_n 1, 1) := by decide +kernel
theorem dX0_learn_28 : decode cX0_learn 28 = .ok (.invokevirtual 27, 3) := by decide +kernel
theorem dX0_learn_31 : decode cX0_learn 31 = .ok (.if_icmp .ge 57, 3) := by decide +kernel
theorem dX0_learn_34 : decode cX0_learn 34 = .ok (.aload_n 0, 1) := by decide +kernel
theorem dX0_learn_35 : decode cX0_learn 35 = .ok (.getfield 9, 3) := by decide +kernel
theorem dX0_learn_38 : decode cX0_learn 38 = .ok (.aload_n 1, 1) := by decide +kernel
theorem dX0_learn_39 : decode cX0_learn 39 = .ok (.iload_n 3, 1) := by decide +kernel
theorem dX0_learn_40 : decode cX0_learn 40 = .ok (.invokevirtual 33, 3) := by decide +kernel
theorem dX0_learn_43 : decode cX0_learn 43 = .ok (.iload_n 2, 1) := by decide +kernel
theorem dX0_learn_44 : decode cX0_learn 44 = .ok (.iconst 1, 1) := by decide +kernel
theorem dX0_learn_45 : decode cX0_learn 45 = .ok (.iload_n 3, 1) := by decide +kernel
theorem dX0_learn_46 : decode cX0_learn 46 = .ok (.ishl, 1) := by decide +kernel
theorem dX0_learn_47 : decode cX0_learn 47 = .ok (.invokestatic 37, 3) := by decide +kernel
theorem dX0_learn_50 : decode cX0_learn 50 = .ok (.aload_n 0, 1) := by decide +kernel
theorem dX0_learn_51 : decode cX0_learn 51 = .ok (.getfield 15, 3) := by decide +kernel
theorem dX0_learn_54 : decode cX0_learn 54 = .ok (.aload_n 1, 1) := by decide +kernel
theorem dX0_learn_55 : decode cX0_learn 55 = .ok (.iload_n 3, 1) := by decide +kernel
theorem dX0_learn_56 : decode cX0_learn 56 = .ok (.invokevirtual 41, 3) := by decide +kernel
theorem dX0_learn_59 : decode cX0_learn 59 = .ok (.iload_n 2, 1) := by decide +kernel
theorem dX0_learn_60 : decode cX0_learn 60 = .ok (.iconst 1, 1) := by decide +kernel
theorem dX0_learn_61 : decode cX0_learn 61 = .ok (.iload_n 3, 1) := by decide +kernel
theorem dX0_learn_62 : decode cX0_learn 62 = .ok (.ishl, 1) := by decide +kernel
theorem dX0_learn_63 : decode cX0_learn 63 = .ok (.invokestatic 37, 3) := by decide +kernel
theorem dX0_learn_66 : decode cX0_learn 66 = .ok (.aload_n 0, 1) := by decide +kernel
theorem dX0_learn_67 : decode cX0_learn 67 = .ok (.getfield 18, 3) := by decide +kernel
theorem dX0_learn_70 : decode cX0_learn 70 = .ok (.aload_n 1, 1) := by decide +kernel
theorem dX0_learn_71 : decode cX0_learn 71 = .ok (.iload_n 3, 1) := by decide +kernel
theorem dX0_learn_72 : decode cX0_learn 72 = .ok (.invokevirtual 44, 3) := by decide +kernel
theorem dX0_learn_75 : decode cX0_learn 75 = .ok (.dup2, 1) := by decide +kernel
theorem dX0_learn_76 : decode cX0_learn 76 = .ok (.iaload, 1) := by decide +kernel
theorem dX0_learn_77 : decode cX0_learn 77 = .ok (.iconst 1, 1) := by decide +kernel
theorem dX0_learn_78 : decode cX0_learn 78 = .ok (.iload_n 3, 1) := by decide +kernel
theorem dX0_learn_79 : decode cX0_learn 79 = .ok (.ishl, 1) := by decide +kernel
theorem dX0_learn_80 : decode cX0_learn 80 = .ok (.ior, 1) := by decide +kernel
theorem dX0_learn_81 : decode cX0_learn 81 = .ok (.iastore, 1) := by decide +kernel
theorem dX0_learn_82 : decode cX0_learn 82 = .ok (.iinc 3 1, 3) := by decide +kernel
theorem dX0_learn_85 : decode cX0_learn 85 = .ok (.goto (-59), 3) := by decide +kernel
noncomputable def vX0_learn_1 (i1 : Nat) (l2 : Int32) (l3 : Int32) (σ : zc_N) : zc_N := (sX0_mark_14 (sX0_mark_13 σ (rX7_columnOf σ i1 l3) l2 (zshl (1 : Int32) l3)) (rX7_rowOf (sX0_mark_13 σ (rX7_columnOf σ i1 l3) l2 (zshl (1 : Int32) l3)) i1 l3) l2 (zshl (1 : Int32) l3))
noncomputable def fX0_learn_26 (i1 : Nat) (l2 : Int32) (i_ : Nat) (a_ : zc_N) : zc_N := (zu (vX0_learn_1 i1 l2 (nI i_) a_) 15 (zu ((vX0_learn_1 i1 l2 (nI i_) a_) 15) (rX7_kindOf (vX0_learn_1 i1 l2 (nI i_) a_) i1 (nI i_)).toNatClampNeg ((((vX0_learn_1 i1 l2 (nI i_) a_) 15) (rX7_kindOf (vX0_learn_1 i1 l2 (nI i_) a_) i1 (nI i_)).toNatClampNeg) ||| (zshl (1 : Int32) (nI i_)))))
def qX0_learn_26 (P : zp) (i1 : Nat) (l2 : Int32) (i_ : Nat) (a_ : zc_N) : Prop := ((pX7_columnOf P i1 (nI i_)) ∧ ((pX0_mark_13 a_ (rX7_columnOf a_ i1 (nI i_)) l2 (zshl (1 : Int32) (nI i_))) ∧ ((pX7_rowOf P i1 (nI i_)) ∧ ((pX0_mark_14 (sX0_mark_13 a_ (rX7_columnOf a_ i1 (nI i_)) l2 (zshl (1 : Int32) (nI i_))) (rX7_rowOf (sX0_mark_13 a_ (rX7_columnOf a_ i1 (nI i_)) l2 (zshl (1 : Int32) (nI i_))) i1 (nI i_)) l2 (zshl (1 : Int32) (nI i_))) ∧ ((pX7_kindOf P i1 (nI i_)) ∧ (vp_in (rX7_kindOf (vX0_learn_1 i1 l2 (nI i_) a_) i1 (nI i_)) 3 ∧ vp_in (rX7_kindOf (vX0_learn_1 i1 l2 (nI i_) a_) i1 (nI i_)) 3))))))
set_option maxHeartbeats 2000000 in
theorem lpX0_learn_26 {G : zc_G} {Q : Option Value → zc_H → Prop} (P : zp) (σ : zc_N) (i1 : Nat) (h1 : i1 < P.2.1) (l2 : Int32) (n_ : Nat) (hC_ : ∀ i26_ : Nat, i26_ ≤ n_ → ((rX7_size P i1) ≤ (nI i26_) ↔ n_ ≤ i26_)) (W1_ : ∀ i26_ : Nat, i26_ < n_ → qX0_learn_26 P i1 l2 i26_ (zfor (fX0_learn_26 i1 l2) i26_ σ))
    (W2_ : zz G mX0_learn 1 0 0 Q 88 [none, none, none, none] [] (hh P (zfor (fX0_learn_26 i1 l2) n_ σ)) 0 0) :
    zz G mX0_learn 1 0 0 Q 26 [some (.ref 12), some (.ref (pO i1)), some (.int l2), some (.int (nI 0))] [] (hh P σ) 0 0 := by
  refine zfor_nI (fun i_ a_ => zz G mX0_learn 1 0 0 Q 26 [some (.ref 12), some (.ref (pO i1)), some (.int l2), some (.int i_)] [] (hh P a_) 0 0) (fX0_learn_26 i1 l2) n_ σ (fun i_ hi_ k_ => ?_) ?_
  · have W3_ := W1_ i_ hi_
    have hD_ := hC_ i_ (Nat.le_of_lt hi_)
    generalize zfor (fX0_learn_26 i1 l2) i_ σ = g_ at k_ W3_ hD_ ⊢
    rw [fX0_learn_26] at k_
    rw [qX0_learn_26] at W3_
    try dsimp only at W3_
    refine z_iload_n dX0_learn_26 rfl ?_
    refine z_aloadr_n dX0_learn_27 rfl ?_
    refine z_callV (ci := 7) (r := (RX7, TX7, 5)) (b := (pO i1)) (As := []) (rest := [.int (nI i_)]) (ctX7_size P g_ i1 h1) dX0_learn_28 lk_X0_27 lv_X7_size (z3O i1) (zNO h1) (SH_pO P i1) rfl rfl rfl (Nat.le_of_ble_eq_true rfl) (Nat.le_of_ble_eq_true rfl) (Nat.le_of_ble_eq_true rfl) (Nat.le_of_ble_eq_true rfl) (fun r_ h_ e_ => ?_)
    obtain ⟨e1_, e2_⟩ := e_
    subst e1_
    subst e2_
    show zz G mX0_learn 1 0 0 Q 31 [some (.ref 12), some (.ref (pO i1)), some (.int l2), some (.int (nI i_))] [.int (rX7_size P i1), .int (nI i_)] (hh P g_) 0 0
    refine z_icmp_ge (tgt := 88) dX0_learn_31 (by decide) (fun c_ => absurd c_ (fun q_ => Nat.not_le_of_lt hi_ (hD_.mp q_))) (fun c_ => ?_)
    refine z_aloadr_n dX0_learn_34 rfl ?_
    refine z_get (ci := 0) (r := (RX0, TX0, 3)) (j := 0) (v := .ref 13) dX0_learn_35 (Nat.le_of_ble_eq_true rfl) (zN rfl) rfl rfl (Nat.le_of_ble_eq_true rfl) fl_X0_9 rfl ?_
    refine z_aloadr_n dX0_learn_38 rfl ?_
    refine z_iload_n dX0_learn_39 rfl ?_
    refine z_callV (ci := 7) (r := (RX7, TX7, 5)) (b := (pO i1)) (As := [.int (nI i_)]) (rest := [.ref 13]) (ctX7_columnOf P g_ i1 h1 (nI i_) W3_.1) dX0_learn_40 lk_X0_33 lv_X7_columnOf (z3O i1) (zNO h1) (SH_pO P i1) rfl rfl rfl (Nat.le_of_ble_eq_true rfl) (Nat.le_of_ble_eq_true rfl) (Nat.le_of_ble_eq_true rfl) (Nat.le_of_ble_eq_true rfl) (fun r_ h_ e_ => ?_)
    obtain ⟨e1_, e2_⟩ := e_
    subst e1_
    subst e2_
    show zz G mX0_learn 1 0 0 Q 43 [some (.ref 12), some (.ref (pO i1)), some (.int l2), some (.int (nI i_))] [.int (rX7_columnOf g_ i1 (nI i_)), .ref 13] (hh P g_) 0 0
    refine z_iload_n dX0_learn_43 rfl ?_
    refine z_iconst dX0_learn_44 k_iconst_1 ?_
    refine z_iload_n dX0_learn_45 rfl ?_
    refine z_ishl (v := (zshl (1 : Int32) (nI i_))) dX0_learn_46 rfl ?_
    refine z_callS (As := [.ref 13, .int (rX7_columnOf g_ i1 (nI i_)), .int l2, .int (zshl (1 : Int32) (nI i_))]) (rest := []) (ctX0_mark_13 P g_ (rX7_columnOf g_ i1 (nI i_)) l2 (zshl (1 : Int32) (nI i_)) W3_.2.1) dX0_learn_47 lk_X0_37 ls_X0_mark rfl (Nat.le_of_ble_eq_true rfl) (Nat.le_of_ble_eq_true rfl) (Nat.le_of_ble_eq_true rfl) (Nat.le_of_ble_eq_true rfl) (fun r_ h_ e_ => ?_)
    obtain ⟨e1_, e2_⟩ := e_
    subst e1_
    subst e2_
    show zz G mX0_learn 1 0 0 Q 50 [some (.ref 12), some (.ref (pO i1)), some (.int l2), some (.int (nI i_))] [] (hh P (sX0_mark_13 g_ (rX7_columnOf g_ i1 (nI i_)) l2 (zshl (1 : Int32) (nI i_)))) 0 0
    refine z_aloadr_n dX0_learn_50 rfl ?_
    refine z_get (ci := 0) (r := (RX0, TX0, 3)) (j := 1) (v := .ref 14) dX0_learn_51 (Nat.le_of_ble_eq_true rfl) (zN rfl) rfl rfl (Nat.le_of_ble_eq_true rfl) fl_X0_15 rfl ?_
    refine z_aloadr_n dX0_learn_54 rfl ?_
    refine z_iload_n dX0_learn_55 rfl ?_
    refine z_callV (ci := 7) (r := (RX7, TX7, 5)) (b := (pO i1)) (As := [.int (nI i_)]) (rest := [.ref 14]) (ctX7_rowOf P (sX0_mark_13 g_ (rX7_columnOf g_ i1 (nI i_)) l2 (zshl (1 : Int32) (nI i_))) i1 h1 (nI i_) W3_.2.2.1) dX0_learn_56 lk_X0_41 lv_X7_rowOf (z3O i1) (zNO h1) (SH_pO P i1) rfl rfl rfl (Nat.le_of_ble_eq_true rfl) (Nat.le_of_ble_eq_true rfl) (Nat.le_of_ble_eq_true rfl) (Nat.le_of_ble_eq_true rfl) (fun r_ h_ e_ => ?_)
    obtain ⟨e1_, e2_⟩ := e_
    subst e1_
    subst e2_
    show zz G mX0_learn 1 0 0 Q 59 [some (.ref 12), some (.ref (pO i1)), some (.int l2), some (.int (nI i_))] [.int (rX7_rowOf (sX0_mark_13 g_ (rX7_columnOf g_ i1 (nI i_)) l2 (zshl (1 : Int32) (nI i_))) i1 (nI i_)), .ref 14] (hh P (sX0_mark_13 g_ (rX7_columnOf g_ i1 (nI i_)) l2 (zshl (1 : Int32) (nI i_)))) 0 0
    refine z_iload_n dX0_learn_59 rfl ?_
    refine z_iconst dX0_learn_60 k_iconst_1 ?_
    refine z_iload_n dX0_learn_61 rfl ?_
    refine z_ishl (v := (zshl (1 : Int32) (nI i_))) dX0_learn_62 rfl ?_
    refine z_callS (As := [.ref 14, .int (rX7_rowOf (sX0_mark_13 g_ (rX7_columnOf g_ i1 (nI i_)) l2 (zshl (1 : Int32) (nI i_))) i1 (nI i_)), .int l2, .int (zshl (1 : Int32) (nI i_))]) (rest := []) (ctX0_mark_14 P (sX0_mark_13 g_ (rX7_columnOf g_ i1 (nI i_)) l2 (zshl (1 : Int32) (nI i_))) (rX7_rowOf (sX0_mark_13 g_ (rX7_columnOf g_ i1 (nI i_)) l2 (zshl (1 : Int32) (nI i_))) i1 (nI i_)) l2 (zshl (1 : Int32) (nI i_)) W3_.2.2.2.1) dX0_learn_63 lk_X0_37 ls_X0_mark rfl (Nat.le_of_ble_eq_true rfl) (Nat.le_of_ble_eq_true rfl) (Nat.le_of_ble_eq_true rfl) (Nat.le_of_ble_eq_true rfl) (fun r_ h_ e_ => ?_)
    obtain ⟨e1_, e2_⟩ := e_
    subst e1_
    subst e2_
    show zz G mX0_learn 1 0 0 Q 66 [some (.ref 12), some (.ref (pO i1)), some (.int l2), some (.int (nI i_))] [] (hh P (vX0_learn_1 i1 l2 (nI i_) g_)) 0 0
    refine z_aloadr_n dX0_learn_66 rfl ?_
    refine z_get (ci := 0) (r := (RX0, TX0, 3)) (j := 2) (v := .ref 15) dX0_learn_67 (Nat.le_of_ble_eq_true rfl) (zN rfl) rfl rfl (Nat.le_of_ble_eq_true rfl) fl_X0_18 rfl ?_
    refine z_aloadr_n dX0_learn_70 rfl ?_
    refine z_iload_n dX0_learn_71 rfl ?_
    refine z_callV (ci := 7) (r := (RX7, TX7, 5)) (b := (pO i1)) (As := [.int (nI i_)]) (rest := [.ref 15]) (ctX7_kindOf P (vX0_learn_1 i1 l2 (nI i_) g_) i1 h1 (nI i_) W3_.2.2.2.2.1) dX0_learn_72 lk_X0_44 lv_X7_kindOf (z3O i1) (zNO h1) (SH_pO P i1) rfl rfl rfl (Nat.le_of_ble_eq_true rfl) (Nat.le_of_ble_eq_true rfl) (Nat.le_of_ble_eq_true rfl) (Nat.le_of_ble_eq_true rfl) (fun r_ h_ e_ => ?_)
    obtain ⟨e1_, e2_⟩ := e_
    subst e1_
    subst e2_
    show zz G mX0_learn 1 0 0 Q 75 [some (.ref 12), some (.ref (pO i1)), some (.int l2), some (.int (nI i_))] [.int (rX7_kindOf (vX0_learn_1 i1 l2 (nI i_) g_) i1 (nI i_)), .ref 15] (hh P (vX0_learn_1 i1 l2 (nI i_) g_)) 0 0
    refine z_dup2 dX0_learn_75 rfl rfl ?_
    refine z_iald (v := (((vX0_learn_1 i1 l2 (nI i_) g_) 15) (rX7_kindOf (vX0_learn_1 i1 l2 (nI i_) g_) i1 (nI i_)).toNatClampNeg)) dX0_learn_76 (zN rfl) rfl W3_.2.2.2.2.2.1 rfl ?_
    refine z_iconst dX0_learn_77 k_iconst_1 ?_
    refine z_iload_n dX0_learn_78 rfl ?_
    refine z_ishl (v := (zshl (1 : Int32) (nI i_))) dX0_learn_79 rfl ?_
    refine z_ior (v := ((((vX0_learn_1 i1 l2 (nI i_) g_) 15) (rX7_kindOf (vX0_learn_1 i1 l2 (nI i_) g_) i1 (nI i_)).toNatClampNeg) ||| (zshl (1 : Int32) (nI i_)))) dX0_learn_80 rfl ?_
    refine z_iast (σ' := (zu (vX0_learn_1 i1 l2 (nI i_) g_) 15 (zu ((vX0_learn_1 i1 l2 (nI i_) g_) 15) (rX7_kindOf (vX0_learn_1 i1 l2 (nI i_) g_) i1 (nI i_)).toNatClampNeg ((((vX0_learn_1 i1 l2 (nI i_) g_) 15) (rX7_kindOf (vX0_learn_1 i1 l2 (nI i_) g_) i1 (nI i_)).toNatClampNeg) ||| (zshl (1 : Int32) (nI i_)))))) dX0_learn_81 (Nat.le_of_ble_eq_true rfl) (zN rfl) rfl W3_.2.2.2.2.2.2 rfl ?_
    refine z_iinc (v := ((nI i_) + (1 : Int32))) (lv' := [some (.ref 12), some (.ref (pO i1)), some (.int l2), some (.int ((nI i_) + (1 : Int32)))]) dX0_learn_82 (Nat.le_of_ble_eq_true rfl) rfl (by rw [k_iconst_1]) rfl ?_
    refine z_goto (tgt := 26) dX0_learn_85 (by decide) ?_
    rw [nI_1]
    exact k_
  · have hD_ := hC_ n_ (Nat.le_refl _)
    generalize zfor (fX0_learn_26 i1 l2) n_ σ = g_ at W2_ hD_ ⊢
    refine z_iload_n dX0_learn_26 rfl ?_
    refine z_aloadr_n dX0_learn_27 rfl ?_
    refine z_callV (ci := 7) (r := (RX7, TX7, 5)) (b := (pO i1)) (As := []) (rest := [.int (nI n_)]) (ctX7_size P g_ i1 h1) dX0_learn_28 lk_X0_27 lv_X7_size (z3O i1) (zNO h1) (SH_pO P i1) rfl rfl rfl (Nat.le_of_ble_eq_true rfl) (Nat.le_of_ble_eq_true rfl) (Nat.le_of_ble_eq_true rfl) (Nat.le_of_ble_eq_true rfl) (fun r_ h_ e_ => ?_)
    obtain ⟨e1_, e2_⟩ := e_
    subst e1_
    subst e2_
    show zz G mX0_learn 1 0 0 Q 31 [some (.ref 12), some (.ref (pO i1)), some (.int l2), some (.int (nI n_))] [.int (rX7_size P i1), .int (nI n_)] (hh P g_) 0 0
    refine z_icmp_ge (tgt := 88) dX0_learn_31 (by decide) (fun c_ => ?_) (fun c_ => absurd (hD_.mpr (Nat.le_refl _)) c_)
    exact zz_sub (lv' := [none, none, none, none]) trivial W2_

theorem dX0_learn_0 : decode cX0_learn 0 = .ok (.aload_n 0, 1) := by decide +kernel
theorem dX0_learn_1 : decode cX0_learn 1 = .ok (.getfield 9, 3) := by decide +kernel
theorem dX0_learn_4 : decode cX0_learn 4 = .ok (.iconst 0, 1) := by decide +kernel
theorem dX0_learn_5 : decode cX0_learn 5 = .ok (.invokestatic 21, 3) := by decide +kernel
theorem dX0_learn_8 : decode cX0_learn 8 = .ok (.aload_n 0, 1) := by decide +kernel
theorem dX0_learn_9 : decode cX0_learn 9 = .ok (.getfield 15, 3) := by decide +kernel
theorem dX0_learn_12 : decode cX0_learn 12 = .ok (.iconst 0, 1) := by decide +kernel
theorem dX0_learn_13 : decode cX0_learn 13 = .ok (.invokestatic 21, 3) := by decide +kernel
theorem dX0_learn_16 : decode cX0_learn 16 = .ok (.aload_n 0, 1) := by decide +kernel
theorem dX0_learn_17 : decode cX0_learn 17 = .ok (.getfield 18, 3) := by decide +kernel
theorem dX0_learn_20 : decode cX0_learn 20 = .ok (.iconst 0, 1) := by decide +kernel
theorem dX0_learn_21 : decode cX0_learn 21 = .ok (.invokestatic 21, 3) := by decide +kernel
theorem dX0_learn_24 : decode cX0_learn 24 = .ok (.iconst 0, 1) := by decide +kernel
theorem dX0_learn_25 : decode cX0_learn 25 = .ok (.istore_n 3, 1) := by decide +kernel
theorem dX0_learn_88 : decode cX0_learn 88 = .ok (.return_, 1) := by decide +kernel
noncomputable def vX0_learn_2 (σ : zc_N) : zc_N := (sJ7_fill_53178_15 (sJ7_fill_53178_14 (sJ7_fill_53178_13 σ (0 : Int32)) (0 : Int32)) (0 : Int32))
def pX0_learn (P : zp) (σ : zc_N) (i1 : Nat) (a2 : Int32) : Prop := ((pJ7_fill_53178_13 σ (0 : Int32)) ∧ ((pJ7_fill_53178_14 (sJ7_fill_53178_13 σ (0 : Int32)) (0 : Int32)) ∧ ((pJ7_fill_53178_15 (sJ7_fill_53178_14 (sJ7_fill_53178_13 σ (0 : Int32)) (0 : Int32)) (0 : Int32)) ∧ ((∀ i26_ : Nat, i26_ ≤ (((rX7_size P i1)).toNatClampNeg) → ((rX7_size P i1) ≤ (nI i26_) ↔ (((rX7_size P i1)).toNatClampNeg) ≤ i26_)) ∧ (∀ i26_ : Nat, i26_ < (((rX7_size P i1)).toNatClampNeg) → qX0_learn_26 P i1 a2 i26_ (zfor (fX0_learn_26 i1 a2) i26_ (vX0_learn_2 σ)))))))
noncomputable def sX0_learn (P : zp) (σ : zc_N) (i1 : Nat) (a2 : Int32) : zc_N := (zfor (fX0_learn_26 i1 a2) (((rX7_size P i1)).toNatClampNeg) (vX0_learn_2 σ))
set_option maxHeartbeats 1000000 in
theorem ctX0_learn (P : zp) (σ : zc_N) (i1 : Nat) (h1 : i1 < P.2.1) (a2 : Int32) (W_ : (pX0_learn P σ i1 a2)) : sp mX0_learn 1 0 0 [.ref 12, .ref (pO i1), .int a2] (hh P σ) (fun r_ h_ => r_ = none ∧ h_ = hh P (sX0_learn P σ i1 a2)) := by
  refine sp_of (lv := [some (.ref 12), some (.ref (pO i1)), some (.int a2), none]) (by decide) (zcats_ok _ rfl) (Nat.le_of_ble_eq_true rfl) (zlv_ok _ 1 rfl) (fun G => ?_)
  generalize hQ_ : (fun (r_ : Option Value) (h_ : zc_H) => r_ = none ∧ h_ = hh P (sX0_learn P σ i1 a2)) = Q_
  unfold pX0_learn at W_
  refine z_aloadr_n dX0_learn_0 rfl ?_
  refine z_get (ci := 0) (r := (RX0, TX0, 3)) (j := 0) (v := .ref 13) dX0_learn_1 (Nat.le_of_ble_eq_true rfl) (zN rfl) rfl rfl (Nat.le_of_ble_eq_true rfl) fl_X0_9 rfl ?_
  refine z_iconst dX0_learn_4 k_iconst_0 ?_
  refine z_callS (As := [.ref 13, .int (0 : Int32)]) (rest := []) (ctJ7_fill_53178_13 P σ (0 : Int32) W_.1) dX0_learn_5 lk_X0_21 ls_J7_fill_53178 rfl (Nat.le_of_ble_eq_true rfl) (Nat.le_of_ble_eq_true rfl) (Nat.le_of_ble_eq_true rfl) (Nat.le_of_ble_eq_true rfl) (fun r_ h_ e_ => ?_)
  obtain ⟨e1_, e2_⟩ := e_
  subst e1_
  subst e2_
  show zz G mX0_learn 1 0 0 Q_ 8 [some (.ref 12), some (.ref (pO i1)), some (.int a2), none] [] (hh P (sJ7_fill_53178_13 σ (0 : Int32))) 0 0
  refine z_aloadr_n dX0_learn_8 rfl ?_
  refine z_get (ci := 0) (r := (RX0, TX0, 3)) (j := 1) (v := .ref 14) dX0_learn_9 (Nat.le_of_ble_eq_true rfl) (zN rfl) rfl rfl (Nat.le_of_ble_eq_true rfl) fl_X0_15 rfl ?_
  refine z_iconst dX0_learn_12 k_iconst_0 ?_
  refine z_callS (As := [.ref 14, .int (0 : Int32)]) (rest := []) (ctJ7_fill_53178_14 P (sJ7_fill_53178_13 σ (0 : Int32)) (0 : Int32) W_.2.1) dX0_learn_13 lk_X0_21 ls_J7_fill_53178 rfl (Nat.le_of_ble_eq_true rfl) (Nat.le_of_ble_eq_true rfl) (Nat.le_of_ble_eq_true rfl) (Nat.le_of_ble_eq_true rfl) (fun r_ h_ e_ => ?_)
  obtain ⟨e1_, e2_⟩ := e_
  subst e1_
  subst e2_
  show zz G mX0_learn 1 0 0 Q_ 16 [some (.ref 12), some (.ref (pO i1)), some (.int a2), none] [] (hh P (sJ7_fill_53178_14 (sJ7_fill_53178_13 σ (0 : Int32)) (0 : Int32))) 0 0
  refine z_aloadr_n dX0_learn_16 rfl ?_
  refine z_get (ci := 0) (r := (RX0, TX0, 3)) (j := 2) (v := .ref 15) dX0_learn_17 (Nat.le_of_ble_eq_true rfl) (zN rfl) rfl rfl (Nat.le_of_ble_eq_true rfl) fl_X0_18 rfl ?_
  refine z_iconst dX0_learn_20 k_iconst_0 ?_
  refine z_callS (As := [.ref 15, .int (0 : Int32)]) (rest := []) (ctJ7_fill_53178_15 P (sJ7_fill_53178_14 (sJ7_fill_53178_13 σ (0 : Int32)) (0 : Int32)) (0 : Int32) W_.2.2.1) dX0_learn_21 lk_X0_21 ls_J7_fill_53178 rfl (Nat.le_of_ble_eq_true rfl) (Nat.le_of_ble_eq_true rfl) (Nat.le_of_ble_eq_true rfl) (Nat.le_of_ble_eq_true rfl) (fun r_ h_ e_ => ?_)
  obtain ⟨e1_, e2_⟩ := e_
  subst e1_
  subst e2_
  show zz G mX0_learn 1 0 0 Q_ 24 [some (.ref 12), some (.ref (pO i1)), some (.int a2), none] [] (hh P (vX0_learn_2 σ)) 0 0
  refine z_iconst dX0_learn_24 k_iconst_0 ?_
  refine z_istore_n (lv' := [some (.ref 12), some (.ref (pO i1)), some (.int a2), some (.int (0 : Int32))]) dX0_learn_25 (Nat.le_of_ble_eq_true rfl) rfl ?_
  refine lpX0_learn_26 P (vX0_learn_2 σ) i1 h1 a2 (((rX7_size P i1)).toNatClampNeg) W_.2.2.2.1 W_.2.2.2.2 ?_
  show zz G mX0_learn 1 0 0 Q_ 88 [none, none, none, none] [] (hh P (zfor (fX0_learn_26 i1 a2) (((rX7_size P i1)).toNatClampNeg) (vX0_learn_2 σ))) 0 0
  exact z_return dX0_learn_88 rfl (Nat.le_of_ble_eq_true rfl) (Nat.le_of_ble_eq_true rfl) (by rw [← hQ_]; exact ⟨rfl, (by rw [sX0_learn])⟩)

theorem dX2_clear_0 : decode cX2_clear 0 = .ok (.aload_n 0, 1) := by decide +kernel
theorem dX2_clear_1 : decode cX2_clear 1 = .ok (.iconst 0, 1) := by decide +kernel
theorem dX2_clear_2 : decode cX2_clear 2 = .ok (.putfield 9, 3) := by decide +kernel
theorem dX2_clear_5 : decode cX2_clear 5 = .ok (.aload_n 0, 1) := by decide +kernel
theorem dX2_clear_6 : decode cX2_clear 6 = .ok (.iconst 0, 1) := by decide +kernel
theorem dX2_clear_7 : decode cX2_clear 7 = .ok (.putfield 19, 3) := by decide +kernel
theorem dX2_clear_10 : decode cX2_clear 10 = .ok (.aload_n 0, 1) := by decide +kernel
theorem dX2_clear_11 : decode cX2_clear 11 = .ok (.getfield 28, 3) := by decide +kernel
theorem dX2_clear_14 : decode cX2_clear 14 = .ok (.iconst (-1), 1) := by decide +kernel
theorem dX2_clear_15 : decode cX2_clear 15 = .ok (.invokestatic 31, 3) := by decide +kernel
theorem dX2_clear_18 : decode cX2_clear 18 = .ok (.return_, 1) := by decide +kernel
def pX2_clear (σ : zc_N) : Prop := (pJ7_fill_53178_31 (zu σ 27 (zu (zu (σ 27) 0 (0 : Int32)) 2 (0 : Int32))) (-1 : Int32))
noncomputable def sX2_clear (σ : zc_N) : zc_N := (sJ7_fill_53178_31 (zu σ 27 (zu (zu (σ 27) 0 (0 : Int32)) 2 (0 : Int32))) (-1 : Int32))
set_option maxHeartbeats 1000000 in
theorem ctX2_clear (P : zp) (σ : zc_N) (W_ : (pX2_clear σ)) : sp mX2_clear 1 0 0 [.ref 27] (hh P σ) (fun r_ h_ => r_ = none ∧ h_ = hh P (sX2_clear σ)) := by
  refine sp_of (lv := [some (.ref 27)]) (by decide) (zcats_ok _ rfl) (Nat.le_of_ble_eq_true rfl) (zlv_ok _ 0 rfl) (fun G => ?_)
  generalize hQ_ : (fun (r_ : Option Value) (h_ : zc_H) => r_ = none ∧ h_ = hh P (sX2_clear σ)) = Q_
  unfold pX2_clear at W_
  refine z_aloadr_n dX2_clear_0 rfl ?_
  refine z_iconst dX2_clear_1 k_iconst_0 ?_
  refine z_put (ci := 2) (r := (RX2, TX2, 6)) (j := 0) (σ' := (zu σ 27 (zu (σ 27) 0 (0 : Int32)))) dX2_clear_2 (Nat.le_of_ble_eq_true rfl) (zN rfl) rfl rfl (Nat.le_of_ble_eq_true rfl) fl_X2_9 rfl rfl rfl rfl rfl ?_
  refine z_aloadr_n dX2_clear_5 rfl ?_
  refine z_iconst dX2_clear_6 k_iconst_0 ?_
  refine z_put (ci := 2) (r := (RX2, TX2, 6)) (j := 2) (σ' := (zu σ 27 (zu (zu (σ 27) 0 (0 : Int32)) 2 (0 : Int32)))) dX2_clear_7 (Nat.le_of_ble_eq_true rfl) (zN rfl) rfl rfl (Nat.le_of_ble_eq_true rfl) fl_X2_19 rfl rfl rfl rfl ((congrArg (fun g_ => zu _ _ (zu g_ _ _)) (zu_self _ _ _)).trans (zu_zu _ _ _ _)) ?_
  refine z_aloadr_n dX2_clear_10 rfl ?_
  refine z_get (ci := 2) (r := (RX2, TX2, 6)) (j := 5) (v := .ref 31) dX2_clear_11 (Nat.le_of_ble_eq_true rfl) (zN rfl) rfl rfl (Nat.le_of_ble_eq_true rfl) fl_X2_28 rfl ?_
  refine z_iconst dX2_clear_14 k_iconst_m1 ?_
  refine z_callS (As := [.ref 31, .int (-1 : Int32)]) (rest := []) (ctJ7_fill_53178_31 P (zu σ 27 (zu (zu (σ 27) 0 (0 : Int32)) 2 (0 : Int32))) (-1 : Int32) W_) dX2_clear_15 lk_X2_31 ls_J7_fill_53178 rfl (Nat.le_of_ble_eq_true rfl) (Nat.le_of_ble_eq_true rfl) (Nat.le_of_ble_eq_true rfl) (Nat.le_of_ble_eq_true rfl) (fun r_ h_ e_ => ?_)
  obtain ⟨e1_, e2_⟩ := e_
  subst e1_
  subst e2_
  show zz G mX2_clear 1 0 0 Q_ 18 [some (.ref 27)] [] (hh P (sJ7_fill_53178_31 (zu σ 27 (zu (zu (σ 27) 0 (0 : Int32)) 2 (0 : Int32))) (-1 : Int32))) 0 0
  exact z_return dX2_clear_18 rfl (Nat.le_of_ble_eq_true rfl) (Nat.le_of_ble_eq_true rfl) (by rw [← hQ_]; exact ⟨rfl, (by rw [sX2_clear])⟩)

theorem dX2_flawAt_4 : decode cX2_flawAt 4 = .ok (.iload_n 3, 1) := by decide +kernel
theorem dX2_flawAt_5 : decode cX2_flawAt 5 = .ok (.bipush 12, 2) := by decide +kernel
theorem dX2_flawAt_7 : decode cX2_flawAt 7 = .ok (.if_icmp .ge 33, 3) := by decide +kernel
theorem dX2_flawAt_10 : decode cX2_flawAt 10 = .ok (.aload_n 0, 1) := by decide +kernel
theorem dX2_flawAt_11 : decode cX2_flawAt 11 = .ok (.getfield 9, 3) := by decide +kernel
theorem dX2_flawAt_14 : decode cX2_flawAt 14 = .ok (.iload_n 3, 1) := by decide +kernel
theorem dX2_flawAt_15 : decode cX2_flawAt 15 = .ok (.ishr, 1) := by decide +kernel
theorem dX2_flawAt_16 : decode cX2_flawAt 16 = .ok (.iconst 1, 1) := by decide +kernel
theorem dX2_flawAt_17 : decode cX2_flawAt 17 = .ok (.iand, 1) := by decide +kernel
theorem dX2_flawAt_18 : decode cX2_flawAt 18 = .ok (.ifCond .ne 6, 3) := by decide +kernel
theorem dX2_flawAt_21 : decode cX2_flawAt 21 = .ok (.goto 13, 3) := by decide +kernel
theorem dX2_flawAt_24 : decode cX2_flawAt 24 = .ok (.iload_n 2, 1) := by decide +kernel
theorem dX2_flawAt_25 : decode cX2_flawAt 25 = .ok (.iload_n 1, 1) := by decide +kernel
theorem dX2_flawAt_26 : decode cX2_flawAt 26 = .ok (.if_icmp .ne 5, 3) := by decide +kernel
theorem dX2_flawAt_29 : decode cX2_flawAt 29 = .ok (.iload_n 3, 1) := by decide +kernel
theorem dX2_flawAt_31 : decode cX2_flawAt 31 = .ok (.iinc 2 1, 3) := by decide +kernel
theorem dX2_flawAt_34 : decode cX2_flawAt 34 = .ok (.iinc 3 1, 3) := by decide +kernel
theorem dX2_flawAt_37 : decode cX2_flawAt 37 = .ok (.goto (-33), 3) := by decide +kernel
theorem dX2_flawAt_40 : decode cX2_flawAt 40 = .ok (.iconst (-1), 1) := by decide +kernel
noncomputable def fX2_flawAt_4 (σ : zc_N) (a_ : Int32 × Int32) : Int32 × Int32 := ((if ((zshr ((σ 27) 0) a_.2) &&& (1 : Int32)) = (0 : Int32) then a_.1 else (a_.1 + (1 : Int32))), (a_.2 + (1 : Int32)))
def eX2_flawAt_4 (σ : zc_N) (l1 : Int32) (a_ : Int32 × Int32) : Prop := (((12 : Int32) ≤ a_.2 ∧ True) ∨ (¬ (12 : Int32) ≤ a_.2 ∧ ((((zshr ((σ 27) 0) a_.2) &&& (1 : Int32)) = (0 : Int32) ∧ False) ∨ (¬ ((zshr ((σ 27) 0) a_.2) &&& (1 : Int32)) = (0 : Int32) ∧ ((a_.1 = l1 ∧ True) ∨ (¬ a_.1 = l1 ∧ False))))))
noncomputable def wX2_flawAt_4 (σ : zc_N) (l1 : Int32) (a_ : Int32 × Int32) : Int32 × Int32 := zit (fX2_flawAt_4 σ) (zwn (fun n_ => (eX2_flawAt_4 σ l1) (zit (fX2_flawAt_4 σ) n_ a_))) a_
set_option maxHeartbeats 2000000 in
theorem whX2_flawAt_4 {G : zc_G} {Q : Option Value → zc_H → Prop} (P : zp) (σ : zc_N) (l1 : Int32) (l2 : Int32) (l3 : Int32)
    (hT_ : ∃ n_ : Nat, (eX2_flawAt_4 σ l1) (zit (fX2_flawAt_4 σ) n_ (l2, l3)))
    (W2_ : (eX2_flawAt_4 σ l1) (wX2_flawAt_4 σ l1 (l2, l3)) → zz G mX2_flawAt 0 0 0 Q 4 [some (.ref 27), some (.int l1), some (.int (wX2_flawAt_4 σ l1 (l2, l3)).1), some (.int (wX2_flawAt_4 σ l1 (l2, l3)).2)] [] (hh P σ) 0 0) :
    zz G mX2_flawAt 0 0 0 Q 4 [some (.ref 27), some (.int l1), some (.int l2), some (.int l3)] [] (hh P σ) 0 0 := by
  unfold wX2_flawAt_4 at W2_
  have hs_ := zwn_spec hT_
  refine zit_Z (fun a_ => zz G mX2_flawAt 0 0 0 Q 4 [some (.ref 27), some (.int l1), some (.int a_.1), some (.int a_.2)] [] (hh P σ) 0 0) (fX2_flawAt_4 σ) (zwn (fun n_ => (eX2_flawAt_4 σ l1) (zit (fX2_flawAt_4 σ) n_ (l2, l3)))) (l2, l3) (fun i_ hi_ k_ => ?_) (W2_ hs_.1)
  have hn_ := hs_.2 i_ hi_
  generalize zit (fX2_flawAt_4 σ) i_ (l2, l3) = g_ at k_ hn_ ⊢
  obtain ⟨x0_, x1_⟩ := g_
  try dsimp only at k_ hn_ ⊢
  rw [fX2_flawAt_4] at k_
  rw [eX2_flawAt_4] at hn_
  try dsimp only at k_ hn_
  refine z_iload_n dX2_flawAt_4 rfl ?_
  refine z_bipush dX2_flawAt_5 k_bipush_12 ?_
  refine z_icmp_ge (tgt := 40) dX2_flawAt_7 (by decide) (fun c_1 => ?_) (fun c_1 => ?_)
  · exact absurd (Or.inl ⟨c_1, trivial⟩) hn_
  · refine z_aloadr_n dX2_flawAt_10 rfl ?_
    refine z_get (ci := 2) (r := (RX2, TX2, 6)) (j := 0) (v := .int ((σ 27) 0)) dX2_flawAt_11 (Nat.le_of_ble_eq_true rfl) (zN rfl) rfl rfl (Nat.le_of_ble_eq_true rfl) fl_X2_9 rfl ?_
    refine z_iload_n dX2_flawAt_14 rfl ?_
    refine z_ishr (v := (zshr ((σ 27) 0) x1_)) dX2_flawAt_15 rfl ?_
    refine z_iconst dX2_flawAt_16 k_iconst_1 ?_
    refine z_iand (v := ((zshr ((σ 27) 0) x1_) &&& (1 : Int32))) dX2_flawAt_17 rfl ?_
    refine z_if_ne (tgt := 24) dX2_flawAt_18 (by decide) (fun c_2 => ?_) (fun c_2 => ?_)
    · refine z_iload_n dX2_flawAt_24 rfl ?_
      refine z_iload_n dX2_flawAt_25 rfl ?_
      refine z_icmp_ne (tgt := 31) dX2_flawAt_26 (by decide) (fun c_3 => ?_) (fun c_3 => ?_)
      · refine z_iinc (v := (x0_ + (1 : Int32))) (lv' := [some (.ref 27), some (.int l1), some (.int (x0_ + (1 : Int32))), some (.int x1_)]) dX2_flawAt_31 (Nat.le_of_ble_eq_true rfl) rfl (by rw [k_iconst_1]) rfl ?_
        refine z_iinc (v := (x1_ + (1 : Int32))) (lv' := [some (.ref 27), some (.int l1), some (.int (x0_ + (1 : Int32))), some (.int (x1_ + (1 : Int32)))]) dX2_flawAt_34 (Nat.le_of_ble_eq_true rfl) rfl (by rw [k_iconst_1]) rfl ?_
        refine z_goto (tgt := 4) dX2_flawAt_37 (by decide) ?_
        simpa only [if_neg c_1, if_neg c_2, if_neg c_3] using k_
      · exact absurd (Or.inr ⟨c_1, (Or.inr ⟨c_2, (Or.inl ⟨c_3, trivial⟩)⟩)⟩) hn_
    · refine z_goto (tgt := 34) dX2_flawAt_21 (by decide) ?_
      refine z_iinc (v := (x1_ + (1 : Int32))) (lv' := [some (.ref 27), some (.int l1), some (.int x0_), some (.int (x1_ + (1 : Int32)))]) dX2_flawAt_34 (Nat.le_of_ble_eq_true rfl) rfl (by rw [k_iconst_1]) rfl ?_
      refine z_goto (tgt := 4) dX2_flawAt_37 (by decide) ?_
      simpa only [if_neg c_1, if_pos c_2] using k_

theorem dX2_flawAt_0 : decode cX2_flawAt 0 = .ok (.iconst 0, 1) := by decide +kernel
theorem dX2_flawAt_1 : decode cX2_flawAt 1 = .ok (.istore_n 2, 1) := by decide +kernel
theorem dX2_flawAt_2 : decode cX2_flawAt 2 = .ok (.iconst 0, 1) := by decide +kernel
theorem dX2_flawAt_3 : decode cX2_flawAt 3 = .ok (.istore_n 3, 1) := by decide +kernel
theorem dX2_flawAt_30 : decode cX2_flawAt 30 = .ok (.ireturn, 1) := by decide +kernel
theorem dX2_flawAt_41 : decode cX2_flawAt 41 = .ok (.ireturn, 1) := by decide +kernel
def pX2_flawAt (σ : zc_N) (a1 : Int32) : Prop := (∃ n_ : Nat, (eX2_flawAt_4 σ a1) (zit (fX2_flawAt_4 σ) n_ ((0 : Int32), (0 : Int32))))
noncomputable def rX2_flawAt (σ : zc_N) (a1 : Int32) : Int32 := (if (12 : Int32) ≤ (wX2_flawAt_4 σ a1 ((0 : Int32), (0 : Int32))).2 then (-1 : Int32) else (wX2_flawAt_4 σ a1 ((0 : Int32), (0 : Int32))).2)
set_option maxHeartbeats 1000000 in
theorem ctX2_flawAt (P : zp) (σ : zc_N) (a1 : Int32) (W_ : (pX2_flawAt σ a1)) : sp mX2_flawAt 0 0 0 [.ref 27, .int a1] (hh P σ) (fun r_ h_ => r_ = some (.int (rX2_flawAt σ a1)) ∧ h_ = hh P σ) := by
  refine sp_of (lv := [some (.ref 27), some (.int a1), none, none]) (by decide) (zcats_ok _ rfl) (Nat.le_of_ble_eq_true rfl) (zlv_ok _ 2 rfl) (fun G => ?_)
  generalize hQ_ : (fun (r_ : Option Value) (h_ : zc_H) => r_ = some (.int (rX2_flawAt σ a1)) ∧ h_ = hh P σ) = Q_
  unfold pX2_flawAt at W_
  refine z_iconst dX2_flawAt_0 k_iconst_0 ?_
  refine z_istore_n (lv' := [some (.ref 27), some (.int a1), some (.int (0 : Int32)), none]) dX2_flawAt_1 (Nat.le_of_ble_eq_true rfl) rfl ?_
  refine z_iconst dX2_flawAt_2 k_iconst_0 ?_
  refine z_istore_n (lv' := [some (.ref 27), some (.int a1), some (.int (0 : Int32)), some (.int (0 : Int32))]) dX2_flawAt_3 (Nat.le_of_ble_eq_true rfl) rfl ?_
  refine whX2_flawAt_4 P σ a1 (0 : Int32) (0 : Int32) W_ (fun hX4_ => ?_)
  rw [eX2_flawAt_4] at hX4_
  try dsimp only at hX4_
  show zz G mX2_flawAt 0 0 0 Q_ 4 [some (.ref 27), some (.int a1), some (.int (wX2_flawAt_4 σ a1 ((0 : Int32), (0 : Int32))).1), some (.int (wX2_flawAt_4 σ a1 ((0 : Int32), (0 : Int32))).2)] [] (hh P σ) 0 0
  refine z_iload_n dX2_flawAt_4 rfl ?_
  refine z_bipush dX2_flawAt_5 k_bipush_12 ?_
  refine z_icmp_ge (tgt := 40) dX2_flawAt_7 (by decide) (fun c_1 => ?_) (fun c_1 => ?_)
  · refine z_iconst dX2_flawAt_40 k_iconst_m1 ?_
    exact z_ireturn dX2_flawAt_41 rfl rfl (Nat.le_of_ble_eq_true rfl) (Nat.le_of_ble_eq_true rfl) (by rw [← hQ_]; exact ⟨(by rw [rX2_flawAt]; try simp only [if_pos c_1]), rfl⟩)
  · refine z_aloadr_n dX2_flawAt_10 rfl ?_
    refine z_get (ci := 2) (r := (RX2, TX2, 6)) (j := 0) (v := .int ((σ 27) 0)) dX2_flawAt_11 (Nat.le_of_ble_eq_true rfl) (zN rfl) rfl rfl (Nat.le_of_ble_eq_true rfl) fl_X2_9 rfl ?_
    refine z_iload_n dX2_flawAt_14 rfl ?_
    refine z_ishr (v := (zshr ((σ 27) 0) (wX2_flawAt_4 σ a1 ((0 : Int32), (0 : Int32))).2)) dX2_flawAt_15 rfl ?_
    refine z_iconst dX2_flawAt_16 k_iconst_1 ?_
    refine z_iand (v := ((zshr ((σ 27) 0) (wX2_flawAt_4 σ a1 ((0 : Int32), (0 : Int32))).2) &&& (1 : Int32))) dX2_flawAt_17 rfl ?_
    refine z_if_ne (tgt := 24) dX2_flawAt_18 (by decide) (fun c_2 => ?_) (fun c_2 => ?_)
    · refine z_iload_n dX2_flawAt_24 rfl ?_
      refine z_iload_n dX2_flawAt_25 rfl ?_
      refine z_icmp_ne (tgt := 31) dX2_flawAt_26 (by decide) (fun c_3 => ?_) (fun c_3 => ?_)
      · refine z_iinc (v := ((wX2_flawAt_4 σ a1 ((0 : Int32), (0 : Int32))).1 + (1 : Int32))) (lv' := [some (.ref 27), some (.int a1), some (.int ((wX2_flawAt_4 σ a1 ((0 : Int32), (0 : Int32))).1 + (1 : Int32))), some (.int (wX2_flawAt_4 σ a1 ((0 : Int32), (0 : Int32))).2)]) dX2_flawAt_31 (Nat.le_of_ble_eq_true rfl) rfl (by rw [k_iconst_1]) rfl ?_
        refine z_iinc (v := ((wX2_flawAt_4 σ a1 ((0 : Int32), (0 : Int32))).2 + (1 : Int32))) (lv' := [some (.ref 27), some (.int a1), some (.int ((wX2_flawAt_4 σ a1 ((0 : Int32), (0 : Int32))).1 + (1 : Int32))), some (.int ((wX2_flawAt_4 σ a1 ((0 : Int32), (0 : Int32))).2 + (1 : Int32)))]) dX2_flawAt_34 (Nat.le_of_ble_eq_true rfl) rfl (by rw [k_iconst_1]) rfl ?_
        refine z_goto (tgt := 4) dX2_flawAt_37 (by decide) ?_
        exact (ex_r (ex_r (ex_r hX4_ c_1) c_2) c_3).elim
      · refine z_iload_n dX2_flawAt_29 rfl ?_
        exact z_ireturn dX2_flawAt_30 rfl rfl (Nat.le_of_ble_eq_true rfl) (Nat.le_of_ble_eq_true rfl) (by rw [← hQ_]; exact ⟨(by rw [rX2_flawAt]; try simp only [if_neg c_1, if_neg c_2, if_pos c_3]), rfl⟩)
    · refine z_goto (tgt := 34) dX2_flawAt_21 (by decide) ?_
      refine z_iinc (v := ((wX2_flawAt_4 σ a1 ((0 : Int32), (0 : Int32))).2 + (1 : Int32))) (lv' := [some (.ref 27), some (.int a1), some (.int (wX2_flawAt_4 σ a1 ((0 : Int32), (0 : Int32))).1), some (.int ((wX2_flawAt_4 σ a1 ((0 : Int32), (0 : Int32))).2 + (1 : Int32)))]) dX2_flawAt_34 (Nat.le_of_ble_eq_true rfl) rfl (by rw [k_iconst_1]) rfl ?_
      refine z_goto (tgt := 4) dX2_flawAt_37 (by decide) ?_
      exact (ex_l (ex_r hX4_ c_1) c_2).elim

theorem dX3_setNone_0 : decode cX3_setNone 0 = .ok (.aload_n 0, 1) := by decide +kernel
theorem dX3_setNone_1 : decode cX3_setNone 1 = .ok (.iconst 0, 1) := by decide +kernel
theorem dX3_setNone_2 : decode cX3_setNone 2 = .ok (.iconst 0, 1) := by decide +kernel
theorem dX3_setNone_3 : decode cX3_setNone 3 = .ok (.iconst 0, 1) := by decide +kernel
theorem dX3_setNone_4 : decode cX3_setNone 4 = .ok (.invokevirtual 44, 3) := by decide +kernel
theorem dX3_setNone_7 : decode cX3_setNone 7 = .ok (.aload_n 0, 1) := by decide +kernel
theorem dX3_setNone_8 : decode cX3_setNone 8 = .ok (.iconst 0, 1) := by decide +kernel
theorem dX3_setNone_9 : decode cX3_setNone 9 = .ok (.putfield 9, 3) := by decide +kernel
theorem dX3_setNone_12 : decode cX3_setNone 12 = .ok (.aload_n 0, 1) := by decide +kernel
theorem dX3_setNone_13 : decode cX3_setNone 13 = .ok (.iconst 0, 1) := by decide +kernel
theorem dX3_setNone_14 : decode cX3_setNone 14 = .ok (.putfield 25, 3) := by decide +kernel
theorem dX3_setNone_17 : decode cX3_setNone 17 = .ok (.aload_n 0, 1) := by decide +kernel
theorem dX3_setNone_18 : decode cX3_setNone 18 = .ok (.iconst 0, 1) := by decide +kernel
theorem dX3_setNone_19 : decode cX3_setNone 19 = .ok (.putfield 28, 3) := by decide +kernel
theorem dX3_setNone_22 : decode cX3_setNone 22 = .ok (.aload_n 0, 1) := by decide +kernel
theorem dX3_setNone_23 : decode cX3_setNone 23 = .ok (.iconst 0, 1) := by decide +kernel
theorem dX3_setNone_24 : decode cX3_setNone 24 = .ok (.putfield 31, 3) := by decide +kernel
theorem dX3_setNone_27 : decode cX3_setNone 27 = .ok (.aload_n 0, 1) := by decide +kernel
theorem dX3_setNone_28 : decode cX3_setNone 28 = .ok (.iconst 0, 1) := by decide +kernel
theorem dX3_setNone_29 : decode cX3_setNone 29 = .ok (.putfield 34, 3) := by decide +kernel
theorem dX3_setNone_32 : decode cX3_setNone 32 = .ok (.aload_n 0, 1) := by decide +kernel
theorem dX3_setNone_33 : decode cX3_setNone 33 = .ok (.iconst 0, 1) := by decide +kernel
theorem dX3_setNone_34 : decode cX3_setNone 34 = .ok (.putfield 37, 3) := by decide +kernel
theorem dX3_setNone_37 : decode cX3_setNone 37 = .ok (.aload_n 0, 1) := by decide +kernel
theorem dX3_setNone_38 : decode cX3_setNone 38 = .ok (.getfield 40, 3) := by decide +kernel
theorem dX3_setNone_41 : decode cX3_setNone 41 = .ok (.iconst (-1), 1) := by decide +kernel
theorem dX3_setNone_42 : decode cX3_setNone 42 = .ok (.invokestatic 48, 3) := by decide +kernel
theorem dX3_setNone_45 : decode cX3_setNone 45 = .ok (.return_, 1) := by decide +kernel
noncomputable def vX3_setNone_l_1 (σ : zc_N) : zc_N := (sJ7_fill_53178_24 (zu (sX3_set_l σ (0 : Int32) (0 : Int32) (0 : Int32)) 23 (zu (zu (zu (zu (zu (zu ((sX3_set_l σ (0 : Int32) (0 : Int32) (0 : Int32)) 23) 0 (0 : Int32)) 4 (0 : Int32)) 5 (0 : Int32)) 6 (0 : Int32)) 7 (0 : Int32)) 8 (0 : Int32))) (-1 : Int32))
def pX3_setNone_l (σ : zc_N) : Prop := (pJ7_fill_53178_24 (zu (sX3_set_l σ (0 : Int32) (0 : Int32) (0 : Int32)) 23 (zu (zu (zu (zu (zu (zu ((sX3_set_l σ (0 : Int32) (0 : Int32) (0 : Int32)) 23) 0 (0 : Int32)) 4 (0 : Int32)) 5 (0 : Int32)) 6 (0 : Int32)) 7 (0 : Int32)) 8 (0 : Int32))) (-1 : Int32))
noncomputable def sX3_setNone_l (σ : zc_N) : zc_N := (vX3_setNone_l_1 σ)
set_option maxHeartbeats 1000000 in
theorem ctX3_setNone_l (P : zp) (σ : zc_N) (W_ : (pX3_setNone_l σ)) : sp mX3_setNone 1 0 0 [.ref 23] (hh P σ) (fun r_ h_ => r_ = none ∧ h_ = hh P (sX3_setNone_l σ)) := by
  refine sp_of (lv := [some (.ref 23)]) (by decide) (zcats_ok _ rfl) (Nat.le_of_ble_eq_true rfl) (zlv_ok _ 0 rfl) (fun G => ?_)
  generalize hQ_ : (fun (r_ : Option Value) (h_ : zc_H) => r_ = none ∧ h_ = hh P (sX3_setNone_l σ)) = Q_
  unfold pX3_setNone_l at W_
  refine z_aloadr_n dX3_setNone_0 rfl ?_
  refine z_iconst dX3_setNone_1 k_iconst_0 ?_
  refine z_iconst dX3_setNone_2 k_iconst_0 ?_
  refine z_iconst dX3_setNone_3 k_iconst_0 ?_
  refine z_callV (ci := 3) (r := (RX3, TX3, 10)) (b := 23) (As := [.int (0 : Int32), .int (0 : Int32), .int (0 : Int32)]) (rest := []) (ctX3_set_l P σ (0 : Int32) (0 : Int32) (0 : Int32)) dX3_setNone_4 lk_X3_44 lv_X3_set (Nat.le_of_ble_eq_true rfl) (zN rfl) rfl rfl rfl rfl (Nat.le_of_ble_eq_true rfl) (Nat.le_of_ble_eq_true rfl) (Nat.le_of_ble_eq_true rfl) (Nat.le_of_ble_eq_true rfl) (fun r_ h_ e_ => ?_)
  obtain ⟨e1_, e2_⟩ := e_
  subst e1_
  subst e2_
  show zz G mX3_setNone 1 0 0 Q_ 7 [some (.ref 23)] [] (hh P (sX3_set_l σ (0 : Int32) (0 : Int32) (0 : Int32))) 0 0
  refine z_aloadr_n dX3_setNone_7 rfl ?_
  refine z_iconst dX3_setNone_8 k_iconst_0 ?_
  refine z_put (ci := 3) (r := (RX3, TX3, 10)) (j := 0) (σ' := (zu (sX3_set_l σ (0 : Int32) (0 : Int32) (0 : Int32)) 23 (zu ((sX3_set_l σ (0 : Int32) (0 : Int32) (0 : Int32)) 23) 0 (0 : Int32)))) dX3_setNone_9 (Nat.le_of_ble_eq_true rfl) (zN rfl) rfl rfl (Nat.le_of_ble_eq_true rfl) fl_X3_9 rfl rfl rfl rfl rfl ?_
  refine z_aloadr_n dX3_setNone_12 rfl ?_
  refine z_iconst dX3_setNone_13 k_iconst_0 ?_
  refine z_put (ci := 3) (r := (RX3, TX3, 10)) (j := 4) (σ' := (zu (sX3_set_l σ (0 : Int32) (0 : Int32) (0 : Int32)) 23 (zu (zu ((sX3_set_l σ (0 : Int32) (0 : Int32) (0 : Int32)) 23) 0 (0 : Int32)) 4 (0 : Int32)))) dX3_setNone_14 (Nat.le_of_ble_eq_true rfl) (zN rfl) rfl rfl (Nat.le_of_ble_eq_true rfl) fl_X3_25 rfl rfl rfl rfl ((congrArg (fun g_ => zu _ _ (zu g_ _ _)) (zu_self _ _ _)).trans (zu_zu _ _ _ _)) ?_
  refine z_aloadr_n dX3_setNone_17 rfl ?_
  refine z_iconst dX3_setNone_18 k_iconst_0 ?_
  refine z_put (ci := 3) (r := (RX3, TX3, 10)) (j := 5) (σ' := (zu (sX3_set_l σ (0 : Int32) (0 : Int32) (0 : Int32)) 23 (zu (zu (zu ((sX3_set_l σ (0 : Int32) (0 : Int32) (0 : Int32)) 23) 0 (0 : Int32)) 4 (0 : Int32)) 5 (0 : Int32)))) dX3_setNone_19 (Nat.le_of_ble_eq_true rfl) (zN rfl) rfl rfl (Nat.le_of_ble_eq_true rfl) fl_X3_28 rfl rfl rfl rfl ((congrArg (fun g_ => zu _ _ (zu g_ _ _)) (zu_self _ _ _)).trans (zu_zu _ _ _ _)) ?_
  refine z_aloadr_n dX3_setNone_22 rfl ?_
  refine z_iconst dX3_setNone_23 k_iconst_0 ?_
  refine z_put (ci := 3) (r := (RX3, TX3, 10)) (j := 6) (σ' := (zu (sX3_set_l σ (0 : Int32) (0 : Int32) (0 : Int32)) 23 (zu (zu (zu (zu ((sX3_set_l σ (0 : Int32) (0 : Int32) (0 : Int32)) 23) 0 (0 : Int32)) 4 (0 : Int32)) 5 (0 : Int32)) 6 (0 : Int32)))) dX3_setNone_24 (Nat.le_of_ble_eq_true rfl) (zN rfl) rfl rfl (Nat.le_of_ble_eq_true rfl) fl_X3_31 rfl rfl rfl rfl ((congrArg (fun g_ => zu _ _ (zu g_ _ _)) (zu_self _ _ _)).trans (zu_zu _ _ _ _)) ?_
  refine z_aloadr_n dX3_setNone_27 rfl ?_
  refine z_iconst dX3_setNone_28 k_iconst_0 ?_
  refine z_put (ci := 3) (r := (RX3, TX3, 10)) (j := 7) (σ' := (zu (sX3_set_l σ (0 : Int32) (0 : Int32) (0 : Int32)) 23 (zu (zu (zu (zu (zu ((sX3_set_l σ (0 : Int32) (0 : Int32) (0 : Int32)) 23) 0 (0 : Int32)) 4 (0 : Int32)) 5 (0 : Int32)) 6 (0 : Int32)) 7 (0 : Int32)))) dX3_setNone_29 (Nat.le_of_ble_eq_true rfl) (zN rfl) rfl rfl (Nat.le_of_ble_eq_true rfl) fl_X3_34 rfl rfl rfl rfl ((congrArg (fun g_ => zu _ _ (zu g_ _ _)) (zu_self _ _ _)).trans (zu_zu _ _ _ _)) ?_
  refine z_aloadr_n dX3_setNone_32 rfl ?_
  refine z_iconst dX3_setNone_33 k_iconst_0 ?_
  refine z_put (ci := 3) (r := (RX3, TX3, 10)) (j := 8) (σ' := (zu (sX3_set_l σ (0 : Int32) (0 : Int32) (0 : Int32)) 23 (zu (zu (zu (zu (zu (zu ((sX3_set_l σ (0 : Int32) (0 : Int32) (0 : Int32)) 23) 0 (0 : Int32)) 4 (0 : Int32)) 5 (0 : Int32)) 6 (0 : Int32)) 7 (0 : Int32)) 8 (0 : Int32)))) dX3_setNone_34 (Nat.le_of_ble_eq_true rfl) (zN rfl) rfl rfl (Nat.le_of_ble_eq_true rfl) fl_X3_37 rfl rfl rfl rfl ((congrArg (fun g_ => zu _ _ (zu g_ _ _)) (zu_self _ _ _)).trans (zu_zu _ _ _ _)) ?_
  refine z_aloadr_n dX3_setNone_37 rfl ?_
  refine z_get (ci := 3) (r := (RX3, TX3, 10)) (j := 9) (v := .ref 24) dX3_setNone_38 (Nat.le_of_ble_eq_true rfl) (zN rfl) rfl rfl (Nat.le_of_ble_eq_true rfl) fl_X3_40 rfl ?_
  refine z_iconst dX3_setNone_41 k_iconst_m1 ?_
  refine z_callS (As := [.ref 24, .int (-1 : Int32)]) (rest := []) (ctJ7_fill_53178_24 P (zu (sX3_set_l σ (0 : Int32) (0 : Int32) (0 : Int32)) 23 (zu (zu (zu (zu (zu (zu ((sX3_set_l σ (0 : Int32) (0 : Int32) (0 : Int32)) 23) 0 (0 : Int32)) 4 (0 : Int32)) 5 (0 : Int32)) 6 (0 : Int32)) 7 (0 : Int32)) 8 (0 : Int32))) (-1 : Int32) W_) dX3_setNone_42 lk_X3_48 ls_J7_fill_53178 rfl (Nat.le_of_ble_eq_true rfl) (Nat.le_of_ble_eq_true rfl) (Nat.le_of_ble_eq_true rfl) (Nat.le_of_ble_eq_true rfl) (fun r_ h_ e_ => ?_)
  obtain ⟨e1_, e2_⟩ := e_
  subst e1_
  subst e2_
  show zz G mX3_setNone 1 0 0 Q_ 45 [some (.ref 23)] [] (hh P (vX3_setNone_l_1 σ)) 0 0
  exact z_return dX3_setNone_45 rfl (Nat.le_of_ble_eq_true rfl) (Nat.le_of_ble_eq_true rfl) (by rw [← hQ_]; exact ⟨rfl, (by rw [sX3_setNone_l])⟩)


noncomputable def vX3_setNone_t_2 (σ : zc_N) : zc_N := (sJ7_fill_53178_26 (zu (sX3_set_t σ (0 : Int32) (0 : Int32) (0 : Int32)) 25 (zu (zu (zu (zu (zu (zu ((sX3_set_t σ (0 : Int32) (0 : Int32) (0 : Int32)) 25) 0 (0 : Int32)) 4 (0 : Int32)) 5 (0 : Int32)) 6 (0 : Int32)) 7 (0 : Int32)) 8 (0 : Int32))) (-1 : Int32))
def pX3_setNone_t (σ : zc_N) : Prop := (pJ7_fill_53178_26 (zu (sX3_set_t σ (0 : Int32) (0 : Int32) (0 : Int32)) 25 (zu (zu (zu (zu (zu (zu ((sX3_set_t σ (0 : Int32) (0 : Int32) (0 : Int32)) 25) 0 (0 : Int32)) 4 (0 : Int32)) 5 (0 : Int32)) 6 (0 : Int32)) 7 (0 : Int32)) 8 (0 : Int32))) (-1 : Int32))
noncomputable def sX3_setNone_t (σ : zc_N) : zc_N := (vX3_setNone_t_2 σ)
set_option maxHeartbeats 1000000 in
theorem ctX3_setNone_t (P : zp) (σ : zc_N) (W_ : (pX3_setNone_t σ)) : sp mX3_setNone 1 0 0 [.ref 25] (hh P σ) (fun r_ h_ => r_ = none ∧ h_ = hh P (sX3_setNone_t σ)) := by
  refine sp_of (lv := [some (.ref 25)]) (by decide) (zcats_ok _ rfl) (Nat.le_of_ble_eq_true rfl) (zlv_ok _ 0 rfl) (fun G => ?_)
  generalize hQ_ : (fun (r_ : Option Value) (h_ : zc_H) => r_ = none ∧ h_ = hh P (sX3_setNone_t σ)) = Q_
  unfold pX3_setNone_t at W_
  refine z_aloadr_n dX3_setNone_0 rfl ?_
  refine z_iconst dX3_setNone_1 k_iconst_0 ?_
  refine z_iconst dX3_setNone_2 k_iconst_0 ?_
  refine z_iconst dX3_setNone_3 k_iconst_0 ?_
  refine z_callV (ci := 3) (r := (RX3, TX3, 10)) (b := 25) (As := [.int (0 : Int32), .int (0 : Int32), .int (0 : Int32)]) (rest := []) (ctX3_set_t P σ (0 : Int32) (0 : Int32) (0 : Int32)) dX3_setNone_4 lk_X3_44 lv_X3_set (Nat.le_of_ble_eq_true rfl) (zN rfl) rfl rfl rfl rfl (Nat.le_of_ble_eq_true rfl) (Nat.le_of_ble_eq_true rfl) (Nat.le_of_ble_eq_true rfl) (Nat.le_of_ble_eq_true rfl) (fun r_ h_ e_ => ?_)
  obtain ⟨e1_, e2_⟩ := e_
  subst e1_
  subst e2_
  show zz G mX3_setNone 1 0 0 Q_ 7 [some (.ref 25)] [] (hh P (sX3_set_t σ (0 : Int32) (0 : Int32) (0 : Int32))) 0 0
  refine z_aloadr_n dX3_setNone_7 rfl ?_
  refine z_iconst dX3_setNone_8 k_iconst_0 ?_
  refine z_put (ci := 3) (r := (RX3, TX3, 10)) (j := 0) (σ' := (zu (sX3_set_t σ (0 : Int32) (0 : Int32) (0 : Int32)) 25 (zu ((sX3_set_t σ (0 : Int32) (0 : Int32) (0 : Int32)) 25) 0 (0 : Int32)))) dX3_setNone_9 (Nat.le_of_ble_eq_true rfl) (zN rfl) rfl rfl (Nat.le_of_ble_eq_true rfl) fl_X3_9 rfl rfl rfl rfl rfl ?_
  refine z_aloadr_n dX3_setNone_12 rfl ?_
  refine z_iconst dX3_setNone_13 k_iconst_0 ?_
  refine z_put (ci := 3) (r := (RX3, TX3, 10)) (j := 4) (σ' := (zu (sX3_set_t σ (0 : Int32) (0 : Int32) (0 : Int32)) 25 (zu (zu ((sX3_set_t σ (0 : Int32) (0 : Int32) (0 : Int32)) 25) 0 (0 : Int32)) 4 (0 : Int32)))) dX3_setNone_14 (Nat.le_of_ble_eq_true rfl) (zN rfl) rfl rfl (Nat.le_of_ble_eq_true rfl) fl_X3_25 rfl rfl rfl rfl ((congrArg (fun g_ => zu _ _ (zu g_ _ _)) (zu_self _ _ _)).trans (zu_zu _ _ _ _)) ?_
  refine z_aloadr_n dX3_setNone_17 rfl ?_
  refine z_iconst dX3_setNone_18 k_iconst_0 ?_
  refine z_put (ci := 3) (r := (RX3, TX3, 10)) (j := 5) (σ' := (zu (sX3_set_t σ (0 : Int32) (0 : Int32) (0 : Int32)) 25 (zu (zu (zu ((sX3_set_t σ (0 : Int32) (0 : Int32) (0 : Int32)) 25) 0 (0 : Int32)) 4 (0 : Int32)) 5 (0 : Int32)))) dX3_setNone_19 (Nat.le_of_ble_eq_true rfl) (zN rfl) rfl rfl (Nat.le_of_ble_eq_true rfl) fl_X3_28 rfl rfl rfl rfl ((congrArg (fun g_ => zu _ _ (zu g_ _ _)) (zu_self _ _ _)).trans (zu_zu _ _ _ _)) ?_
  refine z_aloadr_n dX3_setNone_22 rfl ?_
  refine z_iconst dX3_setNone_23 k_iconst_0 ?_
  refine z_put (ci := 3) (r := (RX3, TX3, 10)) (j := 6) (σ' := (zu (sX3_set_t σ (0 : Int32) (0 : Int32) (0 : Int32)) 25 (zu (zu (zu (zu ((sX3_set_t σ (0 : Int32) (0 : Int32) (0 : Int32)) 25) 0 (0 : Int32)) 4 (0 : Int32)) 5 (0 : Int32)) 6 (0 : Int32)))) dX3_setNone_24 (Nat.le_of_ble_eq_true rfl) (zN rfl) rfl rfl (Nat.le_of_ble_eq_true rfl) fl_X3_31 rfl rfl rfl rfl ((congrArg (fun g_ => zu _ _ (zu g_ _ _)) (zu_self _ _ _)).trans (zu_zu _ _ _ _)) ?_
  refine z_aloadr_n dX3_setNone_27 rfl ?_
  refine z_iconst dX3_setNone_28 k_iconst_0 ?_
  refine z_put (ci := 3) (r := (RX3, TX3, 10)) (j := 7) (σ' := (zu (sX3_set_t σ (0 : Int32) (0 : Int32) (0 : Int32)) 25 (zu (zu (zu (zu (zu ((sX3_set_t σ (0 : Int32) (0 : Int32) (0 : Int32)) 25) 0 (0 : Int32)) 4 (0 : Int32)) 5 (0 : Int32)) 6 (0 : Int32)) 7 (0 : Int32)))) dX3_setNone_29 (Nat.le_of_ble_eq_true rfl) (zN rfl) rfl rfl (Nat.le_of_ble_eq_true rfl) fl_X3_34 rfl rfl rfl rfl ((congrArg (fun g_ => zu _ _ (zu g_ _ _)) (zu_self _ _ _)).trans (zu_zu _ _ _ _)) ?_
  refine z_aloadr_n dX3_setNone_32 rfl ?_
  refine z_iconst dX3_setNone_33 k_iconst_0 ?_
  refine z_put (ci := 3) (r := (RX3, TX3, 10)) (j := 8) (σ' := (zu (sX3_set_t σ (0 : Int32) (0 : Int32) (0 : Int32)) 25 (zu (zu (zu (zu (zu (zu ((sX3_set_t σ (0 : Int32) (0 : Int32) (0 : Int32)) 25) 0 (0 : Int32)) 4 (0 : Int32)) 5 (0 : Int32)) 6 (0 : Int32)) 7 (0 : Int32)) 8 (0 : Int32)))) dX3_setNone_34 (Nat.le_of_ble_eq_true rfl) (zN rfl) rfl rfl (Nat.le_of_ble_eq_true rfl) fl_X3_37 rfl rfl rfl rfl ((congrArg (fun g_ => zu _ _ (zu g_ _ _)) (zu_self _ _ _)).trans (zu_zu _ _ _ _)) ?_
  refine z_aloadr_n dX3_setNone_37 rfl ?_
  refine z_get (ci := 3) (r := (RX3, TX3, 10)) (j := 9) (v := .ref 26) dX3_setNone_38 (Nat.le_of_ble_eq_true rfl) (zN rfl) rfl rfl (Nat.le_of_ble_eq_true rfl) fl_X3_40 rfl ?_
  refine z_iconst dX3_setNone_41 k_iconst_m1 ?_
  refine z_callS (As := [.ref 26, .int (-1 : Int32)]) (rest := []) (ctJ7_fill_53178_26 P (zu (sX3_set_t σ (0 : Int32) (0 : Int32) (0 : Int32)) 25 (zu (zu (zu (zu (zu (zu ((sX3_set_t σ (0 : Int32) (0 : Int32) (0 : Int32)) 25) 0 (0 : Int32)) 4 (0 : Int32)) 5 (0 : Int32)) 6 (0 : Int32)) 7 (0 : Int32)) 8 (0 : Int32))) (-1 : Int32) W_) dX3_setNone_42 lk_X3_48 ls_J7_fill_53178 rfl (Nat.le_of_ble_eq_true rfl) (Nat.le_of_ble_eq_true rfl) (Nat.le_of_ble_eq_true rfl) (Nat.le_of_ble_eq_true rfl) (fun r_ h_ e_ => ?_)
  obtain ⟨e1_, e2_⟩ := e_
  subst e1_
  subst e2_
  show zz G mX3_setNone 1 0 0 Q_ 45 [some (.ref 25)] [] (hh P (vX3_setNone_t_2 σ)) 0 0
  exact z_return dX3_setNone_45 rfl (Nat.le_of_ble_eq_true rfl) (Nat.le_of_ble_eq_true rfl) (by rw [← hQ_]; exact ⟨rfl, (by rw [sX3_setNone_t])⟩)

theorem dX4_turnBy_2 : decode cX4_turnBy 2 = .ok (.iload_n 3, 1) := by decide +kernel
theorem dX4_turnBy_3 : decode cX4_turnBy 3 = .ok (.aload_n 1, 1) := by decide +kernel
theorem dX4_turnBy_4 : decode cX4_turnBy 4 = .ok (.invokevirtual 157, 3) := by decide +kernel
theorem dX4_turnBy_7 : decode cX4_turnBy 7 = .ok (.if_icmp .ge 49, 3) := by decide +kernel
theorem dX4_turnBy_10 : decode cX4_turnBy 10 = .ok (.aload_n 0, 1) := by decide +kernel
theorem dX4_turnBy_11 : decode cX4_turnBy 11 = .ok (.getfield 33, 3) := by decide +kernel
theorem dX4_turnBy_14 : decode cX4_turnBy 14 = .ok (.iload_n 3, 1) := by decide +kernel
theorem dX4_turnBy_15 : decode cX4_turnBy 15 = .ok (.aload_n 1, 1) := by decide +kernel
theorem dX4_turnBy_16 : decode cX4_turnBy 16 = .ok (.iload_n 3, 1) := by decide +kernel
theorem dX4_turnBy_17 : decode cX4_turnBy 17 = .ok (.invokevirtual 160, 3) := by decide +kernel
theorem dX4_turnBy_20 : decode cX4_turnBy 20 = .ok (.aload_n 1, 1) := by decide +kernel
theorem dX4_turnBy_21 : decode cX4_turnBy 21 = .ok (.iload_n 3, 1) := by decide +kernel
theorem dX4_turnBy_22 : decode cX4_turnBy 22 = .ok (.invokevirtual 163, 3) := by decide +kernel
theorem dX4_turnBy_25 : decode cX4_turnBy 25 = .ok (.iload_n 2, 1) := by decide +kernel
theorem dX4_turnBy_26 : decode cX4_turnBy 26 = .ok (.invokestatic 166, 3) := by decide +kernel
theorem dX4_turnBy_29 : decode cX4_turnBy 29 = .ok (.iastore, 1) := by decide +kernel
theorem dX4_turnBy_30 : decode cX4_turnBy 30 = .ok (.aload_n 0, 1) := by decide +kernel
theorem dX4_turnBy_31 : decode cX4_turnBy 31 = .ok (.getfield 36, 3) := by decide +kernel
theorem dX4_turnBy_34 : decode cX4_turnBy 34 = .ok (.iload_n 3, 1) := by decide +kernel
theorem dX4_turnBy_35 : decode cX4_turnBy 35 = .ok (.aload_n 1, 1) := by decide +kernel
theorem dX4_turnBy_36 : decode cX4_turnBy 36 = .ok (.iload_n 3, 1) := by decide +kernel
theorem dX4_turnBy_37 : decode cX4_turnBy 37 = .ok (.invokevirtual 160, 3) := by decide +kernel
theorem dX4_turnBy_40 : decode cX4_turnBy 40 = .ok (.aload_n 1, 1) := by decide +kernel
theorem dX4_turnBy_41 : decode cX4_turnBy 41 = .ok (.iload_n 3, 1) := by decide +kernel
theorem dX4_turnBy_42 : decode cX4_turnBy 42 = .ok (.invokevirtual 163, 3) := by decide +kernel
theorem dX4_turnBy_45 : decode cX4_turnBy 45 = .ok (.iload_n 2, 1) := by decide +kernel
theorem dX4_turnBy_46 : decode cX4_turnBy 46 = .ok (.invokestatic 170, 3) := by decide +kernel
theorem dX4_turnBy_49 : decode cX4_turnBy 49 = .ok (.iastore, 1) := by decide +kernel
theorem dX4_turnBy_50 : decode cX4_turnBy 50 = .ok (.iinc 3 1, 3) := by decide +kernel
theorem dX4_turnBy_53 : decode cX4_turnBy 53 = .ok (.goto (-51), 3) := by decide +kernel
theorem dX4_turnBy_56 : decode cX4_turnBy 56 = .ok (.aload_n 0, 1) := by decide +kernel
theorem dX4_turnBy_57 : decode cX4_turnBy 57 = .ok (.getfield 44, 3) := by decide +kernel
theorem dX4_turnBy_60 : decode cX4_turnBy 60 = .ok (.aload_n 1, 1) := by decide +kernel
theorem dX4_turnBy_61 : decode cX4_turnBy 61 = .ok (.getfield 173, 3) := by decide +kernel
theorem dX4_turnBy_64 : decode cX4_turnBy 64 = .ok (.iload_n 2, 1) := by decide +kernel
theorem dX4_turnBy_65 : decode cX4_turnBy 65 = .ok (.invokevirtual 176, 3) := by decide +kernel
noncomputable def fX4_turnBy_2 (i1 : Nat) (l2 : Int32) (i_ : Nat) (a_ : zc_N) : zc_N := (zu (zu a_ 19 (zu (a_ 19) (nI i_).toNatClampNeg (rX6_turnedColumn (rX7_columnOf a_ i1 (nI i_)) (rX7_rowOf a_ i1 (nI i_)) l2))) 20 (zu (a_ 20) (nI i_).toNatClampNeg (rX6_turnedRow (rX7_columnOf (zu a_ 19 (zu (a_ 19) (nI i_).toNatClampNeg (rX6_turnedColumn (rX7_columnOf a_ i1 (nI i_)) (rX7_rowOf a_ i1 (nI i_)) l2))) i1 (nI i_)) (rX7_rowOf (zu a_ 19 (zu (a_ 19) (nI i_).toNatClampNeg (rX6_turnedColumn (rX7_columnOf a_ i1 (nI i_)) (rX7_rowOf a_ i1 (nI i_)) l2))) i1 (nI i_)) l2)))
def qX4_turnBy_2 (P : zp) (i1 : Nat) (i_ : Nat) (a_ : zc_N) : Prop := ((pX7_columnOf P i1 (nI i_)) ∧ ((pX7_rowOf P i1 (nI i_)) ∧ (vp_in (nI i_) 12 ∧ ((pX7_columnOf P i1 (nI i_)) ∧ ((pX7_rowOf P i1 (nI i_)) ∧ vp_in (nI i_) 12)))))
set_option maxHeartbeats 2000000 in
theorem lpX4_turnBy_2 {G : zc_G} {Q : Option Value → zc_H → Prop} (P : zp) (σ : zc_N) (i1 : Nat) (h1 : i1 < P.2.1) (l2 : Int32) (n_ : Nat) (hC_ : ∀ i2_ : Nat, i2_ ≤ n_ → ((rX7_size P i1) ≤ (nI i2_) ↔ n_ ≤ i2_)) (W1_ : ∀ i2_ : Nat, i2_ < n_ → qX4_turnBy_2 P i1 i2_ (zfor (fX4_turnBy_2 i1 l2) i2_ σ))
    (W2_ : zz G mX4_turnBy 2 0 0 Q 56 [some (.ref 10), some (.ref (pO i1)), some (.int l2), none] [] (hh P (zfor (fX4_turnBy_2 i1 l2) n_ σ)) 0 0) :
    zz G mX4_turnBy 2 0 0 Q 2 [some (.ref 10), some (.ref (pO i1)), some (.int l2), some (.int (nI 0))] [] (hh P σ) 0 0 := by
  refine zfor_nI (fun i_ a_ => zz G mX4_turnBy 2 0 0 Q 2 [some (.ref 10), some (.ref (pO i1)), some (.int l2), some (.int i_)] [] (hh P a_) 0 0) (fX4_turnBy_2 i1 l2) n_ σ (fun i_ hi_ k_ => ?_) ?_
  · have W3_ := W1_ i_ hi_
    have hD_ := hC_ i_ (Nat.le_of_lt hi_)
    generalize zfor (fX4_turnBy_2 i1 l2) i_ σ = g_ at k_ W3_ hD_ ⊢
    rw [fX4_turnBy_2] at k_
    rw [qX4_turnBy_2] at W3_
    try dsimp only at W3_
    refine z_iload_n dX4_turnBy_2 rfl ?_
    refine z_aloadr_n dX4_turnBy_3 rfl ?_
    refine z_callV (ci := 7) (r := (RX7, TX7, 5)) (b := (pO i1)) (As := []) (rest := [.int (nI i_)]) (ctX7_size P g_ i1 h1) dX4_turnBy_4 lk_X4_157 lv_X7_size (z3O i1) (zNO h1) (SH_pO P i1) rfl rfl rfl (Nat.le_of_ble_eq_true rfl) (Nat.le_of_ble_eq_true rfl) (Nat.le_of_ble_eq_true rfl) (Nat.le_of_ble_eq_true rfl) (fun r_ h_ e_ => ?_)
    obtain ⟨e1_, e2_⟩ := e_
    subst e1_
    subst e2_
    show zz G mX4_turnBy 2 0 0 Q 7 [some (.ref 10), some (.ref (pO i1)), some (.int l2), some (.int (nI i_))] [.int (rX7_size P i1), .int (nI i_)] (hh P g_) 0 0
    refine z_icmp_ge (tgt := 56) dX4_turnBy_7 (by decide) (fun c_ => absurd c_ (fun q_ => Nat.not_le_of_lt hi_ (hD_.mp q_))) (fun c_ => ?_)
    refine z_aloadr_n dX4_turnBy_10 rfl ?_
    refine z_get (ci := 4) (r := (RX4, TX4, 10)) (j := 4) (v := .ref 19) dX4_turnBy_11 (Nat.le_of_ble_eq_true rfl) (zN rfl) rfl rfl (Nat.le_of_ble_eq_true rfl) fl_X4_33 rfl ?_
    refine z_iload_n dX4_turnBy_14 rfl ?_
    refine z_aloadr_n dX4_turnBy_15 rfl ?_
    refine z_iload_n dX4_turnBy_16 rfl ?_
    refine z_callV (ci := 7) (r := (RX7, TX7, 5)) (b := (pO i1)) (As := [.int (nI i_)]) (rest := [.int (nI i_), .ref 19]) (ctX7_columnOf P g_ i1 h1 (nI i_) W3_.1) dX4_turnBy_17 lk_X4_160 lv_X7_columnOf (z3O i1) (zNO h1) (SH_pO P i1) rfl rfl rfl (Nat.le_of_ble_eq_true rfl) (Nat.le_of_ble_eq_true rfl) (Nat.le_of_ble_eq_true rfl) (Nat.le_of_ble_eq_true rfl) (fun r_ h_ e_ => ?_)
    obtain ⟨e1_, e2_⟩ := e_
    subst e1_
    subst e2_
    show zz G mX4_turnBy 2 0 0 Q 20 [some (.ref 10), some (.ref (pO i1)), some (.int l2), some (.int (nI i_))] [.int (rX7_columnOf g_ i1 (nI i_)), .int (nI i_), .ref 19] (hh P g_) 0 0
    refine z_aloadr_n dX4_turnBy_20 rfl ?_
    refine z_iload_n dX4_turnBy_21 rfl ?_
    refine z_callV (ci := 7) (r := (RX7, TX7, 5)) (b := (pO i1)) (As := [.int (nI i_)]) (rest := [.int (rX7_columnOf g_ i1 (nI i_)), .int (nI i_), .ref 19]) (ctX7_rowOf P g_ i1 h1 (nI i_) W3_.2.1) dX4_turnBy_22 lk_X4_163 lv_X7_rowOf (z3O i1) (zNO h1) (SH_pO P i1) rfl rfl rfl (Nat.le_of_ble_eq_true rfl) (Nat.le_of_ble_eq_true rfl) (Nat.le_of_ble_eq_true rfl) (Nat.le_of_ble_eq_true rfl) (fun r_ h_ e_ => ?_)
    obtain ⟨e1_, e2_⟩ := e_
    subst e1_
    subst e2_
    show zz G mX4_turnBy 2 0 0 Q 25 [some (.ref 10), some (.ref (pO i1)), some (.int l2), some (.int (nI i_))] [.int (rX7_rowOf g_ i1 (nI i_)), .int (rX7_columnOf g_ i1 (nI i_)), .int (nI i_), .ref 19] (hh P g_) 0 0
    refine z_iload_n dX4_turnBy_25 rfl ?_
    refine z_callS (As := [.int (rX7_columnOf g_ i1 (nI i_)), .int (rX7_rowOf g_ i1 (nI i_)), .int l2]) (rest := [.int (nI i_), .ref 19]) (ctX6_turnedColumn P g_ (rX7_columnOf g_ i1 (nI i_)) (rX7_rowOf g_ i1 (nI i_)) l2) dX4_turnBy_26 lk_X4_166 ls_X6_turnedColumn rfl (Nat.le_of_ble_eq_true rfl) (Nat.le_of_ble_eq_true rfl) (Nat.le_of_ble_eq_true rfl) (Nat.le_of_ble_eq_true rfl) (fun r_ h_ e_ => ?_)
    obtain ⟨e1_, e2_⟩ := e_
    subst e1_
    subst e2_
    show zz G mX4_turnBy 2 0 0 Q 29 [some (.ref 10), some (.ref (pO i1)), some (.int l2), some (.int (nI i_))] [.int (rX6_turnedColumn (rX7_columnOf g_ i1 (nI i_)) (rX7_rowOf g_ i1 (nI i_)) l2), .int (nI i_), .ref 19] (hh P g_) 0 0
    refine z_iast (σ' := (zu g_ 19 (zu (g_ 19) (nI i_).toNatClampNeg (rX6_turnedColumn (rX7_columnOf g_ i1 (nI i_)) (rX7_rowOf g_ i1 (nI i_)) l2)))) dX4_turnBy_29 (Nat.le_of_ble_eq_true rfl) (zN rfl) rfl W3_.2.2.1 rfl ?_
    refine z_aloadr_n dX4_turnBy_30 rfl ?_
    refine z_get (ci := 4) (r := (RX4, TX4, 10)) (j := 5) (v := .ref 20) dX4_turnBy_31 (Nat.le_of_ble_eq_true rfl) (zN rfl) rfl rfl (Nat.le_of_ble_eq_true rfl) fl_X4_36 rfl ?_
    refine z_iload_n dX4_turnBy_34 rfl ?_
    refine z_aloadr_n dX4_turnBy_35 rfl ?_
    refine z_iload_n dX4_turnBy_36 rfl ?_
    refine z_callV (ci := 7) (r := (RX7, TX7, 5)) (b := (pO i1)) (As := [.int (nI i_)]) (rest := [.int (nI i_), .ref 20]) (ctX7_columnOf P (zu g_ 19 (zu (g_ 19) (nI i_).toNatClampNeg (rX6_turnedColumn (rX7_columnOf g_ i1 (nI i_)) (rX7_rowOf g_ i1 (nI i_)) l2))) i1 h1 (nI i_) W3_.2.2.2.1) dX4_turnBy_37 lk_X4_160 lv_X7_columnOf (z3O i1) (zNO h1) (SH_pO P i1) rfl rfl rfl (Nat.le_of_ble_eq_true rfl) (Nat.le_of_ble_eq_true rfl) (Nat.le_of_ble_eq_true rfl) (Nat.le_of_ble_eq_true rfl) (fun r_ h_ e_ => ?_)
    obtain ⟨e1_, e2_⟩ := e_
    subst e1_
    subst e2_
    show zz G mX4_turnBy 2 0 0 Q 40 [some (.ref 10), some (.ref (pO i1)), some (.int l2), some (.int (nI i_))] [.int (rX7_columnOf (zu g_ 19 (zu (g_ 19) (nI i_).toNatClampNeg (rX6_turnedColumn (rX7_columnOf g_ i1 (nI i_)) (rX7_rowOf g_ i1 (nI i_)) l2))) i1 (nI i_)), .int (nI i_), .ref 20] (hh P (zu g_ 19 (zu (g_ 19) (nI i_).toNatClampNeg (rX6_turnedColumn (rX7_columnOf g_ i1 (nI i_)) (rX7_rowOf g_ i1 (nI i_)) l2)))) 0 0
    refine z_aloadr_n dX4_turnBy_40 rfl ?_
    refine z_iload_n dX4_turnBy_41 rfl ?_
    refine z_callV (ci := 7) (r := (RX7, TX7, 5)) (b := (pO i1)) (As := [.int (nI i_)]) (rest := [.int (rX7_columnOf (zu g_ 19 (zu (g_ 19) (nI i_).toNatClampNeg (rX6_turnedColumn (rX7_columnOf g_ i1 (nI i_)) (rX7_rowOf g_ i1 (nI i_)) l2))) i1 (nI i_)), .int (nI i_), .ref 20]) (ctX7_rowOf P (zu g_ 19 (zu (g_ 19) (nI i_).toNatClampNeg (rX6_turnedColumn (rX7_columnOf g_ i1 (nI i_)) (rX7_rowOf g_ i1 (nI i_)) l2))) i1 h1 (nI i_) W3_.2.2.2.2.1) dX4_turnBy_42 lk_X4_163 lv_X7_rowOf (z3O i1) (zNO h1) (SH_pO P i1) rfl rfl rfl (Nat.le_of_ble_eq_true rfl) (Nat.le_of_ble_eq_true rfl) (Nat.le_of_ble_eq_true rfl) (Nat.le_of_ble_eq_true rfl) (fun r_ h_ e_ => ?_)
    obtain ⟨e1_, e2_⟩ := e_
    subst e1_
    subst e2_
    show zz G mX4_turnBy 2 0 0 Q 45 [some (.ref 10), some (.ref (pO i1)), some (.int l2), some (.int (nI i_))] [.int (rX7_rowOf (zu g_ 19 (zu (g_ 19) (nI i_).toNatClampNeg (rX6_turnedColumn (rX7_columnOf g_ i1 (nI i_)) (rX7_rowOf g_ i1 (nI i_)) l2))) i1 (nI i_)), .int (rX7_columnOf (zu g_ 19 (zu (g_ 19) (nI i_).toNatClampNeg (rX6_turnedColumn (rX7_columnOf g_ i1 (nI i_)) (rX7_rowOf g_ i1 (nI i_)) l2))) i1 (nI i_)), .int (nI i_), .ref 20] (hh P (zu g_ 19 (zu (g_ 19) (nI i_).toNatClampNeg (rX6_turnedColumn (rX7_columnOf g_ i1 (nI i_)) (rX7_rowOf g_ i1 (nI i_)) l2)))) 0 0
    refine z_iload_n dX4_turnBy_45 rfl ?_
    refine z_callS (As := [.int (rX7_columnOf (zu g_ 19 (zu (g_ 19) (nI i_).toNatClampNeg (rX6_turnedColumn (rX7_columnOf g_ i1 (nI i_)) (rX7_rowOf g_ i1 (nI i_)) l2))) i1 (nI i_)), .int (rX7_rowOf (zu g_ 19 (zu (g_ 19) (nI i_).toNatClampNeg (rX6_turnedColumn (rX7_columnOf g_ i1 (nI i_)) (rX7_rowOf g_ i1 (nI i_)) l2))) i1 (nI i_)), .int l2]) (rest := [.int (nI i_), .ref 20]) (ctX6_turnedRow P (zu g_ 19 (zu (g_ 19) (nI i_).toNatClampNeg (rX6_turnedColumn (rX7_columnOf g_ i1 (nI i_)) (rX7_rowOf g_ i1 (nI i_)) l2))) (rX7_columnOf (zu g_ 19 (zu (g_ 19) (nI i_).toNatClampNeg (rX6_turnedColumn (rX7_columnOf g_ i1 (nI i_)) (rX7_rowOf g_ i1 (nI i_)) l2))) i1 (nI i_)) (rX7_rowOf (zu g_ 19 (zu (g_ 19) (nI i_).toNatClampNeg (rX6_turnedColumn (rX7_columnOf g_ i1 (nI i_)) (rX7_rowOf g_ i1 (nI i_)) l2))) i1 (nI i_)) l2) dX4_turnBy_46 lk_X4_170 ls_X6_turnedRow rfl (Nat.le_of_ble_eq_true rfl) (Nat.le_of_ble_eq_true rfl) (Nat.le_of_ble_eq_true rfl) (Nat.le_of_ble_eq_true rfl) (fun r_ h_ e_ => ?_)
    obtain ⟨e1_, e2_⟩ := e_
    subst e1_
    subst e2_
    show zz G mX4_turnBy 2 0 0 Q 49 [some (.ref 10), some (.ref (pO i1)), some (.int l2), some (.int (nI i_))] [.int (rX6_turnedRow (rX7_columnOf (zu g_ 19 (zu (g_ 19) (nI i_).toNatClampNeg (rX6_turnedColumn (rX7_columnOf g_ i1 (nI i_)) (rX7_rowOf g_ i1 (nI i_)) l2))) i1 (nI i_)) (rX7_rowOf (zu g_ 19 (zu (g_ 19) (nI i_).toNatClampNeg (rX6_turnedColumn (rX7_columnOf g_ i1 (nI i_)) (rX7_rowOf g_ i1 (nI i_)) l2))) i1 (nI i_)) l2), .int (nI i_), .ref 20] (hh P (zu g_ 19 (zu (g_ 19) (nI i_).toNatClampNeg (rX6_turnedColumn (rX7_columnOf g_ i1 (nI i_)) (rX7_rowOf g_ i1 (nI i_)) l2)))) 0 0
    refine z_iast (σ' := (zu (zu g_ 19 (zu (g_ 19) (nI i_).toNatClampNeg (rX6_turnedColumn (rX7_columnOf g_ i1 (nI i_)) (rX7_rowOf g_ i1 (nI i_)) l2))) 20 (zu (g_ 20) (nI i_).toNatClampNeg (rX6_turnedRow (rX7_columnOf (zu g_ 19 (zu (g_ 19) (nI i_).toNatClampNeg (rX6_turnedColumn (rX7_columnOf g_ i1 (nI i_)) (rX7_rowOf g_ i1 (nI i_)) l2))) i1 (nI i_)) (rX7_rowOf (zu g_ 19 (zu (g_ 19) (nI i_).toNatClampNeg (rX6_turnedColumn (rX7_columnOf g_ i1 (nI i_)) (rX7_rowOf g_ i1 (nI i_)) l2))) i1 (nI i_)) l2)))) dX4_turnBy_49 (Nat.le_of_ble_eq_true rfl) (zN rfl) rfl W3_.2.2.2.2.2 (congrArg (fun g_ => zu _ _ (zu g_ _ _)) (zu_ne _ _ (by decide))) ?_
    refine z_iinc (v := ((nI i_) + (1 : Int32))) (lv' := [some (.ref 10), some (.ref (pO i1)), some (.int l2), some (.int ((nI i_) + (1 : Int32)))]) dX4_turnBy_50 (Nat.le_of_ble_eq_true rfl) rfl (by rw [k_iconst_1]) rfl ?_
    refine z_goto (tgt := 2) dX4_turnBy_53 (by decide) ?_
    rw [nI_1]
    exact k_
  · have hD_ := hC_ n_ (Nat.le_refl _)
    generalize zfor (fX4_turnBy_2 i1 l2) n_ σ = g_ at W2_ hD_ ⊢
    refine z_iload_n dX4_turnBy_2 rfl ?_
    refine z_aloadr_n dX4_turnBy_3 rfl ?_
    refine z_callV (ci := 7) (r := (RX7, TX7, 5)) (b := (pO i1)) (As := []) (rest := [.int (nI n_)]) (ctX7_size P g_ i1 h1) dX4_turnBy_4 lk_X4_157 lv_X7_size (z3O i1) (zNO h1) (SH_pO P i1) rfl rfl rfl (Nat.le_of_ble_eq_true rfl) (Nat.le_of_ble_eq_true rfl) (Nat.le_of_ble_eq_true rfl) (Nat.le_of_ble_eq_true rfl) (fun r_ h_ e_ => ?_)
    obtain ⟨e1_, e2_⟩ := e_
    subst e1_
    subst e2_
    show zz G mX4_turnBy 2 0 0 Q 7 [some (.ref 10), some (.ref (pO i1)), some (.int l2), some (.int (nI n_))] [.int (rX7_size P i1), .int (nI n_)] (hh P g_) 0 0
    refine z_icmp_ge (tgt := 56) dX4_turnBy_7 (by decide) (fun c_ => ?_) (fun c_ => absurd (hD_.mpr (Nat.le_refl _)) c_)
    exact zz_sub (lv' := [some (.ref 10), some (.ref (pO i1)), some (.int l2), none]) ⟨rfl, ⟨rfl, ⟨rfl, trivial⟩⟩⟩ W2_

theorem dX4_turnBy_0 : decode cX4_turnBy 0 = .ok (.iconst 0, 1) := by decide +kernel
theorem dX4_turnBy_1 : decode cX4_turnBy 1 = .ok (.istore_n 3, 1) := by decide +kernel
theorem dX4_turnBy_68 : decode cX4_turnBy 68 = .ok (.return_, 1) := by decide +kernel
def pX4_turnBy (P : zp) (σ : zc_N) (i1 : Nat) (a2 : Int32) : Prop := ((∀ i2_ : Nat, i2_ ≤ (((rX7_size P i1)).toNatClampNeg) → ((rX7_size P i1) ≤ (nI i2_) ↔ (((rX7_size P i1)).toNatClampNeg) ≤ i2_)) ∧ (∀ i2_ : Nat, i2_ < (((rX7_size P i1)).toNatClampNeg) → qX4_turnBy_2 P i1 i2_ (zfor (fX4_turnBy_2 i1 a2) i2_ σ)))
noncomputable def sX4_turnBy (P : zp) (σ : zc_N) (i1 : Nat) (a2 : Int32) : zc_N := (sX6_becomeTurned (zfor (fX4_turnBy_2 i1 a2) (((rX7_size P i1)).toNatClampNeg) σ) i1 a2)
set_option maxHeartbeats 1000000 in
theorem ctX4_turnBy (P : zp) (σ : zc_N) (i1 : Nat) (h1 : i1 < P.2.1) (a2 : Int32) (W_ : (pX4_turnBy P σ i1 a2)) : sp mX4_turnBy 2 0 0 [.ref 10, .ref (pO i1), .int a2] (hh P σ) (fun r_ h_ => r_ = none ∧ h_ = hh P (sX4_turnBy P σ i1 a2)) := by
  refine sp_of (lv := [some (.ref 10), some (.ref (pO i1)), some (.int a2), none]) (by decide) (zcats_ok _ rfl) (Nat.le_of_ble_eq_true rfl) (zlv_ok _ 1 rfl) (fun G => ?_)
  generalize hQ_ : (fun (r_ : Option Value) (h_ : zc_H) => r_ = none ∧ h_ = hh P (sX4_turnBy P σ i1 a2)) = Q_
  unfold pX4_turnBy at W_
  refine z_iconst dX4_turnBy_0 k_iconst_0 ?_
  refine z_istore_n (lv' := [some (.ref 10), some (.ref (pO i1)), some (.int a2), some (.int (0 : Int32))]) dX4_turnBy_1 (Nat.le_of_ble_eq_true rfl) rfl ?_
  refine lpX4_turnBy_2 P σ i1 h1 a2 (((rX7_size P i1)).toNatClampNeg) W_.1 W_.2 ?_
  show zz G mX4_turnBy 2 0 0 Q_ 56 [some (.ref 10), some (.ref (pO i1)), some (.int a2), none] [] (hh P (zfor (fX4_turnBy_2 i1 a2) (((rX7_size P i1)).toNatClampNeg) σ)) 0 0
  refine z_aloadr_n dX4_turnBy_56 rfl ?_
  refine z_get (ci := 4) (r := (RX4, TX4, 10)) (j := 6) (v := .ref 21) dX4_turnBy_57 (Nat.le_of_ble_eq_true rfl) (zN rfl) rfl rfl (Nat.le_of_ble_eq_true rfl) fl_X4_44 rfl ?_
  refine z_aloadr_n dX4_turnBy_60 rfl ?_
  refine z_get (ci := 7) (r := (RX7, TX7, 5)) (j := 2) (v := .ref (pT i1)) dX4_turnBy_61 (z3O i1) (zNO h1) (SH_pO P i1) rfl (Nat.le_of_ble_eq_true rfl) fl_X4_173 rfl ?_
  refine z_iload_n dX4_turnBy_64 rfl ?_
  refine z_callV (ci := 6) (r := (RX6, TX6, 4)) (b := 21) (As := [.ref (pT i1), .int a2]) (rest := []) (ctX6_becomeTurned P (zfor (fX4_turnBy_2 i1 a2) (((rX7_size P i1)).toNatClampNeg) σ) i1 h1 a2) dX4_turnBy_65 lk_X4_176 lv_X6_becomeTurned (Nat.le_of_ble_eq_true rfl) (zN rfl) rfl rfl rfl rfl (Nat.le_of_ble_eq_true rfl) (Nat.le_of_ble_eq_true rfl) (Nat.le_of_ble_eq_true rfl) (Nat.le_of_ble_eq_true rfl) (fun r_ h_ e_ => ?_)
  obtain ⟨e1_, e2_⟩ := e_
  subst e1_
  subst e2_
  show zz G mX4_turnBy 2 0 0 Q_ 68 [some (.ref 10), some (.ref (pO i1)), some (.int a2), none] [] (hh P (sX6_becomeTurned (zfor (fX4_turnBy_2 i1 a2) (((rX7_size P i1)).toNatClampNeg) σ) i1 a2)) 0 0
  exact z_return dX4_turnBy_68 rfl (Nat.le_of_ble_eq_true rfl) (Nat.le_of_ble_eq_true rfl) (by rw [← hQ_]; exact ⟨rfl, (by rw [sX4_turnBy])⟩)

theorem dX4_markLandings_21 : decode cX4_markLandings 21 = .ok (.iload 4, 2) := by decide +kernel
theorem dX4_markLandings_23 : decode cX4_markLandings 23 = .ok (.aload_n 2, 1) := by decide +kernel
theorem dX4_markLandings_24 : decode cX4_markLandings 24 = .ok (.invokevirtual 157, 3) := by decide +kernel
theorem dX4_markLandings_27 : decode cX4_markLandings 27 = .ok (.if_icmp .ge 77, 3) := by decide +kernel
theorem dX4_markLandings_30 : decode cX4_markLandings 30 = .ok (.aload_n 1, 1) := by decide +kernel
theorem dX4_markLandings_31 : decode cX4_markLandings 31 = .ok (.iload_n 3, 1) := by decide +kernel
theorem dX4_markLandings_32 : decode cX4_markLandings 32 = .ok (.invokevirtual 186, 3) := by decide +kernel
theorem dX4_markLandings_35 : decode cX4_markLandings 35 = .ok (.aload_n 2, 1) := by decide +kernel
theorem dX4_markLandings_36 : decode cX4_markLandings 36 = .ok (.iload 4, 2) := by decide +kernel
theorem dX4_markLandings_38 : decode cX4_markLandings 38 = .ok (.invokevirtual 186, 3) := by decide +kernel
theorem dX4_markLandings_41 : decode cX4_markLandings 41 = .ok (.if_icmp .ne 57, 3) := by decide +kernel
theorem dX4_markLandings_44 : decode cX4_markLandings 44 = .ok (.aload_n 2, 1) := by decide +kernel
theorem dX4_markLandings_45 : decode cX4_markLandings 45 = .ok (.iload 4, 2) := by decide +kernel
theorem dX4_markLandings_47 : decode cX4_markLandings 47 = .ok (.invokevirtual 160, 3) := by decide +kernel
theorem dX4_markLandings_50 : decode cX4_markLandings 50 = .ok (.aload_n 0, 1) := by decide +kernel
theorem dX4_markLandings_51 : decode cX4_markLandings 51 = .ok (.getfield 33, 3) := by decide +kernel
theorem dX4_markLandings_54 : decode cX4_markLandings 54 = .ok (.iload_n 3, 1) := by decide +kernel
theorem dX4_markLandings_55 : decode cX4_markLandings 55 = .ok (.iaload, 1) := by decide +kernel
theorem dX4_markLandings_56 : decode cX4_markLandings 56 = .ok (.isub, 1) := by decide +kernel
theorem dX4_markLandings_57 : decode cX4_markLandings 57 = .ok (.istore 5, 2) := by decide +kernel
theorem dX4_markLandings_59 : decode cX4_markLandings 59 = .ok (.aload_n 2, 1) := by decide +kernel
theorem dX4_markLandings_60 : decode cX4_markLandings 60 = .ok (.iload 4, 2) := by decide +kernel
theorem dX4_markLandings_62 : decode cX4_markLandings 62 = .ok (.invokevirtual 163, 3) := by decide +kernel
theorem dX4_markLandings_65 : decode cX4_markLandings 65 = .ok (.aload_n 0, 1) := by decide +kernel
theorem dX4_markLandings_66 : decode cX4_markLandings 66 = .ok (.getfield 36, 3) := by decide +kernel
theorem dX4_markLandings_69 : decode cX4_markLandings 69 = .ok (.iload_n 3, 1) := by decide +kernel
theorem dX4_markLandings_70 : decode cX4_markLandings 70 = .ok (.iaload, 1) := by decide +kernel
theorem dX4_markLandings_71 : decode cX4_markLandings 71 = .ok (.isub, 1) := by decide +kernel
theorem dX4_markLandings_72 : decode cX4_markLandings 72 = .ok (.istore 6, 2) := by decide +kernel
theorem dX4_markLandings_74 : decode cX4_markLandings 74 = .ok (.aload_n 0, 1) := by decide +kernel
theorem dX4_markLandings_75 : decode cX4_markLandings 75 = .ok (.getfield 48, 3) := by decide +kernel
theorem dX4_markLandings_78 : decode cX4_markLandings 78 = .ok (.iload 6, 2) := by decide +kernel
theorem dX4_markLandings_80 : decode cX4_markLandings 80 = .ok (.bipush 16, 2) := by decide +kernel
theorem dX4_markLandings_82 : decode cX4_markLandings 82 = .ok (.iadd, 1) := by decide +kernel
theorem dX4_markLandings_83 : decode cX4_markLandings 83 = .ok (.iconst 1, 1) := by decide +kernel
theorem dX4_markLandings_84 : decode cX4_markLandings 84 = .ok (.isub, 1) := by decide +kernel
theorem dX4_markLandings_85 : decode cX4_markLandings 85 = .ok (.dup2, 1) := by decide +kernel
theorem dX4_markLandings_86 : decode cX4_markLandings 86 = .ok (.iaload, 1) := by decide +kernel
theorem dX4_markLandings_87 : decode cX4_markLandings 87 = .ok (.iconst 1, 1) := by decide +kernel
theorem dX4_markLandings_88 : decode cX4_markLandings 88 = .ok (.iload 5, 2) := by decide +kernel
theorem dX4_markLandings_90 : decode cX4_markLandings 90 = .ok (.bipush 16, 2) := by decide +kernel
theorem dX4_markLandings_92 : decode cX4_markLandings 92 = .ok (.iadd, 1) := by decide +kernel
theorem dX4_markLandings_93 : decode cX4_markLandings 93 = .ok (.iconst 1, 1) := by decide +kernel
theorem dX4_markLandings_94 : decode cX4_markLandings 94 = .ok (.isub, 1) := by decide +kernel
theorem dX4_markLandings_95 : decode cX4_markLandings 95 = .ok (.ishl, 1) := by decide +kernel
theorem dX4_markLandings_96 : decode cX4_markLandings 96 = .ok (.ior, 1) := by decide +kernel
theorem dX4_markLandings_97 : decode cX4_markLandings 97 = .ok (.iastore, 1) := by decide +kernel
theorem dX4_markLandings_98 : decode cX4_markLandings 98 = .ok (.iinc 4 1, 3) := by decide +kernel
theorem dX4_markLandings_101 : decode cX4_markLandings 101 = .ok (.goto (-80), 3) := by decide +kernel
theorem dX4_markLandings_104 : decode cX4_markLandings 104 = .ok (.iinc 3 1, 3) := by decide +kernel
theorem dX4_markLandings_107 : decode cX4_markLandings 107 = .ok (.goto (-97), 3) := by decide +kernel
noncomputable def fX4_markLandings_21 (i1 : Nat) (i2 : Nat) (l3 : Int32) (i_ : Nat) (a_ : zc_N) : zc_N := (if (rX7_kindOf a_ i1 l3) = (rX7_kindOf a_ i2 (nI i_)) then (zu a_ 22 (zu (a_ 22) ((((rX7_rowOf a_ i2 (nI i_)) - ((a_ 20) l3.toNatClampNeg)) + (16 : Int32)) - (1 : Int32)).toNatClampNeg (((a_ 22) ((((rX7_rowOf a_ i2 (nI i_)) - ((a_ 20) l3.toNatClampNeg)) + (16 : Int32)) - (1 : Int32)).toNatClampNeg) ||| (zshl (1 : Int32) ((((rX7_columnOf a_ i2 (nI i_)) - ((a_ 19) l3.toNatClampNeg)) + (16 : Int32)) - (1 : Int32)))))) else a_)
def qX4_markLandings_21 (P : zp) (i1 : Nat) (i2 : Nat) (l3 : Int32) (i_ : Nat) (a_ : zc_N) : Prop := ((pX7_kindOf P i1 l3) ∧ ((pX7_kindOf P i2 (nI i_)) ∧ (((rX7_kindOf a_ i1 l3) = (rX7_kindOf a_ i2 (nI i_)) → ((pX7_columnOf P i2 (nI i_)) ∧ (vp_in l3 12 ∧ ((pX7_rowOf P i2 (nI i_)) ∧ (vp_in l3 12 ∧ (vp_in ((((rX7_rowOf a_ i2 (nI i_)) - ((a_ 20) l3.toNatClampNeg)) + (16 : Int32)) - (1 : Int32)) 31 ∧ vp_in ((((rX7_rowOf a_ i2 (nI i_)) - ((a_ 20) l3.toNatClampNeg)) + (16 : Int32)) - (1 : Int32)) 31)))))) ∧ (¬ (rX7_kindOf a_ i1 l3) = (rX7_kindOf a_ i2 (nI i_)) → True))))
set_option maxHeartbeats 2000000 in
theorem lpX4_markLandings_21 {G : zc_G} {Q : Option Value → zc_H → Prop} (P : zp) (σ : zc_N) (i1 : Nat) (h1 : i1 < P.2.1) (i2 : Nat) (h2 : i2 < P.2.1) (l3 : Int32) (n_ : Nat) (hC_ : ∀ i21_ : Nat, i21_ ≤ n_ → ((rX7_size P i2) ≤ (nI i21_) ↔ n_ ≤ i21_)) (W1_ : ∀ i21_ : Nat, i21_ < n_ → qX4_markLandings_21 P i1 i2 l3 i21_ (zfor (fX4_markLandings_21 i1 i2 l3) i21_ σ))
    (W2_ : zz G mX4_markLandings 1 0 0 Q 104 [some (.ref 10), some (.ref (pO i1)), some (.ref (pO i2)), some (.int l3), none, none, none] [] (hh P (zfor (fX4_markLandings_21 i1 i2 l3) n_ σ)) 0 0) :
    zz G mX4_markLandings 1 0 0 Q 21 [some (.ref 10), some (.ref (pO i1)), some (.ref (pO i2)), some (.int l3), some (.int (nI 0)), none, none] [] (hh P σ) 0 0 := by
  refine zfor_nI (fun i_ a_ => zz G mX4_markLandings 1 0 0 Q 21 [some (.ref 10), some (.ref (pO i1)), some (.ref (pO i2)), some (.int l3), some (.int i_), none, none] [] (hh P a_) 0 0) (fX4_markLandings_21 i1 i2 l3) n_ σ (fun i_ hi_ k_ => ?_) ?_
  · have W3_ := W1_ i_ hi_
    have hD_ := hC_ i_ (Nat.le_of_lt hi_)
    generalize zfor (fX4_markLandings_21 i1 i2 l3) i_ σ = g_ at k_ W3_ hD_ ⊢
    rw [fX4_markLandings_21] at k_
    rw [qX4_markLandings_21] at W3_
    try dsimp only at W3_
    refine z_iload dX4_markLandings_21 rfl ?_
    refine z_aloadr_n dX4_markLandings_23 rfl ?_
    refine z_callV (ci := 7) (r := (RX7, TX7, 5)) (b := (pO i2)) (As := []) (rest := [.int (nI i_)]) (ctX7_size P g_ i2 h2) dX4_markLandings_24 lk_X4_157 lv_X7_size (z3O i2) (zNO h2) (SH_pO P i2) rfl rfl rfl (Nat.le_of_ble_eq_true rfl) (Nat.le_of_ble_eq_true rfl) (Nat.le_of_ble_eq_true rfl) (Nat.le_of_ble_eq_true rfl) (fun r_ h_ e_ => ?_)
    obtain ⟨e1_, e2_⟩ := e_
    subst e1_
    subst e2_
    show zz G mX4_markLandings 1 0 0 Q 27 [some (.ref 10), some (.ref (pO i1)), some (.ref (pO i2)), some (.int l3), some (.int (nI i_)), none, none] [.int (rX7_size P i2), .int (nI i_)] (hh P g_) 0 0
    refine z_icmp_ge (tgt := 104) dX4_markLandings_27 (by decide) (fun c_ => absurd c_ (fun q_ => Nat.not_le_of_lt hi_ (hD_.mp q_))) (fun c_ => ?_)
    refine z_aloadr_n dX4_markLandings_30 rfl ?_
    refine z_iload_n dX4_markLandings_31 rfl ?_
    refine z_callV (ci := 7) (r := (RX7, TX7, 5)) (b := (pO i1)) (As := [.int l3]) (rest := []) (ctX7_kindOf P g_ i1 h1 l3 W3_.1) dX4_markLandings_32 lk_X4_186 lv_X7_kindOf (z3O i1) (zNO h1) (SH_pO P i1) rfl rfl rfl (Nat.le_of_ble_eq_true rfl) (Nat.le_of_ble_eq_true rfl) (Nat.le_of_ble_eq_true rfl) (Nat.le_of_ble_eq_true rfl) (fun r_ h_ e_ => ?_)
    obtain ⟨e1_, e2_⟩ := e_
    subst e1_
    subst e2_
    show zz G mX4_markLandings 1 0 0 Q 35 [some (.ref 10), some (.ref (pO i1)), some (.ref (pO i2)), some (.int l3), some (.int (nI i_)), none, none] [.int (rX7_kindOf g_ i1 l3)] (hh P g_) 0 0
    refine z_aloadr_n dX4_markLandings_35 rfl ?_
    refine z_iload dX4_markLandings_36 rfl ?_
    refine z_callV (ci := 7) (r := (RX7, TX7, 5)) (b := (pO i2)) (As := [.int (nI i_)]) (rest := [.int (rX7_kindOf g_ i1 l3)]) (ctX7_kindOf P g_ i2 h2 (nI i_) W3_.2.1) dX4_markLandings_38 lk_X4_186 lv_X7_kindOf (z3O i2) (zNO h2) (SH_pO P i2) rfl rfl rfl (Nat.le_of_ble_eq_true rfl) (Nat.le_of_ble_eq_true rfl) (Nat.le_of_ble_eq_true rfl) (Nat.le_of_ble_eq_true rfl) (fun r_ h_ e_ => ?_)
    obtain ⟨e1_, e2_⟩ := e_
    subst e1_
    subst e2_
    show zz G mX4_markLandings 1 0 0 Q 41 [some (.ref 10), some (.ref (pO i1)), some (.ref (pO i2)), some (.int l3), some (.int (nI i_)), none, none] [.int (rX7_kindOf g_ i2 (nI i_)), .int (rX7_kindOf g_ i1 l3)] (hh P g_) 0 0
    refine z_icmp_ne (tgt := 98) dX4_markLandings_41 (by decide) (fun c_2 => ?_) (fun c_2 => ?_)
    · refine z_iinc (v := ((nI i_) + (1 : Int32))) (lv' := [some (.ref 10), some (.ref (pO i1)), some (.ref (pO i2)), some (.int l3), some (.int ((nI i_) + (1 : Int32))), none, none]) dX4_markLandings_98 (Nat.le_of_ble_eq_true rfl) rfl (by rw [k_iconst_1]) rfl ?_
      refine z_goto (tgt := 21) dX4_markLandings_101 (by decide) ?_
      rw [nI_1]
      simpa only [if_neg c_2] using k_
    · refine z_aloadr_n dX4_markLandings_44 rfl ?_
      refine z_iload dX4_markLandings_45 rfl ?_
      refine z_callV (ci := 7) (r := (RX7, TX7, 5)) (b := (pO i2)) (As := [.int (nI i_)]) (rest := []) (ctX7_columnOf P g_ i2 h2 (nI i_) ((W3_.2.2.1 c_2).1)) dX4_markLandings_47 lk_X4_160 lv_X7_columnOf (z3O i2) (zNO h2) (SH_pO P i2) rfl rfl rfl (Nat.le_of_ble_eq_true rfl) (Nat.le_of_ble_eq_true rfl) (Nat.le_of_ble_eq_true rfl) (Nat.le_of_ble_eq_true rfl) (fun r_ h_ e_ => ?_)
      obtain ⟨e1_, e2_⟩ := e_
      subst e1_
      subst e2_
      show zz G mX4_markLandings 1 0 0 Q 50 [some (.ref 10), some (.ref (pO i1)), some (.ref (pO i2)), some (.int l3), some (.int (nI i_)), none, none] [.int (rX7_columnOf g_ i2 (nI i_))] (hh P g_) 0 0
      refine z_aloadr_n dX4_markLandings_50 rfl ?_
      refine z_get (ci := 4) (r := (RX4, TX4, 10)) (j := 4) (v := .ref 19) dX4_markLandings_51 (Nat.le_of_ble_eq_true rfl) (zN rfl) rfl rfl (Nat.le_of_ble_eq_true rfl) fl_X4_33 rfl ?_
      refine z_iload_n dX4_markLandings_54 rfl ?_
      refine z_iald (v := ((g_ 19) l3.toNatClampNeg)) dX4_markLandings_55 (zN rfl) rfl ((W3_.2.2.1 c_2).2.1) rfl ?_
      refine z_isub (v := ((rX7_columnOf g_ i2 (nI i_)) - ((g_ 19) l3.toNatClampNeg))) dX4_markLandings_56 rfl ?_
      refine z_istore (lv' := [some (.ref 10), some (.ref (pO i1)), some (.ref (pO i2)), some (.int l3), some (.int (nI i_)), some (.int ((rX7_columnOf g_ i2 (nI i_)) - ((g_ 19) l3.toNatClampNeg))), none]) dX4_markLandings_57 (Nat.le_of_ble_eq_true rfl) rfl ?_
      refine z_aloadr_n dX4_markLandings_59 rfl ?_
      refine z_iload dX4_markLandings_60 rfl ?_
      refine z_callV (ci := 7) (r := (RX7, TX7, 5)) (b := (pO i2)) (As := [.int (nI i_)]) (rest := []) (ctX7_rowOf P g_ i2 h2 (nI i_) ((W3_.2.2.1 c_2).2.2.1)) dX4_markLandings_62 lk_X4_163 lv_X7_rowOf (z3O i2) (zNO h2) (SH_pO P i2) rfl rfl rfl (Nat.le_of_ble_eq_true rfl) (Nat.le_of_ble_eq_true rfl) (Nat.le_of_ble_eq_true rfl) (Nat.le_of_ble_eq_true rfl) (fun r_ h_ e_ => ?_)
      obtain ⟨e1_, e2_⟩ := e_
      subst e1_
      subst e2_
      show zz G mX4_markLandings 1 0 0 Q 65 [some (.ref 10), some (.ref (pO i1)), some (.ref (pO i2)), some (.int l3), some (.int (nI i_)), some (.int ((rX7_columnOf g_ i2 (nI i_)) - ((g_ 19) l3.toNatClampNeg))), none] [.int (rX7_rowOf g_ i2 (nI i_))] (hh P g_) 0 0
      refine z_aloadr_n dX4_markLandings_65 rfl ?_
      refine z_get (ci := 4) (r := (RX4, TX4, 10)) (j := 5) (v := .ref 20) dX4_markLandings_66 (Nat.le_of_ble_eq_true rfl) (zN rfl) rfl rfl (Nat.le_of_ble_eq_true rfl) fl_X4_36 rfl ?_
      refine z_iload_n dX4_markLandings_69 rfl ?_
      refine z_iald (v := ((g_ 20) l3.toNatClampNeg)) dX4_markLandings_70 (zN rfl) rfl ((W3_.2.2.1 c_2).2.2.2.1) rfl ?_
      refine z_isub (v := ((rX7_rowOf g_ i2 (nI i_)) - ((g_ 20) l3.toNatClampNeg))) dX4_markLandings_71 rfl ?_
      refine z_istore (lv' := [some (.ref 10), some (.ref (pO i1)), some (.ref (pO i2)), some (.int l3), some (.int (nI i_)), some (.int ((rX7_columnOf g_ i2 (nI i_)) - ((g_ 19) l3.toNatClampNeg))), some (.int ((rX7_rowOf g_ i2 (nI i_)) - ((g_ 20) l3.toNatClampNeg)))]) dX4_markLandings_72 (Nat.le_of_ble_eq_true rfl) rfl ?_
      refine z_aloadr_n dX4_markLandings_74 rfl ?_
      refine z_get (ci := 4) (r := (RX4, TX4, 10)) (j := 7) (v := .ref 22) dX4_markLandings_75 (Nat.le_of_ble_eq_true rfl) (zN rfl) rfl rfl (Nat.le_of_ble_eq_true rfl) fl_X4_48 rfl ?_
      refine z_iload dX4_markLandings_78 rfl ?_
      refine z_bipush dX4_markLandings_80 k_bipush_16 ?_
      refine z_iadd (v := (((rX7_rowOf g_ i2 (nI i_)) - ((g_ 20) l3.toNatClampNeg)) + (16 : Int32))) dX4_markLandings_82 rfl ?_
      refine z_iconst dX4_markLandings_83 k_iconst_1 ?_
      refine z_isub (v := ((((rX7_rowOf g_ i2 (nI i_)) - ((g_ 20) l3.toNatClampNeg)) + (16 : Int32)) - (1 : Int32))) dX4_markLandings_84 rfl ?_
      refine z_dup2 dX4_markLandings_85 rfl rfl ?_
      refine z_iald (v := ((g_ 22) ((((rX7_rowOf g_ i2 (nI i_)) - ((g_ 20) l3.toNatClampNeg)) + (16 : Int32)) - (1 : Int32)).toNatClampNeg)) dX4_markLandings_86 (zN rfl) rfl ((W3_.2.2.1 c_2).2.2.2.2.1) rfl ?_
      refine z_iconst dX4_markLandings_87 k_iconst_1 ?_
      refine z_iload dX4_markLandings_88 rfl ?_
      refine z_bipush dX4_markLandings_90 k_bipush_16 ?_
      refine z_iadd (v := (((rX7_columnOf g_ i2 (nI i_)) - ((g_ 19) l3.toNatClampNeg)) + (16 : Int32))) dX4_markLandings_92 rfl ?_
      refine z_iconst dX4_markLandings_93 k_iconst_1 ?_
      refine z_isub (v := ((((rX7_columnOf g_ i2 (nI i_)) - ((g_ 19) l3.toNatClampNeg)) + (16 : Int32)) - (1 : Int32))) dX4_markLandings_94 rfl ?_
      refine z_ishl (v := (zshl (1 : Int32) ((((rX7_columnOf g_ i2 (nI i_)) - ((g_ 19) l3.toNatClampNeg)) + (16 : Int32)) - (1 : Int32)))) dX4_markLandings_95 rfl ?_
      refine z_ior (v := (((g_ 22) ((((rX7_rowOf g_ i2 (nI i_)) - ((g_ 20) l3.toNatClampNeg)) + (16 : Int32)) - (1 : Int32)).toNatClampNeg) ||| (zshl (1 : Int32) ((((rX7_columnOf g_ i2 (nI i_)) - ((g_ 19) l3.toNatClampNeg)) + (16 : Int32)) - (1 : Int32))))) dX4_markLandings_96 rfl ?_
      refine z_iast (σ' := (zu g_ 22 (zu (g_ 22) ((((rX7_rowOf g_ i2 (nI i_)) - ((g_ 20) l3.toNatClampNeg)) + (16 : Int32)) - (1 : Int32)).toNatClampNeg (((g_ 22) ((((rX7_rowOf g_ i2 (nI i_)) - ((g_ 20) l3.toNatClampNeg)) + (16 : Int32)) - (1 : Int32)).toNatClampNeg) ||| (zshl (1 : Int32) ((((rX7_columnOf g_ i2 (nI i_)) - ((g_ 19) l3.toNatClampNeg)) + (16 : Int32)) - (1 : Int32))))))) dX4_markLandings_97 (Nat.le_of_ble_eq_true rfl) (zN rfl) rfl ((W3_.2.2.1 c_2).2.2.2.2.2) rfl ?_
      refine z_iinc (v := ((nI i_) + (1 : Int32))) (lv' := [some (.ref 10), some (.ref (pO i1)), some (.ref (pO i2)), some (.int l3), some (.int ((nI i_) + (1 : Int32))), some (.int ((rX7_columnOf g_ i2 (nI i_)) - ((g_ 19) l3.toNatClampNeg))), some (.int ((rX7_rowOf g_ i2 (nI i_)) - ((g_ 20) l3.toNatClampNeg)))]) dX4_markLandings_98 (Nat.le_of_ble_eq_true rfl) rfl (by rw [k_iconst_1]) rfl ?_
      refine z_goto (tgt := 21) dX4_markLandings_101 (by decide) ?_
      refine zz_sub (lv' := [some (.ref 10), some (.ref (pO i1)), some (.ref (pO i2)), some (.int l3), some (.int ((nI i_) + (1 : Int32))), none, none]) ⟨rfl, ⟨rfl, ⟨rfl, ⟨rfl, ⟨rfl, trivial⟩⟩⟩⟩⟩ ?_
      rw [nI_1]
      simpa only [if_pos c_2] using k_
  · have hD_ := hC_ n_ (Nat.le_refl _)
    generalize zfor (fX4_markLandings_21 i1 i2 l3) n_ σ = g_ at W2_ hD_ ⊢
    refine z_iload dX4_markLandings_21 rfl ?_
    refine z_aloadr_n dX4_markLandings_23 rfl ?_
    refine z_callV (ci := 7) (r := (RX7, TX7, 5)) (b := (pO i2)) (As := []) (rest := [.int (nI n_)]) (ctX7_size P g_ i2 h2) dX4_markLandings_24 lk_X4_157 lv_X7_size (z3O i2) (zNO h2) (SH_pO P i2) rfl rfl rfl (Nat.le_of_ble_eq_true rfl) (Nat.le_of_ble_eq_true rfl) (Nat.le_of_ble_eq_true rfl) (Nat.le_of_ble_eq_true rfl) (fun r_ h_ e_ => ?_)
    obtain ⟨e1_, e2_⟩ := e_
    subst e1_
    subst e2_
    show zz G mX4_markLandings 1 0 0 Q 27 [some (.ref 10), some (.ref (pO i1)), some (.ref (pO i2)), some (.int l3), some (.int (nI n_)), none, none] [.int (rX7_size P i2), .int (nI n_)] (hh P g_) 0 0
    refine z_icmp_ge (tgt := 104) dX4_markLandings_27 (by decide) (fun c_ => ?_) (fun c_ => absurd (hD_.mpr (Nat.le_refl _)) c_)
    exact zz_sub (lv' := [some (.ref 10), some (.ref (pO i1)), some (.ref (pO i2)), some (.int l3), none, none, none]) ⟨rfl, ⟨rfl, ⟨rfl, ⟨rfl, trivial⟩⟩⟩⟩ W2_

theorem dX4_markLandings_10 : decode cX4_markLandings 10 = .ok (.iload_n 3, 1) := by decide +kernel
theorem dX4_markLandings_11 : decode cX4_markLandings 11 = .ok (.aload_n 1, 1) := by decide +kernel
theorem dX4_markLandings_12 : decode cX4_markLandings 12 = .ok (.invokevirtual 157, 3) := by decide +kernel
theorem dX4_markLandings_15 : decode cX4_markLandings 15 = .ok (.if_icmp .ge 95, 3) := by decide +kernel
theorem dX4_markLandings_18 : decode cX4_markLandings 18 = .ok (.iconst 0, 1) := by decide +kernel
theorem dX4_markLandings_19 : decode cX4_markLandings 19 = .ok (.istore 4, 2) := by decide +kernel
noncomputable def fX4_markLandings_10 (P : zp) (i1 : Nat) (i2 : Nat) (i_ : Nat) (a_ : zc_N) : zc_N := (zfor (fX4_markLandings_21 i1 i2 (nI i_)) (((rX7_size P i2)).toNatClampNeg) a_)
def qX4_markLandings_10 (P : zp) (i1 : Nat) (i2 : Nat) (i_ : Nat) (a_ : zc_N) : Prop := ((∀ i21_ : Nat, i21_ ≤ (((rX7_size P i2)).toNatClampNeg) → ((rX7_size P i2) ≤ (nI i21_) ↔ (((rX7_size P i2)).toNatClampNeg) ≤ i21_)) ∧ (∀ i21_ : Nat, i21_ < (((rX7_size P i2)).toNatClampNeg) → qX4_markLandings_21 P i1 i2 (nI i_) i21_ (zfor (fX4_markLandings_21 i1 i2 (nI i_)) i21_ a_)))
set_option maxHeartbeats 2000000 in
theorem lpX4_markLandings_10 {G : zc_G} {Q : Option Value → zc_H → Prop} (P : zp) (σ : zc_N) (i1 : Nat) (h1 : i1 < P.2.1) (i2 : Nat) (h2 : i2 < P.2.1) (n_ : Nat) (hC_ : ∀ i10_ : Nat, i10_ ≤ n_ → ((rX7_size P i1) ≤ (nI i10_) ↔ n_ ≤ i10_)) (W1_ : ∀ i10_ : Nat, i10_ < n_ → qX4_markLandings_10 P i1 i2 i10_ (zfor (fX4_markLandings_10 P i1 i2) i10_ σ))
    (W2_ : zz G mX4_markLandings 1 0 0 Q 110 [none, none, none, none, none, none, none] [] (hh P (zfor (fX4_markLandings_10 P i1 i2) n_ σ)) 0 0) :
    zz G mX4_markLandings 1 0 0 Q 10 [some (.ref 10), some (.ref (pO i1)), some (.ref (pO i2)), some (.int (nI 0)), none, none, none] [] (hh P σ) 0 0 := by
  refine zfor_nI (fun i_ a_ => zz G mX4_markLandings 1 0 0 Q 10 [some (.ref 10), some (.ref (pO i1)), some (.ref (pO i2)), some (.int i_), none, none, none] [] (hh P a_) 0 0) (fX4_markLandings_10 P i1 i2) n_ σ (fun i_ hi_ k_ => ?_) ?_
  · have W3_ := W1_ i_ hi_
    have hD_ := hC_ i_ (Nat.le_of_lt hi_)
    generalize zfor (fX4_markLandings_10 P i1 i2) i_ σ = g_ at k_ W3_ hD_ ⊢
    rw [fX4_markLandings_10] at k_
    rw [qX4_markLandings_10] at W3_
    try dsimp only at W3_
    refine z_iload_n dX4_markLandings_10 rfl ?_
    refine z_aloadr_n dX4_markLandings_11 rfl ?_
    refine z_callV (ci := 7) (r := (RX7, TX7, 5)) (b := (pO i1)) (As := []) (rest := [.int (nI i_)]) (ctX7_size P g_ i1 h1) dX4_markLandings_12 lk_X4_157 lv_X7_size (z3O i1) (zNO h1) (SH_pO P i1) rfl rfl rfl (Nat.le_of_ble_eq_true rfl) (Nat.le_of_ble_eq_true rfl) (Nat.le_of_ble_eq_true rfl) (Nat.le_of_ble_eq_true rfl) (fun r_ h_ e_ => ?_)
    obtain ⟨e1_, e2_⟩ := e_
    subst e1_
    subst e2_
    show zz G mX4_markLandings 1 0 0 Q 15 [some (.ref 10), some (.ref (pO i1)), some (.ref (pO i2)), some (.int (nI i_)), none, none, none] [.int (rX7_size P i1), .int (nI i_)] (hh P g_) 0 0
    refine z_icmp_ge (tgt := 110) dX4_markLandings_15 (by decide) (fun c_ => absurd c_ (fun q_ => Nat.not_le_of_lt hi_ (hD_.mp q_))) (fun c_ => ?_)
    refine z_iconst dX4_markLandings_18 k_iconst_0 ?_
    refine z_istore (lv' := [some (.ref 10), some (.ref (pO i1)), some (.ref (pO i2)), some (.int (nI i_)), some (.int (0 : Int32)), none, none]) dX4_markLandings_19 (Nat.le_of_ble_eq_true rfl) rfl ?_
    refine lpX4_markLandings_21 P g_ i1 h1 i2 h2 (nI i_) (((rX7_size P i2)).toNatClampNeg) W3_.1 W3_.2 ?_
    show zz G mX4_markLandings 1 0 0 Q 104 [some (.ref 10), some (.ref (pO i1)), some (.ref (pO i2)), some (.int (nI i_)), none, none, none] [] (hh P (zfor (fX4_markLandings_21 i1 i2 (nI i_)) (((rX7_size P i2)).toNatClampNeg) g_)) 0 0
    refine z_iinc (v := ((nI i_) + (1 : Int32))) (lv' := [some (.ref 10), some (.ref (pO i1)), some (.ref (pO i2)), some (.int ((nI i_) + (1 : Int32))), none, none, none]) dX4_markLandings_104 (Nat.le_of_ble_eq_true rfl) rfl (by rw [k_iconst_1]) rfl ?_
    refine z_goto (tgt := 10) dX4_markLandings_107 (by decide) ?_
    rw [nI_1]
    exact k_
  · have hD_ := hC_ n_ (Nat.le_refl _)
    generalize zfor (fX4_markLandings_10 P i1 i2) n_ σ = g_ at W2_ hD_ ⊢
    refine z_iload_n dX4_markLandings_10 rfl ?_
    refine z_aloadr_n dX4_markLandings_11 rfl ?_
    refine z_callV (ci := 7) (r := (RX7, TX7, 5)) (b := (pO i1)) (As := []) (rest := [.int (nI n_)]) (ctX7_size P g_ i1 h1) dX4_markLandings_12 lk_X4_157 lv_X7_size (z3O i1) (zNO h1) (SH_pO P i1) rfl rfl rfl (Nat.le_of_ble_eq_true rfl) (Nat.le_of_ble_eq_true rfl) (Nat.le_of_ble_eq_true rfl) (Nat.le_of_ble_eq_true rfl) (fun r_ h_ e_ => ?_)
    obtain ⟨e1_, e2_⟩ := e_
    subst e1_
    subst e2_
    show zz G mX4_markLandings 1 0 0 Q 15 [some (.ref 10), some (.ref (pO i1)), some (.ref (pO i2)), some (.int (nI n_)), none, none, none] [.int (rX7_size P i1), .int (nI n_)] (hh P g_) 0 0
    refine z_icmp_ge (tgt := 110) dX4_markLandings_15 (by decide) (fun c_ => ?_) (fun c_ => absurd (hD_.mpr (Nat.le_refl _)) c_)
    exact zz_sub (lv' := [none, none, none, none, none, none, none]) trivial W2_

theorem dX4_markLandings_0 : decode cX4_markLandings 0 = .ok (.aload_n 0, 1) := by decide +kernel
theorem dX4_markLandings_1 : decode cX4_markLandings 1 = .ok (.getfield 48, 3) := by decide +kernel
theorem dX4_markLandings_4 : decode cX4_markLandings 4 = .ok (.iconst 0, 1) := by decide +kernel
theorem dX4_markLandings_5 : decode cX4_markLandings 5 = .ok (.invokestatic 180, 3) := by decide +kernel
theorem dX4_markLandings_8 : decode cX4_markLandings 8 = .ok (.iconst 0, 1) := by decide +kernel
theorem dX4_markLandings_9 : decode cX4_markLandings 9 = .ok (.istore_n 3, 1) := by decide +kernel
theorem dX4_markLandings_110 : decode cX4_markLandings 110 = .ok (.return_, 1) := by decide +kernel
noncomputable def vX4_markLandings_1 (P : zp) (i1 : Nat) (i2 : Nat) (σ : zc_N) : zc_N := (zfor (fX4_markLandings_10 P i1 i2) (((rX7_size P i1)).toNatClampNeg) (sJ7_fill_53178_22 σ (0 : Int32)))
def pX4_markLandings (P : zp) (σ : zc_N) (i1 : Nat) (i2 : Nat) : Prop := ((pJ7_fill_53178_22 σ (0 : Int32)) ∧ ((∀ i10_ : Nat, i10_ ≤ (((rX7_size P i1)).toNatClampNeg) → ((rX7_size P i1) ≤ (nI i10_) ↔ (((rX7_size P i1)).toNatClampNeg) ≤ i10_)) ∧ (∀ i10_ : Nat, i10_ < (((rX7_size P i1)).toNatClampNeg) → qX4_markLandings_10 P i1 i2 i10_ (zfor (fX4_markLandings_10 P i1 i2) i10_ (sJ7_fill_53178_22 σ (0 : Int32))))))
noncomputable def sX4_markLandings (P : zp) (σ : zc_N) (i1 : Nat) (i2 : Nat) : zc_N := (vX4_markLandings_1 P i1 i2 σ)
set_option maxHeartbeats 1000000 in
theorem ctX4_markLandings (P : zp) (σ : zc_N) (i1 : Nat) (h1 : i1 < P.2.1) (i2 : Nat) (h2 : i2 < P.2.1) (W_ : (pX4_markLandings P σ i1 i2)) : sp mX4_markLandings 1 0 0 [.ref 10, .ref (pO i1), .ref (pO i2)] (hh P σ) (fun r_ h_ => r_ = none ∧ h_ = hh P (sX4_markLandings P σ i1 i2)) := by
  refine sp_of (lv := [some (.ref 10), some (.ref (pO i1)), some (.ref (pO i2)), none, none, none, none]) (by decide) (zcats_ok _ rfl) (Nat.le_of_ble_eq_true rfl) (zlv_ok _ 4 rfl) (fun G => ?_)
  generalize hQ_ : (fun (r_ : Option Value) (h_ : zc_H) => r_ = none ∧ h_ = hh P (sX4_markLandings P σ i1 i2)) = Q_
  unfold pX4_markLandings at W_
  refine z_aloadr_n dX4_markLandings_0 rfl ?_
  refine z_get (ci := 4) (r := (RX4, TX4, 10)) (j := 7) (v := .ref 22) dX4_markLandings_1 (Nat.le_of_ble_eq_true rfl) (zN rfl) rfl rfl (Nat.le_of_ble_eq_true rfl) fl_X4_48 rfl ?_
  refine z_iconst dX4_markLandings_4 k_iconst_0 ?_
  refine z_callS (As := [.ref 22, .int (0 : Int32)]) (rest := []) (ctJ7_fill_53178_22 P σ (0 : Int32) W_.1) dX4_markLandings_5 lk_X4_180 ls_J7_fill_53178 rfl (Nat.le_of_ble_eq_true rfl) (Nat.le_of_ble_eq_true rfl) (Nat.le_of_ble_eq_true rfl) (Nat.le_of_ble_eq_true rfl) (fun r_ h_ e_ => ?_)
  obtain ⟨e1_, e2_⟩ := e_
  subst e1_
  subst e2_
  show zz G mX4_markLandings 1 0 0 Q_ 8 [some (.ref 10), some (.ref (pO i1)), some (.ref (pO i2)), none, none, none, none] [] (hh P (sJ7_fill_53178_22 σ (0 : Int32))) 0 0
  refine z_iconst dX4_markLandings_8 k_iconst_0 ?_
  refine z_istore_n (lv' := [some (.ref 10), some (.ref (pO i1)), some (.ref (pO i2)), some (.int (0 : Int32)), none, none, none]) dX4_markLandings_9 (Nat.le_of_ble_eq_true rfl) rfl ?_
  refine lpX4_markLandings_10 P (sJ7_fill_53178_22 σ (0 : Int32)) i1 h1 i2 h2 (((rX7_size P i1)).toNatClampNeg) W_.2.1 W_.2.2 ?_
  show zz G mX4_markLandings 1 0 0 Q_ 110 [none, none, none, none, none, none, none] [] (hh P (vX4_markLandings_1 P i1 i2 σ)) 0 0
  exact z_return dX4_markLandings_110 rfl (Nat.le_of_ble_eq_true rfl) (Nat.le_of_ble_eq_true rfl) (by rw [← hQ_]; exact ⟨rfl, (by rw [sX4_markLandings])⟩)

theorem dX4_shiftBy_118 : decode cX4_shiftBy 118 = .ok (.iload 5, 2) := by decide +kernel
theorem dX4_shiftBy_120 : decode cX4_shiftBy 120 = .ok (.aload_n 2, 1) := by decide +kernel
theorem dX4_shiftBy_121 : decode cX4_shiftBy 121 = .ok (.invokevirtual 157, 3) := by decide +kernel
theorem dX4_shiftBy_124 : decode cX4_shiftBy 124 = .ok (.if_icmp .ge 46, 3) := by decide +kernel
theorem dX4_shiftBy_127 : decode cX4_shiftBy 127 = .ok (.aload_n 0, 1) := by decide +kernel
theorem dX4_shiftBy_128 : decode cX4_shiftBy 128 = .ok (.getfield 44, 3) := by decide +kernel
theorem dX4_shiftBy_131 : decode cX4_shiftBy 131 = .ok (.aload_n 2, 1) := by decide +kernel
theorem dX4_shiftBy_132 : decode cX4_shiftBy 132 = .ok (.iload 5, 2) := by decide +kernel
theorem dX4_shiftBy_134 : decode cX4_shiftBy 134 = .ok (.invokevirtual 160, 3) := by decide +kernel
theorem dX4_shiftBy_137 : decode cX4_shiftBy 137 = .ok (.iload_n 3, 1) := by decide +kernel
theorem dX4_shiftBy_138 : decode cX4_shiftBy 138 = .ok (.isub, 1) := by decide +kernel
theorem dX4_shiftBy_139 : decode cX4_shiftBy 139 = .ok (.aload_n 2, 1) := by decide +kernel
theorem dX4_shiftBy_140 : decode cX4_shiftBy 140 = .ok (.iload 5, 2) := by decide +kernel
theorem dX4_shiftBy_142 : decode cX4_shiftBy 142 = .ok (.invokevirtual 163, 3) := by decide +kernel
theorem dX4_shiftBy_145 : decode cX4_shiftBy 145 = .ok (.iload 4, 2) := by decide +kernel
theorem dX4_shiftBy_147 : decode cX4_shiftBy 147 = .ok (.isub, 1) := by decide +kernel
theorem dX4_shiftBy_148 : decode cX4_shiftBy 148 = .ok (.invokevirtual 199, 3) := by decide +kernel
theorem dX4_shiftBy_151 : decode cX4_shiftBy 151 = .ok (.ifCond .eq 13, 3) := by decide +kernel
theorem dX4_shiftBy_154 : decode cX4_shiftBy 154 = .ok (.aload_n 0, 1) := by decide +kernel
theorem dX4_shiftBy_155 : decode cX4_shiftBy 155 = .ok (.dup, 1) := by decide +kernel
theorem dX4_shiftBy_156 : decode cX4_shiftBy 156 = .ok (.getfield 54, 3) := by decide +kernel
theorem dX4_shiftBy_159 : decode cX4_shiftBy 159 = .ok (.iconst 1, 1) := by decide +kernel
theorem dX4_shiftBy_160 : decode cX4_shiftBy 160 = .ok (.iadd, 1) := by decide +kernel
theorem dX4_shiftBy_161 : decode cX4_shiftBy 161 = .ok (.putfield 54, 3) := by decide +kernel
theorem dX4_shiftBy_164 : decode cX4_shiftBy 164 = .ok (.iinc 5 1, 3) := by decide +kernel
theorem dX4_shiftBy_167 : decode cX4_shiftBy 167 = .ok (.goto (-49), 3) := by decide +kernel
noncomputable def fX4_shiftBy_118 (i2 : Nat) (l3 : Int32) (l4 : Int32) (i_ : Nat) (a_ : zc_N) : zc_N := (if (rX6_holds_t a_ ((rX7_columnOf a_ i2 (nI i_)) - l3) ((rX7_rowOf a_ i2 (nI i_)) - l4)) = (0 : Int32) then a_ else (zu a_ 10 (zu (a_ 10) 9 (((a_ 10) 9) + (1 : Int32)))))
def qX4_shiftBy_118 (P : zp) (i2 : Nat) (i_ : Nat) (a_ : zc_N) : Prop := ((pX7_columnOf P i2 (nI i_)) ∧ (pX7_rowOf P i2 (nI i_)))
set_option maxHeartbeats 2000000 in
theorem lpX4_shiftBy_118 {G : zc_G} {Q : Option Value → zc_H → Prop} (P : zp) (σ : zc_N) (i2 : Nat) (h2 : i2 < P.2.1) (l3 : Int32) (l4 : Int32) (n_ : Nat) (hC_ : ∀ i118_ : Nat, i118_ ≤ n_ → ((rX7_size P i2) ≤ (nI i118_) ↔ n_ ≤ i118_)) (W1_ : ∀ i118_ : Nat, i118_ < n_ → qX4_shiftBy_118 P i2 i118_ (zfor (fX4_shiftBy_118 i2 l3 l4) i118_ σ))
    (W2_ : zz G mX4_shiftBy 1 0 0 Q 170 [none, none, none, none, none, none, none, none] [] (hh P (zfor (fX4_shiftBy_118 i2 l3 l4) n_ σ)) 0 0) :
    zz G mX4_shiftBy 1 0 0 Q 118 [some (.ref 10), none, some (.ref (pO i2)), some (.int l3), some (.int l4), some (.int (nI 0)), none, none] [] (hh P σ) 0 0 := by
  refine zfor_nI (fun i_ a_ => zz G mX4_shiftBy 1 0 0 Q 118 [some (.ref 10), none, some (.ref (pO i2)), some (.int l3), some (.int l4), some (.int i_), none, none] [] (hh P a_) 0 0) (fX4_shiftBy_118 i2 l3 l4) n_ σ (fun i_ hi_ k_ => ?_) ?_
  · have W3_ := W1_ i_ hi_
    have hD_ := hC_ i_ (Nat.le_of_lt hi_)
    generalize zfor (fX4_shiftBy_118 i2 l3 l4) i_ σ = g_ at k_ W3_ hD_ ⊢
    rw [fX4_shiftBy_118] at k_
    rw [qX4_shiftBy_118] at W3_
    try dsimp only at W3_
    refine z_iload dX4_shiftBy_118 rfl ?_
    refine z_aloadr_n dX4_shiftBy_120 rfl ?_
    refine z_callV (ci := 7) (r := (RX7, TX7, 5)) (b := (pO i2)) (As := []) (rest := [.int (nI i_)]) (ctX7_size P g_ i2 h2) dX4_shiftBy_121 lk_X4_157 lv_X7_size (z3O i2) (zNO h2) (SH_pO P i2) rfl rfl rfl (Nat.le_of_ble_eq_true rfl) (Nat.le_of_ble_eq_true rfl) (Nat.le_of_ble_eq_true rfl) (Nat.le_of_ble_eq_true rfl) (fun r_ h_ e_ => ?_)
    obtain ⟨e1_, e2_⟩ := e_
    subst e1_
    subst e2_
    show zz G mX4_shiftBy 1 0 0 Q 124 [some (.ref 10), none, some (.ref (pO i2)), some (.int l3), some (.int l4), some (.int (nI i_)), none, none] [.int (rX7_size P i2), .int (nI i_)] (hh P g_) 0 0
    refine z_icmp_ge (tgt := 170) dX4_shiftBy_124 (by decide) (fun c_ => absurd c_ (fun q_ => Nat.not_le_of_lt hi_ (hD_.mp q_))) (fun c_ => ?_)
    refine z_aloadr_n dX4_shiftBy_127 rfl ?_
    refine z_get (ci := 4) (r := (RX4, TX4, 10)) (j := 6) (v := .ref 21) dX4_shiftBy_128 (Nat.le_of_ble_eq_true rfl) (zN rfl) rfl rfl (Nat.le_of_ble_eq_true rfl) fl_X4_44 rfl ?_
    refine z_aloadr_n dX4_shiftBy_131 rfl ?_
    refine z_iload dX4_shiftBy_132 rfl ?_
    refine z_callV (ci := 7) (r := (RX7, TX7, 5)) (b := (pO i2)) (As := [.int (nI i_)]) (rest := [.ref 21]) (ctX7_columnOf P g_ i2 h2 (nI i_) W3_.1) dX4_shiftBy_134 lk_X4_160 lv_X7_columnOf (z3O i2) (zNO h2) (SH_pO P i2) rfl rfl rfl (Nat.le_of_ble_eq_true rfl) (Nat.le_of_ble_eq_true rfl) (Nat.le_of_ble_eq_true rfl) (Nat.le_of_ble_eq_true rfl) (fun r_ h_ e_ => ?_)
    obtain ⟨e1_, e2_⟩ := e_
    subst e1_
    subst e2_
    show zz G mX4_shiftBy 1 0 0 Q 137 [some (.ref 10), none, some (.ref (pO i2)), some (.int l3), some (.int l4), some (.int (nI i_)), none, none] [.int (rX7_columnOf g_ i2 (nI i_)), .ref 21] (hh P g_) 0 0
    refine z_iload_n dX4_shiftBy_137 rfl ?_
    refine z_isub (v := ((rX7_columnOf g_ i2 (nI i_)) - l3)) dX4_shiftBy_138 rfl ?_
    refine z_aloadr_n dX4_shiftBy_139 rfl ?_
    refine z_iload dX4_shiftBy_140 rfl ?_
    refine z_callV (ci := 7) (r := (RX7, TX7, 5)) (b := (pO i2)) (As := [.int (nI i_)]) (rest := [.int ((rX7_columnOf g_ i2 (nI i_)) - l3), .ref 21]) (ctX7_rowOf P g_ i2 h2 (nI i_) W3_.2) dX4_shiftBy_142 lk_X4_163 lv_X7_rowOf (z3O i2) (zNO h2) (SH_pO P i2) rfl rfl rfl (Nat.le_of_ble_eq_true rfl) (Nat.le_of_ble_eq_true rfl) (Nat.le_of_ble_eq_true rfl) (Nat.le_of_ble_eq_true rfl) (fun r_ h_ e_ => ?_)
    obtain ⟨e1_, e2_⟩ := e_
    subst e1_
    subst e2_
    show zz G mX4_shiftBy 1 0 0 Q 145 [some (.ref 10), none, some (.ref (pO i2)), some (.int l3), some (.int l4), some (.int (nI i_)), none, none] [.int (rX7_rowOf g_ i2 (nI i_)), .int ((rX7_columnOf g_ i2 (nI i_)) - l3), .ref 21] (hh P g_) 0 0
    refine z_iload dX4_shiftBy_145 rfl ?_
    refine z_isub (v := ((rX7_rowOf g_ i2 (nI i_)) - l4)) dX4_shiftBy_147 rfl ?_
    refine z_callV (ci := 6) (r := (RX6, TX6, 4)) (b := 21) (As := [.int ((rX7_columnOf g_ i2 (nI i_)) - l3), .int ((rX7_rowOf g_ i2 (nI i_)) - l4)]) (rest := []) (ctX6_holds_t P g_ ((rX7_columnOf g_ i2 (nI i_)) - l3) ((rX7_rowOf g_ i2 (nI i_)) - l4)) dX4_shiftBy_148 lk_X4_199 lv_X6_holds (Nat.le_of_ble_eq_true rfl) (zN rfl) rfl rfl rfl rfl (Nat.le_of_ble_eq_true rfl) (Nat.le_of_ble_eq_true rfl) (Nat.le_of_ble_eq_true rfl) (Nat.le_of_ble_eq_true rfl) (fun r_ h_ e_ => ?_)
    obtain ⟨e1_, e2_⟩ := e_
    subst e1_
    subst e2_
    show zz G mX4_shiftBy 1 0 0 Q 151 [some (.ref 10), none, some (.ref (pO i2)), some (.int l3), some (.int l4), some (.int (nI i_)), none, none] [.int (rX6_holds_t g_ ((rX7_columnOf g_ i2 (nI i_)) - l3) ((rX7_rowOf g_ i2 (nI i_)) - l4))] (hh P g_) 0 0
    refine z_if_eq (tgt := 164) dX4_shiftBy_151 (by decide) (fun c_2 => ?_) (fun c_2 => ?_)
    · refine z_iinc (v := ((nI i_) + (1 : Int32))) (lv' := [some (.ref 10), none, some (.ref (pO i2)), some (.int l3), some (.int l4), some (.int ((nI i_) + (1 : Int32))), none, none]) dX4_shiftBy_164 (Nat.le_of_ble_eq_true rfl) rfl (by rw [k_iconst_1]) rfl ?_
      refine z_goto (tgt := 118) dX4_shiftBy_167 (by decide) ?_
      rw [nI_1]
      simpa only [if_pos c_2] using k_
    · refine z_aloadr_n dX4_shiftBy_154 rfl ?_
      refine z_dup dX4_shiftBy_155 rfl ?_
      refine z_get (ci := 4) (r := (RX4, TX4, 10)) (j := 9) (v := .int ((g_ 10) 9)) dX4_shiftBy_156 (Nat.le_of_ble_eq_true rfl) (zN rfl) rfl rfl (Nat.le_of_ble_eq_true rfl) fl_X4_54 rfl ?_
      refine z_iconst dX4_shiftBy_159 k_iconst_1 ?_
      refine z_iadd (v := (((g_ 10) 9) + (1 : Int32))) dX4_shiftBy_160 rfl ?_
      refine z_put (ci := 4) (r := (RX4, TX4, 10)) (j := 9) (σ' := (zu g_ 10 (zu (g_ 10) 9 (((g_ 10) 9) + (1 : Int32))))) dX4_shiftBy_161 (Nat.le_of_ble_eq_true rfl) (zN rfl) rfl rfl (Nat.le_of_ble_eq_true rfl) fl_X4_54 rfl rfl rfl rfl rfl ?_
      refine z_iinc (v := ((nI i_) + (1 : Int32))) (lv' := [some (.ref 10), none, some (.ref (pO i2)), some (.int l3), some (.int l4), some (.int ((nI i_) + (1 : Int32))), none, none]) dX4_shiftBy_164 (Nat.le_of_ble_eq_true rfl) rfl (by rw [k_iconst_1]) rfl ?_
      refine z_goto (tgt := 118) dX4_shiftBy_167 (by decide) ?_
      rw [nI_1]
      simpa only [if_neg c_2] using k_
  · have hD_ := hC_ n_ (Nat.le_refl _)
    generalize zfor (fX4_shiftBy_118 i2 l3 l4) n_ σ = g_ at W2_ hD_ ⊢
    refine z_iload dX4_shiftBy_118 rfl ?_
    refine z_aloadr_n dX4_shiftBy_120 rfl ?_
    refine z_callV (ci := 7) (r := (RX7, TX7, 5)) (b := (pO i2)) (As := []) (rest := [.int (nI n_)]) (ctX7_size P g_ i2 h2) dX4_shiftBy_121 lk_X4_157 lv_X7_size (z3O i2) (zNO h2) (SH_pO P i2) rfl rfl rfl (Nat.le_of_ble_eq_true rfl) (Nat.le_of_ble_eq_true rfl) (Nat.le_of_ble_eq_true rfl) (Nat.le_of_ble_eq_true rfl) (fun r_ h_ e_ => ?_)
    obtain ⟨e1_, e2_⟩ := e_
    subst e1_
    subst e2_
    show zz G mX4_shiftBy 1 0 0 Q 124 [some (.ref 10), none, some (.ref (pO i2)), some (.int l3), some (.int l4), some (.int (nI n_)), none, none] [.int (rX7_size P i2), .int (nI n_)] (hh P g_) 0 0
    refine z_icmp_ge (tgt := 170) dX4_shiftBy_124 (by decide) (fun c_ => ?_) (fun c_ => absurd (hD_.mpr (Nat.le_refl _)) c_)
    exact zz_sub (lv' := [none, none, none, none, none, none, none, none]) trivial W2_

theorem dX4_shiftBy_15 : decode cX4_shiftBy 15 = .ok (.iload 5, 2) := by decide +kernel
theorem dX4_shiftBy_17 : decode cX4_shiftBy 17 = .ok (.aload_n 1, 1) := by decide +kernel
theorem dX4_shiftBy_18 : decode cX4_shiftBy 18 = .ok (.invokevirtual 157, 3) := by decide +kernel
theorem dX4_shiftBy_21 : decode cX4_shiftBy 21 = .ok (.if_icmp .ge 83, 3) := by decide +kernel
theorem dX4_shiftBy_24 : decode cX4_shiftBy 24 = .ok (.aload_n 0, 1) := by decide +kernel
theorem dX4_shiftBy_25 : decode cX4_shiftBy 25 = .ok (.getfield 33, 3) := by decide +kernel
theorem dX4_shiftBy_28 : decode cX4_shiftBy 28 = .ok (.iload 5, 2) := by decide +kernel
theorem dX4_shiftBy_30 : decode cX4_shiftBy 30 = .ok (.iaload, 1) := by decide +kernel
theorem dX4_shiftBy_31 : decode cX4_shiftBy 31 = .ok (.iload_n 3, 1) := by decide +kernel
theorem dX4_shiftBy_32 : decode cX4_shiftBy 32 = .ok (.iadd, 1) := by decide +kernel
theorem dX4_shiftBy_33 : decode cX4_shiftBy 33 = .ok (.istore 6, 2) := by decide +kernel
theorem dX4_shiftBy_35 : decode cX4_shiftBy 35 = .ok (.aload_n 0, 1) := by decide +kernel
theorem dX4_shiftBy_36 : decode cX4_shiftBy 36 = .ok (.getfield 36, 3) := by decide +kernel
theorem dX4_shiftBy_39 : decode cX4_shiftBy 39 = .ok (.iload 5, 2) := by decide +kernel
theorem dX4_shiftBy_41 : decode cX4_shiftBy 41 = .ok (.iaload, 1) := by decide +kernel
theorem dX4_shiftBy_42 : decode cX4_shiftBy 42 = .ok (.iload 4, 2) := by decide +kernel
theorem dX4_shiftBy_44 : decode cX4_shiftBy 44 = .ok (.iadd, 1) := by decide +kernel
theorem dX4_shiftBy_45 : decode cX4_shiftBy 45 = .ok (.istore 7, 2) := by decide +kernel
theorem dX4_shiftBy_47 : decode cX4_shiftBy 47 = .ok (.aload_n 0, 1) := by decide +kernel
theorem dX4_shiftBy_48 : decode cX4_shiftBy 48 = .ok (.getfield 29, 3) := by decide +kernel
theorem dX4_shiftBy_51 : decode cX4_shiftBy 51 = .ok (.aload_n 0, 1) := by decide +kernel
theorem dX4_shiftBy_52 : decode cX4_shiftBy 52 = .ok (.getfield 22, 3) := by decide +kernel
theorem dX4_shiftBy_55 : decode cX4_shiftBy 55 = .ok (.iload 6, 2) := by decide +kernel
theorem dX4_shiftBy_57 : decode cX4_shiftBy 57 = .ok (.iload 7, 2) := by decide +kernel
theorem dX4_shiftBy_59 : decode cX4_shiftBy 59 = .ok (.aload_n 1, 1) := by decide +kernel
theorem dX4_shiftBy_60 : decode cX4_shiftBy 60 = .ok (.iload 5, 2) := by decide +kernel
theorem dX4_shiftBy_62 : decode cX4_shiftBy 62 = .ok (.invokevirtual 186, 3) := by decide +kernel
theorem dX4_shiftBy_65 : decode cX4_shiftBy 65 = .ok (.invokevirtual 192, 3) := by decide +kernel
theorem dX4_shiftBy_68 : decode cX4_shiftBy 68 = .ok (.invokevirtual 195, 3) := by decide +kernel
theorem dX4_shiftBy_71 : decode cX4_shiftBy 71 = .ok (.aload_n 2, 1) := by decide +kernel
theorem dX4_shiftBy_72 : decode cX4_shiftBy 72 = .ok (.getfield 173, 3) := by decide +kernel
theorem dX4_shiftBy_75 : decode cX4_shiftBy 75 = .ok (.iload 6, 2) := by decide +kernel
theorem dX4_shiftBy_77 : decode cX4_shiftBy 77 = .ok (.iload 7, 2) := by decide +kernel
theorem dX4_shiftBy_79 : decode cX4_shiftBy 79 = .ok (.invokevirtual 199, 3) := by decide +kernel
theorem dX4_shiftBy_82 : decode cX4_shiftBy 82 = .ok (.ifCond .eq 16, 3) := by decide +kernel
theorem dX4_shiftBy_85 : decode cX4_shiftBy 85 = .ok (.aload_n 0, 1) := by decide +kernel
theorem dX4_shiftBy_86 : decode cX4_shiftBy 86 = .ok (.dup, 1) := by decide +kernel
theorem dX4_shiftBy_87 : decode cX4_shiftBy 87 = .ok (.getfield 51, 3) := by decide +kernel
theorem dX4_shiftBy_90 : decode cX4_shiftBy 90 = .ok (.iconst 1, 1) := by decide +kernel
theorem dX4_shiftBy_91 : decode cX4_shiftBy 91 = .ok (.iload 5, 2) := by decide +kernel
theorem dX4_shiftBy_93 : decode cX4_shiftBy 93 = .ok (.ishl, 1) := by decide +kernel
theorem dX4_shiftBy_94 : decode cX4_shiftBy 94 = .ok (.ior, 1) := by decide +kernel
theorem dX4_shiftBy_95 : decode cX4_shiftBy 95 = .ok (.putfield 51, 3) := by decide +kernel
theorem dX4_shiftBy_98 : decode cX4_shiftBy 98 = .ok (.iinc 5 1, 3) := by decide +kernel
theorem dX4_shiftBy_101 : decode cX4_shiftBy 101 = .ok (.goto (-86), 3) := by decide +kernel
theorem dX4_shiftBy_104 : decode cX4_shiftBy 104 = .ok (.aload_n 0, 1) := by decide +kernel
theorem dX4_shiftBy_105 : decode cX4_shiftBy 105 = .ok (.aload_n 0, 1) := by decide +kernel
theorem dX4_shiftBy_106 : decode cX4_shiftBy 106 = .ok (.getfield 51, 3) := by decide +kernel
theorem dX4_shiftBy_109 : decode cX4_shiftBy 109 = .ok (.invokestatic 203, 3) := by decide +kernel
theorem dX4_shiftBy_112 : decode cX4_shiftBy 112 = .ok (.putfield 54, 3) := by decide +kernel
theorem dX4_shiftBy_115 : decode cX4_shiftBy 115 = .ok (.iconst 0, 1) := by decide +kernel
theorem dX4_shiftBy_116 : decode cX4_shiftBy 116 = .ok (.istore 5, 2) := by decide +kernel
noncomputable def vX4_shiftBy_1 (P : zp) (i2 : Nat) (l3 : Int32) (l4 : Int32) (σ : zc_N) : zc_N := (zfor (fX4_shiftBy_118 i2 l3 l4) (((rX7_size P i2)).toNatClampNeg) (zu σ 10 (zu (σ 10) 9 (rJ6_bitCount_0f7a4 ((σ 10) 8)))))
noncomputable def vX4_shiftBy_2 (i1 : Nat) (l3 : Int32) (l4 : Int32) (l5 : Int32) (σ : zc_N) : zc_N := (sX5_add σ (rX0_near σ (((σ 19) l5.toNatClampNeg) + l3) (((σ 20) l5.toNatClampNeg) + l4) (rX7_kindOf σ i1 l5)))
noncomputable def fX4_shiftBy_15 (i1 : Nat) (i2 : Nat) (l3 : Int32) (l4 : Int32) (i_ : Nat) (a_ : zc_N) : zc_N := (if (rX6_holds_p (vX4_shiftBy_2 i1 l3 l4 (nI i_) a_) i2 (((a_ 19) (nI i_).toNatClampNeg) + l3) (((a_ 20) (nI i_).toNatClampNeg) + l4)) = (0 : Int32) then (vX4_shiftBy_2 i1 l3 l4 (nI i_) a_) else (zu (vX4_shiftBy_2 i1 l3 l4 (nI i_) a_) 10 (zu ((vX4_shiftBy_2 i1 l3 l4 (nI i_) a_) 10) 8 ((((vX4_shiftBy_2 i1 l3 l4 (nI i_) a_) 10) 8) ||| (zshl (1 : Int32) (nI i_))))))
def qX4_shiftBy_15 (P : zp) (i1 : Nat) (l3 : Int32) (l4 : Int32) (i_ : Nat) (a_ : zc_N) : Prop := (vp_in (nI i_) 12 ∧ (vp_in (nI i_) 12 ∧ ((pX7_kindOf P i1 (nI i_)) ∧ ((pX0_near (((a_ 19) (nI i_).toNatClampNeg) + l3) (((a_ 20) (nI i_).toNatClampNeg) + l4) (rX7_kindOf a_ i1 (nI i_))) ∧ (pX5_add a_)))))
set_option maxHeartbeats 2000000 in
theorem lpX4_shiftBy_15 {G : zc_G} {Q : Option Value → zc_H → Prop} (P : zp) (σ : zc_N) (i1 : Nat) (h1 : i1 < P.2.1) (i2 : Nat) (h2 : i2 < P.2.1) (l3 : Int32) (l4 : Int32) (n_ : Nat) (hC_ : ∀ i15_ : Nat, i15_ ≤ n_ → ((rX7_size P i1) ≤ (nI i15_) ↔ n_ ≤ i15_)) (W1_ : ∀ i15_ : Nat, i15_ < n_ → qX4_shiftBy_15 P i1 l3 l4 i15_ (zfor (fX4_shiftBy_15 i1 i2 l3 l4) i15_ σ))
    (W2_ : zz G mX4_shiftBy 1 0 0 Q 104 [some (.ref 10), none, some (.ref (pO i2)), some (.int l3), some (.int l4), none, none, none] [] (hh P (zfor (fX4_shiftBy_15 i1 i2 l3 l4) n_ σ)) 0 0) :
    zz G mX4_shiftBy 1 0 0 Q 15 [some (.ref 10), some (.ref (pO i1)), some (.ref (pO i2)), some (.int l3), some (.int l4), some (.int (nI 0)), none, none] [] (hh P σ) 0 0 := by
  refine zfor_nI (fun i_ a_ => zz G mX4_shiftBy 1 0 0 Q 15 [some (.ref 10), some (.ref (pO i1)), some (.ref (pO i2)), some (.int l3), some (.int l4), some (.int i_), none, none] [] (hh P a_) 0 0) (fX4_shiftBy_15 i1 i2 l3 l4) n_ σ (fun i_ hi_ k_ => ?_) ?_
  · have W3_ := W1_ i_ hi_
    have hD_ := hC_ i_ (Nat.le_of_lt hi_)
    generalize zfor (fX4_shiftBy_15 i1 i2 l3 l4) i_ σ = g_ at k_ W3_ hD_ ⊢
    rw [fX4_shiftBy_15] at k_
    rw [qX4_shiftBy_15] at W3_
    try dsimp only at W3_
    refine z_iload dX4_shiftBy_15 rfl ?_
    refine z_aloadr_n dX4_shiftBy_17 rfl ?_
    refine z_callV (ci := 7) (r := (RX7, TX7, 5)) (b := (pO i1)) (As := []) (rest := [.int (nI i_)]) (ctX7_size P g_ i1 h1) dX4_shiftBy_18 lk_X4_157 lv_X7_size (z3O i1) (zNO h1) (SH_pO P i1) rfl rfl rfl (Nat.le_of_ble_eq_true rfl) (Nat.le_of_ble_eq_true rfl) (Nat.le_of_ble_eq_true rfl) (Nat.le_of_ble_eq_true rfl) (fun r_ h_ e_ => ?_)
    obtain ⟨e1_, e2_⟩ := e_
    subst e1_
    subst e2_
    show zz G mX4_shiftBy 1 0 0 Q 21 [some (.ref 10), some (.ref (pO i1)), some (.ref (pO i2)), some (.int l3), some (.int l4), some (.int (nI i_)), none, none] [.int (rX7_size P i1), .int (nI i_)] (hh P g_) 0 0
    refine z_icmp_ge (tgt := 104) dX4_shiftBy_21 (by decide) (fun c_ => absurd c_ (fun q_ => Nat.not_le_of_lt hi_ (hD_.mp q_))) (fun c_ => ?_)
    refine z_aloadr_n dX4_shiftBy_24 rfl ?_
    refine z_get (ci := 4) (r := (RX4, TX4, 10)) (j := 4) (v := .ref 19) dX4_shiftBy_25 (Nat.le_of_ble_eq_true rfl) (zN rfl) rfl rfl (Nat.le_of_ble_eq_true rfl) fl_X4_33 rfl ?_
    refine z_iload dX4_shiftBy_28 rfl ?_
    refine z_iald (v := ((g_ 19) (nI i_).toNatClampNeg)) dX4_shiftBy_30 (zN rfl) rfl W3_.1 rfl ?_
    refine z_iload_n dX4_shiftBy_31 rfl ?_
    refine z_iadd (v := (((g_ 19) (nI i_).toNatClampNeg) + l3)) dX4_shiftBy_32 rfl ?_
    refine z_istore (lv' := [some (.ref 10), some (.ref (pO i1)), some (.ref (pO i2)), some (.int l3), some (.int l4), some (.int (nI i_)), some (.int (((g_ 19) (nI i_).toNatClampNeg) + l3)), none]) dX4_shiftBy_33 (Nat.le_of_ble_eq_true rfl) rfl ?_
    refine z_aloadr_n dX4_shiftBy_35 rfl ?_
    refine z_get (ci := 4) (r := (RX4, TX4, 10)) (j := 5) (v := .ref 20) dX4_shiftBy_36 (Nat.le_of_ble_eq_true rfl) (zN rfl) rfl rfl (Nat.le_of_ble_eq_true rfl) fl_X4_36 rfl ?_
    refine z_iload dX4_shiftBy_39 rfl ?_
    refine z_iald (v := ((g_ 20) (nI i_).toNatClampNeg)) dX4_shiftBy_41 (zN rfl) rfl W3_.2.1 rfl ?_
    refine z_iload dX4_shiftBy_42 rfl ?_
    refine z_iadd (v := (((g_ 20) (nI i_).toNatClampNeg) + l4)) dX4_shiftBy_44 rfl ?_
    refine z_istore (lv' := [some (.ref 10), some (.ref (pO i1)), some (.ref (pO i2)), some (.int l3), some (.int l4), some (.int (nI i_)), some (.int (((g_ 19) (nI i_).toNatClampNeg) + l3)), some (.int (((g_ 20) (nI i_).toNatClampNeg) + l4))]) dX4_shiftBy_45 (Nat.le_of_ble_eq_true rfl) rfl ?_
    refine z_aloadr_n dX4_shiftBy_47 rfl ?_
    refine z_get (ci := 4) (r := (RX4, TX4, 10)) (j := 3) (v := .ref 16) dX4_shiftBy_48 (Nat.le_of_ble_eq_true rfl) (zN rfl) rfl rfl (Nat.le_of_ble_eq_true rfl) fl_X4_29 rfl ?_
    refine z_aloadr_n dX4_shiftBy_51 rfl ?_
    refine z_get (ci := 4) (r := (RX4, TX4, 10)) (j := 2) (v := .ref 12) dX4_shiftBy_52 (Nat.le_of_ble_eq_true rfl) (zN rfl) rfl rfl (Nat.le_of_ble_eq_true rfl) fl_X4_22 rfl ?_
    refine z_iload dX4_shiftBy_55 rfl ?_
    refine z_iload dX4_shiftBy_57 rfl ?_
    refine z_aloadr_n dX4_shiftBy_59 rfl ?_
    refine z_iload dX4_shiftBy_60 rfl ?_
    refine z_callV (ci := 7) (r := (RX7, TX7, 5)) (b := (pO i1)) (As := [.int (nI i_)]) (rest := [.int (((g_ 20) (nI i_).toNatClampNeg) + l4), .int (((g_ 19) (nI i_).toNatClampNeg) + l3), .ref 12, .ref 16]) (ctX7_kindOf P g_ i1 h1 (nI i_) W3_.2.2.1) dX4_shiftBy_62 lk_X4_186 lv_X7_kindOf (z3O i1) (zNO h1) (SH_pO P i1) rfl rfl rfl (Nat.le_of_ble_eq_true rfl) (Nat.le_of_ble_eq_true rfl) (Nat.le_of_ble_eq_true rfl) (Nat.le_of_ble_eq_true rfl) (fun r_ h_ e_ => ?_)
    obtain ⟨e1_, e2_⟩ := e_
    subst e1_
    subst e2_
    show zz G mX4_shiftBy 1 0 0 Q 65 [some (.ref 10), some (.ref (pO i1)), some (.ref (pO i2)), some (.int l3), some (.int l4), some (.int (nI i_)), some (.int (((g_ 19) (nI i_).toNatClampNeg) + l3)), some (.int (((g_ 20) (nI i_).toNatClampNeg) + l4))] [.int (rX7_kindOf g_ i1 (nI i_)), .int (((g_ 20) (nI i_).toNatClampNeg) + l4), .int (((g_ 19) (nI i_).toNatClampNeg) + l3), .ref 12, .ref 16] (hh P g_) 0 0
    refine z_callV (ci := 0) (r := (RX0, TX0, 3)) (b := 12) (As := [.int (((g_ 19) (nI i_).toNatClampNeg) + l3), .int (((g_ 20) (nI i_).toNatClampNeg) + l4), .int (rX7_kindOf g_ i1 (nI i_))]) (rest := [.ref 16]) (ctX0_near P g_ (((g_ 19) (nI i_).toNatClampNeg) + l3) (((g_ 20) (nI i_).toNatClampNeg) + l4) (rX7_kindOf g_ i1 (nI i_)) W3_.2.2.2.1) dX4_shiftBy_65 lk_X4_192 lv_X0_near (Nat.le_of_ble_eq_true rfl) (zN rfl) rfl rfl rfl rfl (Nat.le_of_ble_eq_true rfl) (Nat.le_of_ble_eq_true rfl) (Nat.le_of_ble_eq_true rfl) (Nat.le_of_ble_eq_true rfl) (fun r_ h_ e_ => ?_)
    obtain ⟨e1_, e2_⟩ := e_
    subst e1_
    subst e2_
    show zz G mX4_shiftBy 1 0 0 Q 68 [some (.ref 10), some (.ref (pO i1)), some (.ref (pO i2)), some (.int l3), some (.int l4), some (.int (nI i_)), some (.int (((g_ 19) (nI i_).toNatClampNeg) + l3)), some (.int (((g_ 20) (nI i_).toNatClampNeg) + l4))] [.int (rX0_near g_ (((g_ 19) (nI i_).toNatClampNeg) + l3) (((g_ 20) (nI i_).toNatClampNeg) + l4) (rX7_kindOf g_ i1 (nI i_))), .ref 16] (hh P g_) 0 0
    refine z_callV (ci := 5) (r := (RX5, TX5, 4)) (b := 16) (As := [.int (rX0_near g_ (((g_ 19) (nI i_).toNatClampNeg) + l3) (((g_ 20) (nI i_).toNatClampNeg) + l4) (rX7_kindOf g_ i1 (nI i_)))]) (rest := []) (ctX5_add P g_ (rX0_near g_ (((g_ 19) (nI i_).toNatClampNeg) + l3) (((g_ 20) (nI i_).toNatClampNeg) + l4) (rX7_kindOf g_ i1 (nI i_))) W3_.2.2.2.2) dX4_shiftBy_68 lk_X4_195 lv_X5_add (Nat.le_of_ble_eq_true rfl) (zN rfl) rfl rfl rfl rfl (Nat.le_of_ble_eq_true rfl) (Nat.le_of_ble_eq_true rfl) (Nat.le_of_ble_eq_true rfl) (Nat.le_of_ble_eq_true rfl) (fun r_ h_ e_ => ?_)
    obtain ⟨e1_, e2_⟩ := e_
    subst e1_
    subst e2_
    show zz G mX4_shiftBy 1 0 0 Q 71 [some (.ref 10), some (.ref (pO i1)), some (.ref (pO i2)), some (.int l3), some (.int l4), some (.int (nI i_)), some (.int (((g_ 19) (nI i_).toNatClampNeg) + l3)), some (.int (((g_ 20) (nI i_).toNatClampNeg) + l4))] [] (hh P (vX4_shiftBy_2 i1 l3 l4 (nI i_) g_)) 0 0
    refine z_aloadr_n dX4_shiftBy_71 rfl ?_
    refine z_get (ci := 7) (r := (RX7, TX7, 5)) (j := 2) (v := .ref (pT i2)) dX4_shiftBy_72 (z3O i2) (zNO h2) (SH_pO P i2) rfl (Nat.le_of_ble_eq_true rfl) fl_X4_173 rfl ?_
    refine z_iload dX4_shiftBy_75 rfl ?_
    refine z_iload dX4_shiftBy_77 rfl ?_
    refine z_callV (ci := 6) (r := (RX6, TX6, 4)) (b := (pT i2)) (As := [.int (((g_ 19) (nI i_).toNatClampNeg) + l3), .int (((g_ 20) (nI i_).toNatClampNeg) + l4)]) (rest := []) (ctX6_holds_p P (vX4_shiftBy_2 i1 l3 l4 (nI i_) g_) i2 h2 (((g_ 19) (nI i_).toNatClampNeg) + l3) (((g_ 20) (nI i_).toNatClampNeg) + l4)) dX4_shiftBy_79 lk_X4_199 lv_X6_holds (z3T i2) (zNT h2) (SH_pT P i2) rfl rfl rfl (Nat.le_of_ble_eq_true rfl) (Nat.le_of_ble_eq_true rfl) (Nat.le_of_ble_eq_true rfl) (Nat.le_of_ble_eq_true rfl) (fun r_ h_ e_ => ?_)
    obtain ⟨e1_, e2_⟩ := e_
    subst e1_
    subst e2_
    show zz G mX4_shiftBy 1 0 0 Q 82 [some (.ref 10), some (.ref (pO i1)), some (.ref (pO i2)), some (.int l3), some (.int l4), some (.int (nI i_)), some (.int (((g_ 19) (nI i_).toNatClampNeg) + l3)), some (.int (((g_ 20) (nI i_).toNatClampNeg) + l4))] [.int (rX6_holds_p (vX4_shiftBy_2 i1 l3 l4 (nI i_) g_) i2 (((g_ 19) (nI i_).toNatClampNeg) + l3) (((g_ 20) (nI i_).toNatClampNeg) + l4))] (hh P (vX4_shiftBy_2 i1 l3 l4 (nI i_) g_)) 0 0
    refine z_if_eq (tgt := 98) dX4_shiftBy_82 (by decide) (fun c_2 => ?_) (fun c_2 => ?_)
    · refine z_iinc (v := ((nI i_) + (1 : Int32))) (lv' := [some (.ref 10), some (.ref (pO i1)), some (.ref (pO i2)), some (.int l3), some (.int l4), some (.int ((nI i_) + (1 : Int32))), some (.int (((g_ 19) (nI i_).toNatClampNeg) + l3)), some (.int (((g_ 20) (nI i_).toNatClampNeg) + l4))]) dX4_shiftBy_98 (Nat.le_of_ble_eq_true rfl) rfl (by rw [k_iconst_1]) rfl ?_
      refine z_goto (tgt := 15) dX4_shiftBy_101 (by decide) ?_
      refine zz_sub (lv' := [some (.ref 10), some (.ref (pO i1)), some (.ref (pO i2)), some (.int l3), some (.int l4), some (.int ((nI i_) + (1 : Int32))), none, none]) ⟨rfl, ⟨rfl, ⟨rfl, ⟨rfl, ⟨rfl, ⟨rfl, trivial⟩⟩⟩⟩⟩⟩ ?_
      rw [nI_1]
      simpa only [if_pos c_2] using k_
    · refine z_aloadr_n dX4_shiftBy_85 rfl ?_
      refine z_dup dX4_shiftBy_86 rfl ?_
      refine z_get (ci := 4) (r := (RX4, TX4, 10)) (j := 8) (v := .int (((vX4_shiftBy_2 i1 l3 l4 (nI i_) g_) 10) 8)) dX4_shiftBy_87 (Nat.le_of_ble_eq_true rfl) (zN rfl) rfl rfl (Nat.le_of_ble_eq_true rfl) fl_X4_51 rfl ?_
      refine z_iconst dX4_shiftBy_90 k_iconst_1 ?_
      refine z_iload dX4_shiftBy_91 rfl ?_
      refine z_ishl (v := (zshl (1 : Int32) (nI i_))) dX4_shiftBy_93 rfl ?_
      refine z_ior (v := ((((vX4_shiftBy_2 i1 l3 l4 (nI i_) g_) 10) 8) ||| (zshl (1 : Int32) (nI i_)))) dX4_shiftBy_94 rfl ?_
      refine z_put (ci := 4) (r := (RX4, TX4, 10)) (j := 8) (σ' := (zu (vX4_shiftBy_2 i1 l3 l4 (nI i_) g_) 10 (zu ((vX4_shiftBy_2 i1 l3 l4 (nI i_) g_) 10) 8 ((((vX4_shiftBy_2 i1 l3 l4 (nI i_) g_) 10) 8) ||| (zshl (1 : Int32) (nI i_)))))) dX4_shiftBy_95 (Nat.le_of_ble_eq_true rfl) (zN rfl) rfl rfl (Nat.le_of_ble_eq_true rfl) fl_X4_51 rfl rfl rfl rfl rfl ?_
      refine z_iinc (v := ((nI i_) + (1 : Int32))) (lv' := [some (.ref 10), some (.ref (pO i1)), some (.ref (pO i2)), some (.int l3), some (.int l4), some (.int ((nI i_) + (1 : Int32))), some (.int (((g_ 19) (nI i_).toNatClampNeg) + l3)), some (.int (((g_ 20) (nI i_).toNatClampNeg) + l4))]) dX4_shiftBy_98 (Nat.le_of_ble_eq_true rfl) rfl (by rw [k_iconst_1]) rfl ?_
      refine z_goto (tgt := 15) dX4_shiftBy_101 (by decide) ?_
      refine zz_sub (lv' := [some (.ref 10), some (.ref (pO i1)), some (.ref (pO i2)), some (.int l3), some (.int l4), some (.int ((nI i_) + (1 : Int32))), none, none]) ⟨rfl, ⟨rfl, ⟨rfl, ⟨rfl, ⟨rfl, ⟨rfl, trivial⟩⟩⟩⟩⟩⟩ ?_
      rw [nI_1]
      simpa only [if_neg c_2] using k_
  · have hD_ := hC_ n_ (Nat.le_refl _)
    generalize zfor (fX4_shiftBy_15 i1 i2 l3 l4) n_ σ = g_ at W2_ hD_ ⊢
    refine z_iload dX4_shiftBy_15 rfl ?_
    refine z_aloadr_n dX4_shiftBy_17 rfl ?_
    refine z_callV (ci := 7) (r := (RX7, TX7, 5)) (b := (pO i1)) (As := []) (rest := [.int (nI n_)]) (ctX7_size P g_ i1 h1) dX4_shiftBy_18 lk_X4_157 lv_X7_size (z3O i1) (zNO h1) (SH_pO P i1) rfl rfl rfl (Nat.le_of_ble_eq_true rfl) (Nat.le_of_ble_eq_true rfl) (Nat.le_of_ble_eq_true rfl) (Nat.le_of_ble_eq_true rfl) (fun r_ h_ e_ => ?_)
    obtain ⟨e1_, e2_⟩ := e_
    subst e1_
    subst e2_
    show zz G mX4_shiftBy 1 0 0 Q 21 [some (.ref 10), some (.ref (pO i1)), some (.ref (pO i2)), some (.int l3), some (.int l4), some (.int (nI n_)), none, none] [.int (rX7_size P i1), .int (nI n_)] (hh P g_) 0 0
    refine z_icmp_ge (tgt := 104) dX4_shiftBy_21 (by decide) (fun c_ => ?_) (fun c_ => absurd (hD_.mpr (Nat.le_refl _)) c_)
    exact zz_sub (lv' := [some (.ref 10), none, some (.ref (pO i2)), some (.int l3), some (.int l4), none, none, none]) ⟨rfl, ⟨rfl, ⟨rfl, ⟨rfl, trivial⟩⟩⟩⟩ W2_

theorem dX4_shiftBy_0 : decode cX4_shiftBy 0 = .ok (.aload_n 0, 1) := by decide +kernel
theorem dX4_shiftBy_1 : decode cX4_shiftBy 1 = .ok (.iconst 0, 1) := by decide +kernel
theorem dX4_shiftBy_2 : decode cX4_shiftBy 2 = .ok (.putfield 51, 3) := by decide +kernel
theorem dX4_shiftBy_5 : decode cX4_shiftBy 5 = .ok (.aload_n 0, 1) := by decide +kernel
theorem dX4_shiftBy_6 : decode cX4_shiftBy 6 = .ok (.getfield 29, 3) := by decide +kernel
theorem dX4_shiftBy_9 : decode cX4_shiftBy 9 = .ok (.invokevirtual 189, 3) := by decide +kernel
theorem dX4_shiftBy_12 : decode cX4_shiftBy 12 = .ok (.iconst 0, 1) := by decide +kernel
theorem dX4_shiftBy_13 : decode cX4_shiftBy 13 = .ok (.istore 5, 2) := by decide +kernel
theorem dX4_shiftBy_170 : decode cX4_shiftBy 170 = .ok (.return_, 1) := by decide +kernel
noncomputable def vX4_shiftBy_3 (P : zp) (a3 : Int32) (a4 : Int32) (i1 : Nat) (i2 : Nat) (σ : zc_N) : zc_N := (zfor (fX4_shiftBy_15 i1 i2 a3 a4) (((rX7_size P i1)).toNatClampNeg) (sX5_clear (zu σ 10 (zu (σ 10) 8 (0 : Int32)))))
noncomputable def vX4_shiftBy_4 (P : zp) (a3 : Int32) (a4 : Int32) (i1 : Nat) (i2 : Nat) (σ : zc_N) : zc_N := (zfor (fX4_shiftBy_118 i2 a3 a4) (((rX7_size P i2)).toNatClampNeg) (zu (vX4_shiftBy_3 P a3 a4 i1 i2 σ) 10 (zu ((vX4_shiftBy_3 P a3 a4 i1 i2 σ) 10) 9 (rJ6_bitCount_0f7a4 (((vX4_shiftBy_3 P a3 a4 i1 i2 σ) 10) 8)))))
def pX4_shiftBy (P : zp) (σ : zc_N) (i1 : Nat) (i2 : Nat) (a3 : Int32) (a4 : Int32) : Prop := (((∀ i15_ : Nat, i15_ ≤ (((rX7_size P i1)).toNatClampNeg) → ((rX7_size P i1) ≤ (nI i15_) ↔ (((rX7_size P i1)).toNatClampNeg) ≤ i15_)) ∧ (∀ i15_ : Nat, i15_ < (((rX7_size P i1)).toNatClampNeg) → qX4_shiftBy_15 P i1 a3 a4 i15_ (zfor (fX4_shiftBy_15 i1 i2 a3 a4) i15_ (sX5_clear (zu σ 10 (zu (σ 10) 8 (0 : Int32))))))) ∧ ((∀ i118_ : Nat, i118_ ≤ (((rX7_size P i2)).toNatClampNeg) → ((rX7_size P i2) ≤ (nI i118_) ↔ (((rX7_size P i2)).toNatClampNeg) ≤ i118_)) ∧ (∀ i118_ : Nat, i118_ < (((rX7_size P i2)).toNatClampNeg) → qX4_shiftBy_118 P i2 i118_ (zfor (fX4_shiftBy_118 i2 a3 a4) i118_ (zu (vX4_shiftBy_3 P a3 a4 i1 i2 σ) 10 (zu ((vX4_shiftBy_3 P a3 a4 i1 i2 σ) 10) 9 (rJ6_bitCount_0f7a4 (((vX4_shiftBy_3 P a3 a4 i1 i2 σ) 10) 8))))))))
noncomputable def sX4_shiftBy (P : zp) (σ : zc_N) (i1 : Nat) (i2 : Nat) (a3 : Int32) (a4 : Int32) : zc_N := (vX4_shiftBy_4 P a3 a4 i1 i2 σ)
set_option maxHeartbeats 1000000 in
theorem ctX4_shiftBy (P : zp) (σ : zc_N) (i1 : Nat) (h1 : i1 < P.2.1) (i2 : Nat) (h2 : i2 < P.2.1) (a3 : Int32) (a4 : Int32) (W_ : (pX4_shiftBy P σ i1 i2 a3 a4)) : sp mX4_shiftBy 1 0 0 [.ref 10, .ref (pO i1), .ref (pO i2), .int a3, .int a4] (hh P σ) (fun r_ h_ => r_ = none ∧ h_ = hh P (sX4_shiftBy P σ i1 i2 a3 a4)) := by
  refine sp_of (lv := [some (.ref 10), some (.ref (pO i1)), some (.ref (pO i2)), some (.int a3), some (.int a4), none, none, none]) (by decide) (zcats_ok _ rfl) (Nat.le_of_ble_eq_true rfl) (zlv_ok _ 3 rfl) (fun G => ?_)
  generalize hQ_ : (fun (r_ : Option Value) (h_ : zc_H) => r_ = none ∧ h_ = hh P (sX4_shiftBy P σ i1 i2 a3 a4)) = Q_
  unfold pX4_shiftBy at W_
  refine z_aloadr_n dX4_shiftBy_0 rfl ?_
  refine z_iconst dX4_shiftBy_1 k_iconst_0 ?_
  refine z_put (ci := 4) (r := (RX4, TX4, 10)) (j := 8) (σ' := (zu σ 10 (zu (σ 10) 8 (0 : Int32)))) dX4_shiftBy_2 (Nat.le_of_ble_eq_true rfl) (zN rfl) rfl rfl (Nat.le_of_ble_eq_true rfl) fl_X4_51 rfl rfl rfl rfl rfl ?_
  refine z_aloadr_n dX4_shiftBy_5 rfl ?_
  refine z_get (ci := 4) (r := (RX4, TX4, 10)) (j := 3) (v := .ref 16) dX4_shiftBy_6 (Nat.le_of_ble_eq_true rfl) (zN rfl) rfl rfl (Nat.le_of_ble_eq_true rfl) fl_X4_29 rfl ?_
  refine z_callV (ci := 5) (r := (RX5, TX5, 4)) (b := 16) (As := []) (rest := []) (ctX5_clear P (zu σ 10 (zu (σ 10) 8 (0 : Int32)))) dX4_shiftBy_9 lk_X4_189 lv_X5_clear (Nat.le_of_ble_eq_true rfl) (zN rfl) rfl rfl rfl rfl (Nat.le_of_ble_eq_true rfl) (Nat.le_of_ble_eq_true rfl) (Nat.le_of_ble_eq_true rfl) (Nat.le_of_ble_eq_true rfl) (fun r_ h_ e_ => ?_)
  obtain ⟨e1_, e2_⟩ := e_
  subst e1_
  subst e2_
  show zz G mX4_shiftBy 1 0 0 Q_ 12 [some (.ref 10), some (.ref (pO i1)), some (.ref (pO i2)), some (.int a3), some (.int a4), none, none, none] [] (hh P (sX5_clear (zu σ 10 (zu (σ 10) 8 (0 : Int32))))) 0 0
  refine z_iconst dX4_shiftBy_12 k_iconst_0 ?_
  refine z_istore (lv' := [some (.ref 10), some (.ref (pO i1)), some (.ref (pO i2)), some (.int a3), some (.int a4), some (.int (0 : Int32)), none, none]) dX4_shiftBy_13 (Nat.le_of_ble_eq_true rfl) rfl ?_
  refine lpX4_shiftBy_15 P (sX5_clear (zu σ 10 (zu (σ 10) 8 (0 : Int32)))) i1 h1 i2 h2 a3 a4 (((rX7_size P i1)).toNatClampNeg) W_.1.1 W_.1.2 ?_
  show zz G mX4_shiftBy 1 0 0 Q_ 104 [some (.ref 10), none, some (.ref (pO i2)), some (.int a3), some (.int a4), none, none, none] [] (hh P (vX4_shiftBy_3 P a3 a4 i1 i2 σ)) 0 0
  refine z_aloadr_n dX4_shiftBy_104 rfl ?_
  refine z_aloadr_n dX4_shiftBy_105 rfl ?_
  refine z_get (ci := 4) (r := (RX4, TX4, 10)) (j := 8) (v := .int (((vX4_shiftBy_3 P a3 a4 i1 i2 σ) 10) 8)) dX4_shiftBy_106 (Nat.le_of_ble_eq_true rfl) (zN rfl) rfl rfl (Nat.le_of_ble_eq_true rfl) fl_X4_51 rfl ?_
  refine z_callS (As := [.int (((vX4_shiftBy_3 P a3 a4 i1 i2 σ) 10) 8)]) (rest := [.ref 10]) (ctJ6_bitCount_0f7a4 P (vX4_shiftBy_3 P a3 a4 i1 i2 σ) (((vX4_shiftBy_3 P a3 a4 i1 i2 σ) 10) 8)) dX4_shiftBy_109 lk_X4_203 ls_J6_bitCount_0f7a4 rfl (Nat.le_of_ble_eq_true rfl) (Nat.le_of_ble_eq_true rfl) (Nat.le_of_ble_eq_true rfl) (Nat.le_of_ble_eq_true rfl) (fun r_ h_ e_ => ?_)
  obtain ⟨e1_, e2_⟩ := e_
  subst e1_
  subst e2_
  show zz G mX4_shiftBy 1 0 0 Q_ 112 [some (.ref 10), none, some (.ref (pO i2)), some (.int a3), some (.int a4), none, none, none] [.int (rJ6_bitCount_0f7a4 (((vX4_shiftBy_3 P a3 a4 i1 i2 σ) 10) 8)), .ref 10] (hh P (vX4_shiftBy_3 P a3 a4 i1 i2 σ)) 0 0
  refine z_put (ci := 4) (r := (RX4, TX4, 10)) (j := 9) (σ' := (zu (vX4_shiftBy_3 P a3 a4 i1 i2 σ) 10 (zu ((vX4_shiftBy_3 P a3 a4 i1 i2 σ) 10) 9 (rJ6_bitCount_0f7a4 (((vX4_shiftBy_3 P a3 a4 i1 i2 σ) 10) 8))))) dX4_shiftBy_112 (Nat.le_of_ble_eq_true rfl) (zN rfl) rfl rfl (Nat.le_of_ble_eq_true rfl) fl_X4_54 rfl rfl rfl rfl rfl ?_
  refine z_iconst dX4_shiftBy_115 k_iconst_0 ?_
  refine z_istore (lv' := [some (.ref 10), none, some (.ref (pO i2)), some (.int a3), some (.int a4), some (.int (0 : Int32)), none, none]) dX4_shiftBy_116 (Nat.le_of_ble_eq_true rfl) rfl ?_
  refine lpX4_shiftBy_118 P (zu (vX4_shiftBy_3 P a3 a4 i1 i2 σ) 10 (zu ((vX4_shiftBy_3 P a3 a4 i1 i2 σ) 10) 9 (rJ6_bitCount_0f7a4 (((vX4_shiftBy_3 P a3 a4 i1 i2 σ) 10) 8)))) i2 h2 a3 a4 (((rX7_size P i2)).toNatClampNeg) W_.2.1 W_.2.2 ?_
  show zz G mX4_shiftBy 1 0 0 Q_ 170 [none, none, none, none, none, none, none, none] [] (hh P (vX4_shiftBy_4 P a3 a4 i1 i2 σ)) 0 0
  exact z_return dX4_shiftBy_170 rfl (Nat.le_of_ble_eq_true rfl) (Nat.le_of_ble_eq_true rfl) (by rw [← hQ_]; exact ⟨rfl, (by rw [sX4_shiftBy])⟩)

theorem dX9_layOut_93 : decode cX9_layOut 93 = .ok (.iload 7, 2) := by decide +kernel
theorem dX9_layOut_95 : decode cX9_layOut 95 = .ok (.aload_n 0, 1) := by decide +kernel
theorem dX9_layOut_96 : decode cX9_layOut 96 = .ok (.getfield 23, 3) := by decide +kernel
theorem dX9_layOut_99 : decode cX9_layOut 99 = .ok (.iload_n 2, 1) := by decide +kernel
theorem dX9_layOut_100 : decode cX9_layOut 100 = .ok (.iaload, 1) := by decide +kernel
theorem dX9_layOut_101 : decode cX9_layOut 101 = .ok (.if_icmp .ge 132, 3) := by decide +kernel
theorem dX9_layOut_104 : decode cX9_layOut 104 = .ok (.aload_n 0, 1) := by decide +kernel
theorem dX9_layOut_105 : decode cX9_layOut 105 = .ok (.getfield 48, 3) := by decide +kernel
theorem dX9_layOut_108 : decode cX9_layOut 108 = .ok (.iload 6, 2) := by decide +kernel
theorem dX9_layOut_110 : decode cX9_layOut 110 = .ok (.iaload, 1) := by decide +kernel
theorem dX9_layOut_111 : decode cX9_layOut 111 = .ok (.aload_n 0, 1) := by decide +kernel
theorem dX9_layOut_112 : decode cX9_layOut 112 = .ok (.getfield 26, 3) := by decide +kernel
theorem dX9_layOut_115 : decode cX9_layOut 115 = .ok (.bipush 12, 2) := by decide +kernel
theorem dX9_layOut_117 : decode cX9_layOut 117 = .ok (.iload_n 2, 1) := by decide +kernel
theorem dX9_layOut_118 : decode cX9_layOut 118 = .ok (.imul, 1) := by decide +kernel
theorem dX9_layOut_119 : decode cX9_layOut 119 = .ok (.iload 7, 2) := by decide +kernel
theorem dX9_layOut_121 : decode cX9_layOut 121 = .ok (.iadd, 1) := by decide +kernel
theorem dX9_layOut_122 : decode cX9_layOut 122 = .ok (.iaload, 1) := by decide +kernel
theorem dX9_layOut_123 : decode cX9_layOut 123 = .ok (.isub, 1) := by decide +kernel
theorem dX9_layOut_124 : decode cX9_layOut 124 = .ok (.istore 8, 2) := by decide +kernel
theorem dX9_layOut_126 : decode cX9_layOut 126 = .ok (.aload_n 0, 1) := by decide +kernel
theorem dX9_layOut_127 : decode cX9_layOut 127 = .ok (.getfield 51, 3) := by decide +kernel
theorem dX9_layOut_130 : decode cX9_layOut 130 = .ok (.iload 6, 2) := by decide +kernel
theorem dX9_layOut_132 : decode cX9_layOut 132 = .ok (.iaload, 1) := by decide +kernel
theorem dX9_layOut_133 : decode cX9_layOut 133 = .ok (.aload_n 0, 1) := by decide +kernel
theorem dX9_layOut_134 : decode cX9_layOut 134 = .ok (.getfield 29, 3) := by decide +kernel
theorem dX9_layOut_137 : decode cX9_layOut 137 = .ok (.bipush 12, 2) := by decide +kernel
theorem dX9_layOut_139 : decode cX9_layOut 139 = .ok (.iload_n 2, 1) := by decide +kernel
theorem dX9_layOut_140 : decode cX9_layOut 140 = .ok (.imul, 1) := by decide +kernel
theorem dX9_layOut_141 : decode cX9_layOut 141 = .ok (.iload 7, 2) := by decide +kernel
theorem dX9_layOut_143 : decode cX9_layOut 143 = .ok (.iadd, 1) := by decide +kernel
theorem dX9_layOut_144 : decode cX9_layOut 144 = .ok (.iaload, 1) := by decide +kernel
theorem dX9_layOut_145 : decode cX9_layOut 145 = .ok (.isub, 1) := by decide +kernel
theorem dX9_layOut_146 : decode cX9_layOut 146 = .ok (.istore 9, 2) := by decide +kernel
theorem dX9_layOut_148 : decode cX9_layOut 148 = .ok (.aload_n 0, 1) := by decide +kernel
theorem dX9_layOut_149 : decode cX9_layOut 149 = .ok (.getfield 57, 3) := by decide +kernel
theorem dX9_layOut_152 : decode cX9_layOut 152 = .ok (.bipush 12, 2) := by decide +kernel
theorem dX9_layOut_154 : decode cX9_layOut 154 = .ok (.iload 6, 2) := by decide +kernel
theorem dX9_layOut_156 : decode cX9_layOut 156 = .ok (.imul, 1) := by decide +kernel
theorem dX9_layOut_157 : decode cX9_layOut 157 = .ok (.iload 7, 2) := by decide +kernel
theorem dX9_layOut_159 : decode cX9_layOut 159 = .ok (.iadd, 1) := by decide +kernel
theorem dX9_layOut_160 : decode cX9_layOut 160 = .ok (.aload_n 0, 1) := by decide +kernel
theorem dX9_layOut_161 : decode cX9_layOut 161 = .ok (.getfield 32, 3) := by decide +kernel
theorem dX9_layOut_164 : decode cX9_layOut 164 = .ok (.bipush 12, 2) := by decide +kernel
theorem dX9_layOut_166 : decode cX9_layOut 166 = .ok (.iload_n 1, 1) := by decide +kernel
theorem dX9_layOut_167 : decode cX9_layOut 167 = .ok (.imul, 1) := by decide +kernel
theorem dX9_layOut_168 : decode cX9_layOut 168 = .ok (.iload 6, 2) := by decide +kernel
theorem dX9_layOut_170 : decode cX9_layOut 170 = .ok (.iadd, 1) := by decide +kernel
theorem dX9_layOut_171 : decode cX9_layOut 171 = .ok (.iaload, 1) := by decide +kernel
theorem dX9_layOut_172 : decode cX9_layOut 172 = .ok (.aload_n 0, 1) := by decide +kernel
theorem dX9_layOut_173 : decode cX9_layOut 173 = .ok (.getfield 32, 3) := by decide +kernel
theorem dX9_layOut_176 : decode cX9_layOut 176 = .ok (.bipush 12, 2) := by decide +kernel
theorem dX9_layOut_178 : decode cX9_layOut 178 = .ok (.iload_n 2, 1) := by decide +kernel
theorem dX9_layOut_179 : decode cX9_layOut 179 = .ok (.imul, 1) := by decide +kernel
theorem dX9_layOut_180 : decode cX9_layOut 180 = .ok (.iload 7, 2) := by decide +kernel
theorem dX9_layOut_182 : decode cX9_layOut 182 = .ok (.iadd, 1) := by decide +kernel
theorem dX9_layOut_183 : decode cX9_layOut 183 = .ok (.iaload, 1) := by decide +kernel
theorem dX9_layOut_184 : decode cX9_layOut 184 = .ok (.if_icmp .ne 41, 3) := by decide +kernel
theorem dX9_layOut_187 : decode cX9_layOut 187 = .ok (.iload 8, 2) := by decide +kernel
theorem dX9_layOut_189 : decode cX9_layOut 189 = .ok (.aload_n 0, 1) := by decide +kernel
theorem dX9_layOut_190 : decode cX9_layOut 190 = .ok (.getfield 44, 3) := by decide +kernel
theorem dX9_layOut_193 : decode cX9_layOut 193 = .ok (.ineg, 1) := by decide +kernel
theorem dX9_layOut_194 : decode cX9_layOut 194 = .ok (.aload_n 0, 1) := by decide +kernel
theorem dX9_layOut_195 : decode cX9_layOut 195 = .ok (.getfield 44, 3) := by decide +kernel
theorem dX9_layOut_198 : decode cX9_layOut 198 = .ok (.invokestatic 96, 3) := by decide +kernel
theorem dX9_layOut_201 : decode cX9_layOut 201 = .ok (.ifCond .eq 24, 3) := by decide +kernel
theorem dX9_layOut_204 : decode cX9_layOut 204 = .ok (.iload 9, 2) := by decide +kernel
theorem dX9_layOut_206 : decode cX9_layOut 206 = .ok (.aload_n 0, 1) := by decide +kernel
theorem dX9_layOut_207 : decode cX9_layOut 207 = .ok (.getfield 44, 3) := by decide +kernel
theorem dX9_layOut_210 : decode cX9_layOut 210 = .ok (.ineg, 1) := by decide +kernel
theorem dX9_layOut_211 : decode cX9_layOut 211 = .ok (.aload_n 0, 1) := by decide +kernel
theorem dX9_layOut_212 : decode cX9_layOut 212 = .ok (.getfield 44, 3) := by decide +kernel
theorem dX9_layOut_215 : decode cX9_layOut 215 = .ok (.invokestatic 96, 3) := by decide +kernel
theorem dX9_layOut_218 : decode cX9_layOut 218 = .ok (.ifCond .eq 7, 3) := by decide +kernel
theorem dX9_layOut_221 : decode cX9_layOut 221 = .ok (.iconst 1, 1) := by decide +kernel
theorem dX9_layOut_222 : decode cX9_layOut 222 = .ok (.goto 4, 3) := by decide +kernel
theorem dX9_layOut_225 : decode cX9_layOut 225 = .ok (.iconst 0, 1) := by decide +kernel
theorem dX9_layOut_226 : decode cX9_layOut 226 = .ok (.bastore, 1) := by decide +kernel
theorem dX9_layOut_227 : decode cX9_layOut 227 = .ok (.iinc 7 1, 3) := by decide +kernel
theorem dX9_layOut_230 : decode cX9_layOut 230 = .ok (.goto (-137), 3) := by decide +kernel
theorem dX9_layOut_233 : decode cX9_layOut 233 = .ok (.iinc 6 1, 3) := by decide +kernel
theorem dX9_layOut_236 : decode cX9_layOut 236 = .ok (.goto (-233), 3) := by decide +kernel
noncomputable def fX9_layOut_93 (l1 : Int32) (l2 : Int32) (l6 : Int32) (i_ : Nat) (a_ : zc_N) : zc_N := (zu a_ 47 (zu (a_ 47) (((12 : Int32) * l6) + (nI i_)).toNatClampNeg (if ((a_ 40) (((12 : Int32) * l1) + l6).toNatClampNeg) = ((a_ 40) (((12 : Int32) * l2) + (nI i_)).toNatClampNeg) then (if (rX9_within (((a_ 44) l6.toNatClampNeg) - ((a_ 38) (((12 : Int32) * l2) + (nI i_)).toNatClampNeg)) (-((a_ 32) 12)) ((a_ 32) 12)) = (0 : Int32) then (0 : Int32) else (if (rX9_within (((a_ 45) l6.toNatClampNeg) - ((a_ 39) (((12 : Int32) * l2) + (nI i_)).toNatClampNeg)) (-((a_ 32) 12)) ((a_ 32) 12)) = (0 : Int32) then (0 : Int32) else (1 : Int32))) else (0 : Int32))))
def qX9_layOut_93 (l1 : Int32) (l2 : Int32) (l6 : Int32) (i_ : Nat) (a_ : zc_N) : Prop := (vp_in l6 12 ∧ (vp_in (((12 : Int32) * l2) + (nI i_)) 288 ∧ (vp_in l6 12 ∧ (vp_in (((12 : Int32) * l2) + (nI i_)) 288 ∧ (vp_in (((12 : Int32) * l1) + l6) 288 ∧ (vp_in (((12 : Int32) * l2) + (nI i_)) 288 ∧ vp_in (((12 : Int32) * l6) + (nI i_)) 144))))))
def uX9_layOut_93 (l2 : Int32) (i_ : Nat) (a_ : zc_N) : Prop := vp_in l2 24
set_option maxHeartbeats 2000000 in
theorem lpX9_layOut_93 {G : zc_G} {Q : Option Value → zc_H → Prop} (P : zp) (σ : zc_N) (l1 : Int32) (l2 : Int32) (l3 : Int32) (l4 : Int32) (l5 : Int32) (l6 : Int32) (n_ : Nat) (hC_ : ∀ i93_ : Nat, i93_ ≤ n_ → ((((zfor (fX9_layOut_93 l1 l2 l6) i93_ σ) 37) l2.toNatClampNeg) ≤ (nI i93_) ↔ n_ ≤ i93_)) (W0_ : ∀ i93_ : Nat, i93_ ≤ n_ → uX9_layOut_93 l2 i93_ (zfor (fX9_layOut_93 l1 l2 l6) i93_ σ)) (W1_ : ∀ i93_ : Nat, i93_ < n_ → qX9_layOut_93 l1 l2 l6 i93_ (zfor (fX9_layOut_93 l1 l2 l6) i93_ σ))
    (W2_ : zz G mX9_layOut 1 0 0 Q 233 [some (.ref 32), some (.int l1), some (.int l2), some (.int l3), some (.int l4), some (.int l5), some (.int l6), none, none, none] [] (hh P (zfor (fX9_layOut_93 l1 l2 l6) n_ σ)) 0 0) :
    zz G mX9_layOut 1 0 0 Q 93 [some (.ref 32), some (.int l1), some (.int l2), some (.int l3), some (.int l4), some (.int l5), some (.int l6), some (.int (nI 0)), none, none] [] (hh P σ) 0 0 := by
  refine zfor_nI (fun i_ a_ => zz G mX9_layOut 1 0 0 Q 93 [some (.ref 32), some (.int l1), some (.int l2), some (.int l3), some (.int l4), some (.int l5), some (.int l6), some (.int i_), none, none] [] (hh P a_) 0 0) (fX9_layOut_93 l1 l2 l6) n_ σ (fun i_ hi_ k_ => ?_) ?_
  · have Wa_ := W0_ i_ (Nat.le_of_lt hi_)
    have W3_ := W1_ i_ hi_
    have hD_ := hC_ i_ (Nat.le_of_lt hi_)
    generalize zfor (fX9_layOut_93 l1 l2 l6) i_ σ = g_ at k_ W3_ hD_ Wa_ ⊢
    rw [fX9_layOut_93] at k_
    rw [qX9_layOut_93] at W3_
    try dsimp only at W3_
    rw [uX9_layOut_93] at Wa_
    try dsimp only at Wa_
    refine z_iload dX9_layOut_93 rfl ?_
    refine z_aloadr_n dX9_layOut_95 rfl ?_
    refine z_get (ci := 9) (r := (RX9, TX9, 38)) (j := 4) (v := .ref 37) dX9_layOut_96 (Nat.le_of_ble_eq_true rfl) (zN rfl) rfl rfl (Nat.le_of_ble_eq_true rfl) fl_X9_23 rfl ?_
    refine z_iload_n dX9_layOut_99 rfl ?_
    refine z_iald (v := ((g_ 37) l2.toNatClampNeg)) dX9_layOut_100 (zN rfl) rfl Wa_ rfl ?_
    refine z_icmp_ge (tgt := 233) dX9_layOut_101 (by decide) (fun c_ => absurd c_ (fun q_ => Nat.not_le_of_lt hi_ (hD_.mp q_))) (fun c_ => ?_)
    refine z_aloadr_n dX9_layOut_104 rfl ?_
    refine z_get (ci := 9) (r := (RX9, TX9, 38)) (j := 13) (v := .ref 44) dX9_layOut_105 (Nat.le_of_ble_eq_true rfl) (zN rfl) rfl rfl (Nat.le_of_ble_eq_true rfl) fl_X9_48 rfl ?_
    refine z_iload dX9_layOut_108 rfl ?_
    refine z_iald (v := ((g_ 44) l6.toNatClampNeg)) dX9_layOut_110 (zN rfl) rfl W3_.1 rfl ?_
    refine z_aloadr_n dX9_layOut_111 rfl ?_
    refine z_get (ci := 9) (r := (RX9, TX9, 38)) (j := 5) (v := .ref 38) dX9_layOut_112 (Nat.le_of_ble_eq_true rfl) (zN rfl) rfl rfl (Nat.le_of_ble_eq_true rfl) fl_X9_26 rfl ?_
    refine z_bipush dX9_layOut_115 k_bipush_12 ?_
    refine z_iload_n dX9_layOut_117 rfl ?_
    refine z_imul (v := ((12 : Int32) * l2)) dX9_layOut_118 rfl ?_
    refine z_iload dX9_layOut_119 rfl ?_
    refine z_iadd (v := (((12 : Int32) * l2) + (nI i_))) dX9_layOut_121 rfl ?_
    refine z_iald (v := ((g_ 38) (((12 : Int32) * l2) + (nI i_)).toNatClampNeg)) dX9_layOut_122 (zN rfl) rfl W3_.2.1 rfl ?_
    refine z_isub (v := (((g_ 44) l6.toNatClampNeg) - ((g_ 38) (((12 : Int32) * l2) + (nI i_)).toNatClampNeg))) dX9_layOut_123 rfl ?_
    refine z_istore (lv' := [some (.ref 32), some (.int l1), some (.int l2), some (.int l3), some (.int l4), some (.int l5), some (.int l6), some (.int (nI i_)), some (.int (((g_ 44) l6.toNatClampNeg) - ((g_ 38) (((12 : Int32) * l2) + (nI i_)).toNatClampNeg))), none]) dX9_layOut_124 (Nat.le_of_ble_eq_true rfl) rfl ?_
    refine z_aloadr_n dX9_layOut_126 rfl ?_
    refine z_get (ci := 9) (r := (RX9, TX9, 38)) (j := 14) (v := .ref 45) dX9_layOut_127 (Nat.le_of_ble_eq_true rfl) (zN rfl) rfl rfl (Nat.le_of_ble_eq_true rfl) fl_X9_51 rfl ?_
    refine z_iload dX9_layOut_130 rfl ?_
    refine z_iald (v := ((g_ 45) l6.toNatClampNeg)) dX9_layOut_132 (zN rfl) rfl W3_.2.2.1 rfl ?_
    refine z_aloadr_n dX9_layOut_133 rfl ?_
    refine z_get (ci := 9) (r := (RX9, TX9, 38)) (j := 6) (v := .ref 39) dX9_layOut_134 (Nat.le_of_ble_eq_true rfl) (zN rfl) rfl rfl (Nat.le_of_ble_eq_true rfl) fl_X9_29 rfl ?_
    refine z_bipush dX9_layOut_137 k_bipush_12 ?_
    refine z_iload_n dX9_layOut_139 rfl ?_
    refine z_imul (v := ((12 : Int32) * l2)) dX9_layOut_140 rfl ?_
    refine z_iload dX9_layOut_141 rfl ?_
    refine z_iadd (v := (((12 : Int32) * l2) + (nI i_))) dX9_layOut_143 rfl ?_
    refine z_iald (v := ((g_ 39) (((12 : Int32) * l2) + (nI i_)).toNatClampNeg)) dX9_layOut_144 (zN rfl) rfl W3_.2.2.2.1 rfl ?_
    refine z_isub (v := (((g_ 45) l6.toNatClampNeg) - ((g_ 39) (((12 : Int32) * l2) + (nI i_)).toNatClampNeg))) dX9_layOut_145 rfl ?_
    refine z_istore (lv' := [some (.ref 32), some (.int l1), some (.int l2), some (.int l3), some (.int l4), some (.int l5), some (.int l6), some (.int (nI i_)), some (.int (((g_ 44) l6.toNatClampNeg) - ((g_ 38) (((12 : Int32) * l2) + (nI i_)).toNatClampNeg))), some (.int (((g_ 45) l6.toNatClampNeg) - ((g_ 39) (((12 : Int32) * l2) + (nI i_)).toNatClampNeg)))]) dX9_layOut_146 (Nat.le_of_ble_eq_true rfl) rfl ?_
    refine z_aloadr_n dX9_layOut_148 rfl ?_
    refine z_get (ci := 9) (r := (RX9, TX9, 38)) (j := 16) (v := .ref 47) dX9_layOut_149 (Nat.le_of_ble_eq_true rfl) (zN rfl) rfl rfl (Nat.le_of_ble_eq_true rfl) fl_X9_57 rfl ?_
    refine z_bipush dX9_layOut_152 k_bipush_12 ?_
    refine z_iload dX9_layOut_154 rfl ?_
    refine z_imul (v := ((12 : Int32) * l6)) dX9_layOut_156 rfl ?_
    refine z_iload dX9_layOut_157 rfl ?_
    refine z_iadd (v := (((12 : Int32) * l6) + (nI i_))) dX9_layOut_159 rfl ?_
    refine z_aloadr_n dX9_layOut_160 rfl ?_
    refine z_get (ci := 9) (r := (RX9, TX9, 38)) (j := 7) (v := .ref 40) dX9_layOut_161 (Nat.le_of_ble_eq_true rfl) (zN rfl) rfl rfl (Nat.le_of_ble_eq_true rfl) fl_X9_32 rfl ?_
    refine z_bipush dX9_layOut_164 k_bipush_12 ?_
    refine z_iload_n dX9_layOut_166 rfl ?_
    refine z_imul (v := ((12 : Int32) * l1)) dX9_layOut_167 rfl ?_
    refine z_iload dX9_layOut_168 rfl ?_
    refine z_iadd (v := (((12 : Int32) * l1) + l6)) dX9_layOut_170 rfl ?_
    refine z_iald (v := ((g_ 40) (((12 : Int32) * l1) + l6).toNatClampNeg)) dX9_layOut_171 (zN rfl) rfl W3_.2.2.2.2.1 rfl ?_
    refine z_aloadr_n dX9_layOut_172 rfl ?_
    refine z_get (ci := 9) (r := (RX9, TX9, 38)) (j := 7) (v := .ref 40) dX9_layOut_173 (Nat.le_of_ble_eq_true rfl) (zN rfl) rfl rfl (Nat.le_of_ble_eq_true rfl) fl_X9_32 rfl ?_
    refine z_bipush dX9_layOut_176 k_bipush_12 ?_
    refine z_iload_n dX9_layOut_178 rfl ?_
    refine z_imul (v := ((12 : Int32) * l2)) dX9_layOut_179 rfl ?_
    refine z_iload dX9_layOut_180 rfl ?_
    refine z_iadd (v := (((12 : Int32) * l2) + (nI i_))) dX9_layOut_182 rfl ?_
    refine z_iald (v := ((g_ 40) (((12 : Int32) * l2) + (nI i_)).toNatClampNeg)) dX9_layOut_183 (zN rfl) rfl W3_.2.2.2.2.2.1 rfl ?_
    have K_1 : zz G mX9_layOut 1 0 0 Q 226 [some (.ref 32), some (.int l1), some (.int l2), some (.int l3), some (.int l4), some (.int l5), some (.int l6), some (.int (nI i_)), none, none] [.int (if ((g_ 40) (((12 : Int32) * l1) + l6).toNatClampNeg) = ((g_ 40) (((12 : Int32) * l2) + (nI i_)).toNatClampNeg) then (if (rX9_within (((g_ 44) l6.toNatClampNeg) - ((g_ 38) (((12 : Int32) * l2) + (nI i_)).toNatClampNeg)) (-((g_ 32) 12)) ((g_ 32) 12)) = (0 : Int32) then (0 : Int32) else (if (rX9_within (((g_ 45) l6.toNatClampNeg) - ((g_ 39) (((12 : Int32) * l2) + (nI i_)).toNatClampNeg)) (-((g_ 32) 12)) ((g_ 32) 12)) = (0 : Int32) then (0 : Int32) else (1 : Int32))) else (0 : Int32)), .int (((12 : Int32) * l6) + (nI i_)), .ref 47] (hh P g_) 0 0 := by
      refine z_bast (σ' := (zu g_ 47 (zu (g_ 47) (((12 : Int32) * l6) + (nI i_)).toNatClampNeg (if ((g_ 40) (((12 : Int32) * l1) + l6).toNatClampNeg) = ((g_ 40) (((12 : Int32) * l2) + (nI i_)).toNatClampNeg) then (if (rX9_within (((g_ 44) l6.toNatClampNeg) - ((g_ 38) (((12 : Int32) * l2) + (nI i_)).toNatClampNeg)) (-((g_ 32) 12)) ((g_ 32) 12)) = (0 : Int32) then (0 : Int32) else (if (rX9_within (((g_ 45) l6.toNatClampNeg) - ((g_ 39) (((12 : Int32) * l2) + (nI i_)).toNatClampNeg)) (-((g_ 32) 12)) ((g_ 32) 12)) = (0 : Int32) then (0 : Int32) else (1 : Int32))) else (0 : Int32))))) dX9_layOut_226 (Nat.le_of_ble_eq_true rfl) (zN rfl) rfl W3_.2.2.2.2.2.2 (by (repeat' split) <;> rfl) rfl ?_
      refine z_iinc (v := ((nI i_) + (1 : Int32))) (lv' := [some (.ref 32), some (.int l1), some (.int l2), some (.int l3), some (.int l4), some (.int l5), some (.int l6), some (.int ((nI i_) + (1 : Int32))), none, none]) dX9_layOut_227 (Nat.le_of_ble_eq_true rfl) rfl (by rw [k_iconst_1]) rfl ?_
      refine z_goto (tgt := 93) dX9_layOut_230 (by decide) ?_
      rw [nI_1]
      exact k_
    refine z_icmp_ne (tgt := 225) dX9_layOut_184 (by decide) (fun c_2 => ?_) (fun c_2 => ?_)
    · refine z_iconst dX9_layOut_225 k_iconst_0 ?_
      refine zz_sub (lv' := [some (.ref 32), some (.int l1), some (.int l2), some (.int l3), some (.int l4), some (.int l5), some (.int l6), some (.int (nI i_)), none, none]) ⟨rfl, ⟨rfl, ⟨rfl, ⟨rfl, ⟨rfl, ⟨rfl, ⟨rfl, ⟨rfl, trivial⟩⟩⟩⟩⟩⟩⟩⟩ ?_
      rw [show (if ((g_ 40) (((12 : Int32) * l1) + l6).toNatClampNeg) = ((g_ 40) (((12 : Int32) * l2) + (nI i_)).toNatClampNeg) then (if (rX9_within (((g_ 44) l6.toNatClampNeg) - ((g_ 38) (((12 : Int32) * l2) + (nI i_)).toNatClampNeg)) (-((g_ 32) 12)) ((g_ 32) 12)) = (0 : Int32) then (0 : Int32) else (if (rX9_within (((g_ 45) l6.toNatClampNeg) - ((g_ 39) (((12 : Int32) * l2) + (nI i_)).toNatClampNeg)) (-((g_ 32) 12)) ((g_ 32) 12)) = (0 : Int32) then (0 : Int32) else (1 : Int32))) else (0 : Int32)) = (0 : Int32) from (if_neg c_2)] at K_1
      exact K_1
    · refine z_iload dX9_layOut_187 rfl ?_
      refine z_aloadr_n dX9_layOut_189 rfl ?_
      refine z_get (ci := 9) (r := (RX9, TX9, 38)) (j := 12) (v := .int ((g_ 32) 12)) dX9_layOut_190 (Nat.le_of_ble_eq_true rfl) (zN rfl) rfl rfl (Nat.le_of_ble_eq_true rfl) fl_X9_44 rfl ?_
      refine z_ineg (v := (-((g_ 32) 12))) dX9_layOut_193 rfl ?_
      refine z_aloadr_n dX9_layOut_194 rfl ?_
      refine z_get (ci := 9) (r := (RX9, TX9, 38)) (j := 12) (v := .int ((g_ 32) 12)) dX9_layOut_195 (Nat.le_of_ble_eq_true rfl) (zN rfl) rfl rfl (Nat.le_of_ble_eq_true rfl) fl_X9_44 rfl ?_
      refine z_callS (As := [.int (((g_ 44) l6.toNatClampNeg) - ((g_ 38) (((12 : Int32) * l2) + (nI i_)).toNatClampNeg)), .int (-((g_ 32) 12)), .int ((g_ 32) 12)]) (rest := [.int (((12 : Int32) * l6) + (nI i_)), .ref 47]) (ctX9_within P g_ (((g_ 44) l6.toNatClampNeg) - ((g_ 38) (((12 : Int32) * l2) + (nI i_)).toNatClampNeg)) (-((g_ 32) 12)) ((g_ 32) 12)) dX9_layOut_198 lk_X9_96 ls_X9_within rfl (Nat.le_of_ble_eq_true rfl) (Nat.le_of_ble_eq_true rfl) (Nat.le_of_ble_eq_true rfl) (Nat.le_of_ble_eq_true rfl) (fun r_ h_ e_ => ?_)
      obtain ⟨e1_, e2_⟩ := e_
      subst e1_
      subst e2_
      show zz G mX9_layOut 1 0 0 Q 201 [some (.ref 32), some (.int l1), some (.int l2), some (.int l3), some (.int l4), some (.int l5), some (.int l6), some (.int (nI i_)), some (.int (((g_ 44) l6.toNatClampNeg) - ((g_ 38) (((12 : Int32) * l2) + (nI i_)).toNatClampNeg))), some (.int (((g_ 45) l6.toNatClampNeg) - ((g_ 39) (((12 : Int32) * l2) + (nI i_)).toNatClampNeg)))] [.int (rX9_within (((g_ 44) l6.toNatClampNeg) - ((g_ 38) (((12 : Int32) * l2) + (nI i_)).toNatClampNeg)) (-((g_ 32) 12)) ((g_ 32) 12)), .int (((12 : Int32) * l6) + (nI i_)), .ref 47] (hh P g_) 0 0
      refine z_if_eq (tgt := 225) dX9_layOut_201 (by decide) (fun c_3 => ?_) (fun c_3 => ?_)
      · refine z_iconst dX9_layOut_225 k_iconst_0 ?_
        refine zz_sub (lv' := [some (.ref 32), some (.int l1), some (.int l2), some (.int l3), some (.int l4), some (.int l5), some (.int l6), some (.int (nI i_)), none, none]) ⟨rfl, ⟨rfl, ⟨rfl, ⟨rfl, ⟨rfl, ⟨rfl, ⟨rfl, ⟨rfl, trivial⟩⟩⟩⟩⟩⟩⟩⟩ ?_
        rw [show (if ((g_ 40) (((12 : Int32) * l1) + l6).toNatClampNeg) = ((g_ 40) (((12 : Int32) * l2) + (nI i_)).toNatClampNeg) then (if (rX9_within (((g_ 44) l6.toNatClampNeg) - ((g_ 38) (((12 : Int32) * l2) + (nI i_)).toNatClampNeg)) (-((g_ 32) 12)) ((g_ 32) 12)) = (0 : Int32) then (0 : Int32) else (if (rX9_within (((g_ 45) l6.toNatClampNeg) - ((g_ 39) (((12 : Int32) * l2) + (nI i_)).toNatClampNeg)) (-((g_ 32) 12)) ((g_ 32) 12)) = (0 : Int32) then (0 : Int32) else (1 : Int32))) else (0 : Int32)) = (0 : Int32) from ((if_pos c_2).trans (if_pos c_3))] at K_1
        exact K_1
      · refine z_iload dX9_layOut_204 rfl ?_
        refine z_aloadr_n dX9_layOut_206 rfl ?_
        refine z_get (ci := 9) (r := (RX9, TX9, 38)) (j := 12) (v := .int ((g_ 32) 12)) dX9_layOut_207 (Nat.le_of_ble_eq_true rfl) (zN rfl) rfl rfl (Nat.le_of_ble_eq_true rfl) fl_X9_44 rfl ?_
        refine z_ineg (v := (-((g_ 32) 12))) dX9_layOut_210 rfl ?_
        refine z_aloadr_n dX9_layOut_211 rfl ?_
        refine z_get (ci := 9) (r := (RX9, TX9, 38)) (j := 12) (v := .int ((g_ 32) 12)) dX9_layOut_212 (Nat.le_of_ble_eq_true rfl) (zN rfl) rfl rfl (Nat.le_of_ble_eq_true rfl) fl_X9_44 rfl ?_
        refine z_callS (As := [.int (((g_ 45) l6.toNatClampNeg) - ((g_ 39) (((12 : Int32) * l2) + (nI i_)).toNatClampNeg)), .int (-((g_ 32) 12)), .int ((g_ 32) 12)]) (rest := [.int (((12 : Int32) * l6) + (nI i_)), .ref 47]) (ctX9_within P g_ (((g_ 45) l6.toNatClampNeg) - ((g_ 39) (((12 : Int32) * l2) + (nI i_)).toNatClampNeg)) (-((g_ 32) 12)) ((g_ 32) 12)) dX9_layOut_215 lk_X9_96 ls_X9_within rfl (Nat.le_of_ble_eq_true rfl) (Nat.le_of_ble_eq_true rfl) (Nat.le_of_ble_eq_true rfl) (Nat.le_of_ble_eq_true rfl) (fun r_ h_ e_ => ?_)
        obtain ⟨e1_, e2_⟩ := e_
        subst e1_
        subst e2_
        show zz G mX9_layOut 1 0 0 Q 218 [some (.ref 32), some (.int l1), some (.int l2), some (.int l3), some (.int l4), some (.int l5), some (.int l6), some (.int (nI i_)), some (.int (((g_ 44) l6.toNatClampNeg) - ((g_ 38) (((12 : Int32) * l2) + (nI i_)).toNatClampNeg))), some (.int (((g_ 45) l6.toNatClampNeg) - ((g_ 39) (((12 : Int32) * l2) + (nI i_)).toNatClampNeg)))] [.int (rX9_within (((g_ 45) l6.toNatClampNeg) - ((g_ 39) (((12 : Int32) * l2) + (nI i_)).toNatClampNeg)) (-((g_ 32) 12)) ((g_ 32) 12)), .int (((12 : Int32) * l6) + (nI i_)), .ref 47] (hh P g_) 0 0
        refine z_if_eq (tgt := 225) dX9_layOut_218 (by decide) (fun c_4 => ?_) (fun c_4 => ?_)
        · refine z_iconst dX9_layOut_225 k_iconst_0 ?_
          refine zz_sub (lv' := [some (.ref 32), some (.int l1), some (.int l2), some (.int l3), some (.int l4), some (.int l5), some (.int l6), some (.int (nI i_)), none, none]) ⟨rfl, ⟨rfl, ⟨rfl, ⟨rfl, ⟨rfl, ⟨rfl, ⟨rfl, ⟨rfl, trivial⟩⟩⟩⟩⟩⟩⟩⟩ ?_
          rw [show (if ((g_ 40) (((12 : Int32) * l1) + l6).toNatClampNeg) = ((g_ 40) (((12 : Int32) * l2) + (nI i_)).toNatClampNeg) then (if (rX9_within (((g_ 44) l6.toNatClampNeg) - ((g_ 38) (((12 : Int32) * l2) + (nI i_)).toNatClampNeg)) (-((g_ 32) 12)) ((g_ 32) 12)) = (0 : Int32) then (0 : Int32) else (if (rX9_within (((g_ 45) l6.toNatClampNeg) - ((g_ 39) (((12 : Int32) * l2) + (nI i_)).toNatClampNeg)) (-((g_ 32) 12)) ((g_ 32) 12)) = (0 : Int32) then (0 : Int32) else (1 : Int32))) else (0 : Int32)) = (0 : Int32) from ((if_pos c_2).trans ((if_neg c_3).trans (if_pos c_4)))] at K_1
          exact K_1
        · refine z_iconst dX9_layOut_221 k_iconst_1 ?_
          refine z_goto (tgt := 226) dX9_layOut_222 (by decide) ?_
          refine zz_sub (lv' := [some (.ref 32), some (.int l1), some (.int l2), some (.int l3), some (.int l4), some (.int l5), some (.int l6), some (.int (nI i_)), none, none]) ⟨rfl, ⟨rfl, ⟨rfl, ⟨rfl, ⟨rfl, ⟨rfl, ⟨rfl, ⟨rfl, trivial⟩⟩⟩⟩⟩⟩⟩⟩ ?_
          rw [show (if ((g_ 40) (((12 : Int32) * l1) + l6).toNatClampNeg) = ((g_ 40) (((12 : Int32) * l2) + (nI i_)).toNatClampNeg) then (if (rX9_within (((g_ 44) l6.toNatClampNeg) - ((g_ 38) (((12 : Int32) * l2) + (nI i_)).toNatClampNeg)) (-((g_ 32) 12)) ((g_ 32) 12)) = (0 : Int32) then (0 : Int32) else (if (rX9_within (((g_ 45) l6.toNatClampNeg) - ((g_ 39) (((12 : Int32) * l2) + (nI i_)).toNatClampNeg)) (-((g_ 32) 12)) ((g_ 32) 12)) = (0 : Int32) then (0 : Int32) else (1 : Int32))) else (0 : Int32)) = (1 : Int32) from ((if_pos c_2).trans ((if_neg c_3).trans (if_neg c_4)))] at K_1
          exact K_1
  · have hD_ := hC_ n_ (Nat.le_refl _)
    have Wa_ := W0_ n_ (Nat.le_refl _)
    generalize zfor (fX9_layOut_93 l1 l2 l6) n_ σ = g_ at W2_ hD_ Wa_ ⊢
    rw [uX9_layOut_93] at Wa_
    try dsimp only at Wa_
    refine z_iload dX9_layOut_93 rfl ?_
    refine z_aloadr_n dX9_layOut_95 rfl ?_
    refine z_get (ci := 9) (r := (RX9, TX9, 38)) (j := 4) (v := .ref 37) dX9_layOut_96 (Nat.le_of_ble_eq_true rfl) (zN rfl) rfl rfl (Nat.le_of_ble_eq_true rfl) fl_X9_23 rfl ?_
    refine z_iload_n dX9_layOut_99 rfl ?_
    refine z_iald (v := ((g_ 37) l2.toNatClampNeg)) dX9_layOut_100 (zN rfl) rfl Wa_ rfl ?_
    refine z_icmp_ge (tgt := 233) dX9_layOut_101 (by decide) (fun c_ => ?_) (fun c_ => absurd (hD_.mpr (Nat.le_refl _)) c_)
    exact zz_sub (lv' := [some (.ref 32), some (.int l1), some (.int l2), some (.int l3), some (.int l4), some (.int l5), some (.int l6), none, none, none]) ⟨rfl, ⟨rfl, ⟨rfl, ⟨rfl, ⟨rfl, ⟨rfl, ⟨rfl, trivial⟩⟩⟩⟩⟩⟩⟩ W2_

theorem dX9_layOut_3 : decode cX9_layOut 3 = .ok (.iload 6, 2) := by decide +kernel
theorem dX9_layOut_5 : decode cX9_layOut 5 = .ok (.aload_n 0, 1) := by decide +kernel
theorem dX9_layOut_6 : decode cX9_layOut 6 = .ok (.getfield 23, 3) := by decide +kernel
theorem dX9_layOut_9 : decode cX9_layOut 9 = .ok (.iload_n 1, 1) := by decide +kernel
theorem dX9_layOut_10 : decode cX9_layOut 10 = .ok (.iaload, 1) := by decide +kernel
theorem dX9_layOut_11 : decode cX9_layOut 11 = .ok (.if_icmp .ge 228, 3) := by decide +kernel
theorem dX9_layOut_14 : decode cX9_layOut 14 = .ok (.aload_n 0, 1) := by decide +kernel
theorem dX9_layOut_15 : decode cX9_layOut 15 = .ok (.getfield 48, 3) := by decide +kernel
theorem dX9_layOut_18 : decode cX9_layOut 18 = .ok (.iload 6, 2) := by decide +kernel
theorem dX9_layOut_20 : decode cX9_layOut 20 = .ok (.aload_n 0, 1) := by decide +kernel
theorem dX9_layOut_21 : decode cX9_layOut 21 = .ok (.getfield 26, 3) := by decide +kernel
theorem dX9_layOut_24 : decode cX9_layOut 24 = .ok (.bipush 12, 2) := by decide +kernel
theorem dX9_layOut_26 : decode cX9_layOut 26 = .ok (.iload_n 1, 1) := by decide +kernel
theorem dX9_layOut_27 : decode cX9_layOut 27 = .ok (.imul, 1) := by decide +kernel
theorem dX9_layOut_28 : decode cX9_layOut 28 = .ok (.iload 6, 2) := by decide +kernel
theorem dX9_layOut_30 : decode cX9_layOut 30 = .ok (.iadd, 1) := by decide +kernel
theorem dX9_layOut_31 : decode cX9_layOut 31 = .ok (.iaload, 1) := by decide +kernel
theorem dX9_layOut_32 : decode cX9_layOut 32 = .ok (.aload_n 0, 1) := by decide +kernel
theorem dX9_layOut_33 : decode cX9_layOut 33 = .ok (.getfield 29, 3) := by decide +kernel
theorem dX9_layOut_36 : decode cX9_layOut 36 = .ok (.bipush 12, 2) := by decide +kernel
theorem dX9_layOut_38 : decode cX9_layOut 38 = .ok (.iload_n 1, 1) := by decide +kernel
theorem dX9_layOut_39 : decode cX9_layOut 39 = .ok (.imul, 1) := by decide +kernel
theorem dX9_layOut_40 : decode cX9_layOut 40 = .ok (.iload 6, 2) := by decide +kernel
theorem dX9_layOut_42 : decode cX9_layOut 42 = .ok (.iadd, 1) := by decide +kernel
theorem dX9_layOut_43 : decode cX9_layOut 43 = .ok (.iaload, 1) := by decide +kernel
theorem dX9_layOut_44 : decode cX9_layOut 44 = .ok (.iload_n 3, 1) := by decide +kernel
theorem dX9_layOut_45 : decode cX9_layOut 45 = .ok (.invokestatic 141, 3) := by decide +kernel
theorem dX9_layOut_48 : decode cX9_layOut 48 = .ok (.iload 4, 2) := by decide +kernel
theorem dX9_layOut_50 : decode cX9_layOut 50 = .ok (.iadd, 1) := by decide +kernel
theorem dX9_layOut_51 : decode cX9_layOut 51 = .ok (.iastore, 1) := by decide +kernel
theorem dX9_layOut_52 : decode cX9_layOut 52 = .ok (.aload_n 0, 1) := by decide +kernel
theorem dX9_layOut_53 : decode cX9_layOut 53 = .ok (.getfield 51, 3) := by decide +kernel
theorem dX9_layOut_56 : decode cX9_layOut 56 = .ok (.iload 6, 2) := by decide +kernel
theorem dX9_layOut_58 : decode cX9_layOut 58 = .ok (.aload_n 0, 1) := by decide +kernel
theorem dX9_layOut_59 : decode cX9_layOut 59 = .ok (.getfield 26, 3) := by decide +kernel
theorem dX9_layOut_62 : decode cX9_layOut 62 = .ok (.bipush 12, 2) := by decide +kernel
theorem dX9_layOut_64 : decode cX9_layOut 64 = .ok (.iload_n 1, 1) := by decide +kernel
theorem dX9_layOut_65 : decode cX9_layOut 65 = .ok (.imul, 1) := by decide +kernel
theorem dX9_layOut_66 : decode cX9_layOut 66 = .ok (.iload 6, 2) := by decide +kernel
theorem dX9_layOut_68 : decode cX9_layOut 68 = .ok (.iadd, 1) := by decide +kernel
theorem dX9_layOut_69 : decode cX9_layOut 69 = .ok (.iaload, 1) := by decide +kernel
theorem dX9_layOut_70 : decode cX9_layOut 70 = .ok (.aload_n 0, 1) := by decide +kernel
theorem dX9_layOut_71 : decode cX9_layOut 71 = .ok (.getfield 29, 3) := by decide +kernel
theorem dX9_layOut_74 : decode cX9_layOut 74 = .ok (.bipush 12, 2) := by decide +kernel
theorem dX9_layOut_76 : decode cX9_layOut 76 = .ok (.iload_n 1, 1) := by decide +kernel
theorem dX9_layOut_77 : decode cX9_layOut 77 = .ok (.imul, 1) := by decide +kernel
theorem dX9_layOut_78 : decode cX9_layOut 78 = .ok (.iload 6, 2) := by decide +kernel
theorem dX9_layOut_80 : decode cX9_layOut 80 = .ok (.iadd, 1) := by decide +kernel
theorem dX9_layOut_81 : decode cX9_layOut 81 = .ok (.iaload, 1) := by decide +kernel
theorem dX9_layOut_82 : decode cX9_layOut 82 = .ok (.iload_n 3, 1) := by decide +kernel
theorem dX9_layOut_83 : decode cX9_layOut 83 = .ok (.invokestatic 145, 3) := by decide +kernel
theorem dX9_layOut_86 : decode cX9_layOut 86 = .ok (.iload 5, 2) := by decide +kernel
theorem dX9_layOut_88 : decode cX9_layOut 88 = .ok (.iadd, 1) := by decide +kernel
theorem dX9_layOut_89 : decode cX9_layOut 89 = .ok (.iastore, 1) := by decide +kernel
theorem dX9_layOut_90 : decode cX9_layOut 90 = .ok (.iconst 0, 1) := by decide +kernel
theorem dX9_layOut_91 : decode cX9_layOut 91 = .ok (.istore 7, 2) := by decide +kernel
theorem dX9_layOut_239 : decode cX9_layOut 239 = .ok (.aload_n 0, 1) := by decide +kernel
theorem dX9_layOut_240 : decode cX9_layOut 240 = .ok (.getfield 35, 3) := by decide +kernel
theorem dX9_layOut_243 : decode cX9_layOut 243 = .ok (.iconst 4, 1) := by decide +kernel
theorem dX9_layOut_244 : decode cX9_layOut 244 = .ok (.iload_n 1, 1) := by decide +kernel
theorem dX9_layOut_245 : decode cX9_layOut 245 = .ok (.imul, 1) := by decide +kernel
theorem dX9_layOut_246 : decode cX9_layOut 246 = .ok (.iaload, 1) := by decide +kernel
theorem dX9_layOut_247 : decode cX9_layOut 247 = .ok (.aload_n 0, 1) := by decide +kernel
theorem dX9_layOut_248 : decode cX9_layOut 248 = .ok (.getfield 35, 3) := by decide +kernel
theorem dX9_layOut_251 : decode cX9_layOut 251 = .ok (.iconst 4, 1) := by decide +kernel
theorem dX9_layOut_252 : decode cX9_layOut 252 = .ok (.iload_n 1, 1) := by decide +kernel
theorem dX9_layOut_253 : decode cX9_layOut 253 = .ok (.imul, 1) := by decide +kernel
theorem dX9_layOut_254 : decode cX9_layOut 254 = .ok (.iconst 1, 1) := by decide +kernel
theorem dX9_layOut_255 : decode cX9_layOut 255 = .ok (.iadd, 1) := by decide +kernel
theorem dX9_layOut_256 : decode cX9_layOut 256 = .ok (.iaload, 1) := by decide +kernel
theorem dX9_layOut_257 : decode cX9_layOut 257 = .ok (.iload_n 3, 1) := by decide +kernel
theorem dX9_layOut_258 : decode cX9_layOut 258 = .ok (.invokestatic 141, 3) := by decide +kernel
theorem dX9_layOut_261 : decode cX9_layOut 261 = .ok (.iload 4, 2) := by decide +kernel
theorem dX9_layOut_263 : decode cX9_layOut 263 = .ok (.iadd, 1) := by decide +kernel
theorem dX9_layOut_264 : decode cX9_layOut 264 = .ok (.istore 6, 2) := by decide +kernel
theorem dX9_layOut_266 : decode cX9_layOut 266 = .ok (.aload_n 0, 1) := by decide +kernel
theorem dX9_layOut_267 : decode cX9_layOut 267 = .ok (.getfield 35, 3) := by decide +kernel
theorem dX9_layOut_270 : decode cX9_layOut 270 = .ok (.iconst 4, 1) := by decide +kernel
theorem dX9_layOut_271 : decode cX9_layOut 271 = .ok (.iload_n 1, 1) := by decide +kernel
theorem dX9_layOut_272 : decode cX9_layOut 272 = .ok (.imul, 1) := by decide +kernel
theorem dX9_layOut_273 : decode cX9_layOut 273 = .ok (.iaload, 1) := by decide +kernel
theorem dX9_layOut_274 : decode cX9_layOut 274 = .ok (.aload_n 0, 1) := by decide +kernel
theorem dX9_layOut_275 : decode cX9_layOut 275 = .ok (.getfield 35, 3) := by decide +kernel
theorem dX9_layOut_278 : decode cX9_layOut 278 = .ok (.iconst 4, 1) := by decide +kernel
theorem dX9_layOut_279 : decode cX9_layOut 279 = .ok (.iload_n 1, 1) := by decide +kernel
theorem dX9_layOut_280 : decode cX9_layOut 280 = .ok (.imul, 1) := by decide +kernel
theorem dX9_layOut_281 : decode cX9_layOut 281 = .ok (.iconst 1, 1) := by decide +kernel
theorem dX9_layOut_282 : decode cX9_layOut 282 = .ok (.iadd, 1) := by decide +kernel
theorem dX9_layOut_283 : decode cX9_layOut 283 = .ok (.iaload, 1) := by decide +kernel
theorem dX9_layOut_284 : decode cX9_layOut 284 = .ok (.iload_n 3, 1) := by decide +kernel
theorem dX9_layOut_285 : decode cX9_layOut 285 = .ok (.invokestatic 145, 3) := by decide +kernel
theorem dX9_layOut_288 : decode cX9_layOut 288 = .ok (.iload 5, 2) := by decide +kernel
theorem dX9_layOut_290 : decode cX9_layOut 290 = .ok (.iadd, 1) := by decide +kernel
theorem dX9_layOut_291 : decode cX9_layOut 291 = .ok (.istore 7, 2) := by decide +kernel
theorem dX9_layOut_293 : decode cX9_layOut 293 = .ok (.aload_n 0, 1) := by decide +kernel
theorem dX9_layOut_294 : decode cX9_layOut 294 = .ok (.getfield 35, 3) := by decide +kernel
theorem dX9_layOut_297 : decode cX9_layOut 297 = .ok (.iconst 4, 1) := by decide +kernel
theorem dX9_layOut_298 : decode cX9_layOut 298 = .ok (.iload_n 1, 1) := by decide +kernel
theorem dX9_layOut_299 : decode cX9_layOut 299 = .ok (.imul, 1) := by decide +kernel
theorem dX9_layOut_300 : decode cX9_layOut 300 = .ok (.iconst 2, 1) := by decide +kernel
theorem dX9_layOut_301 : decode cX9_layOut 301 = .ok (.iadd, 1) := by decide +kernel
theorem dX9_layOut_302 : decode cX9_layOut 302 = .ok (.iaload, 1) := by decide +kernel
theorem dX9_layOut_303 : decode cX9_layOut 303 = .ok (.aload_n 0, 1) := by decide +kernel
theorem dX9_layOut_304 : decode cX9_layOut 304 = .ok (.getfield 35, 3) := by decide +kernel
theorem dX9_layOut_307 : decode cX9_layOut 307 = .ok (.iconst 4, 1) := by decide +kernel
theorem dX9_layOut_308 : decode cX9_layOut 308 = .ok (.iload_n 1, 1) := by decide +kernel
theorem dX9_layOut_309 : decode cX9_layOut 309 = .ok (.imul, 1) := by decide +kernel
theorem dX9_layOut_310 : decode cX9_layOut 310 = .ok (.iconst 3, 1) := by decide +kernel
theorem dX9_layOut_311 : decode cX9_layOut 311 = .ok (.iadd, 1) := by decide +kernel
theorem dX9_layOut_312 : decode cX9_layOut 312 = .ok (.iaload, 1) := by decide +kernel
theorem dX9_layOut_313 : decode cX9_layOut 313 = .ok (.iload_n 3, 1) := by decide +kernel
theorem dX9_layOut_314 : decode cX9_layOut 314 = .ok (.invokestatic 141, 3) := by decide +kernel
theorem dX9_layOut_317 : decode cX9_layOut 317 = .ok (.iload 4, 2) := by decide +kernel
theorem dX9_layOut_319 : decode cX9_layOut 319 = .ok (.iadd, 1) := by decide +kernel
theorem dX9_layOut_320 : decode cX9_layOut 320 = .ok (.istore 8, 2) := by decide +kernel
theorem dX9_layOut_322 : decode cX9_layOut 322 = .ok (.aload_n 0, 1) := by decide +kernel
theorem dX9_layOut_323 : decode cX9_layOut 323 = .ok (.getfield 35, 3) := by decide +kernel
theorem dX9_layOut_326 : decode cX9_layOut 326 = .ok (.iconst 4, 1) := by decide +kernel
theorem dX9_layOut_327 : decode cX9_layOut 327 = .ok (.iload_n 1, 1) := by decide +kernel
theorem dX9_layOut_328 : decode cX9_layOut 328 = .ok (.imul, 1) := by decide +kernel
theorem dX9_layOut_329 : decode cX9_layOut 329 = .ok (.iconst 2, 1) := by decide +kernel
theorem dX9_layOut_330 : decode cX9_layOut 330 = .ok (.iadd, 1) := by decide +kernel
theorem dX9_layOut_331 : decode cX9_layOut 331 = .ok (.iaload, 1) := by decide +kernel
theorem dX9_layOut_332 : decode cX9_layOut 332 = .ok (.aload_n 0, 1) := by decide +kernel
theorem dX9_layOut_333 : decode cX9_layOut 333 = .ok (.getfield 35, 3) := by decide +kernel
theorem dX9_layOut_336 : decode cX9_layOut 336 = .ok (.iconst 4, 1) := by decide +kernel
theorem dX9_layOut_337 : decode cX9_layOut 337 = .ok (.iload_n 1, 1) := by decide +kernel
theorem dX9_layOut_338 : decode cX9_layOut 338 = .ok (.imul, 1) := by decide +kernel
theorem dX9_layOut_339 : decode cX9_layOut 339 = .ok (.iconst 3, 1) := by decide +kernel
theorem dX9_layOut_340 : decode cX9_layOut 340 = .ok (.iadd, 1) := by decide +kernel
theorem dX9_layOut_341 : decode cX9_layOut 341 = .ok (.iaload, 1) := by decide +kernel
theorem dX9_layOut_342 : decode cX9_layOut 342 = .ok (.iload_n 3, 1) := by decide +kernel
theorem dX9_layOut_343 : decode cX9_layOut 343 = .ok (.invokestatic 145, 3) := by decide +kernel
theorem dX9_layOut_346 : decode cX9_layOut 346 = .ok (.iload 5, 2) := by decide +kernel
theorem dX9_layOut_348 : decode cX9_layOut 348 = .ok (.iadd, 1) := by decide +kernel
theorem dX9_layOut_349 : decode cX9_layOut 349 = .ok (.istore 9, 2) := by decide +kernel
theorem dX9_layOut_351 : decode cX9_layOut 351 = .ok (.aload_n 0, 1) := by decide +kernel
theorem dX9_layOut_352 : decode cX9_layOut 352 = .ok (.getfield 54, 3) := by decide +kernel
theorem dX9_layOut_355 : decode cX9_layOut 355 = .ok (.iconst 0, 1) := by decide +kernel
theorem dX9_layOut_356 : decode cX9_layOut 356 = .ok (.iload 6, 2) := by decide +kernel
theorem dX9_layOut_358 : decode cX9_layOut 358 = .ok (.iload 8, 2) := by decide +kernel
theorem dX9_layOut_363 : decode cX9_layOut 363 = .ok (.iload 6, 2) := by decide +kernel
theorem dX9_layOut_365 : decode cX9_layOut 365 = .ok (.goto 5, 3) := by decide +kernel
theorem dX9_layOut_368 : decode cX9_layOut 368 = .ok (.iload 8, 2) := by decide +kernel
theorem dX9_layOut_370 : decode cX9_layOut 370 = .ok (.iastore, 1) := by decide +kernel
theorem dX9_layOut_371 : decode cX9_layOut 371 = .ok (.aload_n 0, 1) := by decide +kernel
theorem dX9_layOut_372 : decode cX9_layOut 372 = .ok (.getfield 54, 3) := by decide +kernel
theorem dX9_layOut_375 : decode cX9_layOut 375 = .ok (.iconst 1, 1) := by decide +kernel
theorem dX9_layOut_376 : decode cX9_layOut 376 = .ok (.iload 7, 2) := by decide +kernel
theorem dX9_layOut_378 : decode cX9_layOut 378 = .ok (.iload 9, 2) := by decide +kernel
theorem dX9_layOut_383 : decode cX9_layOut 383 = .ok (.iload 7, 2) := by decide +kernel
theorem dX9_layOut_385 : decode cX9_layOut 385 = .ok (.goto 5, 3) := by decide +kernel
theorem dX9_layOut_388 : decode cX9_layOut 388 = .ok (.iload 9, 2) := by decide +kernel
theorem dX9_layOut_390 : decode cX9_layOut 390 = .ok (.iastore, 1) := by decide +kernel
theorem dX9_layOut_391 : decode cX9_layOut 391 = .ok (.aload_n 0, 1) := by decide +kernel
theorem dX9_layOut_392 : decode cX9_layOut 392 = .ok (.getfield 54, 3) := by decide +kernel
theorem dX9_layOut_395 : decode cX9_layOut 395 = .ok (.iconst 2, 1) := by decide +kernel
theorem dX9_layOut_396 : decode cX9_layOut 396 = .ok (.iload 6, 2) := by decide +kernel
theorem dX9_layOut_398 : decode cX9_layOut 398 = .ok (.iload 8, 2) := by decide +kernel
theorem dX9_layOut_403 : decode cX9_layOut 403 = .ok (.iload 8, 2) := by decide +kernel
theorem dX9_layOut_405 : decode cX9_layOut 405 = .ok (.goto 5, 3) := by decide +kernel
theorem dX9_layOut_408 : decode cX9_layOut 408 = .ok (.iload 6, 2) := by decide +kernel
theorem dX9_layOut_410 : decode cX9_layOut 410 = .ok (.iastore, 1) := by decide +kernel
theorem dX9_layOut_411 : decode cX9_layOut 411 = .ok (.aload_n 0, 1) := by decide +kernel
theorem dX9_layOut_412 : decode cX9_layOut 412 = .ok (.getfield 54, 3) := by decide +kernel
theorem dX9_layOut_415 : decode cX9_layOut 415 = .ok (.iconst 3, 1) := by decide +kernel
theorem dX9_layOut_416 : decode cX9_layOut 416 = .ok (.iload 7, 2) := by decide +kernel
theorem dX9_layOut_418 : decode cX9_layOut 418 = .ok (.iload 9, 2) := by decide +kernel
theorem dX9_layOut_423 : decode cX9_layOut 423 = .ok (.iload 9, 2) := by decide +kernel
theorem dX9_layOut_425 : decode cX9_layOut 425 = .ok (.goto 5, 3) := by decide +kernel
theorem dX9_layOut_428 : decode cX9_layOut 428 = .ok (.iload 7, 2) := by decide +kernel
theorem dX9_layOut_430 : decode cX9_layOut 430 = .ok (.iastore, 1) := by decide +kernel
noncomputable def vX9_layOut_1 (l1 : Int32) (l3 : Int32) (l4 : Int32) (σ : zc_N) : Int32 := ((rX9_turnedX ((σ 41) ((4 : Int32) * l1).toNatClampNeg) ((σ 41) (((4 : Int32) * l1) + (1 : Int32)).toNatClampNeg) l3) + l4)
noncomputable def vX9_layOut_2 (l1 : Int32) (l3 : Int32) (l5 : Int32) (σ : zc_N) : Int32 := ((rX9_turnedY ((σ 41) ((4 : Int32) * l1).toNatClampNeg) ((σ 41) (((4 : Int32) * l1) + (1 : Int32)).toNatClampNeg) l3) + l5)
noncomputable def vX9_layOut_3 (l1 : Int32) (l3 : Int32) (l4 : Int32) (σ : zc_N) : Int32 := ((rX9_turnedX ((σ 41) (((4 : Int32) * l1) + (2 : Int32)).toNatClampNeg) ((σ 41) (((4 : Int32) * l1) + (3 : Int32)).toNatClampNeg) l3) + l4)
noncomputable def vX9_layOut_4 (l1 : Int32) (l3 : Int32) (l5 : Int32) (σ : zc_N) : Int32 := ((rX9_turnedY ((σ 41) (((4 : Int32) * l1) + (2 : Int32)).toNatClampNeg) ((σ 41) (((4 : Int32) * l1) + (3 : Int32)).toNatClampNeg) l3) + l5)
noncomputable def vX9_layOut_5 (l1 : Int32) (l2 : Int32) (l3 : Int32) (l4 : Int32) (l5 : Int32) (l6 : Int32) (σ : zc_N) : zc_N := (zfor (fX9_layOut_93 l1 l2 l6) (((((zu (zu σ 44 (zu (σ 44) l6.toNatClampNeg ((rX9_turnedX ((σ 38) (((12 : Int32) * l1) + l6).toNatClampNeg) ((σ 39) (((12 : Int32) * l1) + l6).toNatClampNeg) l3) + l4))) 45 (zu (σ 45) l6.toNatClampNeg ((rX9_turnedY ((σ 38) (((12 : Int32) * l1) + l6).toNatClampNeg) ((σ 39) (((12 : Int32) * l1) + l6).toNatClampNeg) l3) + l5))) 37) l2.toNatClampNeg)).toNatClampNeg) (zu (zu σ 44 (zu (σ 44) l6.toNatClampNeg ((rX9_turnedX ((σ 38) (((12 : Int32) * l1) + l6).toNatClampNeg) ((σ 39) (((12 : Int32) * l1) + l6).toNatClampNeg) l3) + l4))) 45 (zu (σ 45) l6.toNatClampNeg ((rX9_turnedY ((σ 38) (((12 : Int32) * l1) + l6).toNatClampNeg) ((σ 39) (((12 : Int32) * l1) + l6).toNatClampNeg) l3) + l5))))
noncomputable def fX9_layOut_3 (l1 : Int32) (l2 : Int32) (l3 : Int32) (l4 : Int32) (l5 : Int32) (i_ : Nat) (a_ : zc_N) : zc_N := (vX9_layOut_5 l1 l2 l3 l4 l5 (nI i_) a_)
def qX9_layOut_3 (l1 : Int32) (l2 : Int32) (l3 : Int32) (l4 : Int32) (l5 : Int32) (i_ : Nat) (a_ : zc_N) : Prop := (vp_in (((12 : Int32) * l1) + (nI i_)) 288 ∧ (vp_in (((12 : Int32) * l1) + (nI i_)) 288 ∧ (vp_in (nI i_) 12 ∧ (vp_in (((12 : Int32) * l1) + (nI i_)) 288 ∧ (vp_in (((12 : Int32) * l1) + (nI i_)) 288 ∧ (vp_in (nI i_) 12 ∧ ((∀ i93_ : Nat, i93_ ≤ (((((zu (zu a_ 44 (zu (a_ 44) (nI i_).toNatClampNeg ((rX9_turnedX ((a_ 38) (((12 : Int32) * l1) + (nI i_)).toNatClampNeg) ((a_ 39) (((12 : Int32) * l1) + (nI i_)).toNatClampNeg) l3) + l4))) 45 (zu (a_ 45) (nI i_).toNatClampNeg ((rX9_turnedY ((a_ 38) (((12 : Int32) * l1) + (nI i_)).toNatClampNeg) ((a_ 39) (((12 : Int32) * l1) + (nI i_)).toNatClampNeg) l3) + l5))) 37) l2.toNatClampNeg)).toNatClampNeg) → ((((zfor (fX9_layOut_93 l1 l2 (nI i_)) i93_ (zu (zu a_ 44 (zu (a_ 44) (nI i_).toNatClampNeg ((rX9_turnedX ((a_ 38) (((12 : Int32) * l1) + (nI i_)).toNatClampNeg) ((a_ 39) (((12 : Int32) * l1) + (nI i_)).toNatClampNeg) l3) + l4))) 45 (zu (a_ 45) (nI i_).toNatClampNeg ((rX9_turnedY ((a_ 38) (((12 : Int32) * l1) + (nI i_)).toNatClampNeg) ((a_ 39) (((12 : Int32) * l1) + (nI i_)).toNatClampNeg) l3) + l5)))) 37) l2.toNatClampNeg) ≤ (nI i93_) ↔ (((((zu (zu a_ 44 (zu (a_ 44) (nI i_).toNatClampNeg ((rX9_turnedX ((a_ 38) (((12 : Int32) * l1) + (nI i_)).toNatClampNeg) ((a_ 39) (((12 : Int32) * l1) + (nI i_)).toNatClampNeg) l3) + l4))) 45 (zu (a_ 45) (nI i_).toNatClampNeg ((rX9_turnedY ((a_ 38) (((12 : Int32) * l1) + (nI i_)).toNatClampNeg) ((a_ 39) (((12 : Int32) * l1) + (nI i_)).toNatClampNeg) l3) + l5))) 37) l2.toNatClampNeg)).toNatClampNeg) ≤ i93_)) ∧ ((∀ i93_ : Nat, i93_ ≤ (((((zu (zu a_ 44 (zu (a_ 44) (nI i_).toNatClampNeg ((rX9_turnedX ((a_ 38) (((12 : Int32) * l1) + (nI i_)).toNatClampNeg) ((a_ 39) (((12 : Int32) * l1) + (nI i_)).toNatClampNeg) l3) + l4))) 45 (zu (a_ 45) (nI i_).toNatClampNeg ((rX9_turnedY ((a_ 38) (((12 : Int32) * l1) + (nI i_)).toNatClampNeg) ((a_ 39) (((12 : Int32) * l1) + (nI i_)).toNatClampNeg) l3) + l5))) 37) l2.toNatClampNeg)).toNatClampNeg) → uX9_layOut_93 l2 i93_ (zfor (fX9_layOut_93 l1 l2 (nI i_)) i93_ (zu (zu a_ 44 (zu (a_ 44) (nI i_).toNatClampNeg ((rX9_turnedX ((a_ 38) (((12 : Int32) * l1) + (nI i_)).toNatClampNeg) ((a_ 39) (((12 : Int32) * l1) + (nI i_)).toNatClampNeg) l3) + l4))) 45 (zu (a_ 45) (nI i_).toNatClampNeg ((rX9_turnedY ((a_ 38) (((12 : Int32) * l1) + (nI i_)).toNatClampNeg) ((a_ 39) (((12 : Int32) * l1) + (nI i_)).toNatClampNeg) l3) + l5))))) ∧ (∀ i93_ : Nat, i93_ < (((((zu (zu a_ 44 (zu (a_ 44) (nI i_).toNatClampNeg ((rX9_turnedX ((a_ 38) (((12 : Int32) * l1) + (nI i_)).toNatClampNeg) ((a_ 39) (((12 : Int32) * l1) + (nI i_)).toNatClampNeg) l3) + l4))) 45 (zu (a_ 45) (nI i_).toNatClampNeg ((rX9_turnedY ((a_ 38) (((12 : Int32) * l1) + (nI i_)).toNatClampNeg) ((a_ 39) (((12 : Int32) * l1) + (nI i_)).toNatClampNeg) l3) + l5))) 37) l2.toNatClampNeg)).toNatClampNeg) → qX9_layOut_93 l1 l2 (nI i_) i93_ (zfor (fX9_layOut_93 l1 l2 (nI i_)) i93_ (zu (zu a_ 44 (zu (a_ 44) (nI i_).toNatClampNeg ((rX9_turnedX ((a_ 38) (((12 : Int32) * l1) + (nI i_)).toNatClampNeg) ((a_ 39) (((12 : Int32) * l1) + (nI i_)).toNatClampNeg) l3) + l4))) 45 (zu (a_ 45) (nI i_).toNatClampNeg ((rX9_turnedY ((a_ 38) (((12 : Int32) * l1) + (nI i_)).toNatClampNeg) ((a_ 39) (((12 : Int32) * l1) + (nI i_)).toNatClampNeg) l3) + l5)))))))))))))
def uX9_layOut_3 (l1 : Int32) (i_ : Nat) (a_ : zc_N) : Prop := vp_in l1 24
set_option maxHeartbeats 2000000 in
theorem lpX9_layOut_3 {G : zc_G} {Q : Option Value → zc_H → Prop} (P : zp) (σ : zc_N) (l1 : Int32) (l2 : Int32) (l3 : Int32) (l4 : Int32) (l5 : Int32) (n_ : Nat) (hC_ : ∀ i3_ : Nat, i3_ ≤ n_ → ((((zfor (fX9_layOut_3 l1 l2 l3 l4 l5) i3_ σ) 37) l1.toNatClampNeg) ≤ (nI i3_) ↔ n_ ≤ i3_)) (W0_ : ∀ i3_ : Nat, i3_ ≤ n_ → uX9_layOut_3 l1 i3_ (zfor (fX9_layOut_3 l1 l2 l3 l4 l5) i3_ σ)) (W1_ : ∀ i3_ : Nat, i3_ < n_ → qX9_layOut_3 l1 l2 l3 l4 l5 i3_ (zfor (fX9_layOut_3 l1 l2 l3 l4 l5) i3_ σ))
    (W2_ : zz G mX9_layOut 1 0 0 Q 239 [some (.ref 32), some (.int l1), none, some (.int l3), some (.int l4), some (.int l5), none, none, none, none] [] (hh P (zfor (fX9_layOut_3 l1 l2 l3 l4 l5) n_ σ)) 0 0) :
    zz G mX9_layOut 1 0 0 Q 3 [some (.ref 32), some (.int l1), some (.int l2), some (.int l3), some (.int l4), some (.int l5), some (.int (nI 0)), none, none, none] [] (hh P σ) 0 0 := by
  refine zfor_nI (fun i_ a_ => zz G mX9_layOut 1 0 0 Q 3 [some (.ref 32), some (.int l1), some (.int l2), some (.int l3), some (.int l4), some (.int l5), some (.int i_), none, none, none] [] (hh P a_) 0 0) (fX9_layOut_3 l1 l2 l3 l4 l5) n_ σ (fun i_ hi_ k_ => ?_) ?_
  · have Wa_ := W0_ i_ (Nat.le_of_lt hi_)
    have W3_ := W1_ i_ hi_
    have hD_ := hC_ i_ (Nat.le_of_lt hi_)
    generalize zfor (fX9_layOut_3 l1 l2 l3 l4 l5) i_ σ = g_ at k_ W3_ hD_ Wa_ ⊢
    rw [fX9_layOut_3] at k_
    rw [qX9_layOut_3] at W3_
    try dsimp only at W3_
    rw [uX9_layOut_3] at Wa_
    try dsimp only at Wa_
    refine z_iload dX9_layOut_3 rfl ?_
    refine z_aloadr_n dX9_layOut_5 rfl ?_
    refine z_get (ci := 9) (r := (RX9, TX9, 38)) (j := 4) (v := .ref 37) dX9_layOut_6 (Nat.le_of_ble_eq_true rfl) (zN rfl) rfl rfl (Nat.le_of_ble_eq_true rfl) fl_X9_23 rfl ?_
    refine z_iload_n dX9_layOut_9 rfl ?_
    refine z_iald (v := ((g_ 37) l1.toNatClampNeg)) dX9_layOut_10 (zN rfl) rfl Wa_ rfl ?_
    refine z_icmp_ge (tgt := 239) dX9_layOut_11 (by decide) (fun c_ => absurd c_ (fun q_ => Nat.not_le_of_lt hi_ (hD_.mp q_))) (fun c_ => ?_)
    refine z_aloadr_n dX9_layOut_14 rfl ?_
    refine z_get (ci := 9) (r := (RX9, TX9, 38)) (j := 13) (v := .ref 44) dX9_layOut_15 (Nat.le_of_ble_eq_true rfl) (zN rfl) rfl rfl (Nat.le_of_ble_eq_true rfl) fl_X9_48 rfl ?_
    refine z_iload dX9_layOut_18 rfl ?_
    refine z_aloadr_n dX9_layOut_20 rfl ?_
    refine z_get (ci := 9) (r := (RX9, TX9, 38)) (j := 5) (v := .ref 38) dX9_layOut_21 (Nat.le_of_ble_eq_true rfl) (zN rfl) rfl rfl (Nat.le_of_ble_eq_true rfl) fl_X9_26 rfl ?_
    refine z_bipush dX9_layOut_24 k_bipush_12 ?_
    refine z_iload_n dX9_layOut_26 rfl ?_
    refine z_imul (v := ((12 : Int32) * l1)) dX9_layOut_27 rfl ?_
    refine z_iload dX9_layOut_28 rfl ?_
    refine z_iadd (v := (((12 : Int32) * l1) + (nI i_))) dX9_layOut_30 rfl ?_
    refine z_iald (v := ((g_ 38) (((12 : Int32) * l1) + (nI i_)).toNatClampNeg)) dX9_layOut_31 (zN rfl) rfl W3_.1 rfl ?_
    refine z_aloadr_n dX9_layOut_32 rfl ?_
    refine z_get (ci := 9) (r := (RX9, TX9, 38)) (j := 6) (v := .ref 39) dX9_layOut_33 (Nat.le_of_ble_eq_true rfl) (zN rfl) rfl rfl (Nat.le_of_ble_eq_true rfl) fl_X9_29 rfl ?_
    refine z_bipush dX9_layOut_36 k_bipush_12 ?_
    refine z_iload_n dX9_layOut_38 rfl ?_
    refine z_imul (v := ((12 : Int32) * l1)) dX9_layOut_39 rfl ?_
    refine z_iload dX9_layOut_40 rfl ?_
    refine z_iadd (v := (((12 : Int32) * l1) + (nI i_))) dX9_layOut_42 rfl ?_
    refine z_iald (v := ((g_ 39) (((12 : Int32) * l1) + (nI i_)).toNatClampNeg)) dX9_layOut_43 (zN rfl) rfl W3_.2.1 rfl ?_
    refine z_iload_n dX9_layOut_44 rfl ?_
    refine z_callS (As := [.int ((g_ 38) (((12 : Int32) * l1) + (nI i_)).toNatClampNeg), .int ((g_ 39) (((12 : Int32) * l1) + (nI i_)).toNatClampNeg), .int l3]) (rest := [.int (nI i_), .ref 44]) (ctX9_turnedX P g_ ((g_ 38) (((12 : Int32) * l1) + (nI i_)).toNatClampNeg) ((g_ 39) (((12 : Int32) * l1) + (nI i_)).toNatClampNeg) l3) dX9_layOut_45 lk_X9_141 ls_X9_turnedX rfl (Nat.le_of_ble_eq_true rfl) (Nat.le_of_ble_eq_true rfl) (Nat.le_of_ble_eq_true rfl) (Nat.le_of_ble_eq_true rfl) (fun r_ h_ e_ => ?_)
    obtain ⟨e1_, e2_⟩ := e_
    subst e1_
    subst e2_
    show zz G mX9_layOut 1 0 0 Q 48 [some (.ref 32), some (.int l1), some (.int l2), some (.int l3), some (.int l4), some (.int l5), some (.int (nI i_)), none, none, none] [.int (rX9_turnedX ((g_ 38) (((12 : Int32) * l1) + (nI i_)).toNatClampNeg) ((g_ 39) (((12 : Int32) * l1) + (nI i_)).toNatClampNeg) l3), .int (nI i_), .ref 44] (hh P g_) 0 0
    refine z_iload dX9_layOut_48 rfl ?_
    refine z_iadd (v := ((rX9_turnedX ((g_ 38) (((12 : Int32) * l1) + (nI i_)).toNatClampNeg) ((g_ 39) (((12 : Int32) * l1) + (nI i_)).toNatClampNeg) l3) + l4)) dX9_layOut_50 rfl ?_
    refine z_iast (σ' := (zu g_ 44 (zu (g_ 44) (nI i_).toNatClampNeg ((rX9_turnedX ((g_ 38) (((12 : Int32) * l1) + (nI i_)).toNatClampNeg) ((g_ 39) (((12 : Int32) * l1) + (nI i_)).toNatClampNeg) l3) + l4)))) dX9_layOut_51 (Nat.le_of_ble_eq_true rfl) (zN rfl) rfl W3_.2.2.1 rfl ?_
    refine z_aloadr_n dX9_layOut_52 rfl ?_
    refine z_get (ci := 9) (r := (RX9, TX9, 38)) (j := 14) (v := .ref 45) dX9_layOut_53 (Nat.le_of_ble_eq_true rfl) (zN rfl) rfl rfl (Nat.le_of_ble_eq_true rfl) fl_X9_51 rfl ?_
    refine z_iload dX9_layOut_56 rfl ?_
    refine z_aloadr_n dX9_layOut_58 rfl ?_
    refine z_get (ci := 9) (r := (RX9, TX9, 38)) (j := 5) (v := .ref 38) dX9_layOut_59 (Nat.le_of_ble_eq_true rfl) (zN rfl) rfl rfl (Nat.le_of_ble_eq_true rfl) fl_X9_26 rfl ?_
    refine z_bipush dX9_layOut_62 k_bipush_12 ?_
    refine z_iload_n dX9_layOut_64 rfl ?_
    refine z_imul (v := ((12 : Int32) * l1)) dX9_layOut_65 rfl ?_
    refine z_iload dX9_layOut_66 rfl ?_
    refine z_iadd (v := (((12 : Int32) * l1) + (nI i_))) dX9_layOut_68 rfl ?_
    refine z_iald (v := ((g_ 38) (((12 : Int32) * l1) + (nI i_)).toNatClampNeg)) dX9_layOut_69 (zN rfl) rfl W3_.2.2.2.1 (congrFun (zu_ne _ _ (by decide)) _) ?_
    refine z_aloadr_n dX9_layOut_70 rfl ?_
    refine z_get (ci := 9) (r := (RX9, TX9, 38)) (j := 6) (v := .ref 39) dX9_layOut_71 (Nat.le_of_ble_eq_true rfl) (zN rfl) rfl rfl (Nat.le_of_ble_eq_true rfl) fl_X9_29 rfl ?_
    refine z_bipush dX9_layOut_74 k_bipush_12 ?_
    refine z_iload_n dX9_layOut_76 rfl ?_
    refine z_imul (v := ((12 : Int32) * l1)) dX9_layOut_77 rfl ?_
    refine z_iload dX9_layOut_78 rfl ?_
    refine z_iadd (v := (((12 : Int32) * l1) + (nI i_))) dX9_layOut_80 rfl ?_
    refine z_iald (v := ((g_ 39) (((12 : Int32) * l1) + (nI i_)).toNatClampNeg)) dX9_layOut_81 (zN rfl) rfl W3_.2.2.2.2.1 (congrFun (zu_ne _ _ (by decide)) _) ?_
    refine z_iload_n dX9_layOut_82 rfl ?_
    refine z_callS (As := [.int ((g_ 38) (((12 : Int32) * l1) + (nI i_)).toNatClampNeg), .int ((g_ 39) (((12 : Int32) * l1) + (nI i_)).toNatClampNeg), .int l3]) (rest := [.int (nI i_), .ref 45]) (ctX9_turnedY P (zu g_ 44 (zu (g_ 44) (nI i_).toNatClampNeg ((rX9_turnedX ((g_ 38) (((12 : Int32) * l1) + (nI i_)).toNatClampNeg) ((g_ 39) (((12 : Int32) * l1) + (nI i_)).toNatClampNeg) l3) + l4))) ((g_ 38) (((12 : Int32) * l1) + (nI i_)).toNatClampNeg) ((g_ 39) (((12 : Int32) * l1) + (nI i_)).toNatClampNeg) l3) dX9_layOut_83 lk_X9_145 ls_X9_turnedY rfl (Nat.le_of_ble_eq_true rfl) (Nat.le_of_ble_eq_true rfl) (Nat.le_of_ble_eq_true rfl) (Nat.le_of_ble_eq_true rfl) (fun r_ h_ e_ => ?_)
    obtain ⟨e1_, e2_⟩ := e_
    subst e1_
    subst e2_
    show zz G mX9_layOut 1 0 0 Q 86 [some (.ref 32), some (.int l1), some (.int l2), some (.int l3), some (.int l4), some (.int l5), some (.int (nI i_)), none, none, none] [.int (rX9_turnedY ((g_ 38) (((12 : Int32) * l1) + (nI i_)).toNatClampNeg) ((g_ 39) (((12 : Int32) * l1) + (nI i_)).toNatClampNeg) l3), .int (nI i_), .ref 45] (hh P (zu g_ 44 (zu (g_ 44) (nI i_).toNatClampNeg ((rX9_turnedX ((g_ 38) (((12 : Int32) * l1) + (nI i_)).toNatClampNeg) ((g_ 39) (((12 : Int32) * l1) + (nI i_)).toNatClampNeg) l3) + l4)))) 0 0
    refine z_iload dX9_layOut_86 rfl ?_
    refine z_iadd (v := ((rX9_turnedY ((g_ 38) (((12 : Int32) * l1) + (nI i_)).toNatClampNeg) ((g_ 39) (((12 : Int32) * l1) + (nI i_)).toNatClampNeg) l3) + l5)) dX9_layOut_88 rfl ?_
    refine z_iast (σ' := (zu (zu g_ 44 (zu (g_ 44) (nI i_).toNatClampNeg ((rX9_turnedX ((g_ 38) (((12 : Int32) * l1) + (nI i_)).toNatClampNeg) ((g_ 39) (((12 : Int32) * l1) + (nI i_)).toNatClampNeg) l3) + l4))) 45 (zu (g_ 45) (nI i_).toNatClampNeg ((rX9_turnedY ((g_ 38) (((12 : Int32) * l1) + (nI i_)).toNatClampNeg) ((g_ 39) (((12 : Int32) * l1) + (nI i_)).toNatClampNeg) l3) + l5)))) dX9_layOut_89 (Nat.le_of_ble_eq_true rfl) (zN rfl) rfl W3_.2.2.2.2.2.1 (congrArg (fun g_ => zu _ _ (zu g_ _ _)) (zu_ne _ _ (by decide))) ?_
    refine z_iconst dX9_layOut_90 k_iconst_0 ?_
    refine z_istore (lv' := [some (.ref 32), some (.int l1), some (.int l2), some (.int l3), some (.int l4), some (.int l5), some (.int (nI i_)), some (.int (0 : Int32)), none, none]) dX9_layOut_91 (Nat.le_of_ble_eq_true rfl) rfl ?_
    refine lpX9_layOut_93 P (zu (zu g_ 44 (zu (g_ 44) (nI i_).toNatClampNeg ((rX9_turnedX ((g_ 38) (((12 : Int32) * l1) + (nI i_)).toNatClampNeg) ((g_ 39) (((12 : Int32) * l1) + (nI i_)).toNatClampNeg) l3) + l4))) 45 (zu (g_ 45) (nI i_).toNatClampNeg ((rX9_turnedY ((g_ 38) (((12 : Int32) * l1) + (nI i_)).toNatClampNeg) ((g_ 39) (((12 : Int32) * l1) + (nI i_)).toNatClampNeg) l3) + l5))) l1 l2 l3 l4 l5 (nI i_) (((((zu (zu g_ 44 (zu (g_ 44) (nI i_).toNatClampNeg ((rX9_turnedX ((g_ 38) (((12 : Int32) * l1) + (nI i_)).toNatClampNeg) ((g_ 39) (((12 : Int32) * l1) + (nI i_)).toNatClampNeg) l3) + l4))) 45 (zu (g_ 45) (nI i_).toNatClampNeg ((rX9_turnedY ((g_ 38) (((12 : Int32) * l1) + (nI i_)).toNatClampNeg) ((g_ 39) (((12 : Int32) * l1) + (nI i_)).toNatClampNeg) l3) + l5))) 37) l2.toNatClampNeg)).toNatClampNeg) W3_.2.2.2.2.2.2.1 W3_.2.2.2.2.2.2.2.1 W3_.2.2.2.2.2.2.2.2 ?_
    show zz G mX9_layOut 1 0 0 Q 233 [some (.ref 32), some (.int l1), some (.int l2), some (.int l3), some (.int l4), some (.int l5), some (.int (nI i_)), none, none, none] [] (hh P (vX9_layOut_5 l1 l2 l3 l4 l5 (nI i_) g_)) 0 0
    refine z_iinc (v := ((nI i_) + (1 : Int32))) (lv' := [some (.ref 32), some (.int l1), some (.int l2), some (.int l3), some (.int l4), some (.int l5), some (.int ((nI i_) + (1 : Int32))), none, none, none]) dX9_layOut_233 (Nat.le_of_ble_eq_true rfl) rfl (by rw [k_iconst_1]) rfl ?_
    refine z_goto (tgt := 3) dX9_layOut_236 (by decide) ?_
    rw [nI_1]
    exact k_
  · have hD_ := hC_ n_ (Nat.le_refl _)
    have Wa_ := W0_ n_ (Nat.le_refl _)
    generalize zfor (fX9_layOut_3 l1 l2 l3 l4 l5) n_ σ = g_ at W2_ hD_ Wa_ ⊢
    rw [uX9_layOut_3] at Wa_
    try dsimp only at Wa_
    refine z_iload dX9_layOut_3 rfl ?_
    refine z_aloadr_n dX9_layOut_5 rfl ?_
    refine z_get (ci := 9) (r := (RX9, TX9, 38)) (j := 4) (v := .ref 37) dX9_layOut_6 (Nat.le_of_ble_eq_true rfl) (zN rfl) rfl rfl (Nat.le_of_ble_eq_true rfl) fl_X9_23 rfl ?_
    refine z_iload_n dX9_layOut_9 rfl ?_
    refine z_iald (v := ((g_ 37) l1.toNatClampNeg)) dX9_layOut_10 (zN rfl) rfl Wa_ rfl ?_
    refine z_icmp_ge (tgt := 239) dX9_layOut_11 (by decide) (fun c_ => ?_) (fun c_ => absurd (hD_.mpr (Nat.le_refl _)) c_)
    exact zz_sub (lv' := [some (.ref 32), some (.int l1), none, some (.int l3), some (.int l4), some (.int l5), none, none, none, none]) ⟨rfl, ⟨rfl, ⟨rfl, ⟨rfl, ⟨rfl, trivial⟩⟩⟩⟩⟩ W2_

theorem dX9_layOut_0 : decode cX9_layOut 0 = .ok (.iconst 0, 1) := by decide +kernel
theorem dX9_layOut_1 : decode cX9_layOut 1 = .ok (.istore 6, 2) := by decide +kernel
theorem dX9_layOut_360 : decode cX9_layOut 360 = .ok (.if_icmp .ge 8, 3) := by decide +kernel
theorem dX9_layOut_380 : decode cX9_layOut 380 = .ok (.if_icmp .ge 8, 3) := by decide +kernel
theorem dX9_layOut_400 : decode cX9_layOut 400 = .ok (.if_icmp .ge 8, 3) := by decide +kernel
theorem dX9_layOut_420 : decode cX9_layOut 420 = .ok (.if_icmp .ge 8, 3) := by decide +kernel
theorem dX9_layOut_431 : decode cX9_layOut 431 = .ok (.return_, 1) := by decide +kernel
noncomputable def vX9_layOut_6 (a1 : Int32) (a2 : Int32) (a3 : Int32) (a4 : Int32) (a5 : Int32) (σ : zc_N) : Int32 := ((rX9_turnedX (((zfor (fX9_layOut_3 a1 a2 a3 a4 a5) ((((σ 37) a1.toNatClampNeg)).toNatClampNeg) σ) 41) ((4 : Int32) * a1).toNatClampNeg) (((zfor (fX9_layOut_3 a1 a2 a3 a4 a5) ((((σ 37) a1.toNatClampNeg)).toNatClampNeg) σ) 41) (((4 : Int32) * a1) + (1 : Int32)).toNatClampNeg) a3) + a4)
noncomputable def vX9_layOut_7 (a1 : Int32) (a2 : Int32) (a3 : Int32) (a4 : Int32) (a5 : Int32) (σ : zc_N) : Int32 := ((rX9_turnedY (((zfor (fX9_layOut_3 a1 a2 a3 a4 a5) ((((σ 37) a1.toNatClampNeg)).toNatClampNeg) σ) 41) ((4 : Int32) * a1).toNatClampNeg) (((zfor (fX9_layOut_3 a1 a2 a3 a4 a5) ((((σ 37) a1.toNatClampNeg)).toNatClampNeg) σ) 41) (((4 : Int32) * a1) + (1 : Int32)).toNatClampNeg) a3) + a5)
noncomputable def vX9_layOut_8 (a1 : Int32) (a2 : Int32) (a3 : Int32) (a4 : Int32) (a5 : Int32) (σ : zc_N) : Int32 := ((rX9_turnedX (((zfor (fX9_layOut_3 a1 a2 a3 a4 a5) ((((σ 37) a1.toNatClampNeg)).toNatClampNeg) σ) 41) (((4 : Int32) * a1) + (2 : Int32)).toNatClampNeg) (((zfor (fX9_layOut_3 a1 a2 a3 a4 a5) ((((σ 37) a1.toNatClampNeg)).toNatClampNeg) σ) 41) (((4 : Int32) * a1) + (3 : Int32)).toNatClampNeg) a3) + a4)
noncomputable def vX9_layOut_9 (a1 : Int32) (a2 : Int32) (a3 : Int32) (a4 : Int32) (a5 : Int32) (σ : zc_N) : Int32 := ((rX9_turnedY (((zfor (fX9_layOut_3 a1 a2 a3 a4 a5) ((((σ 37) a1.toNatClampNeg)).toNatClampNeg) σ) 41) (((4 : Int32) * a1) + (2 : Int32)).toNatClampNeg) (((zfor (fX9_layOut_3 a1 a2 a3 a4 a5) ((((σ 37) a1.toNatClampNeg)).toNatClampNeg) σ) 41) (((4 : Int32) * a1) + (3 : Int32)).toNatClampNeg) a3) + a5)
noncomputable def vX9_layOut_10 (a1 : Int32) (a2 : Int32) (a3 : Int32) (a4 : Int32) (a5 : Int32) (σ : zc_N) : zc_N := (zu (zfor (fX9_layOut_3 a1 a2 a3 a4 a5) ((((σ 37) a1.toNatClampNeg)).toNatClampNeg) σ) 46 (zu (zu (zu ((zfor (fX9_layOut_3 a1 a2 a3 a4 a5) ((((σ 37) a1.toNatClampNeg)).toNatClampNeg) σ) 46) (0 : Int32).toNatClampNeg (if (vX9_layOut_8 a1 a2 a3 a4 a5 σ) ≤ (vX9_layOut_6 a1 a2 a3 a4 a5 σ) then (vX9_layOut_8 a1 a2 a3 a4 a5 σ) else (vX9_layOut_6 a1 a2 a3 a4 a5 σ))) (1 : Int32).toNatClampNeg (if (vX9_layOut_9 a1 a2 a3 a4 a5 σ) ≤ (vX9_layOut_7 a1 a2 a3 a4 a5 σ) then (vX9_layOut_9 a1 a2 a3 a4 a5 σ) else (vX9_layOut_7 a1 a2 a3 a4 a5 σ))) (2 : Int32).toNatClampNeg (if (vX9_layOut_8 a1 a2 a3 a4 a5 σ) ≤ (vX9_layOut_6 a1 a2 a3 a4 a5 σ) then (vX9_layOut_6 a1 a2 a3 a4 a5 σ) else (vX9_layOut_8 a1 a2 a3 a4 a5 σ))))
def pX9_layOut (σ : zc_N) (a1 : Int32) (a2 : Int32) (a3 : Int32) (a4 : Int32) (a5 : Int32) : Prop := (((∀ i3_ : Nat, i3_ ≤ ((((σ 37) a1.toNatClampNeg)).toNatClampNeg) → ((((zfor (fX9_layOut_3 a1 a2 a3 a4 a5) i3_ σ) 37) a1.toNatClampNeg) ≤ (nI i3_) ↔ ((((σ 37) a1.toNatClampNeg)).toNatClampNeg) ≤ i3_)) ∧ ((∀ i3_ : Nat, i3_ ≤ ((((σ 37) a1.toNatClampNeg)).toNatClampNeg) → uX9_layOut_3 a1 i3_ (zfor (fX9_layOut_3 a1 a2 a3 a4 a5) i3_ σ)) ∧ (∀ i3_ : Nat, i3_ < ((((σ 37) a1.toNatClampNeg)).toNatClampNeg) → qX9_layOut_3 a1 a2 a3 a4 a5 i3_ (zfor (fX9_layOut_3 a1 a2 a3 a4 a5) i3_ σ)))) ∧ (vp_in ((4 : Int32) * a1) 96 ∧ (vp_in (((4 : Int32) * a1) + (1 : Int32)) 96 ∧ (vp_in ((4 : Int32) * a1) 96 ∧ (vp_in (((4 : Int32) * a1) + (1 : Int32)) 96 ∧ (vp_in (((4 : Int32) * a1) + (2 : Int32)) 96 ∧ (vp_in (((4 : Int32) * a1) + (3 : Int32)) 96 ∧ (vp_in (((4 : Int32) * a1) + (2 : Int32)) 96 ∧ vp_in (((4 : Int32) * a1) + (3 : Int32)) 96))))))))
noncomputable def sX9_layOut (σ : zc_N) (a1 : Int32) (a2 : Int32) (a3 : Int32) (a4 : Int32) (a5 : Int32) : zc_N := (zu (vX9_layOut_10 a1 a2 a3 a4 a5 σ) 46 (zu ((vX9_layOut_10 a1 a2 a3 a4 a5 σ) 46) (3 : Int32).toNatClampNeg (if (vX9_layOut_9 a1 a2 a3 a4 a5 σ) ≤ (vX9_layOut_7 a1 a2 a3 a4 a5 σ) then (vX9_layOut_7 a1 a2 a3 a4 a5 σ) else (vX9_layOut_9 a1 a2 a3 a4 a5 σ))))
set_option maxHeartbeats 1000000 in
theorem ctX9_layOut (P : zp) (σ : zc_N) (a1 : Int32) (a2 : Int32) (a3 : Int32) (a4 : Int32) (a5 : Int32) (W_ : (pX9_layOut σ a1 a2 a3 a4 a5)) : sp mX9_layOut 1 0 0 [.ref 32, .int a1, .int a2, .int a3, .int a4, .int a5] (hh P σ) (fun r_ h_ => r_ = none ∧ h_ = hh P (sX9_layOut σ a1 a2 a3 a4 a5)) := by
  refine sp_of (lv := [some (.ref 32), some (.int a1), some (.int a2), some (.int a3), some (.int a4), some (.int a5), none, none, none, none]) (by decide) (zcats_ok _ rfl) (Nat.le_of_ble_eq_true rfl) (zlv_ok _ 4 rfl) (fun G => ?_)
  generalize hQ_ : (fun (r_ : Option Value) (h_ : zc_H) => r_ = none ∧ h_ = hh P (sX9_layOut σ a1 a2 a3 a4 a5)) = Q_
  unfold pX9_layOut at W_
  refine z_iconst dX9_layOut_0 k_iconst_0 ?_
  refine z_istore (lv' := [some (.ref 32), some (.int a1), some (.int a2), some (.int a3), some (.int a4), some (.int a5), some (.int (0 : Int32)), none, none, none]) dX9_layOut_1 (Nat.le_of_ble_eq_true rfl) rfl ?_
  refine lpX9_layOut_3 P σ a1 a2 a3 a4 a5 ((((σ 37) a1.toNatClampNeg)).toNatClampNeg) W_.1.1 W_.1.2.1 W_.1.2.2 ?_
  show zz G mX9_layOut 1 0 0 Q_ 239 [some (.ref 32), some (.int a1), none, some (.int a3), some (.int a4), some (.int a5), none, none, none, none] [] (hh P (zfor (fX9_layOut_3 a1 a2 a3 a4 a5) ((((σ 37) a1.toNatClampNeg)).toNatClampNeg) σ)) 0 0
  refine z_aloadr_n dX9_layOut_239 rfl ?_
  refine z_get (ci := 9) (r := (RX9, TX9, 38)) (j := 8) (v := .ref 41) dX9_layOut_240 (Nat.le_of_ble_eq_true rfl) (zN rfl) rfl rfl (Nat.le_of_ble_eq_true rfl) fl_X9_35 rfl ?_
  refine z_iconst dX9_layOut_243 k_iconst_4 ?_
  refine z_iload_n dX9_layOut_244 rfl ?_
  refine z_imul (v := ((4 : Int32) * a1)) dX9_layOut_245 rfl ?_
  refine z_iald (v := (((zfor (fX9_layOut_3 a1 a2 a3 a4 a5) ((((σ 37) a1.toNatClampNeg)).toNatClampNeg) σ) 41) ((4 : Int32) * a1).toNatClampNeg)) dX9_layOut_246 (zN rfl) rfl W_.2.1 rfl ?_
  refine z_aloadr_n dX9_layOut_247 rfl ?_
  refine z_get (ci := 9) (r := (RX9, TX9, 38)) (j := 8) (v := .ref 41) dX9_layOut_248 (Nat.le_of_ble_eq_true rfl) (zN rfl) rfl rfl (Nat.le_of_ble_eq_true rfl) fl_X9_35 rfl ?_
  refine z_iconst dX9_layOut_251 k_iconst_4 ?_
  refine z_iload_n dX9_layOut_252 rfl ?_
  refine z_imul (v := ((4 : Int32) * a1)) dX9_layOut_253 rfl ?_
  refine z_iconst dX9_layOut_254 k_iconst_1 ?_
  refine z_iadd (v := (((4 : Int32) * a1) + (1 : Int32))) dX9_layOut_255 rfl ?_
  refine z_iald (v := (((zfor (fX9_layOut_3 a1 a2 a3 a4 a5) ((((σ 37) a1.toNatClampNeg)).toNatClampNeg) σ) 41) (((4 : Int32) * a1) + (1 : Int32)).toNatClampNeg)) dX9_layOut_256 (zN rfl) rfl W_.2.2.1 rfl ?_
  refine z_iload_n dX9_layOut_257 rfl ?_
  refine z_callS (As := [.int (((zfor (fX9_layOut_3 a1 a2 a3 a4 a5) ((((σ 37) a1.toNatClampNeg)).toNatClampNeg) σ) 41) ((4 : Int32) * a1).toNatClampNeg), .int (((zfor (fX9_layOut_3 a1 a2 a3 a4 a5) ((((σ 37) a1.toNatClampNeg)).toNatClampNeg) σ) 41) (((4 : Int32) * a1) + (1 : Int32)).toNatClampNeg), .int a3]) (rest := []) (ctX9_turnedX P (zfor (fX9_layOut_3 a1 a2 a3 a4 a5) ((((σ 37) a1.toNatClampNeg)).toNatClampNeg) σ) (((zfor (fX9_layOut_3 a1 a2 a3 a4 a5) ((((σ 37) a1.toNatClampNeg)).toNatClampNeg) σ) 41) ((4 : Int32) * a1).toNatClampNeg) (((zfor (fX9_layOut_3 a1 a2 a3 a4 a5) ((((σ 37) a1.toNatClampNeg)).toNatClampNeg) σ) 41) (((4 : Int32) * a1) + (1 : Int32)).toNatClampNeg) a3) dX9_layOut_258 lk_X9_141 ls_X9_turnedX rfl (Nat.le_of_ble_eq_true rfl) (Nat.le_of_ble_eq_true rfl) (Nat.le_of_ble_eq_true rfl) (Nat.le_of_ble_eq_true rfl) (fun r_ h_ e_ => ?_)
  obtain ⟨e1_, e2_⟩ := e_
  subst e1_
  subst e2_
  show zz G mX9_layOut 1 0 0 Q_ 261 [some (.ref 32), some (.int a1), none, some (.int a3), some (.int a4), some (.int a5), none, none, none, none] [.int (rX9_turnedX (((zfor (fX9_layOut_3 a1 a2 a3 a4 a5) ((((σ 37) a1.toNatClampNeg)).toNatClampNeg) σ) 41) ((4 : Int32) * a1).toNatClampNeg) (((zfor (fX9_layOut_3 a1 a2 a3 a4 a5) ((((σ 37) a1.toNatClampNeg)).toNatClampNeg) σ) 41) (((4 : Int32) * a1) + (1 : Int32)).toNatClampNeg) a3)] (hh P (zfor (fX9_layOut_3 a1 a2 a3 a4 a5) ((((σ 37) a1.toNatClampNeg)).toNatClampNeg) σ)) 0 0
  refine z_iload dX9_layOut_261 rfl ?_
  refine z_iadd (v := ((rX9_turnedX (((zfor (fX9_layOut_3 a1 a2 a3 a4 a5) ((((σ 37) a1.toNatClampNeg)).toNatClampNeg) σ) 41) ((4 : Int32) * a1).toNatClampNeg) (((zfor (fX9_layOut_3 a1 a2 a3 a4 a5) ((((σ 37) a1.toNatClampNeg)).toNatClampNeg) σ) 41) (((4 : Int32) * a1) + (1 : Int32)).toNatClampNeg) a3) + a4)) dX9_layOut_263 rfl ?_
  refine z_istore (lv' := [some (.ref 32), some (.int a1), none, some (.int a3), some (.int a4), some (.int a5), some (.int (vX9_layOut_6 a1 a2 a3 a4 a5 σ)), none, none, none]) dX9_layOut_264 (Nat.le_of_ble_eq_true rfl) rfl ?_
  refine z_aloadr_n dX9_layOut_266 rfl ?_
  refine z_get (ci := 9) (r := (RX9, TX9, 38)) (j := 8) (v := .ref 41) dX9_layOut_267 (Nat.le_of_ble_eq_true rfl) (zN rfl) rfl rfl (Nat.le_of_ble_eq_true rfl) fl_X9_35 rfl ?_
  refine z_iconst dX9_layOut_270 k_iconst_4 ?_
  refine z_iload_n dX9_layOut_271 rfl ?_
  refine z_imul (v := ((4 : Int32) * a1)) dX9_layOut_272 rfl ?_
  refine z_iald (v := (((zfor (fX9_layOut_3 a1 a2 a3 a4 a5) ((((σ 37) a1.toNatClampNeg)).toNatClampNeg) σ) 41) ((4 : Int32) * a1).toNatClampNeg)) dX9_layOut_273 (zN rfl) rfl W_.2.2.2.1 rfl ?_
  refine z_aloadr_n dX9_layOut_274 rfl ?_
  refine z_get (ci := 9) (r := (RX9, TX9, 38)) (j := 8) (v := .ref 41) dX9_layOut_275 (Nat.le_of_ble_eq_true rfl) (zN rfl) rfl rfl (Nat.le_of_ble_eq_true rfl) fl_X9_35 rfl ?_
  refine z_iconst dX9_layOut_278 k_iconst_4 ?_
  refine z_iload_n dX9_layOut_279 rfl ?_
  refine z_imul (v := ((4 : Int32) * a1)) dX9_layOut_280 rfl ?_
  refine z_iconst dX9_layOut_281 k_iconst_1 ?_
  refine z_iadd (v := (((4 : Int32) * a1) + (1 : Int32))) dX9_layOut_282 rfl ?_
  refine z_iald (v := (((zfor (fX9_layOut_3 a1 a2 a3 a4 a5) ((((σ 37) a1.toNatClampNeg)).toNatClampNeg) σ) 41) (((4 : Int32) * a1) + (1 : Int32)).toNatClampNeg)) dX9_layOut_283 (zN rfl) rfl W_.2.2.2.2.1 rfl ?_
  refine z_iload_n dX9_layOut_284 rfl ?_
  refine z_callS (As := [.int (((zfor (fX9_layOut_3 a1 a2 a3 a4 a5) ((((σ 37) a1.toNatClampNeg)).toNatClampNeg) σ) 41) ((4 : Int32) * a1).toNatClampNeg), .int (((zfor (fX9_layOut_3 a1 a2 a3 a4 a5) ((((σ 37) a1.toNatClampNeg)).toNatClampNeg) σ) 41) (((4 : Int32) * a1) + (1 : Int32)).toNatClampNeg), .int a3]) (rest := []) (ctX9_turnedY P (zfor (fX9_layOut_3 a1 a2 a3 a4 a5) ((((σ 37) a1.toNatClampNeg)).toNatClampNeg) σ) (((zfor (fX9_layOut_3 a1 a2 a3 a4 a5) ((((σ 37) a1.toNatClampNeg)).toNatClampNeg) σ) 41) ((4 : Int32) * a1).toNatClampNeg) (((zfor (fX9_layOut_3 a1 a2 a3 a4 a5) ((((σ 37) a1.toNatClampNeg)).toNatClampNeg) σ) 41) (((4 : Int32) * a1) + (1 : Int32)).toNatClampNeg) a3) dX9_layOut_285 lk_X9_145 ls_X9_turnedY rfl (Nat.le_of_ble_eq_true rfl) (Nat.le_of_ble_eq_true rfl) (Nat.le_of_ble_eq_true rfl) (Nat.le_of_ble_eq_true rfl) (fun r_ h_ e_ => ?_)
  obtain ⟨e1_, e2_⟩ := e_
  subst e1_
  subst e2_
  show zz G mX9_layOut 1 0 0 Q_ 288 [some (.ref 32), some (.int a1), none, some (.int a3), some (.int a4), some (.int a5), some (.int (vX9_layOut_6 a1 a2 a3 a4 a5 σ)), none, none, none] [.int (rX9_turnedY (((zfor (fX9_layOut_3 a1 a2 a3 a4 a5) ((((σ 37) a1.toNatClampNeg)).toNatClampNeg) σ) 41) ((4 : Int32) * a1).toNatClampNeg) (((zfor (fX9_layOut_3 a1 a2 a3 a4 a5) ((((σ 37) a1.toNatClampNeg)).toNatClampNeg) σ) 41) (((4 : Int32) * a1) + (1 : Int32)).toNatClampNeg) a3)] (hh P (zfor (fX9_layOut_3 a1 a2 a3 a4 a5) ((((σ 37) a1.toNatClampNeg)).toNatClampNeg) σ)) 0 0
  refine z_iload dX9_layOut_288 rfl ?_
  refine z_iadd (v := ((rX9_turnedY (((zfor (fX9_layOut_3 a1 a2 a3 a4 a5) ((((σ 37) a1.toNatClampNeg)).toNatClampNeg) σ) 41) ((4 : Int32) * a1).toNatClampNeg) (((zfor (fX9_layOut_3 a1 a2 a3 a4 a5) ((((σ 37) a1.toNatClampNeg)).toNatClampNeg) σ) 41) (((4 : Int32) * a1) + (1 : Int32)).toNatClampNeg) a3) + a5)) dX9_layOut_290 rfl ?_
  refine z_istore (lv' := [some (.ref 32), some (.int a1), none, some (.int a3), some (.int a4), some (.int a5), some (.int (vX9_layOut_6 a1 a2 a3 a4 a5 σ)), some (.int (vX9_layOut_7 a1 a2 a3 a4 a5 σ)), none, none]) dX9_layOut_291 (Nat.le_of_ble_eq_true rfl) rfl ?_
  refine z_aloadr_n dX9_layOut_293 rfl ?_
  refine z_get (ci := 9) (r := (RX9, TX9, 38)) (j := 8) (v := .ref 41) dX9_layOut_294 (Nat.le_of_ble_eq_true rfl) (zN rfl) rfl rfl (Nat.le_of_ble_eq_true rfl) fl_X9_35 rfl ?_
  refine z_iconst dX9_layOut_297 k_iconst_4 ?_
  refine z_iload_n dX9_layOut_298 rfl ?_
  refine z_imul (v := ((4 : Int32) * a1)) dX9_layOut_299 rfl ?_
  refine z_iconst dX9_layOut_300 k_iconst_2 ?_
  refine z_iadd (v := (((4 : Int32) * a1) + (2 : Int32))) dX9_layOut_301 rfl ?_
  refine z_iald (v := (((zfor (fX9_layOut_3 a1 a2 a3 a4 a5) ((((σ 37) a1.toNatClampNeg)).toNatClampNeg) σ) 41) (((4 : Int32) * a1) + (2 : Int32)).toNatClampNeg)) dX9_layOut_302 (zN rfl) rfl W_.2.2.2.2.2.1 rfl ?_
  refine z_aloadr_n dX9_layOut_303 rfl ?_
  refine z_get (ci := 9) (r := (RX9, TX9, 38)) (j := 8) (v := .ref 41) dX9_layOut_304 (Nat.le_of_ble_eq_true rfl) (zN rfl) rfl rfl (Nat.le_of_ble_eq_true rfl) fl_X9_35 rfl ?_
  refine z_iconst dX9_layOut_307 k_iconst_4 ?_
  refine z_iload_n dX9_layOut_308 rfl ?_
  refine z_imul (v := ((4 : Int32) * a1)) dX9_layOut_309 rfl ?_
  refine z_iconst dX9_layOut_310 k_iconst_3 ?_
  refine z_iadd (v := (((4 : Int32) * a1) + (3 : Int32))) dX9_layOut_311 rfl ?_
  refine z_iald (v := (((zfor (fX9_layOut_3 a1 a2 a3 a4 a5) ((((σ 37) a1.toNatClampNeg)).toNatClampNeg) σ) 41) (((4 : Int32) * a1) + (3 : Int32)).toNatClampNeg)) dX9_layOut_312 (zN rfl) rfl W_.2.2.2.2.2.2.1 rfl ?_
  refine z_iload_n dX9_layOut_313 rfl ?_
  refine z_callS (As := [.int (((zfor (fX9_layOut_3 a1 a2 a3 a4 a5) ((((σ 37) a1.toNatClampNeg)).toNatClampNeg) σ) 41) (((4 : Int32) * a1) + (2 : Int32)).toNatClampNeg), .int (((zfor (fX9_layOut_3 a1 a2 a3 a4 a5) ((((σ 37) a1.toNatClampNeg)).toNatClampNeg) σ) 41) (((4 : Int32) * a1) + (3 : Int32)).toNatClampNeg), .int a3]) (rest := []) (ctX9_turnedX P (zfor (fX9_layOut_3 a1 a2 a3 a4 a5) ((((σ 37) a1.toNatClampNeg)).toNatClampNeg) σ) (((zfor (fX9_layOut_3 a1 a2 a3 a4 a5) ((((σ 37) a1.toNatClampNeg)).toNatClampNeg) σ) 41) (((4 : Int32) * a1) + (2 : Int32)).toNatClampNeg) (((zfor (fX9_layOut_3 a1 a2 a3 a4 a5) ((((σ 37) a1.toNatClampNeg)).toNatClampNeg) σ) 41) (((4 : Int32) * a1) + (3 : Int32)).toNatClampNeg) a3) dX9_layOut_314 lk_X9_141 ls_X9_turnedX rfl (Nat.le_of_ble_eq_true rfl) (Nat.le_of_ble_eq_true rfl) (Nat.le_of_ble_eq_true rfl) (Nat.le_of_ble_eq_true rfl) (fun r_ h_ e_ => ?_)
  obtain ⟨e1_, e2_⟩ := e_
  subst e1_
  subst e2_
  show zz G mX9_layOut 1 0 0 Q_ 317 [some (.ref 32), some (.int a1), none, some (.int a3), some (.int a4), some (.int a5), some (.int (vX9_layOut_6 a1 a2 a3 a4 a5 σ)), some (.int (vX9_layOut_7 a1 a2 a3 a4 a5 σ)), none, none] [.int (rX9_turnedX (((zfor (fX9_layOut_3 a1 a2 a3 a4 a5) ((((σ 37) a1.toNatClampNeg)).toNatClampNeg) σ) 41) (((4 : Int32) * a1) + (2 : Int32)).toNatClampNeg) (((zfor (fX9_layOut_3 a1 a2 a3 a4 a5) ((((σ 37) a1.toNatClampNeg)).toNatClampNeg) σ) 41) (((4 : Int32) * a1) + (3 : Int32)).toNatClampNeg) a3)] (hh P (zfor (fX9_layOut_3 a1 a2 a3 a4 a5) ((((σ 37) a1.toNatClampNeg)).toNatClampNeg) σ)) 0 0
  refine z_iload dX9_layOut_317 rfl ?_
  refine z_iadd (v := ((rX9_turnedX (((zfor (fX9_layOut_3 a1 a2 a3 a4 a5) ((((σ 37) a1.toNatClampNeg)).toNatClampNeg) σ) 41) (((4 : Int32) * a1) + (2 : Int32)).toNatClampNeg) (((zfor (fX9_layOut_3 a1 a2 a3 a4 a5) ((((σ 37) a1.toNatClampNeg)).toNatClampNeg) σ) 41) (((4 : Int32) * a1) + (3 : Int32)).toNatClampNeg) a3) + a4)) dX9_layOut_319 rfl ?_
  refine z_istore (lv' := [some (.ref 32), some (.int a1), none, some (.int a3), some (.int a4), some (.int a5), some (.int (vX9_layOut_6 a1 a2 a3 a4 a5 σ)), some (.int (vX9_layOut_7 a1 a2 a3 a4 a5 σ)), some (.int (vX9_layOut_8 a1 a2 a3 a4 a5 σ)), none]) dX9_layOut_320 (Nat.le_of_ble_eq_true rfl) rfl ?_
  refine z_aloadr_n dX9_layOut_322 rfl ?_
  refine z_get (ci := 9) (r := (RX9, TX9, 38)) (j := 8) (v := .ref 41) dX9_layOut_323 (Nat.le_of_ble_eq_true rfl) (zN rfl) rfl rfl (Nat.le_of_ble_eq_true rfl) fl_X9_35 rfl ?_
  refine z_iconst dX9_layOut_326 k_iconst_4 ?_
  refine z_iload_n dX9_layOut_327 rfl ?_
  refine z_imul (v := ((4 : Int32) * a1)) dX9_layOut_328 rfl ?_
  refine z_iconst dX9_layOut_329 k_iconst_2 ?_
  refine z_iadd (v := (((4 : Int32) * a1) + (2 : Int32))) dX9_layOut_330 rfl ?_
  refine z_iald (v := (((zfor (fX9_layOut_3 a1 a2 a3 a4 a5) ((((σ 37) a1.toNatClampNeg)).toNatClampNeg) σ) 41) (((4 : Int32) * a1) + (2 : Int32)).toNatClampNeg)) dX9_layOut_331 (zN rfl) rfl W_.2.2.2.2.2.2.2.1 rfl ?_
  refine z_aloadr_n dX9_layOut_332 rfl ?_
  refine z_get (ci := 9) (r := (RX9, TX9, 38)) (j := 8) (v := .ref 41) dX9_layOut_333 (Nat.le_of_ble_eq_true rfl) (zN rfl) rfl rfl (Nat.le_of_ble_eq_true rfl) fl_X9_35 rfl ?_
  refine z_iconst dX9_layOut_336 k_iconst_4 ?_
  refine z_iload_n dX9_layOut_337 rfl ?_
  refine z_imul (v := ((4 : Int32) * a1)) dX9_layOut_338 rfl ?_
  refine z_iconst dX9_layOut_339 k_iconst_3 ?_
  refine z_iadd (v := (((4 : Int32) * a1) + (3 : Int32))) dX9_layOut_340 rfl ?_
  refine z_iald (v := (((zfor (fX9_layOut_3 a1 a2 a3 a4 a5) ((((σ 37) a1.toNatClampNeg)).toNatClampNeg) σ) 41) (((4 : Int32) * a1) + (3 : Int32)).toNatClampNeg)) dX9_layOut_341 (zN rfl) rfl W_.2.2.2.2.2.2.2.2 rfl ?_
  refine z_iload_n dX9_layOut_342 rfl ?_
  refine z_callS (As := [.int (((zfor (fX9_layOut_3 a1 a2 a3 a4 a5) ((((σ 37) a1.toNatClampNeg)).toNatClampNeg) σ) 41) (((4 : Int32) * a1) + (2 : Int32)).toNatClampNeg), .int (((zfor (fX9_layOut_3 a1 a2 a3 a4 a5) ((((σ 37) a1.toNatClampNeg)).toNatClampNeg) σ) 41) (((4 : Int32) * a1) + (3 : Int32)).toNatClampNeg), .int a3]) (rest := []) (ctX9_turnedY P (zfor (fX9_layOut_3 a1 a2 a3 a4 a5) ((((σ 37) a1.toNatClampNeg)).toNatClampNeg) σ) (((zfor (fX9_layOut_3 a1 a2 a3 a4 a5) ((((σ 37) a1.toNatClampNeg)).toNatClampNeg) σ) 41) (((4 : Int32) * a1) + (2 : Int32)).toNatClampNeg) (((zfor (fX9_layOut_3 a1 a2 a3 a4 a5) ((((σ 37) a1.toNatClampNeg)).toNatClampNeg) σ) 41) (((4 : Int32) * a1) + (3 : Int32)).toNatClampNeg) a3) dX9_layOut_343 lk_X9_145 ls_X9_turnedY rfl (Nat.le_of_ble_eq_true rfl) (Nat.le_of_ble_eq_true rfl) (Nat.le_of_ble_eq_true rfl) (Nat.le_of_ble_eq_true rfl) (fun r_ h_ e_ => ?_)
  obtain ⟨e1_, e2_⟩ := e_
  subst e1_
  subst e2_
  show zz G mX9_layOut 1 0 0 Q_ 346 [some (.ref 32), some (.int a1), none, some (.int a3), some (.int a4), some (.int a5), some (.int (vX9_layOut_6 a1 a2 a3 a4 a5 σ)), some (.int (vX9_layOut_7 a1 a2 a3 a4 a5 σ)), some (.int (vX9_layOut_8 a1 a2 a3 a4 a5 σ)), none] [.int (rX9_turnedY (((zfor (fX9_layOut_3 a1 a2 a3 a4 a5) ((((σ 37) a1.toNatClampNeg)).toNatClampNeg) σ) 41) (((4 : Int32) * a1) + (2 : Int32)).toNatClampNeg) (((zfor (fX9_layOut_3 a1 a2 a3 a4 a5) ((((σ 37) a1.toNatClampNeg)).toNatClampNeg) σ) 41) (((4 : Int32) * a1) + (3 : Int32)).toNatClampNeg) a3)] (hh P (zfor (fX9_layOut_3 a1 a2 a3 a4 a5) ((((σ 37) a1.toNatClampNeg)).toNatClampNeg) σ)) 0 0
  refine z_iload dX9_layOut_346 rfl ?_
  refine z_iadd (v := ((rX9_turnedY (((zfor (fX9_layOut_3 a1 a2 a3 a4 a5) ((((σ 37) a1.toNatClampNeg)).toNatClampNeg) σ) 41) (((4 : Int32) * a1) + (2 : Int32)).toNatClampNeg) (((zfor (fX9_layOut_3 a1 a2 a3 a4 a5) ((((σ 37) a1.toNatClampNeg)).toNatClampNeg) σ) 41) (((4 : Int32) * a1) + (3 : Int32)).toNatClampNeg) a3) + a5)) dX9_layOut_348 rfl ?_
  refine z_istore (lv' := [some (.ref 32), some (.int a1), none, some (.int a3), some (.int a4), some (.int a5), some (.int (vX9_layOut_6 a1 a2 a3 a4 a5 σ)), some (.int (vX9_layOut_7 a1 a2 a3 a4 a5 σ)), some (.int (vX9_layOut_8 a1 a2 a3 a4 a5 σ)), some (.int (vX9_layOut_9 a1 a2 a3 a4 a5 σ))]) dX9_layOut_349 (Nat.le_of_ble_eq_true rfl) rfl ?_
  refine z_aloadr_n dX9_layOut_351 rfl ?_
  refine z_get (ci := 9) (r := (RX9, TX9, 38)) (j := 15) (v := .ref 46) dX9_layOut_352 (Nat.le_of_ble_eq_true rfl) (zN rfl) rfl rfl (Nat.le_of_ble_eq_true rfl) fl_X9_54 rfl ?_
  refine z_iconst dX9_layOut_355 k_iconst_0 ?_
  refine z_iload dX9_layOut_356 rfl ?_
  refine z_iload dX9_layOut_358 rfl ?_
  have K_1 : zz G mX9_layOut 1 0 0 Q_ 370 [some (.ref 32), none, none, none, none, none, some (.int (vX9_layOut_6 a1 a2 a3 a4 a5 σ)), some (.int (vX9_layOut_7 a1 a2 a3 a4 a5 σ)), some (.int (vX9_layOut_8 a1 a2 a3 a4 a5 σ)), some (.int (vX9_layOut_9 a1 a2 a3 a4 a5 σ))] [.int (if (vX9_layOut_8 a1 a2 a3 a4 a5 σ) ≤ (vX9_layOut_6 a1 a2 a3 a4 a5 σ) then (vX9_layOut_8 a1 a2 a3 a4 a5 σ) else (vX9_layOut_6 a1 a2 a3 a4 a5 σ)), .int (0 : Int32), .ref 46] (hh P (zfor (fX9_layOut_3 a1 a2 a3 a4 a5) ((((σ 37) a1.toNatClampNeg)).toNatClampNeg) σ)) 0 0 := by
    refine z_iast (σ' := (zu (zfor (fX9_layOut_3 a1 a2 a3 a4 a5) ((((σ 37) a1.toNatClampNeg)).toNatClampNeg) σ) 46 (zu ((zfor (fX9_layOut_3 a1 a2 a3 a4 a5) ((((σ 37) a1.toNatClampNeg)).toNatClampNeg) σ) 46) (0 : Int32).toNatClampNeg (if (vX9_layOut_8 a1 a2 a3 a4 a5 σ) ≤ (vX9_layOut_6 a1 a2 a3 a4 a5 σ) then (vX9_layOut_8 a1 a2 a3 a4 a5 σ) else (vX9_layOut_6 a1 a2 a3 a4 a5 σ))))) dX9_layOut_370 (Nat.le_of_ble_eq_true rfl) (zN rfl) rfl (vp_in_nI (n := 0) (by decide) (by decide)) rfl ?_
    refine z_aloadr_n dX9_layOut_371 rfl ?_
    refine z_get (ci := 9) (r := (RX9, TX9, 38)) (j := 15) (v := .ref 46) dX9_layOut_372 (Nat.le_of_ble_eq_true rfl) (zN rfl) rfl rfl (Nat.le_of_ble_eq_true rfl) fl_X9_54 rfl ?_
    refine z_iconst dX9_layOut_375 k_iconst_1 ?_
    refine z_iload dX9_layOut_376 rfl ?_
    refine z_iload dX9_layOut_378 rfl ?_
    have K_2 : zz G mX9_layOut 1 0 0 Q_ 390 [some (.ref 32), none, none, none, none, none, some (.int (vX9_layOut_6 a1 a2 a3 a4 a5 σ)), some (.int (vX9_layOut_7 a1 a2 a3 a4 a5 σ)), some (.int (vX9_layOut_8 a1 a2 a3 a4 a5 σ)), some (.int (vX9_layOut_9 a1 a2 a3 a4 a5 σ))] [.int (if (vX9_layOut_9 a1 a2 a3 a4 a5 σ) ≤ (vX9_layOut_7 a1 a2 a3 a4 a5 σ) then (vX9_layOut_9 a1 a2 a3 a4 a5 σ) else (vX9_layOut_7 a1 a2 a3 a4 a5 σ)), .int (1 : Int32), .ref 46] (hh P (zu (zfor (fX9_layOut_3 a1 a2 a3 a4 a5) ((((σ 37) a1.toNatClampNeg)).toNatClampNeg) σ) 46 (zu ((zfor (fX9_layOut_3 a1 a2 a3 a4 a5) ((((σ 37) a1.toNatClampNeg)).toNatClampNeg) σ) 46) (0 : Int32).toNatClampNeg (if (vX9_layOut_8 a1 a2 a3 a4 a5 σ) ≤ (vX9_layOut_6 a1 a2 a3 a4 a5 σ) then (vX9_layOut_8 a1 a2 a3 a4 a5 σ) else (vX9_layOut_6 a1 a2 a3 a4 a5 σ))))) 0 0 := by
      refine z_iast (σ' := (zu (zfor (fX9_layOut_3 a1 a2 a3 a4 a5) ((((σ 37) a1.toNatClampNeg)).toNatClampNeg) σ) 46 (zu (zu ((zfor (fX9_layOut_3 a1 a2 a3 a4 a5) ((((σ 37) a1.toNatClampNeg)).toNatClampNeg) σ) 46) (0 : Int32).toNatClampNeg (if (vX9_layOut_8 a1 a2 a3 a4 a5 σ) ≤ (vX9_layOut_6 a1 a2 a3 a4 a5 σ) then (vX9_layOut_8 a1 a2 a3 a4 a5 σ) else (vX9_layOut_6 a1 a2 a3 a4 a5 σ))) (1 : Int32).toNatClampNeg (if (vX9_layOut_9 a1 a2 a3 a4 a5 σ) ≤ (vX9_layOut_7 a1 a2 a3 a4 a5 σ) then (vX9_layOut_9 a1 a2 a3 a4 a5 σ) else (vX9_layOut_7 a1 a2 a3 a4 a5 σ))))) dX9_layOut_390 (Nat.le_of_ble_eq_true rfl) (zN rfl) rfl (vp_in_nI (n := 1) (by decide) (by decide)) ((congrArg (fun g_ => zu _ _ (zu g_ _ _)) (zu_self _ _ _)).trans (zu_zu _ _ _ _)) ?_
      refine z_aloadr_n dX9_layOut_391 rfl ?_
      refine z_get (ci := 9) (r := (RX9, TX9, 38)) (j := 15) (v := .ref 46) dX9_layOut_392 (Nat.le_of_ble_eq_true rfl) (zN rfl) rfl rfl (Nat.le_of_ble_eq_true rfl) fl_X9_54 rfl ?_
      refine z_iconst dX9_layOut_395 k_iconst_2 ?_
      refine z_iload dX9_layOut_396 rfl ?_
      refine z_iload dX9_layOut_398 rfl ?_
      have K_3 : zz G mX9_layOut 1 0 0 Q_ 410 [some (.ref 32), none, none, none, none, none, none, some (.int (vX9_layOut_7 a1 a2 a3 a4 a5 σ)), none, some (.int (vX9_layOut_9 a1 a2 a3 a4 a5 σ))] [.int (if (vX9_layOut_8 a1 a2 a3 a4 a5 σ) ≤ (vX9_layOut_6 a1 a2 a3 a4 a5 σ) then (vX9_layOut_6 a1 a2 a3 a4 a5 σ) else (vX9_layOut_8 a1 a2 a3 a4 a5 σ)), .int (2 : Int32), .ref 46] (hh P (zu (zfor (fX9_layOut_3 a1 a2 a3 a4 a5) ((((σ 37) a1.toNatClampNeg)).toNatClampNeg) σ) 46 (zu (zu ((zfor (fX9_layOut_3 a1 a2 a3 a4 a5) ((((σ 37) a1.toNatClampNeg)).toNatClampNeg) σ) 46) (0 : Int32).toNatClampNeg (if (vX9_layOut_8 a1 a2 a3 a4 a5 σ) ≤ (vX9_layOut_6 a1 a2 a3 a4 a5 σ) then (vX9_layOut_8 a1 a2 a3 a4 a5 σ) else (vX9_layOut_6 a1 a2 a3 a4 a5 σ))) (1 : Int32).toNatClampNeg (if (vX9_layOut_9 a1 a2 a3 a4 a5 σ) ≤ (vX9_layOut_7 a1 a2 a3 a4 a5 σ) then (vX9_layOut_9 a1 a2 a3 a4 a5 σ) else (vX9_layOut_7 a1 a2 a3 a4 a5 σ))))) 0 0 := by
        refine z_iast (σ' := (zu (zfor (fX9_layOut_3 a1 a2 a3 a4 a5) ((((σ 37) a1.toNatClampNeg)).toNatClampNeg) σ) 46 (zu (zu (zu ((zfor (fX9_layOut_3 a1 a2 a3 a4 a5) ((((σ 37) a1.toNatClampNeg)).toNatClampNeg) σ) 46) (0 : Int32).toNatClampNeg (if (vX9_layOut_8 a1 a2 a3 a4 a5 σ) ≤ (vX9_layOut_6 a1 a2 a3 a4 a5 σ) then (vX9_layOut_8 a1 a2 a3 a4 a5 σ) else (vX9_layOut_6 a1 a2 a3 a4 a5 σ))) (1 : Int32).toNatClampNeg (if (vX9_layOut_9 a1 a2 a3 a4 a5 σ) ≤ (vX9_layOut_7 a1 a2 a3 a4 a5 σ) then (vX9_layOut_9 a1 a2 a3 a4 a5 σ) else (vX9_layOut_7 a1 a2 a3 a4 a5 σ))) (2 : Int32).toNatClampNeg (if (vX9_layOut_8 a1 a2 a3 a4 a5 σ) ≤ (vX9_layOut_6 a1 a2 a3 a4 a5 σ) then (vX9_layOut_6 a1 a2 a3 a4 a5 σ) else (vX9_layOut_8 a1 a2 a3 a4 a5 σ))))) dX9_layOut_410 (Nat.le_of_ble_eq_true rfl) (zN rfl) rfl (vp_in_nI (n := 2) (by decide) (by decide)) ((congrArg (fun g_ => zu _ _ (zu g_ _ _)) (zu_self _ _ _)).trans (zu_zu _ _ _ _)) ?_
        show zz G mX9_layOut 1 0 0 Q_ 411 [some (.ref 32), none, none, none, none, none, none, some (.int (vX9_layOut_7 a1 a2 a3 a4 a5 σ)), none, some (.int (vX9_layOut_9 a1 a2 a3 a4 a5 σ))] [] (hh P (vX9_layOut_10 a1 a2 a3 a4 a5 σ)) 0 0
        refine z_aloadr_n dX9_layOut_411 rfl ?_
        refine z_get (ci := 9) (r := (RX9, TX9, 38)) (j := 15) (v := .ref 46) dX9_layOut_412 (Nat.le_of_ble_eq_true rfl) (zN rfl) rfl rfl (Nat.le_of_ble_eq_true rfl) fl_X9_54 rfl ?_
        refine z_iconst dX9_layOut_415 k_iconst_3 ?_
        refine z_iload dX9_layOut_416 rfl ?_
        refine z_iload dX9_layOut_418 rfl ?_
        have K_4 : zz G mX9_layOut 1 0 0 Q_ 430 [none, none, none, none, none, none, none, none, none, none] [.int (if (vX9_layOut_9 a1 a2 a3 a4 a5 σ) ≤ (vX9_layOut_7 a1 a2 a3 a4 a5 σ) then (vX9_layOut_7 a1 a2 a3 a4 a5 σ) else (vX9_layOut_9 a1 a2 a3 a4 a5 σ)), .int (3 : Int32), .ref 46] (hh P (vX9_layOut_10 a1 a2 a3 a4 a5 σ)) 0 0 := by
          refine z_iast (σ' := (zu (vX9_layOut_10 a1 a2 a3 a4 a5 σ) 46 (zu ((vX9_layOut_10 a1 a2 a3 a4 a5 σ) 46) (3 : Int32).toNatClampNeg (if (vX9_layOut_9 a1 a2 a3 a4 a5 σ) ≤ (vX9_layOut_7 a1 a2 a3 a4 a5 σ) then (vX9_layOut_7 a1 a2 a3 a4 a5 σ) else (vX9_layOut_9 a1 a2 a3 a4 a5 σ))))) dX9_layOut_430 (Nat.le_of_ble_eq_true rfl) (zN rfl) rfl (vp_in_nI (n := 3) (by decide) (by decide)) rfl ?_
          exact z_return dX9_layOut_431 rfl (Nat.le_of_ble_eq_true rfl) (Nat.le_of_ble_eq_true rfl) (by rw [← hQ_]; exact ⟨rfl, (by rw [sX9_layOut])⟩)
        refine z_icmp_ge (tgt := 428) dX9_layOut_420 (by decide) (fun c_4 => ?_) (fun c_4 => ?_)
        · refine z_iload dX9_layOut_428 rfl ?_
          refine zz_sub (lv' := [none, none, none, none, none, none, none, none, none, none]) trivial ?_
          rw [show (if (vX9_layOut_9 a1 a2 a3 a4 a5 σ) ≤ (vX9_layOut_7 a1 a2 a3 a4 a5 σ) then (vX9_layOut_7 a1 a2 a3 a4 a5 σ) else (vX9_layOut_9 a1 a2 a3 a4 a5 σ)) = (vX9_layOut_7 a1 a2 a3 a4 a5 σ) from (if_pos c_4)] at K_4
          exact K_4
        · refine z_iload dX9_layOut_423 rfl ?_
          refine z_goto (tgt := 430) dX9_layOut_425 (by decide) ?_
          refine zz_sub (lv' := [none, none, none, none, none, none, none, none, none, none]) trivial ?_
          rw [show (if (vX9_layOut_9 a1 a2 a3 a4 a5 σ) ≤ (vX9_layOut_7 a1 a2 a3 a4 a5 σ) then (vX9_layOut_7 a1 a2 a3 a4 a5 σ) else (vX9_layOut_9 a1 a2 a3 a4 a5 σ)) = (vX9_layOut_9 a1 a2 a3 a4 a5 σ) from (if_neg c_4)] at K_4
          exact K_4
      refine z_icmp_ge (tgt := 408) dX9_layOut_400 (by decide) (fun c_3 => ?_) (fun c_3 => ?_)
      · refine z_iload dX9_layOut_408 rfl ?_
        refine zz_sub (lv' := [some (.ref 32), none, none, none, none, none, none, some (.int (vX9_layOut_7 a1 a2 a3 a4 a5 σ)), none, some (.int (vX9_layOut_9 a1 a2 a3 a4 a5 σ))]) ⟨rfl, ⟨rfl, ⟨rfl, trivial⟩⟩⟩ ?_
        rw [show (if (vX9_layOut_8 a1 a2 a3 a4 a5 σ) ≤ (vX9_layOut_6 a1 a2 a3 a4 a5 σ) then (vX9_layOut_6 a1 a2 a3 a4 a5 σ) else (vX9_layOut_8 a1 a2 a3 a4 a5 σ)) = (vX9_layOut_6 a1 a2 a3 a4 a5 σ) from (if_pos c_3)] at K_3
        exact K_3
      · refine z_iload dX9_layOut_403 rfl ?_
        refine z_goto (tgt := 410) dX9_layOut_405 (by decide) ?_
        refine zz_sub (lv' := [some (.ref 32), none, none, none, none, none, none, some (.int (vX9_layOut_7 a1 a2 a3 a4 a5 σ)), none, some (.int (vX9_layOut_9 a1 a2 a3 a4 a5 σ))]) ⟨rfl, ⟨rfl, ⟨rfl, trivial⟩⟩⟩ ?_
        rw [show (if (vX9_layOut_8 a1 a2 a3 a4 a5 σ) ≤ (vX9_layOut_6 a1 a2 a3 a4 a5 σ) then (vX9_layOut_6 a1 a2 a3 a4 a5 σ) else (vX9_layOut_8 a1 a2 a3 a4 a5 σ)) = (vX9_layOut_8 a1 a2 a3 a4 a5 σ) from (if_neg c_3)] at K_3
        exact K_3
    refine z_icmp_ge (tgt := 388) dX9_layOut_380 (by decide) (fun c_2 => ?_) (fun c_2 => ?_)
    · refine z_iload dX9_layOut_388 rfl ?_
      rw [show (if (vX9_layOut_9 a1 a2 a3 a4 a5 σ) ≤ (vX9_layOut_7 a1 a2 a3 a4 a5 σ) then (vX9_layOut_9 a1 a2 a3 a4 a5 σ) else (vX9_layOut_7 a1 a2 a3 a4 a5 σ)) = (vX9_layOut_9 a1 a2 a3 a4 a5 σ) from (if_pos c_2)] at K_2
      exact K_2
    · refine z_iload dX9_layOut_383 rfl ?_
      refine z_goto (tgt := 390) dX9_layOut_385 (by decide) ?_
      rw [show (if (vX9_layOut_9 a1 a2 a3 a4 a5 σ) ≤ (vX9_layOut_7 a1 a2 a3 a4 a5 σ) then (vX9_layOut_9 a1 a2 a3 a4 a5 σ) else (vX9_layOut_7 a1 a2 a3 a4 a5 σ)) = (vX9_layOut_7 a1 a2 a3 a4 a5 σ) from (if_neg c_2)] at K_2
      exact K_2
  refine z_icmp_ge (tgt := 368) dX9_layOut_360 (by decide) (fun c_1 => ?_) (fun c_1 => ?_)
  · refine z_iload dX9_layOut_368 rfl ?_
    refine zz_sub (lv' := [some (.ref 32), none, none, none, none, none, some (.int (vX9_layOut_6 a1 a2 a3 a4 a5 σ)), some (.int (vX9_layOut_7 a1 a2 a3 a4 a5 σ)), some (.int (vX9_layOut_8 a1 a2 a3 a4 a5 σ)), some (.int (vX9_layOut_9 a1 a2 a3 a4 a5 σ))]) ⟨rfl, ⟨rfl, ⟨rfl, ⟨rfl, ⟨rfl, trivial⟩⟩⟩⟩⟩ ?_
    rw [show (if (vX9_layOut_8 a1 a2 a3 a4 a5 σ) ≤ (vX9_layOut_6 a1 a2 a3 a4 a5 σ) then (vX9_layOut_8 a1 a2 a3 a4 a5 σ) else (vX9_layOut_6 a1 a2 a3 a4 a5 σ)) = (vX9_layOut_8 a1 a2 a3 a4 a5 σ) from (if_pos c_1)] at K_1
    exact K_1
  · refine z_iload dX9_layOut_363 rfl ?_
    refine z_goto (tgt := 370) dX9_layOut_365 (by decide) ?_
    refine zz_sub (lv' := [some (.ref 32), none, none, none, none, none, some (.int (vX9_layOut_6 a1 a2 a3 a4 a5 σ)), some (.int (vX9_layOut_7 a1 a2 a3 a4 a5 σ)), some (.int (vX9_layOut_8 a1 a2 a3 a4 a5 σ)), some (.int (vX9_layOut_9 a1 a2 a3 a4 a5 σ))]) ⟨rfl, ⟨rfl, ⟨rfl, ⟨rfl, ⟨rfl, trivial⟩⟩⟩⟩⟩ ?_
    rw [show (if (vX9_layOut_8 a1 a2 a3 a4 a5 σ) ≤ (vX9_layOut_6 a1 a2 a3 a4 a5 σ) then (vX9_layOut_8 a1 a2 a3 a4 a5 σ) else (vX9_layOut_6 a1 a2 a3 a4 a5 σ)) = (vX9_layOut_6 a1 a2 a3 a4 a5 σ) from (if_neg c_1)] at K_1
    exact K_1

theorem dX9_tell_91 : decode cX9_tell 91 = .ok (.iload_n 2, 1) := by decide +kernel
theorem dX9_tell_92 : decode cX9_tell 92 = .ok (.aload_n 0, 1) := by decide +kernel
theorem dX9_tell_93 : decode cX9_tell 93 = .ok (.getfield 23, 3) := by decide +kernel
theorem dX9_tell_96 : decode cX9_tell 96 = .ok (.iload_n 1, 1) := by decide +kernel
theorem dX9_tell_97 : decode cX9_tell 97 = .ok (.iaload, 1) := by decide +kernel
theorem dX9_tell_98 : decode cX9_tell 98 = .ok (.if_icmp .ge 21, 3) := by decide +kernel
theorem dX9_tell_101 : decode cX9_tell 101 = .ok (.aload_n 0, 1) := by decide +kernel
theorem dX9_tell_102 : decode cX9_tell 102 = .ok (.getfield 75, 3) := by decide +kernel
theorem dX9_tell_105 : decode cX9_tell 105 = .ok (.iload_n 2, 1) := by decide +kernel
theorem dX9_tell_106 : decode cX9_tell 106 = .ok (.aload_n 0, 1) := by decide +kernel
theorem dX9_tell_107 : decode cX9_tell 107 = .ok (.getfield 69, 3) := by decide +kernel
theorem dX9_tell_110 : decode cX9_tell 110 = .ok (.iload_n 2, 1) := by decide +kernel
theorem dX9_tell_111 : decode cX9_tell 111 = .ok (.iaload, 1) := by decide +kernel
theorem dX9_tell_112 : decode cX9_tell 112 = .ok (.iastore, 1) := by decide +kernel
theorem dX9_tell_113 : decode cX9_tell 113 = .ok (.iinc 2 1, 3) := by decide +kernel
theorem dX9_tell_116 : decode cX9_tell 116 = .ok (.goto (-25), 3) := by decide +kernel
noncomputable def fX9_tell_91 (i_ : Nat) (a_ : zc_N) : zc_N := (zu a_ 53 (zu (a_ 53) (nI i_).toNatClampNeg ((a_ 51) (nI i_).toNatClampNeg)))
def qX9_tell_91 (i_ : Nat) (a_ : zc_N) : Prop := (vp_in (nI i_) 12 ∧ vp_in (nI i_) 12)
def uX9_tell_91 (l1 : Int32) (i_ : Nat) (a_ : zc_N) : Prop := vp_in l1 24
set_option maxHeartbeats 2000000 in
theorem lpX9_tell_91 {G : zc_G} {Q : Option Value → zc_H → Prop} (P : zp) (σ : zc_N) (l1 : Int32) (n_ : Nat) (hC_ : ∀ i91_ : Nat, i91_ ≤ n_ → ((((zfor fX9_tell_91 i91_ σ) 37) l1.toNatClampNeg) ≤ (nI i91_) ↔ n_ ≤ i91_)) (W0_ : ∀ i91_ : Nat, i91_ ≤ n_ → uX9_tell_91 l1 i91_ (zfor fX9_tell_91 i91_ σ)) (W1_ : ∀ i91_ : Nat, i91_ < n_ → qX9_tell_91 i91_ (zfor fX9_tell_91 i91_ σ))
    (W2_ : zz G mX9_tell 0 0 0 Q 119 [none, none, none] [] (hh P (zfor fX9_tell_91 n_ σ)) 0 0) :
    zz G mX9_tell 0 0 0 Q 91 [some (.ref 32), some (.int l1), some (.int (nI 0))] [] (hh P σ) 0 0 := by
  refine zfor_nI (fun i_ a_ => zz G mX9_tell 0 0 0 Q 91 [some (.ref 32), some (.int l1), some (.int i_)] [] (hh P a_) 0 0) fX9_tell_91 n_ σ (fun i_ hi_ k_ => ?_) ?_
  · have Wa_ := W0_ i_ (Nat.le_of_lt hi_)
    have W3_ := W1_ i_ hi_
    have hD_ := hC_ i_ (Nat.le_of_lt hi_)
    generalize zfor fX9_tell_91 i_ σ = g_ at k_ W3_ hD_ Wa_ ⊢
    rw [fX9_tell_91] at k_
    rw [qX9_tell_91] at W3_
    try dsimp only at W3_
    rw [uX9_tell_91] at Wa_
    try dsimp only at Wa_
    refine z_iload_n dX9_tell_91 rfl ?_
    refine z_aloadr_n dX9_tell_92 rfl ?_
    refine z_get (ci := 9) (r := (RX9, TX9, 38)) (j := 4) (v := .ref 37) dX9_tell_93 (Nat.le_of_ble_eq_true rfl) (zN rfl) rfl rfl (Nat.le_of_ble_eq_true rfl) fl_X9_23 rfl ?_
    refine z_iload_n dX9_tell_96 rfl ?_
    refine z_iald (v := ((g_ 37) l1.toNatClampNeg)) dX9_tell_97 (zN rfl) rfl Wa_ rfl ?_
    refine z_icmp_ge (tgt := 119) dX9_tell_98 (by decide) (fun c_ => absurd c_ (fun q_ => Nat.not_le_of_lt hi_ (hD_.mp q_))) (fun c_ => ?_)
    refine z_aloadr_n dX9_tell_101 rfl ?_
    refine z_get (ci := 9) (r := (RX9, TX9, 38)) (j := 29) (v := .ref 53) dX9_tell_102 (Nat.le_of_ble_eq_true rfl) (zN rfl) rfl rfl (Nat.le_of_ble_eq_true rfl) fl_X9_75 rfl ?_
    refine z_iload_n dX9_tell_105 rfl ?_
    refine z_aloadr_n dX9_tell_106 rfl ?_
    refine z_get (ci := 9) (r := (RX9, TX9, 38)) (j := 27) (v := .ref 51) dX9_tell_107 (Nat.le_of_ble_eq_true rfl) (zN rfl) rfl rfl (Nat.le_of_ble_eq_true rfl) fl_X9_69 rfl ?_
    refine z_iload_n dX9_tell_110 rfl ?_
    refine z_iald (v := ((g_ 51) (nI i_).toNatClampNeg)) dX9_tell_111 (zN rfl) rfl W3_.1 rfl ?_
    refine z_iast (σ' := (zu g_ 53 (zu (g_ 53) (nI i_).toNatClampNeg ((g_ 51) (nI i_).toNatClampNeg)))) dX9_tell_112 (Nat.le_of_ble_eq_true rfl) (zN rfl) rfl W3_.2 rfl ?_
    refine z_iinc (v := ((nI i_) + (1 : Int32))) (lv' := [some (.ref 32), some (.int l1), some (.int ((nI i_) + (1 : Int32)))]) dX9_tell_113 (Nat.le_of_ble_eq_true rfl) rfl (by rw [k_iconst_1]) rfl ?_
    refine z_goto (tgt := 91) dX9_tell_116 (by decide) ?_
    rw [nI_1]
    exact k_
  · have hD_ := hC_ n_ (Nat.le_refl _)
    have Wa_ := W0_ n_ (Nat.le_refl _)
    generalize zfor fX9_tell_91 n_ σ = g_ at W2_ hD_ Wa_ ⊢
    rw [uX9_tell_91] at Wa_
    try dsimp only at Wa_
    refine z_iload_n dX9_tell_91 rfl ?_
    refine z_aloadr_n dX9_tell_92 rfl ?_
    refine z_get (ci := 9) (r := (RX9, TX9, 38)) (j := 4) (v := .ref 37) dX9_tell_93 (Nat.le_of_ble_eq_true rfl) (zN rfl) rfl rfl (Nat.le_of_ble_eq_true rfl) fl_X9_23 rfl ?_
    refine z_iload_n dX9_tell_96 rfl ?_
    refine z_iald (v := ((g_ 37) l1.toNatClampNeg)) dX9_tell_97 (zN rfl) rfl Wa_ rfl ?_
    refine z_icmp_ge (tgt := 119) dX9_tell_98 (by decide) (fun c_ => ?_) (fun c_ => absurd (hD_.mpr (Nat.le_refl _)) c_)
    exact zz_sub (lv' := [none, none, none]) trivial W2_

theorem dX9_tell_0 : decode cX9_tell 0 = .ok (.aload_n 0, 1) := by decide +kernel
theorem dX9_tell_1 : decode cX9_tell 1 = .ok (.getfield 72, 3) := by decide +kernel
theorem dX9_tell_4 : decode cX9_tell 4 = .ok (.iconst 0, 1) := by decide +kernel
theorem dX9_tell_5 : decode cX9_tell 5 = .ok (.aload_n 0, 1) := by decide +kernel
theorem dX9_tell_6 : decode cX9_tell 6 = .ok (.getfield 158, 3) := by decide +kernel
theorem dX9_tell_9 : decode cX9_tell 9 = .ok (.iastore, 1) := by decide +kernel
theorem dX9_tell_10 : decode cX9_tell 10 = .ok (.aload_n 0, 1) := by decide +kernel
theorem dX9_tell_11 : decode cX9_tell 11 = .ok (.getfield 72, 3) := by decide +kernel
theorem dX9_tell_14 : decode cX9_tell 14 = .ok (.iconst 1, 1) := by decide +kernel
theorem dX9_tell_15 : decode cX9_tell 15 = .ok (.aload_n 0, 1) := by decide +kernel
theorem dX9_tell_16 : decode cX9_tell 16 = .ok (.getfield 165, 3) := by decide +kernel
theorem dX9_tell_19 : decode cX9_tell 19 = .ok (.iastore, 1) := by decide +kernel
theorem dX9_tell_20 : decode cX9_tell 20 = .ok (.aload_n 0, 1) := by decide +kernel
theorem dX9_tell_21 : decode cX9_tell 21 = .ok (.getfield 72, 3) := by decide +kernel
theorem dX9_tell_24 : decode cX9_tell 24 = .ok (.iconst 2, 1) := by decide +kernel
theorem dX9_tell_25 : decode cX9_tell 25 = .ok (.aload_n 0, 1) := by decide +kernel
theorem dX9_tell_26 : decode cX9_tell 26 = .ok (.getfield 172, 3) := by decide +kernel
theorem dX9_tell_29 : decode cX9_tell 29 = .ok (.iastore, 1) := by decide +kernel
theorem dX9_tell_30 : decode cX9_tell 30 = .ok (.aload_n 0, 1) := by decide +kernel
theorem dX9_tell_31 : decode cX9_tell 31 = .ok (.getfield 72, 3) := by decide +kernel
theorem dX9_tell_34 : decode cX9_tell 34 = .ok (.iconst 3, 1) := by decide +kernel
theorem dX9_tell_35 : decode cX9_tell 35 = .ok (.aload_n 0, 1) := by decide +kernel
theorem dX9_tell_36 : decode cX9_tell 36 = .ok (.getfield 175, 3) := by decide +kernel
theorem dX9_tell_39 : decode cX9_tell 39 = .ok (.iastore, 1) := by decide +kernel
theorem dX9_tell_40 : decode cX9_tell 40 = .ok (.aload_n 0, 1) := by decide +kernel
theorem dX9_tell_41 : decode cX9_tell 41 = .ok (.getfield 72, 3) := by decide +kernel
theorem dX9_tell_44 : decode cX9_tell 44 = .ok (.iconst 4, 1) := by decide +kernel
theorem dX9_tell_45 : decode cX9_tell 45 = .ok (.aload_n 0, 1) := by decide +kernel
theorem dX9_tell_46 : decode cX9_tell 46 = .ok (.getfield 178, 3) := by decide +kernel
theorem dX9_tell_49 : decode cX9_tell 49 = .ok (.iastore, 1) := by decide +kernel
theorem dX9_tell_50 : decode cX9_tell 50 = .ok (.aload_n 0, 1) := by decide +kernel
theorem dX9_tell_51 : decode cX9_tell 51 = .ok (.getfield 72, 3) := by decide +kernel
theorem dX9_tell_54 : decode cX9_tell 54 = .ok (.iconst 5, 1) := by decide +kernel
theorem dX9_tell_55 : decode cX9_tell 55 = .ok (.aload_n 0, 1) := by decide +kernel
theorem dX9_tell_56 : decode cX9_tell 56 = .ok (.getfield 181, 3) := by decide +kernel
theorem dX9_tell_59 : decode cX9_tell 59 = .ok (.iastore, 1) := by decide +kernel
theorem dX9_tell_60 : decode cX9_tell 60 = .ok (.aload_n 0, 1) := by decide +kernel
theorem dX9_tell_61 : decode cX9_tell 61 = .ok (.getfield 72, 3) := by decide +kernel
theorem dX9_tell_64 : decode cX9_tell 64 = .ok (.bipush 6, 2) := by decide +kernel
theorem dX9_tell_66 : decode cX9_tell 66 = .ok (.aload_n 0, 1) := by decide +kernel
theorem dX9_tell_67 : decode cX9_tell 67 = .ok (.getfield 168, 3) := by decide +kernel
theorem dX9_tell_70 : decode cX9_tell 70 = .ok (.ifCond .eq 7, 3) := by decide +kernel
theorem dX9_tell_73 : decode cX9_tell 73 = .ok (.iconst 1, 1) := by decide +kernel
theorem dX9_tell_74 : decode cX9_tell 74 = .ok (.goto 4, 3) := by decide +kernel
theorem dX9_tell_77 : decode cX9_tell 77 = .ok (.iconst 0, 1) := by decide +kernel
theorem dX9_tell_78 : decode cX9_tell 78 = .ok (.iastore, 1) := by decide +kernel
theorem dX9_tell_79 : decode cX9_tell 79 = .ok (.aload_n 0, 1) := by decide +kernel
theorem dX9_tell_80 : decode cX9_tell 80 = .ok (.aload_n 0, 1) := by decide +kernel
theorem dX9_tell_81 : decode cX9_tell 81 = .ok (.getfield 23, 3) := by decide +kernel
theorem dX9_tell_84 : decode cX9_tell 84 = .ok (.iload_n 1, 1) := by decide +kernel
theorem dX9_tell_85 : decode cX9_tell 85 = .ok (.iaload, 1) := by decide +kernel
theorem dX9_tell_86 : decode cX9_tell 86 = .ok (.putfield 78, 3) := by decide +kernel
theorem dX9_tell_89 : decode cX9_tell 89 = .ok (.iconst 0, 1) := by decide +kernel
theorem dX9_tell_90 : decode cX9_tell 90 = .ok (.istore_n 2, 1) := by decide +kernel
theorem dX9_tell_119 : decode cX9_tell 119 = .ok (.return_, 1) := by decide +kernel
noncomputable def vX9_tell_1 (a1 : Int32) (σ : zc_N) : zc_N := (zfor fX9_tell_91 (((((zu (zu σ 52 (zu (zu (zu (zu (zu (zu (zu (σ 52) (0 : Int32).toNatClampNeg ((σ 32) 20)) (1 : Int32).toNatClampNeg ((σ 32) 21)) (2 : Int32).toNatClampNeg ((σ 32) 25)) (3 : Int32).toNatClampNeg ((σ 32) 22)) (4 : Int32).toNatClampNeg ((σ 32) 23)) (5 : Int32).toNatClampNeg ((σ 32) 24)) (6 : Int32).toNatClampNeg (if ((σ 32) 26) = (0 : Int32) then (0 : Int32) else (1 : Int32)))) 32 (zu (σ 32) 30 ((σ 37) a1.toNatClampNeg))) 37) a1.toNatClampNeg)).toNatClampNeg) (zu (zu σ 52 (zu (zu (zu (zu (zu (zu (zu (σ 52) (0 : Int32).toNatClampNeg ((σ 32) 20)) (1 : Int32).toNatClampNeg ((σ 32) 21)) (2 : Int32).toNatClampNeg ((σ 32) 25)) (3 : Int32).toNatClampNeg ((σ 32) 22)) (4 : Int32).toNatClampNeg ((σ 32) 23)) (5 : Int32).toNatClampNeg ((σ 32) 24)) (6 : Int32).toNatClampNeg (if ((σ 32) 26) = (0 : Int32) then (0 : Int32) else (1 : Int32)))) 32 (zu (σ 32) 30 ((σ 37) a1.toNatClampNeg))))
def pX9_tell (σ : zc_N) (a1 : Int32) : Prop := (vp_in a1 24 ∧ ((∀ i91_ : Nat, i91_ ≤ (((((zu (zu σ 52 (zu (zu (zu (zu (zu (zu (zu (σ 52) (0 : Int32).toNatClampNeg ((σ 32) 20)) (1 : Int32).toNatClampNeg ((σ 32) 21)) (2 : Int32).toNatClampNeg ((σ 32) 25)) (3 : Int32).toNatClampNeg ((σ 32) 22)) (4 : Int32).toNatClampNeg ((σ 32) 23)) (5 : Int32).toNatClampNeg ((σ 32) 24)) (6 : Int32).toNatClampNeg (if ((σ 32) 26) = (0 : Int32) then (0 : Int32) else (1 : Int32)))) 32 (zu (σ 32) 30 ((σ 37) a1.toNatClampNeg))) 37) a1.toNatClampNeg)).toNatClampNeg) → ((((zfor fX9_tell_91 i91_ (zu (zu σ 52 (zu (zu (zu (zu (zu (zu (zu (σ 52) (0 : Int32).toNatClampNeg ((σ 32) 20)) (1 : Int32).toNatClampNeg ((σ 32) 21)) (2 : Int32).toNatClampNeg ((σ 32) 25)) (3 : Int32).toNatClampNeg ((σ 32) 22)) (4 : Int32).toNatClampNeg ((σ 32) 23)) (5 : Int32).toNatClampNeg ((σ 32) 24)) (6 : Int32).toNatClampNeg (if ((σ 32) 26) = (0 : Int32) then (0 : Int32) else (1 : Int32)))) 32 (zu (σ 32) 30 ((σ 37) a1.toNatClampNeg)))) 37) a1.toNatClampNeg) ≤ (nI i91_) ↔ (((((zu (zu σ 52 (zu (zu (zu (zu (zu (zu (zu (σ 52) (0 : Int32).toNatClampNeg ((σ 32) 20)) (1 : Int32).toNatClampNeg ((σ 32) 21)) (2 : Int32).toNatClampNeg ((σ 32) 25)) (3 : Int32).toNatClampNeg ((σ 32) 22)) (4 : Int32).toNatClampNeg ((σ 32) 23)) (5 : Int32).toNatClampNeg ((σ 32) 24)) (6 : Int32).toNatClampNeg (if ((σ 32) 26) = (0 : Int32) then (0 : Int32) else (1 : Int32)))) 32 (zu (σ 32) 30 ((σ 37) a1.toNatClampNeg))) 37) a1.toNatClampNeg)).toNatClampNeg) ≤ i91_)) ∧ ((∀ i91_ : Nat, i91_ ≤ (((((zu (zu σ 52 (zu (zu (zu (zu (zu (zu (zu (σ 52) (0 : Int32).toNatClampNeg ((σ 32) 20)) (1 : Int32).toNatClampNeg ((σ 32) 21)) (2 : Int32).toNatClampNeg ((σ 32) 25)) (3 : Int32).toNatClampNeg ((σ 32) 22)) (4 : Int32).toNatClampNeg ((σ 32) 23)) (5 : Int32).toNatClampNeg ((σ 32) 24)) (6 : Int32).toNatClampNeg (if ((σ 32) 26) = (0 : Int32) then (0 : Int32) else (1 : Int32)))) 32 (zu (σ 32) 30 ((σ 37) a1.toNatClampNeg))) 37) a1.toNatClampNeg)).toNatClampNeg) → uX9_tell_91 a1 i91_ (zfor fX9_tell_91 i91_ (zu (zu σ 52 (zu (zu (zu (zu (zu (zu (zu (σ 52) (0 : Int32).toNatClampNeg ((σ 32) 20)) (1 : Int32).toNatClampNeg ((σ 32) 21)) (2 : Int32).toNatClampNeg ((σ 32) 25)) (3 : Int32).toNatClampNeg ((σ 32) 22)) (4 : Int32).toNatClampNeg ((σ 32) 23)) (5 : Int32).toNatClampNeg ((σ 32) 24)) (6 : Int32).toNatClampNeg (if ((σ 32) 26) = (0 : Int32) then (0 : Int32) else (1 : Int32)))) 32 (zu (σ 32) 30 ((σ 37) a1.toNatClampNeg))))) ∧ (∀ i91_ : Nat, i91_ < (((((zu (zu σ 52 (zu (zu (zu (zu (zu (zu (zu (σ 52) (0 : Int32).toNatClampNeg ((σ 32) 20)) (1 : Int32).toNatClampNeg ((σ 32) 21)) (2 : Int32).toNatClampNeg ((σ 32) 25)) (3 : Int32).toNatClampNeg ((σ 32) 22)) (4 : Int32).toNatClampNeg ((σ 32) 23)) (5 : Int32).toNatClampNeg ((σ 32) 24)) (6 : Int32).toNatClampNeg (if ((σ 32) 26) = (0 : Int32) then (0 : Int32) else (1 : Int32)))) 32 (zu (σ 32) 30 ((σ 37) a1.toNatClampNeg))) 37) a1.toNatClampNeg)).toNatClampNeg) → qX9_tell_91 i91_ (zfor fX9_tell_91 i91_ (zu (zu σ 52 (zu (zu (zu (zu (zu (zu (zu (σ 52) (0 : Int32).toNatClampNeg ((σ 32) 20)) (1 : Int32).toNatClampNeg ((σ 32) 21)) (2 : Int32).toNatClampNeg ((σ 32) 25)) (3 : Int32).toNatClampNeg ((σ 32) 22)) (4 : Int32).toNatClampNeg ((σ 32) 23)) (5 : Int32).toNatClampNeg ((σ 32) 24)) (6 : Int32).toNatClampNeg (if ((σ 32) 26) = (0 : Int32) then (0 : Int32) else (1 : Int32)))) 32 (zu (σ 32) 30 ((σ 37) a1.toNatClampNeg))))))))
noncomputable def sX9_tell (σ : zc_N) (a1 : Int32) : zc_N := (vX9_tell_1 a1 σ)
set_option maxHeartbeats 1000000 in
theorem ctX9_tell (P : zp) (σ : zc_N) (a1 : Int32) (W_ : (pX9_tell σ a1)) : sp mX9_tell 0 0 0 [.ref 32, .int a1] (hh P σ) (fun r_ h_ => r_ = none ∧ h_ = hh P (sX9_tell σ a1)) := by
  refine sp_of (lv := [some (.ref 32), some (.int a1), none]) (by decide) (zcats_ok _ rfl) (Nat.le_of_ble_eq_true rfl) (zlv_ok _ 1 rfl) (fun G => ?_)
  generalize hQ_ : (fun (r_ : Option Value) (h_ : zc_H) => r_ = none ∧ h_ = hh P (sX9_tell σ a1)) = Q_
  unfold pX9_tell at W_
  refine z_aloadr_n dX9_tell_0 rfl ?_
  refine z_get (ci := 9) (r := (RX9, TX9, 38)) (j := 28) (v := .ref 52) dX9_tell_1 (Nat.le_of_ble_eq_true rfl) (zN rfl) rfl rfl (Nat.le_of_ble_eq_true rfl) fl_X9_72 rfl ?_
  refine z_iconst dX9_tell_4 k_iconst_0 ?_
  refine z_aloadr_n dX9_tell_5 rfl ?_
  refine z_get (ci := 9) (r := (RX9, TX9, 38)) (j := 20) (v := .int ((σ 32) 20)) dX9_tell_6 (Nat.le_of_ble_eq_true rfl) (zN rfl) rfl rfl (Nat.le_of_ble_eq_true rfl) fl_X9_158 rfl ?_
  refine z_iast (σ' := (zu σ 52 (zu (σ 52) (0 : Int32).toNatClampNeg ((σ 32) 20)))) dX9_tell_9 (Nat.le_of_ble_eq_true rfl) (zN rfl) rfl (vp_in_nI (n := 0) (by decide) (by decide)) rfl ?_
  refine z_aloadr_n dX9_tell_10 rfl ?_
  refine z_get (ci := 9) (r := (RX9, TX9, 38)) (j := 28) (v := .ref 52) dX9_tell_11 (Nat.le_of_ble_eq_true rfl) (zN rfl) rfl rfl (Nat.le_of_ble_eq_true rfl) fl_X9_72 rfl ?_
  refine z_iconst dX9_tell_14 k_iconst_1 ?_
  refine z_aloadr_n dX9_tell_15 rfl ?_
  refine z_get (ci := 9) (r := (RX9, TX9, 38)) (j := 21) (v := .int ((σ 32) 21)) dX9_tell_16 (Nat.le_of_ble_eq_true rfl) (zN rfl) rfl rfl (Nat.le_of_ble_eq_true rfl) fl_X9_165 (congrArg Value.int (congrFun (zu_ne _ _ (by decide)) _)) ?_
  refine z_iast (σ' := (zu σ 52 (zu (zu (σ 52) (0 : Int32).toNatClampNeg ((σ 32) 20)) (1 : Int32).toNatClampNeg ((σ 32) 21)))) dX9_tell_19 (Nat.le_of_ble_eq_true rfl) (zN rfl) rfl (vp_in_nI (n := 1) (by decide) (by decide)) ((congrArg (fun g_ => zu _ _ (zu g_ _ _)) (zu_self _ _ _)).trans (zu_zu _ _ _ _)) ?_
  refine z_aloadr_n dX9_tell_20 rfl ?_
  refine z_get (ci := 9) (r := (RX9, TX9, 38)) (j := 28) (v := .ref 52) dX9_tell_21 (Nat.le_of_ble_eq_true rfl) (zN rfl) rfl rfl (Nat.le_of_ble_eq_true rfl) fl_X9_72 rfl ?_
  refine z_iconst dX9_tell_24 k_iconst_2 ?_
  refine z_aloadr_n dX9_tell_25 rfl ?_
  refine z_get (ci := 9) (r := (RX9, TX9, 38)) (j := 25) (v := .int ((σ 32) 25)) dX9_tell_26 (Nat.le_of_ble_eq_true rfl) (zN rfl) rfl rfl (Nat.le_of_ble_eq_true rfl) fl_X9_172 (congrArg Value.int (congrFun (zu_ne _ _ (by decide)) _)) ?_
  refine z_iast (σ' := (zu σ 52 (zu (zu (zu (σ 52) (0 : Int32).toNatClampNeg ((σ 32) 20)) (1 : Int32).toNatClampNeg ((σ 32) 21)) (2 : Int32).toNatClampNeg ((σ 32) 25)))) dX9_tell_29 (Nat.le_of_ble_eq_true rfl) (zN rfl) rfl (vp_in_nI (n := 2) (by decide) (by decide)) ((congrArg (fun g_ => zu _ _ (zu g_ _ _)) (zu_self _ _ _)).trans (zu_zu _ _ _ _)) ?_
  refine z_aloadr_n dX9_tell_30 rfl ?_
  refine z_get (ci := 9) (r := (RX9, TX9, 38)) (j := 28) (v := .ref 52) dX9_tell_31 (Nat.le_of_ble_eq_true rfl) (zN rfl) rfl rfl (Nat.le_of_ble_eq_true rfl) fl_X9_72 rfl ?_
  refine z_iconst dX9_tell_34 k_iconst_3 ?_
  refine z_aloadr_n dX9_tell_35 rfl ?_
  refine z_get (ci := 9) (r := (RX9, TX9, 38)) (j := 22) (v := .int ((σ 32) 22)) dX9_tell_36 (Nat.le_of_ble_eq_true rfl) (zN rfl) rfl rfl (Nat.le_of_ble_eq_true rfl) fl_X9_175 (congrArg Value.int (congrFun (zu_ne _ _ (by decide)) _)) ?_
  refine z_iast (σ' := (zu σ 52 (zu (zu (zu (zu (σ 52) (0 : Int32).toNatClampNeg ((σ 32) 20)) (1 : Int32).toNatClampNeg ((σ 32) 21)) (2 : Int32).toNatClampNeg ((σ 32) 25)) (3 : Int32).toNatClampNeg ((σ 32) 22)))) dX9_tell_39 (Nat.le_of_ble_eq_true rfl) (zN rfl) rfl (vp_in_nI (n := 3) (by decide) (by decide)) ((congrArg (fun g_ => zu _ _ (zu g_ _ _)) (zu_self _ _ _)).trans (zu_zu _ _ _ _)) ?_
  refine z_aloadr_n dX9_tell_40 rfl ?_
  refine z_get (ci := 9) (r := (RX9, TX9, 38)) (j := 28) (v := .ref 52) dX9_tell_41 (Nat.le_of_ble_eq_true rfl) (zN rfl) rfl rfl (Nat.le_of_ble_eq_true rfl) fl_X9_72 rfl ?_
  refine z_iconst dX9_tell_44 k_iconst_4 ?_
  refine z_aloadr_n dX9_tell_45 rfl ?_
  refine z_get (ci := 9) (r := (RX9, TX9, 38)) (j := 23) (v := .int ((σ 32) 23)) dX9_tell_46 (Nat.le_of_ble_eq_true rfl) (zN rfl) rfl rfl (Nat.le_of_ble_eq_true rfl) fl_X9_178 (congrArg Value.int (congrFun (zu_ne _ _ (by decide)) _)) ?_
  refine z_iast (σ' := (zu σ 52 (zu (zu (zu (zu (zu (σ 52) (0 : Int32).toNatClampNeg ((σ 32) 20)) (1 : Int32).toNatClampNeg ((σ 32) 21)) (2 : Int32).toNatClampNeg ((σ 32) 25)) (3 : Int32).toNatClampNeg ((σ 32) 22)) (4 : Int32).toNatClampNeg ((σ 32) 23)))) dX9_tell_49 (Nat.le_of_ble_eq_true rfl) (zN rfl) rfl (vp_in_nI (n := 4) (by decide) (by decide)) ((congrArg (fun g_ => zu _ _ (zu g_ _ _)) (zu_self _ _ _)).trans (zu_zu _ _ _ _)) ?_
  refine z_aloadr_n dX9_tell_50 rfl ?_
  refine z_get (ci := 9) (r := (RX9, TX9, 38)) (j := 28) (v := .ref 52) dX9_tell_51 (Nat.le_of_ble_eq_true rfl) (zN rfl) rfl rfl (Nat.le_of_ble_eq_true rfl) fl_X9_72 rfl ?_
  refine z_iconst dX9_tell_54 k_iconst_5 ?_
  refine z_aloadr_n dX9_tell_55 rfl ?_
  refine z_get (ci := 9) (r := (RX9, TX9, 38)) (j := 24) (v := .int ((σ 32) 24)) dX9_tell_56 (Nat.le_of_ble_eq_true rfl) (zN rfl) rfl rfl (Nat.le_of_ble_eq_true rfl) fl_X9_181 (congrArg Value.int (congrFun (zu_ne _ _ (by decide)) _)) ?_
  refine z_iast (σ' := (zu σ 52 (zu (zu (zu (zu (zu (zu (σ 52) (0 : Int32).toNatClampNeg ((σ 32) 20)) (1 : Int32).toNatClampNeg ((σ 32) 21)) (2 : Int32).toNatClampNeg ((σ 32) 25)) (3 : Int32).toNatClampNeg ((σ 32) 22)) (4 : Int32).toNatClampNeg ((σ 32) 23)) (5 : Int32).toNatClampNeg ((σ 32) 24)))) dX9_tell_59 (Nat.le_of_ble_eq_true rfl) (zN rfl) rfl (vp_in_nI (n := 5) (by decide) (by decide)) ((congrArg (fun g_ => zu _ _ (zu g_ _ _)) (zu_self _ _ _)).trans (zu_zu _ _ _ _)) ?_
  refine z_aloadr_n dX9_tell_60 rfl ?_
  refine z_get (ci := 9) (r := (RX9, TX9, 38)) (j := 28) (v := .ref 52) dX9_tell_61 (Nat.le_of_ble_eq_true rfl) (zN rfl) rfl rfl (Nat.le_of_ble_eq_true rfl) fl_X9_72 rfl ?_
  refine z_bipush dX9_tell_64 k_bipush_6 ?_
  refine z_aloadr_n dX9_tell_66 rfl ?_
  refine z_get (ci := 9) (r := (RX9, TX9, 38)) (j := 26) (v := .int ((σ 32) 26)) dX9_tell_67 (Nat.le_of_ble_eq_true rfl) (zN rfl) rfl rfl (Nat.le_of_ble_eq_true rfl) fl_X9_168 (congrArg Value.int (congrFun (zu_ne _ _ (by decide)) _)) ?_
  have K_1 : zz G mX9_tell 0 0 0 Q_ 78 [some (.ref 32), some (.int a1), none] [.int (if ((σ 32) 26) = (0 : Int32) then (0 : Int32) else (1 : Int32)), .int (6 : Int32), .ref 52] (hh P (zu σ 52 (zu (zu (zu (zu (zu (zu (σ 52) (0 : Int32).toNatClampNeg ((σ 32) 20)) (1 : Int32).toNatClampNeg ((σ 32) 21)) (2 : Int32).toNatClampNeg ((σ 32) 25)) (3 : Int32).toNatClampNeg ((σ 32) 22)) (4 : Int32).toNatClampNeg ((σ 32) 23)) (5 : Int32).toNatClampNeg ((σ 32) 24)))) 0 0 := by
    refine z_iast (σ' := (zu σ 52 (zu (zu (zu (zu (zu (zu (zu (σ 52) (0 : Int32).toNatClampNeg ((σ 32) 20)) (1 : Int32).toNatClampNeg ((σ 32) 21)) (2 : Int32).toNatClampNeg ((σ 32) 25)) (3 : Int32).toNatClampNeg ((σ 32) 22)) (4 : Int32).toNatClampNeg ((σ 32) 23)) (5 : Int32).toNatClampNeg ((σ 32) 24)) (6 : Int32).toNatClampNeg (if ((σ 32) 26) = (0 : Int32) then (0 : Int32) else (1 : Int32))))) dX9_tell_78 (Nat.le_of_ble_eq_true rfl) (zN rfl) rfl (vp_in_nI (n := 6) (by decide) (by decide)) ((congrArg (fun g_ => zu _ _ (zu g_ _ _)) (zu_self _ _ _)).trans (zu_zu _ _ _ _)) ?_
    refine z_aloadr_n dX9_tell_79 rfl ?_
    refine z_aloadr_n dX9_tell_80 rfl ?_
    refine z_get (ci := 9) (r := (RX9, TX9, 38)) (j := 4) (v := .ref 37) dX9_tell_81 (Nat.le_of_ble_eq_true rfl) (zN rfl) rfl rfl (Nat.le_of_ble_eq_true rfl) fl_X9_23 rfl ?_
    refine z_iload_n dX9_tell_84 rfl ?_
    refine z_iald (v := ((σ 37) a1.toNatClampNeg)) dX9_tell_85 (zN rfl) rfl W_.1 (congrFun (zu_ne _ _ (by decide)) _) ?_
    refine z_put (ci := 9) (r := (RX9, TX9, 38)) (j := 30) (σ' := (zu (zu σ 52 (zu (zu (zu (zu (zu (zu (zu (σ 52) (0 : Int32).toNatClampNeg ((σ 32) 20)) (1 : Int32).toNatClampNeg ((σ 32) 21)) (2 : Int32).toNatClampNeg ((σ 32) 25)) (3 : Int32).toNatClampNeg ((σ 32) 22)) (4 : Int32).toNatClampNeg ((σ 32) 23)) (5 : Int32).toNatClampNeg ((σ 32) 24)) (6 : Int32).toNatClampNeg (if ((σ 32) 26) = (0 : Int32) then (0 : Int32) else (1 : Int32)))) 32 (zu (σ 32) 30 ((σ 37) a1.toNatClampNeg)))) dX9_tell_86 (Nat.le_of_ble_eq_true rfl) (zN rfl) rfl rfl (Nat.le_of_ble_eq_true rfl) fl_X9_78 rfl rfl rfl rfl (congrArg (fun g_ => zu _ _ (zu g_ _ _)) (zu_ne _ _ (by decide))) ?_
    refine z_iconst dX9_tell_89 k_iconst_0 ?_
    refine z_istore_n (lv' := [some (.ref 32), some (.int a1), some (.int (0 : Int32))]) dX9_tell_90 (Nat.le_of_ble_eq_true rfl) rfl ?_
    refine lpX9_tell_91 P (zu (zu σ 52 (zu (zu (zu (zu (zu (zu (zu (σ 52) (0 : Int32).toNatClampNeg ((σ 32) 20)) (1 : Int32).toNatClampNeg ((σ 32) 21)) (2 : Int32).toNatClampNeg ((σ 32) 25)) (3 : Int32).toNatClampNeg ((σ 32) 22)) (4 : Int32).toNatClampNeg ((σ 32) 23)) (5 : Int32).toNatClampNeg ((σ 32) 24)) (6 : Int32).toNatClampNeg (if ((σ 32) 26) = (0 : Int32) then (0 : Int32) else (1 : Int32)))) 32 (zu (σ 32) 30 ((σ 37) a1.toNatClampNeg))) a1 (((((zu (zu σ 52 (zu (zu (zu (zu (zu (zu (zu (σ 52) (0 : Int32).toNatClampNeg ((σ 32) 20)) (1 : Int32).toNatClampNeg ((σ 32) 21)) (2 : Int32).toNatClampNeg ((σ 32) 25)) (3 : Int32).toNatClampNeg ((σ 32) 22)) (4 : Int32).toNatClampNeg ((σ 32) 23)) (5 : Int32).toNatClampNeg ((σ 32) 24)) (6 : Int32).toNatClampNeg (if ((σ 32) 26) = (0 : Int32) then (0 : Int32) else (1 : Int32)))) 32 (zu (σ 32) 30 ((σ 37) a1.toNatClampNeg))) 37) a1.toNatClampNeg)).toNatClampNeg) W_.2.1 W_.2.2.1 W_.2.2.2 ?_
    show zz G mX9_tell 0 0 0 Q_ 119 [none, none, none] [] (hh P (vX9_tell_1 a1 σ)) 0 0
    exact z_return dX9_tell_119 rfl (Nat.le_of_ble_eq_true rfl) (Nat.le_of_ble_eq_true rfl) (by rw [← hQ_]; exact ⟨rfl, (by rw [sX9_tell])⟩)
  refine z_if_eq (tgt := 77) dX9_tell_70 (by decide) (fun c_1 => ?_) (fun c_1 => ?_)
  · refine z_iconst dX9_tell_77 k_iconst_0 ?_
    rw [show (if ((σ 32) 26) = (0 : Int32) then (0 : Int32) else (1 : Int32)) = (0 : Int32) from (if_pos c_1)] at K_1
    exact K_1
  · refine z_iconst dX9_tell_73 k_iconst_1 ?_
    refine z_goto (tgt := 78) dX9_tell_74 (by decide) ?_
    rw [show (if ((σ 32) 26) = (0 : Int32) then (0 : Int32) else (1 : Int32)) = (1 : Int32) from (if_neg c_1)] at K_1
    exact K_1

theorem dX9_printOf_2 : decode cX9_printOf 2 = .ok (.iload_n 3, 1) := by decide +kernel
theorem dX9_printOf_3 : decode cX9_printOf 3 = .ok (.aload_n 0, 1) := by decide +kernel
theorem dX9_printOf_4 : decode cX9_printOf 4 = .ok (.getfield 131, 3) := by decide +kernel
theorem dX9_printOf_7 : decode cX9_printOf 7 = .ok (.if_icmp .ge 31, 3) := by decide +kernel
theorem dX9_printOf_10 : decode cX9_printOf 10 = .ok (.aload_n 0, 1) := by decide +kernel
theorem dX9_printOf_11 : decode cX9_printOf 11 = .ok (.getfield 38, 3) := by decide +kernel
theorem dX9_printOf_14 : decode cX9_printOf 14 = .ok (.iload_n 3, 1) := by decide +kernel
theorem dX9_printOf_15 : decode cX9_printOf 15 = .ok (.iaload, 1) := by decide +kernel
theorem dX9_printOf_16 : decode cX9_printOf 16 = .ok (.iload_n 1, 1) := by decide +kernel
theorem dX9_printOf_17 : decode cX9_printOf 17 = .ok (.if_icmp .ne 15, 3) := by decide +kernel
theorem dX9_printOf_20 : decode cX9_printOf 20 = .ok (.aload_n 0, 1) := by decide +kernel
theorem dX9_printOf_21 : decode cX9_printOf 21 = .ok (.getfield 41, 3) := by decide +kernel
theorem dX9_printOf_24 : decode cX9_printOf 24 = .ok (.iload_n 3, 1) := by decide +kernel
theorem dX9_printOf_25 : decode cX9_printOf 25 = .ok (.iaload, 1) := by decide +kernel
theorem dX9_printOf_26 : decode cX9_printOf 26 = .ok (.iload_n 2, 1) := by decide +kernel
theorem dX9_printOf_27 : decode cX9_printOf 27 = .ok (.if_icmp .ne 5, 3) := by decide +kernel
theorem dX9_printOf_30 : decode cX9_printOf 30 = .ok (.iload_n 3, 1) := by decide +kernel
theorem dX9_printOf_32 : decode cX9_printOf 32 = .ok (.iinc 3 1, 3) := by decide +kernel
theorem dX9_printOf_35 : decode cX9_printOf 35 = .ok (.goto (-33), 3) := by decide +kernel
theorem dX9_printOf_38 : decode cX9_printOf 38 = .ok (.iconst (-1), 1) := by decide +kernel
noncomputable def fX9_printOf_2 (a_ : Int32) : Int32 := (a_ + (1 : Int32))
def eX9_printOf_2 (σ : zc_N) (l1 : Int32) (l2 : Int32) (a_ : Int32) : Prop := ((((σ 32) 11) ≤ a_ ∧ True) ∨ (¬ ((σ 32) 11) ≤ a_ ∧ ((((σ 42) a_.toNatClampNeg) = l1 ∧ ((((σ 43) a_.toNatClampNeg) = l2 ∧ True) ∨ (¬ ((σ 43) a_.toNatClampNeg) = l2 ∧ False))) ∨ (¬ ((σ 42) a_.toNatClampNeg) = l1 ∧ False))))
def qX9_printOf_2 (σ : zc_N) (l1 : Int32) (a_ : Int32) : Prop := ((((σ 32) 11) ≤ a_ → True) ∧ (¬ ((σ 32) 11) ≤ a_ → (vp_in a_ 24 ∧ ((((σ 42) a_.toNatClampNeg) = l1 → vp_in a_ 24) ∧ (¬ ((σ 42) a_.toNatClampNeg) = l1 → True)))))
noncomputable def wX9_printOf_2 (σ : zc_N) (l1 : Int32) (l2 : Int32) (a_ : Int32) : Int32 := zit fX9_printOf_2 (zwn (fun n_ => (eX9_printOf_2 σ l1 l2) (zit fX9_printOf_2 n_ a_))) a_
set_option maxHeartbeats 2000000 in
theorem whX9_printOf_2 {G : zc_G} {Q : Option Value → zc_H → Prop} (P : zp) (σ : zc_N) (l1 : Int32) (l2 : Int32) (l3 : Int32)
    (hT_ : ∃ n_ : Nat, (eX9_printOf_2 σ l1 l2) (zit fX9_printOf_2 n_ l3)) (W1_ : ∀ i2_ : Nat, i2_ < (zwn (fun n_ => (eX9_printOf_2 σ l1 l2) (zit fX9_printOf_2 n_ l3))) → qX9_printOf_2 σ l1 (zit fX9_printOf_2 i2_ l3))
    (W2_ : (eX9_printOf_2 σ l1 l2) (wX9_printOf_2 σ l1 l2 l3) → zz G mX9_printOf 0 0 0 Q 2 [some (.ref 32), some (.int l1), some (.int l2), some (.int (wX9_printOf_2 σ l1 l2 l3))] [] (hh P σ) 0 0) :
    zz G mX9_printOf 0 0 0 Q 2 [some (.ref 32), some (.int l1), some (.int l2), some (.int l3)] [] (hh P σ) 0 0 := by
  unfold wX9_printOf_2 at W2_
  have hs_ := zwn_spec hT_
  refine zit_Z (fun a_ => zz G mX9_printOf 0 0 0 Q 2 [some (.ref 32), some (.int l1), some (.int l2), some (.int a_)] [] (hh P σ) 0 0) fX9_printOf_2 (zwn (fun n_ => (eX9_printOf_2 σ l1 l2) (zit fX9_printOf_2 n_ l3))) l3 (fun i_ hi_ k_ => ?_) (W2_ hs_.1)
  have hn_ := hs_.2 i_ hi_
  have W3_ := W1_ i_ hi_
  generalize zit fX9_printOf_2 i_ l3 = g_ at k_ hn_ W3_ ⊢
  rw [fX9_printOf_2] at k_
  rw [eX9_printOf_2] at hn_
  try dsimp only at k_ hn_
  rw [qX9_printOf_2] at W3_
  try dsimp only at W3_
  refine z_iload_n dX9_printOf_2 rfl ?_
  refine z_aloadr_n dX9_printOf_3 rfl ?_
  refine z_get (ci := 9) (r := (RX9, TX9, 38)) (j := 11) (v := .int ((σ 32) 11)) dX9_printOf_4 (Nat.le_of_ble_eq_true rfl) (zN rfl) rfl rfl (Nat.le_of_ble_eq_true rfl) fl_X9_131 rfl ?_
  refine z_icmp_ge (tgt := 38) dX9_printOf_7 (by decide) (fun c_1 => ?_) (fun c_1 => ?_)
  · exact absurd (Or.inl ⟨c_1, trivial⟩) hn_
  · refine z_aloadr_n dX9_printOf_10 rfl ?_
    refine z_get (ci := 9) (r := (RX9, TX9, 38)) (j := 9) (v := .ref 42) dX9_printOf_11 (Nat.le_of_ble_eq_true rfl) (zN rfl) rfl rfl (Nat.le_of_ble_eq_true rfl) fl_X9_38 rfl ?_
    refine z_iload_n dX9_printOf_14 rfl ?_
    refine z_iald (v := ((σ 42) g_.toNatClampNeg)) dX9_printOf_15 (zN rfl) rfl ((W3_.2 c_1).1) rfl ?_
    refine z_iload_n dX9_printOf_16 rfl ?_
    refine z_icmp_ne (tgt := 32) dX9_printOf_17 (by decide) (fun c_2 => ?_) (fun c_2 => ?_)
    · refine z_iinc (v := (g_ + (1 : Int32))) (lv' := [some (.ref 32), some (.int l1), some (.int l2), some (.int (g_ + (1 : Int32)))]) dX9_printOf_32 (Nat.le_of_ble_eq_true rfl) rfl (by rw [k_iconst_1]) rfl ?_
      refine z_goto (tgt := 2) dX9_printOf_35 (by decide) ?_
      simpa only [if_neg c_1, if_neg c_2] using k_
    · refine z_aloadr_n dX9_printOf_20 rfl ?_
      refine z_get (ci := 9) (r := (RX9, TX9, 38)) (j := 10) (v := .ref 43) dX9_printOf_21 (Nat.le_of_ble_eq_true rfl) (zN rfl) rfl rfl (Nat.le_of_ble_eq_true rfl) fl_X9_41 rfl ?_
      refine z_iload_n dX9_printOf_24 rfl ?_
      refine z_iald (v := ((σ 43) g_.toNatClampNeg)) dX9_printOf_25 (zN rfl) rfl ((W3_.2 c_1).2.1 c_2) rfl ?_
      refine z_iload_n dX9_printOf_26 rfl ?_
      refine z_icmp_ne (tgt := 32) dX9_printOf_27 (by decide) (fun c_3 => ?_) (fun c_3 => ?_)
      · refine z_iinc (v := (g_ + (1 : Int32))) (lv' := [some (.ref 32), some (.int l1), some (.int l2), some (.int (g_ + (1 : Int32)))]) dX9_printOf_32 (Nat.le_of_ble_eq_true rfl) rfl (by rw [k_iconst_1]) rfl ?_
        refine z_goto (tgt := 2) dX9_printOf_35 (by decide) ?_
        simpa only [if_neg c_1, if_pos c_2, if_neg c_3] using k_
      · exact absurd (Or.inr ⟨c_1, (Or.inl ⟨c_2, (Or.inl ⟨c_3, trivial⟩)⟩)⟩) hn_

theorem dX9_printOf_0 : decode cX9_printOf 0 = .ok (.iconst 0, 1) := by decide +kernel
theorem dX9_printOf_1 : decode cX9_printOf 1 = .ok (.istore_n 3, 1) := by decide +kernel
theorem dX9_printOf_31 : decode cX9_printOf 31 = .ok (.ireturn, 1) := by decide +kernel
theorem dX9_printOf_39 : decode cX9_printOf 39 = .ok (.ireturn, 1) := by decide +kernel
def pX9_printOf (σ : zc_N) (a1 : Int32) (a2 : Int32) : Prop := (((∃ n_ : Nat, (eX9_printOf_2 σ a1 a2) (zit fX9_printOf_2 n_ (0 : Int32))) ∧ (∀ i2_ : Nat, i2_ < (zwn (fun n_ => (eX9_printOf_2 σ a1 a2) (zit fX9_printOf_2 n_ (0 : Int32)))) → qX9_printOf_2 σ a1 (zit fX9_printOf_2 i2_ (0 : Int32)))) ∧ ((((σ 32) 11) ≤ (wX9_printOf_2 σ a1 a2 (0 : Int32)) → True) ∧ (¬ ((σ 32) 11) ≤ (wX9_printOf_2 σ a1 a2 (0 : Int32)) → (vp_in (wX9_printOf_2 σ a1 a2 (0 : Int32)) 24 ∧ ((((σ 42) (wX9_printOf_2 σ a1 a2 (0 : Int32)).toNatClampNeg) = a1 → vp_in (wX9_printOf_2 σ a1 a2 (0 : Int32)) 24) ∧ (¬ ((σ 42) (wX9_printOf_2 σ a1 a2 (0 : Int32)).toNatClampNeg) = a1 → True))))))
noncomputable def rX9_printOf (σ : zc_N) (a1 : Int32) (a2 : Int32) : Int32 := (if ((σ 32) 11) ≤ (wX9_printOf_2 σ a1 a2 (0 : Int32)) then (-1 : Int32) else (wX9_printOf_2 σ a1 a2 (0 : Int32)))
set_option maxHeartbeats 1000000 in
theorem ctX9_printOf (P : zp) (σ : zc_N) (a1 : Int32) (a2 : Int32) (W_ : (pX9_printOf σ a1 a2)) : sp mX9_printOf 0 0 0 [.ref 32, .int a1, .int a2] (hh P σ) (fun r_ h_ => r_ = some (.int (rX9_printOf σ a1 a2)) ∧ h_ = hh P σ) := by
  refine sp_of (lv := [some (.ref 32), some (.int a1), some (.int a2), none]) (by decide) (zcats_ok _ rfl) (Nat.le_of_ble_eq_true rfl) (zlv_ok _ 1 rfl) (fun G => ?_)
  generalize hQ_ : (fun (r_ : Option Value) (h_ : zc_H) => r_ = some (.int (rX9_printOf σ a1 a2)) ∧ h_ = hh P σ) = Q_
  unfold pX9_printOf at W_
  refine z_iconst dX9_printOf_0 k_iconst_0 ?_
  refine z_istore_n (lv' := [some (.ref 32), some (.int a1), some (.int a2), some (.int (0 : Int32))]) dX9_printOf_1 (Nat.le_of_ble_eq_true rfl) rfl ?_
  refine whX9_printOf_2 P σ a1 a2 (0 : Int32) W_.1.1 W_.1.2 (fun hX2_ => ?_)
  rw [eX9_printOf_2] at hX2_
  try dsimp only at hX2_
  show zz G mX9_printOf 0 0 0 Q_ 2 [some (.ref 32), some (.int a1), some (.int a2), some (.int (wX9_printOf_2 σ a1 a2 (0 : Int32)))] [] (hh P σ) 0 0
  refine z_iload_n dX9_printOf_2 rfl ?_
  refine z_aloadr_n dX9_printOf_3 rfl ?_
  refine z_get (ci := 9) (r := (RX9, TX9, 38)) (j := 11) (v := .int ((σ 32) 11)) dX9_printOf_4 (Nat.le_of_ble_eq_true rfl) (zN rfl) rfl rfl (Nat.le_of_ble_eq_true rfl) fl_X9_131 rfl ?_
  refine z_icmp_ge (tgt := 38) dX9_printOf_7 (by decide) (fun c_1 => ?_) (fun c_1 => ?_)
  · refine z_iconst dX9_printOf_38 k_iconst_m1 ?_
    exact z_ireturn dX9_printOf_39 rfl rfl (Nat.le_of_ble_eq_true rfl) (Nat.le_of_ble_eq_true rfl) (by rw [← hQ_]; exact ⟨(by rw [rX9_printOf]; try simp only [if_pos c_1]), rfl⟩)
  · refine z_aloadr_n dX9_printOf_10 rfl ?_
    refine z_get (ci := 9) (r := (RX9, TX9, 38)) (j := 9) (v := .ref 42) dX9_printOf_11 (Nat.le_of_ble_eq_true rfl) (zN rfl) rfl rfl (Nat.le_of_ble_eq_true rfl) fl_X9_38 rfl ?_
    refine z_iload_n dX9_printOf_14 rfl ?_
    refine z_iald (v := ((σ 42) (wX9_printOf_2 σ a1 a2 (0 : Int32)).toNatClampNeg)) dX9_printOf_15 (zN rfl) rfl ((W_.2.2 c_1).1) rfl ?_
    refine z_iload_n dX9_printOf_16 rfl ?_
    refine z_icmp_ne (tgt := 32) dX9_printOf_17 (by decide) (fun c_2 => ?_) (fun c_2 => ?_)
    · refine z_iinc (v := ((wX9_printOf_2 σ a1 a2 (0 : Int32)) + (1 : Int32))) (lv' := [some (.ref 32), some (.int a1), some (.int a2), some (.int ((wX9_printOf_2 σ a1 a2 (0 : Int32)) + (1 : Int32)))]) dX9_printOf_32 (Nat.le_of_ble_eq_true rfl) rfl (by rw [k_iconst_1]) rfl ?_
      refine z_goto (tgt := 2) dX9_printOf_35 (by decide) ?_
      exact (ex_r (ex_r hX2_ c_1) c_2).elim
    · refine z_aloadr_n dX9_printOf_20 rfl ?_
      refine z_get (ci := 9) (r := (RX9, TX9, 38)) (j := 10) (v := .ref 43) dX9_printOf_21 (Nat.le_of_ble_eq_true rfl) (zN rfl) rfl rfl (Nat.le_of_ble_eq_true rfl) fl_X9_41 rfl ?_
      refine z_iload_n dX9_printOf_24 rfl ?_
      refine z_iald (v := ((σ 43) (wX9_printOf_2 σ a1 a2 (0 : Int32)).toNatClampNeg)) dX9_printOf_25 (zN rfl) rfl ((W_.2.2 c_1).2.1 c_2) rfl ?_
      refine z_iload_n dX9_printOf_26 rfl ?_
      refine z_icmp_ne (tgt := 32) dX9_printOf_27 (by decide) (fun c_3 => ?_) (fun c_3 => ?_)
      · refine z_iinc (v := ((wX9_printOf_2 σ a1 a2 (0 : Int32)) + (1 : Int32))) (lv' := [some (.ref 32), some (.int a1), some (.int a2), some (.int ((wX9_printOf_2 σ a1 a2 (0 : Int32)) + (1 : Int32)))]) dX9_printOf_32 (Nat.le_of_ble_eq_true rfl) rfl (by rw [k_iconst_1]) rfl ?_
        refine z_goto (tgt := 2) dX9_printOf_35 (by decide) ?_
        exact (ex_r (ex_l (ex_r hX2_ c_1) c_2) c_3).elim
      · refine z_iload_n dX9_printOf_30 rfl ?_
        exact z_ireturn dX9_printOf_31 rfl rfl (Nat.le_of_ble_eq_true rfl) (Nat.le_of_ble_eq_true rfl) (by rw [← hQ_]; exact ⟨(by rw [rX9_printOf]; try simp only [if_neg c_1, if_pos c_2, if_pos c_3]), rfl⟩)

theorem dX9_keep_0 : decode cX9_keep 0 = .ok (.iload_n 1, 1) := by decide +kernel
theorem dX9_keep_1 : decode cX9_keep 1 = .ok (.invokestatic 202, 3) := by decide +kernel
theorem dX9_keep_4 : decode cX9_keep 4 = .ok (.ifCond .eq 22, 3) := by decide +kernel
theorem dX9_keep_7 : decode cX9_keep 7 = .ok (.aload_n 0, 1) := by decide +kernel
theorem dX9_keep_8 : decode cX9_keep 8 = .ok (.iload_n 2, 1) := by decide +kernel
theorem dX9_keep_9 : decode cX9_keep 9 = .ok (.invokevirtual 137, 3) := by decide +kernel
theorem dX9_keep_12 : decode cX9_keep 12 = .ok (.ifCond .eq 14, 3) := by decide +kernel
theorem dX9_keep_15 : decode cX9_keep 15 = .ok (.iload_n 3, 1) := by decide +kernel
theorem dX9_keep_16 : decode cX9_keep 16 = .ok (.iconst 0, 1) := by decide +kernel
theorem dX9_keep_17 : decode cX9_keep 17 = .ok (.sipush 9999, 3) := by decide +kernel
theorem dX9_keep_20 : decode cX9_keep 20 = .ok (.invokestatic 96, 3) := by decide +kernel
theorem dX9_keep_23 : decode cX9_keep 23 = .ok (.ifCond .ne 5, 3) := by decide +kernel
theorem dX9_keep_26 : decode cX9_keep 26 = .ok (.iconst (-1), 1) := by decide +kernel
theorem dX9_keep_27 : decode cX9_keep 27 = .ok (.ireturn, 1) := by decide +kernel
theorem dX9_keep_28 : decode cX9_keep 28 = .ok (.aload_n 0, 1) := by decide +kernel
theorem dX9_keep_29 : decode cX9_keep 29 = .ok (.getfield 38, 3) := by decide +kernel
theorem dX9_keep_32 : decode cX9_keep 32 = .ok (.iload_n 2, 1) := by decide +kernel
theorem dX9_keep_33 : decode cX9_keep 33 = .ok (.iaload, 1) := by decide +kernel
theorem dX9_keep_34 : decode cX9_keep 34 = .ok (.ifCond .ge 12, 3) := by decide +kernel
theorem dX9_keep_37 : decode cX9_keep 37 = .ok (.aload_n 0, 1) := by decide +kernel
theorem dX9_keep_38 : decode cX9_keep 38 = .ok (.iload_n 1, 1) := by decide +kernel
theorem dX9_keep_39 : decode cX9_keep 39 = .ok (.iload_n 3, 1) := by decide +kernel
theorem dX9_keep_40 : decode cX9_keep 40 = .ok (.invokevirtual 205, 3) := by decide +kernel
theorem dX9_keep_43 : decode cX9_keep 43 = .ok (.ifCond .lt 6, 3) := by decide +kernel
theorem dX9_keep_46 : decode cX9_keep 46 = .ok (.bipush (-3), 2) := by decide +kernel
theorem dX9_keep_48 : decode cX9_keep 48 = .ok (.ireturn, 1) := by decide +kernel
theorem dX9_keep_49 : decode cX9_keep 49 = .ok (.aload_n 0, 1) := by decide +kernel
theorem dX9_keep_50 : decode cX9_keep 50 = .ok (.getfield 38, 3) := by decide +kernel
theorem dX9_keep_53 : decode cX9_keep 53 = .ok (.iload_n 2, 1) := by decide +kernel
theorem dX9_keep_54 : decode cX9_keep 54 = .ok (.iload_n 1, 1) := by decide +kernel
theorem dX9_keep_55 : decode cX9_keep 55 = .ok (.iastore, 1) := by decide +kernel
theorem dX9_keep_56 : decode cX9_keep 56 = .ok (.aload_n 0, 1) := by decide +kernel
theorem dX9_keep_57 : decode cX9_keep 57 = .ok (.getfield 41, 3) := by decide +kernel
theorem dX9_keep_60 : decode cX9_keep 60 = .ok (.iload_n 2, 1) := by decide +kernel
theorem dX9_keep_61 : decode cX9_keep 61 = .ok (.iload_n 3, 1) := by decide +kernel
theorem dX9_keep_62 : decode cX9_keep 62 = .ok (.iastore, 1) := by decide +kernel
theorem dX9_keep_63 : decode cX9_keep 63 = .ok (.aload_n 0, 1) := by decide +kernel
theorem dX9_keep_64 : decode cX9_keep 64 = .ok (.iload_n 1, 1) := by decide +kernel
theorem dX9_keep_65 : decode cX9_keep 65 = .ok (.invokevirtual 208, 3) := by decide +kernel
theorem dX9_keep_68 : decode cX9_keep 68 = .ok (.ireturn, 1) := by decide +kernel
def pX9_keep (σ : zc_N) (a1 : Int32) (a2 : Int32) (a3 : Int32) : Prop := (((rX9_isTool a1) = (0 : Int32) → True) ∧ (¬ (rX9_isTool a1) = (0 : Int32) → (((rX9_isPrint σ a2) = (0 : Int32) → True) ∧ (¬ (rX9_isPrint σ a2) = (0 : Int32) → (((rX9_within a3 (0 : Int32) (9999 : Int32)) = (0 : Int32) → True) ∧ (¬ (rX9_within a3 (0 : Int32) (9999 : Int32)) = (0 : Int32) → (vp_in a2 24 ∧ (((0 : Int32) ≤ ((σ 42) a2.toNatClampNeg) → True) ∧ (¬ (0 : Int32) ≤ ((σ 42) a2.toNatClampNeg) → ((pX9_printOf σ a1 a3) ∧ (((rX9_printOf σ a1 a3) < (0 : Int32) → (vp_in a2 24 ∧ (vp_in a2 24 ∧ (pX9_keptBy (zu (zu σ 42 (zu (σ 42) a2.toNatClampNeg a1)) 43 (zu (σ 43) a2.toNatClampNeg a3)) a1)))) ∧ (¬ (rX9_printOf σ a1 a3) < (0 : Int32) → True))))))))))))
noncomputable def rX9_keep (σ : zc_N) (a1 : Int32) (a2 : Int32) (a3 : Int32) : Int32 := (if (rX9_isTool a1) = (0 : Int32) then (-1 : Int32) else (if (rX9_isPrint σ a2) = (0 : Int32) then (-1 : Int32) else (if (rX9_within a3 (0 : Int32) (9999 : Int32)) = (0 : Int32) then (-1 : Int32) else (if (0 : Int32) ≤ ((σ 42) a2.toNatClampNeg) then (-3 : Int32) else (if (rX9_printOf σ a1 a3) < (0 : Int32) then (rX9_keptBy (zu (zu σ 42 (zu (σ 42) a2.toNatClampNeg a1)) 43 (zu (σ 43) a2.toNatClampNeg a3)) a1) else (-3 : Int32))))))
noncomputable def sX9_keep (σ : zc_N) (a1 : Int32) (a2 : Int32) (a3 : Int32) : zc_N := (if (rX9_isTool a1) = (0 : Int32) then σ else (if (rX9_isPrint σ a2) = (0 : Int32) then σ else (if (rX9_within a3 (0 : Int32) (9999 : Int32)) = (0 : Int32) then σ else (if (0 : Int32) ≤ ((σ 42) a2.toNatClampNeg) then σ else (if (rX9_printOf σ a1 a3) < (0 : Int32) then (zu (zu σ 42 (zu (σ 42) a2.toNatClampNeg a1)) 43 (zu (σ 43) a2.toNatClampNeg a3)) else σ)))))
set_option maxHeartbeats 1000000 in
theorem ctX9_keep (P : zp) (σ : zc_N) (a1 : Int32) (a2 : Int32) (a3 : Int32) (W_ : (pX9_keep σ a1 a2 a3)) : sp mX9_keep 1 0 0 [.ref 32, .int a1, .int a2, .int a3] (hh P σ) (fun r_ h_ => r_ = some (.int (rX9_keep σ a1 a2 a3)) ∧ h_ = hh P (sX9_keep σ a1 a2 a3)) := by
  refine sp_of (lv := [some (.ref 32), some (.int a1), some (.int a2), some (.int a3)]) (by decide) (zcats_ok _ rfl) (Nat.le_of_ble_eq_true rfl) (zlv_ok _ 0 rfl) (fun G => ?_)
  generalize hQ_ : (fun (r_ : Option Value) (h_ : zc_H) => r_ = some (.int (rX9_keep σ a1 a2 a3)) ∧ h_ = hh P (sX9_keep σ a1 a2 a3)) = Q_
  unfold pX9_keep at W_
  refine z_iload_n dX9_keep_0 rfl ?_
  refine z_callS (As := [.int a1]) (rest := []) (ctX9_isTool P σ a1) dX9_keep_1 lk_X9_202 ls_X9_isTool rfl (Nat.le_of_ble_eq_true rfl) (Nat.le_of_ble_eq_true rfl) (Nat.le_of_ble_eq_true rfl) (Nat.le_of_ble_eq_true rfl) (fun r_ h_ e_ => ?_)
  obtain ⟨e1_, e2_⟩ := e_
  subst e1_
  subst e2_
  show zz G mX9_keep 1 0 0 Q_ 4 [some (.ref 32), some (.int a1), some (.int a2), some (.int a3)] [.int (rX9_isTool a1)] (hh P σ) 0 0
  refine z_if_eq (tgt := 26) dX9_keep_4 (by decide) (fun c_1 => ?_) (fun c_1 => ?_)
  · refine z_iconst dX9_keep_26 k_iconst_m1 ?_
    exact z_ireturn dX9_keep_27 rfl rfl (Nat.le_of_ble_eq_true rfl) (Nat.le_of_ble_eq_true rfl) (by rw [← hQ_]; exact ⟨(by rw [rX9_keep]; try simp only [if_pos c_1]), (by rw [sX9_keep]; try simp only [if_pos c_1])⟩)
  · refine z_aloadr_n dX9_keep_7 rfl ?_
    refine z_iload_n dX9_keep_8 rfl ?_
    refine z_callV (ci := 9) (r := (RX9, TX9, 38)) (b := 32) (As := [.int a2]) (rest := []) (ctX9_isPrint P σ a2) dX9_keep_9 lk_X9_137 lv_X9_isPrint (Nat.le_of_ble_eq_true rfl) (zN rfl) rfl rfl rfl rfl (Nat.le_of_ble_eq_true rfl) (Nat.le_of_ble_eq_true rfl) (Nat.le_of_ble_eq_true rfl) (Nat.le_of_ble_eq_true rfl) (fun r_ h_ e_ => ?_)
    obtain ⟨e1_, e2_⟩ := e_
    subst e1_
    subst e2_
    show zz G mX9_keep 1 0 0 Q_ 12 [some (.ref 32), some (.int a1), some (.int a2), some (.int a3)] [.int (rX9_isPrint σ a2)] (hh P σ) 0 0
    refine z_if_eq (tgt := 26) dX9_keep_12 (by decide) (fun c_2 => ?_) (fun c_2 => ?_)
    · refine z_iconst dX9_keep_26 k_iconst_m1 ?_
      exact z_ireturn dX9_keep_27 rfl rfl (Nat.le_of_ble_eq_true rfl) (Nat.le_of_ble_eq_true rfl) (by rw [← hQ_]; exact ⟨(by rw [rX9_keep]; try simp only [if_neg c_1, if_pos c_2]), (by rw [sX9_keep]; try simp only [if_neg c_1, if_pos c_2])⟩)
    · refine z_iload_n dX9_keep_15 rfl ?_
      refine z_iconst dX9_keep_16 k_iconst_0 ?_
      refine z_sipush dX9_keep_17 k_sipush_9999 ?_
      refine z_callS (As := [.int a3, .int (0 : Int32), .int (9999 : Int32)]) (rest := []) (ctX9_within P σ a3 (0 : Int32) (9999 : Int32)) dX9_keep_20 lk_X9_96 ls_X9_within rfl (Nat.le_of_ble_eq_true rfl) (Nat.le_of_ble_eq_true rfl) (Nat.le_of_ble_eq_true rfl) (Nat.le_of_ble_eq_true rfl) (fun r_ h_ e_ => ?_)
      obtain ⟨e1_, e2_⟩ := e_
      subst e1_
      subst e2_
      show zz G mX9_keep 1 0 0 Q_ 23 [some (.ref 32), some (.int a1), some (.int a2), some (.int a3)] [.int (rX9_within a3 (0 : Int32) (9999 : Int32))] (hh P σ) 0 0
      refine z_if_ne (tgt := 28) dX9_keep_23 (by decide) (fun c_3 => ?_) (fun c_3 => ?_)
      · refine z_aloadr_n dX9_keep_28 rfl ?_
        refine z_get (ci := 9) (r := (RX9, TX9, 38)) (j := 9) (v := .ref 42) dX9_keep_29 (Nat.le_of_ble_eq_true rfl) (zN rfl) rfl rfl (Nat.le_of_ble_eq_true rfl) fl_X9_38 rfl ?_
        refine z_iload_n dX9_keep_32 rfl ?_
        refine z_iald (v := ((σ 42) a2.toNatClampNeg)) dX9_keep_33 (zN rfl) rfl ((((W_.2 c_1).2 c_2).2 c_3).1) rfl ?_
        refine z_if_ge (tgt := 46) dX9_keep_34 (by decide) (fun c_4 => ?_) (fun c_4 => ?_)
        · refine z_bipush dX9_keep_46 k_bipush_m3 ?_
          exact z_ireturn dX9_keep_48 rfl rfl (Nat.le_of_ble_eq_true rfl) (Nat.le_of_ble_eq_true rfl) (by rw [← hQ_]; exact ⟨(by rw [rX9_keep]; try simp only [if_neg c_1, if_neg c_2, if_neg c_3, if_pos c_4]), (by rw [sX9_keep]; try simp only [if_neg c_1, if_neg c_2, if_neg c_3, if_pos c_4])⟩)
        · refine z_aloadr_n dX9_keep_37 rfl ?_
          refine z_iload_n dX9_keep_38 rfl ?_
          refine z_iload_n dX9_keep_39 rfl ?_
          refine z_callV (ci := 9) (r := (RX9, TX9, 38)) (b := 32) (As := [.int a1, .int a3]) (rest := []) (ctX9_printOf P σ a1 a3 (((((W_.2 c_1).2 c_2).2 c_3).2.2 c_4).1)) dX9_keep_40 lk_X9_205 lv_X9_printOf (Nat.le_of_ble_eq_true rfl) (zN rfl) rfl rfl rfl rfl (Nat.le_of_ble_eq_true rfl) (Nat.le_of_ble_eq_true rfl) (Nat.le_of_ble_eq_true rfl) (Nat.le_of_ble_eq_true rfl) (fun r_ h_ e_ => ?_)
          obtain ⟨e1_, e2_⟩ := e_
          subst e1_
          subst e2_
          show zz G mX9_keep 1 0 0 Q_ 43 [some (.ref 32), some (.int a1), some (.int a2), some (.int a3)] [.int (rX9_printOf σ a1 a3)] (hh P σ) 0 0
          refine z_if_lt (tgt := 49) dX9_keep_43 (by decide) (fun c_5 => ?_) (fun c_5 => ?_)
          · refine z_aloadr_n dX9_keep_49 rfl ?_
            refine z_get (ci := 9) (r := (RX9, TX9, 38)) (j := 9) (v := .ref 42) dX9_keep_50 (Nat.le_of_ble_eq_true rfl) (zN rfl) rfl rfl (Nat.le_of_ble_eq_true rfl) fl_X9_38 rfl ?_
            refine z_iload_n dX9_keep_53 rfl ?_
            refine z_iload_n dX9_keep_54 rfl ?_
            refine z_iast (σ' := (zu σ 42 (zu (σ 42) a2.toNatClampNeg a1))) dX9_keep_55 (Nat.le_of_ble_eq_true rfl) (zN rfl) rfl ((((((W_.2 c_1).2 c_2).2 c_3).2.2 c_4).2.1 c_5).1) rfl ?_
            refine z_aloadr_n dX9_keep_56 rfl ?_
            refine z_get (ci := 9) (r := (RX9, TX9, 38)) (j := 10) (v := .ref 43) dX9_keep_57 (Nat.le_of_ble_eq_true rfl) (zN rfl) rfl rfl (Nat.le_of_ble_eq_true rfl) fl_X9_41 rfl ?_
            refine z_iload_n dX9_keep_60 rfl ?_
            refine z_iload_n dX9_keep_61 rfl ?_
            refine z_iast (σ' := (zu (zu σ 42 (zu (σ 42) a2.toNatClampNeg a1)) 43 (zu (σ 43) a2.toNatClampNeg a3))) dX9_keep_62 (Nat.le_of_ble_eq_true rfl) (zN rfl) rfl ((((((W_.2 c_1).2 c_2).2 c_3).2.2 c_4).2.1 c_5).2.1) (congrArg (fun g_ => zu _ _ (zu g_ _ _)) (zu_ne _ _ (by decide))) ?_
            refine z_aloadr_n dX9_keep_63 rfl ?_
            refine z_iload_n dX9_keep_64 rfl ?_
            refine z_callV (ci := 9) (r := (RX9, TX9, 38)) (b := 32) (As := [.int a1]) (rest := []) (ctX9_keptBy P (zu (zu σ 42 (zu (σ 42) a2.toNatClampNeg a1)) 43 (zu (σ 43) a2.toNatClampNeg a3)) a1 ((((((W_.2 c_1).2 c_2).2 c_3).2.2 c_4).2.1 c_5).2.2)) dX9_keep_65 lk_X9_208 lv_X9_keptBy (Nat.le_of_ble_eq_true rfl) (zN rfl) rfl rfl rfl rfl (Nat.le_of_ble_eq_true rfl) (Nat.le_of_ble_eq_true rfl) (Nat.le_of_ble_eq_true rfl) (Nat.le_of_ble_eq_true rfl) (fun r_ h_ e_ => ?_)
            obtain ⟨e1_, e2_⟩ := e_
            subst e1_
            subst e2_
            show zz G mX9_keep 1 0 0 Q_ 68 [some (.ref 32), some (.int a1), some (.int a2), some (.int a3)] [.int (rX9_keptBy (zu (zu σ 42 (zu (σ 42) a2.toNatClampNeg a1)) 43 (zu (σ 43) a2.toNatClampNeg a3)) a1)] (hh P (zu (zu σ 42 (zu (σ 42) a2.toNatClampNeg a1)) 43 (zu (σ 43) a2.toNatClampNeg a3))) 0 0
            exact z_ireturn dX9_keep_68 rfl rfl (Nat.le_of_ble_eq_true rfl) (Nat.le_of_ble_eq_true rfl) (by rw [← hQ_]; exact ⟨(by rw [rX9_keep]; try simp only [if_neg c_1, if_neg c_2, if_neg c_3, if_neg c_4, if_pos c_5]), (by rw [sX9_keep]; try simp only [if_neg c_1, if_neg c_2, if_neg c_3, if_neg c_4, if_pos c_5])⟩)
          · refine z_bipush dX9_keep_46 k_bipush_m3 ?_
            exact z_ireturn dX9_keep_48 rfl rfl (Nat.le_of_ble_eq_true rfl) (Nat.le_of_ble_eq_true rfl) (by rw [← hQ_]; exact ⟨(by rw [rX9_keep]; try simp only [if_neg c_1, if_neg c_2, if_neg c_3, if_neg c_4, if_neg c_5]), (by rw [sX9_keep]; try simp only [if_neg c_1, if_neg c_2, if_neg c_3, if_neg c_4, if_neg c_5])⟩)
      · refine z_iconst dX9_keep_26 k_iconst_m1 ?_
        exact z_ireturn dX9_keep_27 rfl rfl (Nat.le_of_ble_eq_true rfl) (Nat.le_of_ble_eq_true rfl) (by rw [← hQ_]; exact ⟨(by rw [rX9_keep]; try simp only [if_neg c_1, if_neg c_2, if_pos c_3]), (by rw [sX9_keep]; try simp only [if_neg c_1, if_neg c_2, if_pos c_3])⟩)

theorem dX9_melt_23 : decode cX9_melt 23 = .ok (.iload_n 3, 1) := by decide +kernel
theorem dX9_melt_24 : decode cX9_melt 24 = .ok (.aload_n 0, 1) := by decide +kernel
theorem dX9_melt_25 : decode cX9_melt 25 = .ok (.getfield 131, 3) := by decide +kernel
theorem dX9_melt_28 : decode cX9_melt 28 = .ok (.if_icmp .ge 36, 3) := by decide +kernel
theorem dX9_melt_31 : decode cX9_melt 31 = .ok (.aload_n 0, 1) := by decide +kernel
theorem dX9_melt_32 : decode cX9_melt 32 = .ok (.getfield 38, 3) := by decide +kernel
theorem dX9_melt_35 : decode cX9_melt 35 = .ok (.iload_n 3, 1) := by decide +kernel
theorem dX9_melt_36 : decode cX9_melt 36 = .ok (.iaload, 1) := by decide +kernel
theorem dX9_melt_37 : decode cX9_melt 37 = .ok (.iload_n 2, 1) := by decide +kernel
theorem dX9_melt_38 : decode cX9_melt 38 = .ok (.if_icmp .ne 20, 3) := by decide +kernel
theorem dX9_melt_41 : decode cX9_melt 41 = .ok (.aload_n 0, 1) := by decide +kernel
theorem dX9_melt_42 : decode cX9_melt 42 = .ok (.iload_n 1, 1) := by decide +kernel
theorem dX9_melt_43 : decode cX9_melt 43 = .ok (.aload_n 0, 1) := by decide +kernel
theorem dX9_melt_44 : decode cX9_melt 44 = .ok (.getfield 41, 3) := by decide +kernel
theorem dX9_melt_47 : decode cX9_melt 47 = .ok (.iload_n 3, 1) := by decide +kernel
theorem dX9_melt_48 : decode cX9_melt 48 = .ok (.iaload, 1) := by decide +kernel
theorem dX9_melt_49 : decode cX9_melt 49 = .ok (.invokevirtual 205, 3) := by decide +kernel
theorem dX9_melt_52 : decode cX9_melt 52 = .ok (.ifCond .lt 6, 3) := by decide +kernel
theorem dX9_melt_55 : decode cX9_melt 55 = .ok (.bipush (-3), 2) := by decide +kernel
theorem dX9_melt_58 : decode cX9_melt 58 = .ok (.iinc 3 1, 3) := by decide +kernel
theorem dX9_melt_61 : decode cX9_melt 61 = .ok (.goto (-38), 3) := by decide +kernel
theorem dX9_melt_64 : decode cX9_melt 64 = .ok (.iconst 0, 1) := by decide +kernel
theorem dX9_melt_65 : decode cX9_melt 65 = .ok (.istore_n 3, 1) := by decide +kernel
noncomputable def fX9_melt_23 (a_ : Int32) : Int32 := (a_ + (1 : Int32))
def eX9_melt_23 (σ : zc_N) (l1 : Int32) (l2 : Int32) (a_ : Int32) : Prop := ((((σ 32) 11) ≤ a_ ∧ True) ∨ (¬ ((σ 32) 11) ≤ a_ ∧ ((((σ 42) a_.toNatClampNeg) = l2 ∧ (((rX9_printOf σ l1 ((σ 43) a_.toNatClampNeg)) < (0 : Int32) ∧ False) ∨ (¬ (rX9_printOf σ l1 ((σ 43) a_.toNatClampNeg)) < (0 : Int32) ∧ True))) ∨ (¬ ((σ 42) a_.toNatClampNeg) = l2 ∧ False))))
def qX9_melt_23 (σ : zc_N) (l1 : Int32) (l2 : Int32) (a_ : Int32) : Prop := ((((σ 32) 11) ≤ a_ → True) ∧ (¬ ((σ 32) 11) ≤ a_ → (vp_in a_ 24 ∧ ((((σ 42) a_.toNatClampNeg) = l2 → (vp_in a_ 24 ∧ (pX9_printOf σ l1 ((σ 43) a_.toNatClampNeg)))) ∧ (¬ ((σ 42) a_.toNatClampNeg) = l2 → True)))))
noncomputable def wX9_melt_23 (σ : zc_N) (l1 : Int32) (l2 : Int32) (a_ : Int32) : Int32 := zit fX9_melt_23 (zwn (fun n_ => (eX9_melt_23 σ l1 l2) (zit fX9_melt_23 n_ a_))) a_
set_option maxHeartbeats 2000000 in
theorem whX9_melt_23 {G : zc_G} {Q : Option Value → zc_H → Prop} (P : zp) (σ : zc_N) (l1 : Int32) (l2 : Int32) (l3 : Int32)
    (hT_ : ∃ n_ : Nat, (eX9_melt_23 σ l1 l2) (zit fX9_melt_23 n_ l3)) (W1_ : ∀ i23_ : Nat, i23_ < (zwn (fun n_ => (eX9_melt_23 σ l1 l2) (zit fX9_melt_23 n_ l3))) → qX9_melt_23 σ l1 l2 (zit fX9_melt_23 i23_ l3))
    (W2_ : (eX9_melt_23 σ l1 l2) (wX9_melt_23 σ l1 l2 l3) → zz G mX9_melt 1 0 0 Q 23 [some (.ref 32), some (.int l1), some (.int l2), some (.int (wX9_melt_23 σ l1 l2 l3))] [] (hh P σ) 0 0) :
    zz G mX9_melt 1 0 0 Q 23 [some (.ref 32), some (.int l1), some (.int l2), some (.int l3)] [] (hh P σ) 0 0 := by
  unfold wX9_melt_23 at W2_
  have hs_ := zwn_spec hT_
  refine zit_Z (fun a_ => zz G mX9_melt 1 0 0 Q 23 [some (.ref 32), some (.int l1), some (.int l2), some (.int a_)] [] (hh P σ) 0 0) fX9_melt_23 (zwn (fun n_ => (eX9_melt_23 σ l1 l2) (zit fX9_melt_23 n_ l3))) l3 (fun i_ hi_ k_ => ?_) (W2_ hs_.1)
  have hn_ := hs_.2 i_ hi_
  have W3_ := W1_ i_ hi_
  generalize zit fX9_melt_23 i_ l3 = g_ at k_ hn_ W3_ ⊢
  rw [fX9_melt_23] at k_
  rw [eX9_melt_23] at hn_
  try dsimp only at k_ hn_
  rw [qX9_melt_23] at W3_
  try dsimp only at W3_
  refine z_iload_n dX9_melt_23 rfl ?_
  refine z_aloadr_n dX9_melt_24 rfl ?_
  refine z_get (ci := 9) (r := (RX9, TX9, 38)) (j := 11) (v := .int ((σ 32) 11)) dX9_melt_25 (Nat.le_of_ble_eq_true rfl) (zN rfl) rfl rfl (Nat.le_of_ble_eq_true rfl) fl_X9_131 rfl ?_
  refine z_icmp_ge (tgt := 64) dX9_melt_28 (by decide) (fun c_1 => ?_) (fun c_1 => ?_)
  · exact absurd (Or.inl ⟨c_1, trivial⟩) hn_
  · refine z_aloadr_n dX9_melt_31 rfl ?_
    refine z_get (ci := 9) (r := (RX9, TX9, 38)) (j := 9) (v := .ref 42) dX9_melt_32 (Nat.le_of_ble_eq_true rfl) (zN rfl) rfl rfl (Nat.le_of_ble_eq_true rfl) fl_X9_38 rfl ?_
    refine z_iload_n dX9_melt_35 rfl ?_
    refine z_iald (v := ((σ 42) g_.toNatClampNeg)) dX9_melt_36 (zN rfl) rfl ((W3_.2 c_1).1) rfl ?_
    refine z_iload_n dX9_melt_37 rfl ?_
    refine z_icmp_ne (tgt := 58) dX9_melt_38 (by decide) (fun c_2 => ?_) (fun c_2 => ?_)
    · refine z_iinc (v := (g_ + (1 : Int32))) (lv' := [some (.ref 32), some (.int l1), some (.int l2), some (.int (g_ + (1 : Int32)))]) dX9_melt_58 (Nat.le_of_ble_eq_true rfl) rfl (by rw [k_iconst_1]) rfl ?_
      refine z_goto (tgt := 23) dX9_melt_61 (by decide) ?_
      simpa only [if_neg c_1, if_neg c_2] using k_
    · refine z_aloadr_n dX9_melt_41 rfl ?_
      refine z_iload_n dX9_melt_42 rfl ?_
      refine z_aloadr_n dX9_melt_43 rfl ?_
      refine z_get (ci := 9) (r := (RX9, TX9, 38)) (j := 10) (v := .ref 43) dX9_melt_44 (Nat.le_of_ble_eq_true rfl) (zN rfl) rfl rfl (Nat.le_of_ble_eq_true rfl) fl_X9_41 rfl ?_
      refine z_iload_n dX9_melt_47 rfl ?_
      refine z_iald (v := ((σ 43) g_.toNatClampNeg)) dX9_melt_48 (zN rfl) rfl (((W3_.2 c_1).2.1 c_2).1) rfl ?_
      refine z_callV (ci := 9) (r := (RX9, TX9, 38)) (b := 32) (As := [.int l1, .int ((σ 43) g_.toNatClampNeg)]) (rest := []) (ctX9_printOf P σ l1 ((σ 43) g_.toNatClampNeg) (((W3_.2 c_1).2.1 c_2).2)) dX9_melt_49 lk_X9_205 lv_X9_printOf (Nat.le_of_ble_eq_true rfl) (zN rfl) rfl rfl rfl rfl (Nat.le_of_ble_eq_true rfl) (Nat.le_of_ble_eq_true rfl) (Nat.le_of_ble_eq_true rfl) (Nat.le_of_ble_eq_true rfl) (fun r_ h_ e_ => ?_)
      obtain ⟨e1_, e2_⟩ := e_
      subst e1_
      subst e2_
      show zz G mX9_melt 1 0 0 Q 52 [some (.ref 32), some (.int l1), some (.int l2), some (.int g_)] [.int (rX9_printOf σ l1 ((σ 43) g_.toNatClampNeg))] (hh P σ) 0 0
      refine z_if_lt (tgt := 58) dX9_melt_52 (by decide) (fun c_3 => ?_) (fun c_3 => ?_)
      · refine z_iinc (v := (g_ + (1 : Int32))) (lv' := [some (.ref 32), some (.int l1), some (.int l2), some (.int (g_ + (1 : Int32)))]) dX9_melt_58 (Nat.le_of_ble_eq_true rfl) rfl (by rw [k_iconst_1]) rfl ?_
        refine z_goto (tgt := 23) dX9_melt_61 (by decide) ?_
        simpa only [if_neg c_1, if_pos c_2, if_pos c_3] using k_
      · exact absurd (Or.inr ⟨c_1, (Or.inl ⟨c_2, (Or.inr ⟨c_3, trivial⟩)⟩)⟩) hn_

theorem dX9_melt_66 : decode cX9_melt 66 = .ok (.iload_n 3, 1) := by decide +kernel
theorem dX9_melt_67 : decode cX9_melt 67 = .ok (.aload_n 0, 1) := by decide +kernel
theorem dX9_melt_68 : decode cX9_melt 68 = .ok (.getfield 131, 3) := by decide +kernel
theorem dX9_melt_71 : decode cX9_melt 71 = .ok (.if_icmp .ge 35, 3) := by decide +kernel
theorem dX9_melt_74 : decode cX9_melt 74 = .ok (.aload_n 0, 1) := by decide +kernel
theorem dX9_melt_75 : decode cX9_melt 75 = .ok (.getfield 38, 3) := by decide +kernel
theorem dX9_melt_78 : decode cX9_melt 78 = .ok (.iload_n 3, 1) := by decide +kernel
theorem dX9_melt_79 : decode cX9_melt 79 = .ok (.aload_n 0, 1) := by decide +kernel
theorem dX9_melt_80 : decode cX9_melt 80 = .ok (.getfield 38, 3) := by decide +kernel
theorem dX9_melt_83 : decode cX9_melt 83 = .ok (.iload_n 3, 1) := by decide +kernel
theorem dX9_melt_84 : decode cX9_melt 84 = .ok (.iaload, 1) := by decide +kernel
theorem dX9_melt_85 : decode cX9_melt 85 = .ok (.iload_n 2, 1) := by decide +kernel
theorem dX9_melt_86 : decode cX9_melt 86 = .ok (.if_icmp .ne 7, 3) := by decide +kernel
theorem dX9_melt_89 : decode cX9_melt 89 = .ok (.iload_n 1, 1) := by decide +kernel
theorem dX9_melt_90 : decode cX9_melt 90 = .ok (.goto 9, 3) := by decide +kernel
theorem dX9_melt_93 : decode cX9_melt 93 = .ok (.aload_n 0, 1) := by decide +kernel
theorem dX9_melt_94 : decode cX9_melt 94 = .ok (.getfield 38, 3) := by decide +kernel
theorem dX9_melt_97 : decode cX9_melt 97 = .ok (.iload_n 3, 1) := by decide +kernel
theorem dX9_melt_98 : decode cX9_melt 98 = .ok (.iaload, 1) := by decide +kernel
theorem dX9_melt_99 : decode cX9_melt 99 = .ok (.iastore, 1) := by decide +kernel
theorem dX9_melt_100 : decode cX9_melt 100 = .ok (.iinc 3 1, 3) := by decide +kernel
theorem dX9_melt_103 : decode cX9_melt 103 = .ok (.goto (-37), 3) := by decide +kernel
theorem dX9_melt_106 : decode cX9_melt 106 = .ok (.aload_n 0, 1) := by decide +kernel
theorem dX9_melt_107 : decode cX9_melt 107 = .ok (.iload_n 1, 1) := by decide +kernel
theorem dX9_melt_108 : decode cX9_melt 108 = .ok (.invokevirtual 208, 3) := by decide +kernel
noncomputable def fX9_melt_66 (l1 : Int32) (l2 : Int32) (i_ : Nat) (a_ : zc_N) : zc_N := (zu a_ 42 (zu (a_ 42) (nI i_).toNatClampNeg (if ((a_ 42) (nI i_).toNatClampNeg) = l2 then l1 else ((a_ 42) (nI i_).toNatClampNeg))))
def qX9_melt_66 (l2 : Int32) (i_ : Nat) (a_ : zc_N) : Prop := (vp_in (nI i_) 24 ∧ (((((a_ 42) (nI i_).toNatClampNeg) = l2 → True) ∧ (¬ ((a_ 42) (nI i_).toNatClampNeg) = l2 → vp_in (nI i_) 24)) ∧ vp_in (nI i_) 24))
set_option maxHeartbeats 2000000 in
theorem lpX9_melt_66 {G : zc_G} {Q : Option Value → zc_H → Prop} (P : zp) (σ : zc_N) (l1 : Int32) (l2 : Int32) (n_ : Nat) (hC_ : ∀ i66_ : Nat, i66_ ≤ n_ → ((((zfor (fX9_melt_66 l1 l2) i66_ σ) 32) 11) ≤ (nI i66_) ↔ n_ ≤ i66_)) (W1_ : ∀ i66_ : Nat, i66_ < n_ → qX9_melt_66 l2 i66_ (zfor (fX9_melt_66 l1 l2) i66_ σ))
    (W2_ : zz G mX9_melt 1 0 0 Q 106 [some (.ref 32), some (.int l1), none, none] [] (hh P (zfor (fX9_melt_66 l1 l2) n_ σ)) 0 0) :
    zz G mX9_melt 1 0 0 Q 66 [some (.ref 32), some (.int l1), some (.int l2), some (.int (nI 0))] [] (hh P σ) 0 0 := by
  refine zfor_nI (fun i_ a_ => zz G mX9_melt 1 0 0 Q 66 [some (.ref 32), some (.int l1), some (.int l2), some (.int i_)] [] (hh P a_) 0 0) (fX9_melt_66 l1 l2) n_ σ (fun i_ hi_ k_ => ?_) ?_
  · have W3_ := W1_ i_ hi_
    have hD_ := hC_ i_ (Nat.le_of_lt hi_)
    generalize zfor (fX9_melt_66 l1 l2) i_ σ = g_ at k_ W3_ hD_ ⊢
    rw [fX9_melt_66] at k_
    rw [qX9_melt_66] at W3_
    try dsimp only at W3_
    refine z_iload_n dX9_melt_66 rfl ?_
    refine z_aloadr_n dX9_melt_67 rfl ?_
    refine z_get (ci := 9) (r := (RX9, TX9, 38)) (j := 11) (v := .int ((g_ 32) 11)) dX9_melt_68 (Nat.le_of_ble_eq_true rfl) (zN rfl) rfl rfl (Nat.le_of_ble_eq_true rfl) fl_X9_131 rfl ?_
    refine z_icmp_ge (tgt := 106) dX9_melt_71 (by decide) (fun c_ => absurd c_ (fun q_ => Nat.not_le_of_lt hi_ (hD_.mp q_))) (fun c_ => ?_)
    refine z_aloadr_n dX9_melt_74 rfl ?_
    refine z_get (ci := 9) (r := (RX9, TX9, 38)) (j := 9) (v := .ref 42) dX9_melt_75 (Nat.le_of_ble_eq_true rfl) (zN rfl) rfl rfl (Nat.le_of_ble_eq_true rfl) fl_X9_38 rfl ?_
    refine z_iload_n dX9_melt_78 rfl ?_
    refine z_aloadr_n dX9_melt_79 rfl ?_
    refine z_get (ci := 9) (r := (RX9, TX9, 38)) (j := 9) (v := .ref 42) dX9_melt_80 (Nat.le_of_ble_eq_true rfl) (zN rfl) rfl rfl (Nat.le_of_ble_eq_true rfl) fl_X9_38 rfl ?_
    refine z_iload_n dX9_melt_83 rfl ?_
    refine z_iald (v := ((g_ 42) (nI i_).toNatClampNeg)) dX9_melt_84 (zN rfl) rfl W3_.1 rfl ?_
    refine z_iload_n dX9_melt_85 rfl ?_
    have K_1 : zz G mX9_melt 1 0 0 Q 99 [some (.ref 32), some (.int l1), some (.int l2), some (.int (nI i_))] [.int (if ((g_ 42) (nI i_).toNatClampNeg) = l2 then l1 else ((g_ 42) (nI i_).toNatClampNeg)), .int (nI i_), .ref 42] (hh P g_) 0 0 := by
      refine z_iast (σ' := (zu g_ 42 (zu (g_ 42) (nI i_).toNatClampNeg (if ((g_ 42) (nI i_).toNatClampNeg) = l2 then l1 else ((g_ 42) (nI i_).toNatClampNeg))))) dX9_melt_99 (Nat.le_of_ble_eq_true rfl) (zN rfl) rfl W3_.2.2 rfl ?_
      refine z_iinc (v := ((nI i_) + (1 : Int32))) (lv' := [some (.ref 32), some (.int l1), some (.int l2), some (.int ((nI i_) + (1 : Int32)))]) dX9_melt_100 (Nat.le_of_ble_eq_true rfl) rfl (by rw [k_iconst_1]) rfl ?_
      refine z_goto (tgt := 66) dX9_melt_103 (by decide) ?_
      rw [nI_1]
      exact k_
    refine z_icmp_ne (tgt := 93) dX9_melt_86 (by decide) (fun c_2 => ?_) (fun c_2 => ?_)
    · refine z_aloadr_n dX9_melt_93 rfl ?_
      refine z_get (ci := 9) (r := (RX9, TX9, 38)) (j := 9) (v := .ref 42) dX9_melt_94 (Nat.le_of_ble_eq_true rfl) (zN rfl) rfl rfl (Nat.le_of_ble_eq_true rfl) fl_X9_38 rfl ?_
      refine z_iload_n dX9_melt_97 rfl ?_
      refine z_iald (v := ((g_ 42) (nI i_).toNatClampNeg)) dX9_melt_98 (zN rfl) rfl (W3_.2.1.2 c_2) rfl ?_
      rw [show (if ((g_ 42) (nI i_).toNatClampNeg) = l2 then l1 else ((g_ 42) (nI i_).toNatClampNeg)) = ((g_ 42) (nI i_).toNatClampNeg) from (if_neg c_2)] at K_1
      exact K_1
    · refine z_iload_n dX9_melt_89 rfl ?_
      refine z_goto (tgt := 99) dX9_melt_90 (by decide) ?_
      rw [show (if ((g_ 42) (nI i_).toNatClampNeg) = l2 then l1 else ((g_ 42) (nI i_).toNatClampNeg)) = l1 from (if_pos c_2)] at K_1
      exact K_1
  · have hD_ := hC_ n_ (Nat.le_refl _)
    generalize zfor (fX9_melt_66 l1 l2) n_ σ = g_ at W2_ hD_ ⊢
    refine z_iload_n dX9_melt_66 rfl ?_
    refine z_aloadr_n dX9_melt_67 rfl ?_
    refine z_get (ci := 9) (r := (RX9, TX9, 38)) (j := 11) (v := .int ((g_ 32) 11)) dX9_melt_68 (Nat.le_of_ble_eq_true rfl) (zN rfl) rfl rfl (Nat.le_of_ble_eq_true rfl) fl_X9_131 rfl ?_
    refine z_icmp_ge (tgt := 106) dX9_melt_71 (by decide) (fun c_ => ?_) (fun c_ => absurd (hD_.mpr (Nat.le_refl _)) c_)
    exact zz_sub (lv' := [some (.ref 32), some (.int l1), none, none]) ⟨rfl, ⟨rfl, trivial⟩⟩ W2_

theorem dX9_melt_0 : decode cX9_melt 0 = .ok (.iload_n 1, 1) := by decide +kernel
theorem dX9_melt_1 : decode cX9_melt 1 = .ok (.invokestatic 202, 3) := by decide +kernel
theorem dX9_melt_4 : decode cX9_melt 4 = .ok (.ifCond .eq 15, 3) := by decide +kernel
theorem dX9_melt_7 : decode cX9_melt 7 = .ok (.iload_n 2, 1) := by decide +kernel
theorem dX9_melt_8 : decode cX9_melt 8 = .ok (.invokestatic 202, 3) := by decide +kernel
theorem dX9_melt_11 : decode cX9_melt 11 = .ok (.ifCond .eq 8, 3) := by decide +kernel
theorem dX9_melt_14 : decode cX9_melt 14 = .ok (.iload_n 1, 1) := by decide +kernel
theorem dX9_melt_15 : decode cX9_melt 15 = .ok (.iload_n 2, 1) := by decide +kernel
theorem dX9_melt_16 : decode cX9_melt 16 = .ok (.if_icmp .ne 5, 3) := by decide +kernel
theorem dX9_melt_19 : decode cX9_melt 19 = .ok (.iconst (-1), 1) := by decide +kernel
theorem dX9_melt_20 : decode cX9_melt 20 = .ok (.ireturn, 1) := by decide +kernel
theorem dX9_melt_21 : decode cX9_melt 21 = .ok (.iconst 0, 1) := by decide +kernel
theorem dX9_melt_22 : decode cX9_melt 22 = .ok (.istore_n 3, 1) := by decide +kernel
theorem dX9_melt_57 : decode cX9_melt 57 = .ok (.ireturn, 1) := by decide +kernel
theorem dX9_melt_111 : decode cX9_melt 111 = .ok (.ireturn, 1) := by decide +kernel
def pX9_melt (σ : zc_N) (a1 : Int32) (a2 : Int32) : Prop := (((rX9_isTool a1) = (0 : Int32) → True) ∧ (¬ (rX9_isTool a1) = (0 : Int32) → (((rX9_isTool a2) = (0 : Int32) → True) ∧ (¬ (rX9_isTool a2) = (0 : Int32) → ((a1 = a2 → True) ∧ (¬ a1 = a2 → (((∃ n_ : Nat, (eX9_melt_23 σ a1 a2) (zit fX9_melt_23 n_ (0 : Int32))) ∧ (∀ i23_ : Nat, i23_ < (zwn (fun n_ => (eX9_melt_23 σ a1 a2) (zit fX9_melt_23 n_ (0 : Int32)))) → qX9_melt_23 σ a1 a2 (zit fX9_melt_23 i23_ (0 : Int32)))) ∧ ((((σ 32) 11) ≤ (wX9_melt_23 σ a1 a2 (0 : Int32)) → (((∀ i66_ : Nat, i66_ ≤ ((((σ 32) 11)).toNatClampNeg) → ((((zfor (fX9_melt_66 a1 a2) i66_ σ) 32) 11) ≤ (nI i66_) ↔ ((((σ 32) 11)).toNatClampNeg) ≤ i66_)) ∧ (∀ i66_ : Nat, i66_ < ((((σ 32) 11)).toNatClampNeg) → qX9_melt_66 a2 i66_ (zfor (fX9_melt_66 a1 a2) i66_ σ))) ∧ (pX9_keptBy (zfor (fX9_melt_66 a1 a2) ((((σ 32) 11)).toNatClampNeg) σ) a1))) ∧ (¬ ((σ 32) 11) ≤ (wX9_melt_23 σ a1 a2 (0 : Int32)) → (vp_in (wX9_melt_23 σ a1 a2 (0 : Int32)) 24 ∧ ((((σ 42) (wX9_melt_23 σ a1 a2 (0 : Int32)).toNatClampNeg) = a2 → (vp_in (wX9_melt_23 σ a1 a2 (0 : Int32)) 24 ∧ (pX9_printOf σ a1 ((σ 43) (wX9_melt_23 σ a1 a2 (0 : Int32)).toNatClampNeg)))) ∧ (¬ ((σ 42) (wX9_melt_23 σ a1 a2 (0 : Int32)).toNatClampNeg) = a2 → True))))))))))))
noncomputable def rX9_melt (σ : zc_N) (a1 : Int32) (a2 : Int32) : Int32 := (if (rX9_isTool a1) = (0 : Int32) then (-1 : Int32) else (if (rX9_isTool a2) = (0 : Int32) then (-1 : Int32) else (if a1 = a2 then (-1 : Int32) else (if ((σ 32) 11) ≤ (wX9_melt_23 σ a1 a2 (0 : Int32)) then (rX9_keptBy (zfor (fX9_melt_66 a1 a2) ((((σ 32) 11)).toNatClampNeg) σ) a1) else (-3 : Int32)))))
noncomputable def sX9_melt (σ : zc_N) (a1 : Int32) (a2 : Int32) : zc_N := (if (rX9_isTool a1) = (0 : Int32) then σ else (if (rX9_isTool a2) = (0 : Int32) then σ else (if a1 = a2 then σ else (if ((σ 32) 11) ≤ (wX9_melt_23 σ a1 a2 (0 : Int32)) then (zfor (fX9_melt_66 a1 a2) ((((σ 32) 11)).toNatClampNeg) σ) else σ))))
set_option maxHeartbeats 1000000 in
theorem ctX9_melt (P : zp) (σ : zc_N) (a1 : Int32) (a2 : Int32) (W_ : (pX9_melt σ a1 a2)) : sp mX9_melt 1 0 0 [.ref 32, .int a1, .int a2] (hh P σ) (fun r_ h_ => r_ = some (.int (rX9_melt σ a1 a2)) ∧ h_ = hh P (sX9_melt σ a1 a2)) := by
  refine sp_of (lv := [some (.ref 32), some (.int a1), some (.int a2), none]) (by decide) (zcats_ok _ rfl) (Nat.le_of_ble_eq_true rfl) (zlv_ok _ 1 rfl) (fun G => ?_)
  generalize hQ_ : (fun (r_ : Option Value) (h_ : zc_H) => r_ = some (.int (rX9_melt σ a1 a2)) ∧ h_ = hh P (sX9_melt σ a1 a2)) = Q_
  unfold pX9_melt at W_
  refine z_iload_n dX9_melt_0 rfl ?_
  refine z_callS (As := [.int a1]) (rest := []) (ctX9_isTool P σ a1) dX9_melt_1 lk_X9_202 ls_X9_isTool rfl (Nat.le_of_ble_eq_true rfl) (Nat.le_of_ble_eq_true rfl) (Nat.le_of_ble_eq_true rfl) (Nat.le_of_ble_eq_true rfl) (fun r_ h_ e_ => ?_)
  obtain ⟨e1_, e2_⟩ := e_
  subst e1_
  subst e2_
  show zz G mX9_melt 1 0 0 Q_ 4 [some (.ref 32), some (.int a1), some (.int a2), none] [.int (rX9_isTool a1)] (hh P σ) 0 0
  refine z_if_eq (tgt := 19) dX9_melt_4 (by decide) (fun c_1 => ?_) (fun c_1 => ?_)
  · refine z_iconst dX9_melt_19 k_iconst_m1 ?_
    exact z_ireturn dX9_melt_20 rfl rfl (Nat.le_of_ble_eq_true rfl) (Nat.le_of_ble_eq_true rfl) (by rw [← hQ_]; exact ⟨(by rw [rX9_melt]; try simp only [if_pos c_1]), (by rw [sX9_melt]; try simp only [if_pos c_1])⟩)
  · refine z_iload_n dX9_melt_7 rfl ?_
    refine z_callS (As := [.int a2]) (rest := []) (ctX9_isTool P σ a2) dX9_melt_8 lk_X9_202 ls_X9_isTool rfl (Nat.le_of_ble_eq_true rfl) (Nat.le_of_ble_eq_true rfl) (Nat.le_of_ble_eq_true rfl) (Nat.le_of_ble_eq_true rfl) (fun r_ h_ e_ => ?_)
    obtain ⟨e1_, e2_⟩ := e_
    subst e1_
    subst e2_
    show zz G mX9_melt 1 0 0 Q_ 11 [some (.ref 32), some (.int a1), some (.int a2), none] [.int (rX9_isTool a2)] (hh P σ) 0 0
    refine z_if_eq (tgt := 19) dX9_melt_11 (by decide) (fun c_2 => ?_) (fun c_2 => ?_)
    · refine z_iconst dX9_melt_19 k_iconst_m1 ?_
      exact z_ireturn dX9_melt_20 rfl rfl (Nat.le_of_ble_eq_true rfl) (Nat.le_of_ble_eq_true rfl) (by rw [← hQ_]; exact ⟨(by rw [rX9_melt]; try simp only [if_neg c_1, if_pos c_2]), (by rw [sX9_melt]; try simp only [if_neg c_1, if_pos c_2])⟩)
    · refine z_iload_n dX9_melt_14 rfl ?_
      refine z_iload_n dX9_melt_15 rfl ?_
      refine z_icmp_ne (tgt := 21) dX9_melt_16 (by decide) (fun c_3 => ?_) (fun c_3 => ?_)
      · refine z_iconst dX9_melt_21 k_iconst_0 ?_
        refine z_istore_n (lv' := [some (.ref 32), some (.int a1), some (.int a2), some (.int (0 : Int32))]) dX9_melt_22 (Nat.le_of_ble_eq_true rfl) rfl ?_
        refine whX9_melt_23 P σ a1 a2 (0 : Int32) ((((W_.2 c_1).2 c_2).2 c_3).1).1 ((((W_.2 c_1).2 c_2).2 c_3).1).2 (fun hX23_ => ?_)
        rw [eX9_melt_23] at hX23_
        try dsimp only at hX23_
        show zz G mX9_melt 1 0 0 Q_ 23 [some (.ref 32), some (.int a1), some (.int a2), some (.int (wX9_melt_23 σ a1 a2 (0 : Int32)))] [] (hh P σ) 0 0
        refine z_iload_n dX9_melt_23 rfl ?_
        refine z_aloadr_n dX9_melt_24 rfl ?_
        refine z_get (ci := 9) (r := (RX9, TX9, 38)) (j := 11) (v := .int ((σ 32) 11)) dX9_melt_25 (Nat.le_of_ble_eq_true rfl) (zN rfl) rfl rfl (Nat.le_of_ble_eq_true rfl) fl_X9_131 rfl ?_
        refine z_icmp_ge (tgt := 64) dX9_melt_28 (by decide) (fun c_4 => ?_) (fun c_4 => ?_)
        · refine z_iconst dX9_melt_64 k_iconst_0 ?_
          refine z_istore_n (lv' := [some (.ref 32), some (.int a1), some (.int a2), some (.int (0 : Int32))]) dX9_melt_65 (Nat.le_of_ble_eq_true rfl) rfl ?_
          refine lpX9_melt_66 P σ a1 a2 ((((σ 32) 11)).toNatClampNeg) (((((W_.2 c_1).2 c_2).2 c_3).2.1 c_4).1).1 (((((W_.2 c_1).2 c_2).2 c_3).2.1 c_4).1).2 ?_
          show zz G mX9_melt 1 0 0 Q_ 106 [some (.ref 32), some (.int a1), none, none] [] (hh P (zfor (fX9_melt_66 a1 a2) ((((σ 32) 11)).toNatClampNeg) σ)) 0 0
          refine z_aloadr_n dX9_melt_106 rfl ?_
          refine z_iload_n dX9_melt_107 rfl ?_
          refine z_callV (ci := 9) (r := (RX9, TX9, 38)) (b := 32) (As := [.int a1]) (rest := []) (ctX9_keptBy P (zfor (fX9_melt_66 a1 a2) ((((σ 32) 11)).toNatClampNeg) σ) a1 (((((W_.2 c_1).2 c_2).2 c_3).2.1 c_4).2)) dX9_melt_108 lk_X9_208 lv_X9_keptBy (Nat.le_of_ble_eq_true rfl) (zN rfl) rfl rfl rfl rfl (Nat.le_of_ble_eq_true rfl) (Nat.le_of_ble_eq_true rfl) (Nat.le_of_ble_eq_true rfl) (Nat.le_of_ble_eq_true rfl) (fun r_ h_ e_ => ?_)
          obtain ⟨e1_, e2_⟩ := e_
          subst e1_
          subst e2_
          show zz G mX9_melt 1 0 0 Q_ 111 [some (.ref 32), some (.int a1), none, none] [.int (rX9_keptBy (zfor (fX9_melt_66 a1 a2) ((((σ 32) 11)).toNatClampNeg) σ) a1)] (hh P (zfor (fX9_melt_66 a1 a2) ((((σ 32) 11)).toNatClampNeg) σ)) 0 0
          exact z_ireturn dX9_melt_111 rfl rfl (Nat.le_of_ble_eq_true rfl) (Nat.le_of_ble_eq_true rfl) (by rw [← hQ_]; exact ⟨(by rw [rX9_melt]; try simp only [if_neg c_1, if_neg c_2, if_neg c_3, if_pos c_4]), (by rw [sX9_melt]; try simp only [if_neg c_1, if_neg c_2, if_neg c_3, if_pos c_4])⟩)
        · refine z_aloadr_n dX9_melt_31 rfl ?_
          refine z_get (ci := 9) (r := (RX9, TX9, 38)) (j := 9) (v := .ref 42) dX9_melt_32 (Nat.le_of_ble_eq_true rfl) (zN rfl) rfl rfl (Nat.le_of_ble_eq_true rfl) fl_X9_38 rfl ?_
          refine z_iload_n dX9_melt_35 rfl ?_
          refine z_iald (v := ((σ 42) (wX9_melt_23 σ a1 a2 (0 : Int32)).toNatClampNeg)) dX9_melt_36 (zN rfl) rfl (((((W_.2 c_1).2 c_2).2 c_3).2.2 c_4).1) rfl ?_
          refine z_iload_n dX9_melt_37 rfl ?_
          refine z_icmp_ne (tgt := 58) dX9_melt_38 (by decide) (fun c_5 => ?_) (fun c_5 => ?_)
          · refine z_iinc (v := ((wX9_melt_23 σ a1 a2 (0 : Int32)) + (1 : Int32))) (lv' := [some (.ref 32), some (.int a1), some (.int a2), some (.int ((wX9_melt_23 σ a1 a2 (0 : Int32)) + (1 : Int32)))]) dX9_melt_58 (Nat.le_of_ble_eq_true rfl) rfl (by rw [k_iconst_1]) rfl ?_
            refine z_goto (tgt := 23) dX9_melt_61 (by decide) ?_
            exact (ex_r (ex_r hX23_ c_4) c_5).elim
          · refine z_aloadr_n dX9_melt_41 rfl ?_
            refine z_iload_n dX9_melt_42 rfl ?_
            refine z_aloadr_n dX9_melt_43 rfl ?_
            refine z_get (ci := 9) (r := (RX9, TX9, 38)) (j := 10) (v := .ref 43) dX9_melt_44 (Nat.le_of_ble_eq_true rfl) (zN rfl) rfl rfl (Nat.le_of_ble_eq_true rfl) fl_X9_41 rfl ?_
            refine z_iload_n dX9_melt_47 rfl ?_
            refine z_iald (v := ((σ 43) (wX9_melt_23 σ a1 a2 (0 : Int32)).toNatClampNeg)) dX9_melt_48 (zN rfl) rfl ((((((W_.2 c_1).2 c_2).2 c_3).2.2 c_4).2.1 c_5).1) rfl ?_
            refine z_callV (ci := 9) (r := (RX9, TX9, 38)) (b := 32) (As := [.int a1, .int ((σ 43) (wX9_melt_23 σ a1 a2 (0 : Int32)).toNatClampNeg)]) (rest := []) (ctX9_printOf P σ a1 ((σ 43) (wX9_melt_23 σ a1 a2 (0 : Int32)).toNatClampNeg) ((((((W_.2 c_1).2 c_2).2 c_3).2.2 c_4).2.1 c_5).2)) dX9_melt_49 lk_X9_205 lv_X9_printOf (Nat.le_of_ble_eq_true rfl) (zN rfl) rfl rfl rfl rfl (Nat.le_of_ble_eq_true rfl) (Nat.le_of_ble_eq_true rfl) (Nat.le_of_ble_eq_true rfl) (Nat.le_of_ble_eq_true rfl) (fun r_ h_ e_ => ?_)
            obtain ⟨e1_, e2_⟩ := e_
            subst e1_
            subst e2_
            show zz G mX9_melt 1 0 0 Q_ 52 [some (.ref 32), some (.int a1), some (.int a2), some (.int (wX9_melt_23 σ a1 a2 (0 : Int32)))] [.int (rX9_printOf σ a1 ((σ 43) (wX9_melt_23 σ a1 a2 (0 : Int32)).toNatClampNeg))] (hh P σ) 0 0
            refine z_if_lt (tgt := 58) dX9_melt_52 (by decide) (fun c_6 => ?_) (fun c_6 => ?_)
            · refine z_iinc (v := ((wX9_melt_23 σ a1 a2 (0 : Int32)) + (1 : Int32))) (lv' := [some (.ref 32), some (.int a1), some (.int a2), some (.int ((wX9_melt_23 σ a1 a2 (0 : Int32)) + (1 : Int32)))]) dX9_melt_58 (Nat.le_of_ble_eq_true rfl) rfl (by rw [k_iconst_1]) rfl ?_
              refine z_goto (tgt := 23) dX9_melt_61 (by decide) ?_
              exact (ex_l (ex_l (ex_r hX23_ c_4) c_5) c_6).elim
            · refine z_bipush dX9_melt_55 k_bipush_m3 ?_
              exact z_ireturn dX9_melt_57 rfl rfl (Nat.le_of_ble_eq_true rfl) (Nat.le_of_ble_eq_true rfl) (by rw [← hQ_]; exact ⟨(by rw [rX9_melt]; try simp only [if_neg c_1, if_neg c_2, if_neg c_3, if_neg c_4, if_pos c_5, if_neg c_6]), (by rw [sX9_melt]; try simp only [if_neg c_1, if_neg c_2, if_neg c_3, if_neg c_4, if_pos c_5, if_neg c_6])⟩)
      · refine z_iconst dX9_melt_19 k_iconst_m1 ?_
        exact z_ireturn dX9_melt_20 rfl rfl (Nat.le_of_ble_eq_true rfl) (Nat.le_of_ble_eq_true rfl) (by rw [← hQ_]; exact ⟨(by rw [rX9_melt]; try simp only [if_neg c_1, if_neg c_2, if_pos c_3]), (by rw [sX9_melt]; try simp only [if_neg c_1, if_neg c_2, if_pos c_3])⟩)
