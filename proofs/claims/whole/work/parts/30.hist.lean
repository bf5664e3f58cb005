/-! ===== wip/whole/p30.py: the latest print of a tool (by hand), and what stands on it (printed) ===== -/
noncomputable def nwf (σ : zc_N) (t : Int32) (k : Nat) (o : Option Nat) : Option Nat := if σ (pO k) 3 = t then (match o with | none => some k | some j => if σ (pO k) 4 ≤ σ (pO j) 4 then some j else some k) else o
noncomputable def nwo (P : zp) (σ : zc_N) (t : Int32) : Option Nat := zfor (nwf σ t) P.2.1 none
theorem nwf_lt (σ : zc_N) (t : Int32) : ∀ (n j : Nat), zfor (nwf σ t) n none = some j → j < n
  | 0, j, h => by cases h
  | n + 1, j, h => by
    have ih := nwf_lt σ t n
    have h : nwf σ t n (zfor (nwf σ t) n none) = some j := h
    generalize zfor (nwf σ t) n none = g at ih h
    unfold nwf at h
    split at h
    · cases g with
      | none => cases h; exact Nat.lt_succ_self n
      | some i =>
        dsimp only at h
        split at h
        · rw [← Option.some.inj h]; exact Nat.lt_succ_of_lt (ih i rfl)
        · cases h; exact Nat.lt_succ_self n
    · exact Nat.lt_succ_of_lt (ih j h)
def pX8_newestOf (P : zp) (σ : zc_N) : Prop := σ 3 3 = nI P.2.1 ∧ P.2.1 ≤ 24
theorem ctX8_newestOf (P : zp) (σ : zc_N) (a1 : Int32) (W_ : pX8_newestOf P σ) : sp mX8_newestOf 0 0 0 [.ref 3, .int a1] (hh P σ) (fun r_ h_ => r_ = some (va_rf (Option.map pO (nwo P σ a1))) ∧ h_ = hh P σ) := by
  refine sp_of (lv := [some (.ref 3), some (.int a1), none, none]) (by decide) (zcats_ok _ rfl) (Nat.le_of_ble_eq_true rfl) (zlv_ok _ 2 rfl) (fun G => ?_)
  generalize hQ_ : (fun (r_ : Option Value) (h_ : zc_H) => r_ = some (va_rf (Option.map pO (nwo P σ a1))) ∧ h_ = hh P σ) = Q_
  obtain ⟨hm, h24⟩ := W_
  refine sgX8_newestOf_n_0 P σ a1 ?_
  refine zfor_nI (fun i a => zz G mX8_newestOf 0 0 0 Q_ 4 [some (.ref 3), some (.int a1), some (va_rf (Option.map pO a)), some (.int i)] [] (hh P σ) 0 0) (nwf σ a1) P.2.1 none (fun i hi k => ?_) ?_
  · have hlt := fun j (e : zfor (nwf σ a1) i none = some j) => Nat.lt_trans (nwf_lt σ a1 i j e) hi
    generalize zfor (nwf σ a1) i none = g at k hlt ⊢
    have hc : (nI i).toNatClampNeg = i := nI_clamp (by omega)
    have hb : vp_in (nI i) 24 ∧ (nI i).toNatClampNeg < P.2.1 := ⟨vp_in_nI (by omega) (by decide), by rw [hc]; exact hi⟩
    have hne : ¬ σ 3 3 ≤ nI i := by rw [hm]; exact nI_ge hi (by omega)
    cases g with
    | none =>
      refine sgX8_newestOf_n_4 P σ a1 (nI i) ⟨fun h => absurd h hne, fun _ => ⟨hb, fun h => ⟨hb, ?_⟩, fun h => ?_⟩⟩
      · rw [nI_1]
        rw [hc] at h ⊢
        unfold nwf at k
        rw [if_pos h] at k
        exact k
      · rw [nI_1]
        rw [hc] at h
        unfold nwf at k
        rw [if_neg h] at k
        exact k
    | some j =>
      refine sgX8_newestOf_p_4 P σ j (hlt j rfl) a1 (nI i) ⟨fun h => absurd h hne, fun _ => ⟨hb, fun h => ⟨hb, fun h2 => ?_, fun h2 => ⟨hb, ?_⟩⟩, fun h => ?_⟩⟩
      · rw [nI_1]
        rw [hc] at h h2
        unfold nwf at k
        rw [if_pos h] at k
        dsimp only at k
        rw [if_pos h2] at k
        exact k
      · rw [nI_1]
        rw [hc] at h h2 ⊢
        unfold nwf at k
        rw [if_pos h] at k
        dsimp only at k
        rw [if_neg h2] at k
        exact k
      · rw [nI_1]
        rw [hc] at h
        unfold nwf at k
        rw [if_neg h] at k
        exact k
  · have hlt := nwf_lt σ a1 P.2.1
    have hle : σ 3 3 ≤ nI P.2.1 := by rw [hm]; exact Int32.le_refl _
    cases hg : zfor (nwf σ a1) P.2.1 none with
    | none => exact sgX8_newestOf_n_4 P σ a1 (nI P.2.1) ⟨fun _ => by rw [← hQ_]; exact ⟨by rw [nwo, hg]; rfl, rfl⟩, fun h => absurd hle h⟩
    | some j => exact sgX8_newestOf_p_4 P σ j (hlt j hg) a1 (nI P.2.1) ⟨fun _ => by rw [← hQ_]; exact ⟨by rw [nwo, hg]; rfl, rfl⟩, fun h => absurd hle h⟩
theorem zopt {x : Option Nat} (h : ¬ x = none) : Option.map pO x = some (pO (x.getD 0)) := by
  cases x with
  | none => exact absurd rfl h
  | some a => rfl
theorem nwo_lt (P : zp) (σ : zc_N) (t : Int32) (h : ¬ nwo P σ t = none) : (nwo P σ t).getD 0 < P.2.1 := by
  cases hx : nwo P σ t with
  | none => exact absurd hx h
  | some j => exact nwf_lt σ t P.2.1 j hx
section ZNULLM
variable {G : zc_G} {mi : zc_M} {d mc ms : Nat} {Q : Option Value → zc_H → Prop} {pc : Nat} {lv : List (Option Value)} {st : List Value} {h : zc_H} {ka na : Nat}
theorem z_ifnullm {x : Option Nat} {off : Int} {tgt : Nat} (hd : decode mi.2.1 pc = .ok (.ifnull off, 3)) (ht : (pc : Int) + off = (tgt : Int)) (kt : x = none → zz G mi d mc ms Q tgt lv st h ka na) (kf : ¬ x = none → zz G mi d mc ms Q (pc + 3) lv st h ka na) : zz G mi d mc ms Q pc lv (va_rf (Option.map pO x) :: st) h ka na :=
  z_ifnull hd ht (fun e => kt (by cases x with | none => rfl | some a => cases e)) (fun e => kf (fun hx => e (by rw [hx]; rfl)))
theorem z_ifnonnullm {x : Option Nat} {off : Int} {tgt : Nat} (hd : decode mi.2.1 pc = .ok (.ifnonnull off, 3)) (ht : (pc : Int) + off = (tgt : Int)) (kt : ¬ x = none → zz G mi d mc ms Q tgt lv st h ka na) (kf : x = none → zz G mi d mc ms Q (pc + 3) lv st h ka na) : zz G mi d mc ms Q pc lv (va_rf (Option.map pO x) :: st) h ka na :=
  z_ifnonnull hd ht (fun e => kt (fun hx => e (by rw [hx]; rfl))) (fun e => kf (by cases x with | none => rfl | some a => cases e))
end ZNULLM

theorem dX8_readHistory_30 : decode cX8_readHistory 30 = .ok (.iload_n 3, 1) := by decide +kernel
theorem dX8_readHistory_31 : decode cX8_readHistory 31 = .ok (.aload_n 0, 1) := by decide +kernel
theorem dX8_readHistory_32 : decode cX8_readHistory 32 = .ok (.getfield 26, 3) := by decide +kernel
theorem dX8_readHistory_35 : decode cX8_readHistory 35 = .ok (.if_icmp .ge 77, 3) := by decide +kernel
theorem dX8_readHistory_38 : decode cX8_readHistory 38 = .ok (.aload_n 0, 1) := by decide +kernel
theorem dX8_readHistory_39 : decode cX8_readHistory 39 = .ok (.getfield 22, 3) := by decide +kernel
theorem dX8_readHistory_42 : decode cX8_readHistory 42 = .ok (.iload_n 3, 1) := by decide +kernel
theorem dX8_readHistory_43 : decode cX8_readHistory 43 = .ok (.aaload, 1) := by decide +kernel
theorem dX8_readHistory_44 : decode cX8_readHistory 44 = .ok (.getfield 175, 3) := by decide +kernel
theorem dX8_readHistory_47 : decode cX8_readHistory 47 = .ok (.iload_n 1, 1) := by decide +kernel
theorem dX8_readHistory_48 : decode cX8_readHistory 48 = .ok (.if_icmp .ne 58, 3) := by decide +kernel
theorem dX8_readHistory_51 : decode cX8_readHistory 51 = .ok (.aload_n 0, 1) := by decide +kernel
theorem dX8_readHistory_52 : decode cX8_readHistory 52 = .ok (.getfield 22, 3) := by decide +kernel
theorem dX8_readHistory_55 : decode cX8_readHistory 55 = .ok (.iload_n 3, 1) := by decide +kernel
theorem dX8_readHistory_56 : decode cX8_readHistory 56 = .ok (.aaload, 1) := by decide +kernel
theorem dX8_readHistory_57 : decode cX8_readHistory 57 = .ok (.aload_n 2, 1) := by decide +kernel
theorem dX8_readHistory_58 : decode cX8_readHistory 58 = .ok (.if_acmp .eq 48, 3) := by decide +kernel
theorem dX8_readHistory_61 : decode cX8_readHistory 61 = .ok (.aload_n 0, 1) := by decide +kernel
theorem dX8_readHistory_62 : decode cX8_readHistory 62 = .ok (.getfield 33, 3) := by decide +kernel
theorem dX8_readHistory_65 : decode cX8_readHistory 65 = .ok (.aload_n 2, 1) := by decide +kernel
theorem dX8_readHistory_66 : decode cX8_readHistory 66 = .ok (.aload_n 0, 1) := by decide +kernel
theorem dX8_readHistory_67 : decode cX8_readHistory 67 = .ok (.getfield 22, 3) := by decide +kernel
theorem dX8_readHistory_70 : decode cX8_readHistory 70 = .ok (.iload_n 3, 1) := by decide +kernel
theorem dX8_readHistory_71 : decode cX8_readHistory 71 = .ok (.aaload, 1) := by decide +kernel
theorem dX8_readHistory_72 : decode cX8_readHistory 72 = .ok (.aload_n 0, 1) := by decide +kernel
theorem dX8_readHistory_73 : decode cX8_readHistory 73 = .ok (.getfield 48, 3) := by decide +kernel
theorem dX8_readHistory_76 : decode cX8_readHistory 76 = .ok (.invokevirtual 147, 3) := by decide +kernel
theorem dX8_readHistory_79 : decode cX8_readHistory 79 = .ok (.aload_n 0, 1) := by decide +kernel
theorem dX8_readHistory_80 : decode cX8_readHistory 80 = .ok (.getfield 54, 3) := by decide +kernel
theorem dX8_readHistory_83 : decode cX8_readHistory 83 = .ok (.aload_n 0, 1) := by decide +kernel
theorem dX8_readHistory_84 : decode cX8_readHistory 84 = .ok (.getfield 22, 3) := by decide +kernel
theorem dX8_readHistory_87 : decode cX8_readHistory 87 = .ok (.iload_n 3, 1) := by decide +kernel
theorem dX8_readHistory_88 : decode cX8_readHistory 88 = .ok (.aaload, 1) := by decide +kernel
theorem dX8_readHistory_89 : decode cX8_readHistory 89 = .ok (.aload_n 0, 1) := by decide +kernel
theorem dX8_readHistory_90 : decode cX8_readHistory 90 = .ok (.getfield 48, 3) := by decide +kernel
theorem dX8_readHistory_93 : decode cX8_readHistory 93 = .ok (.getfield 216, 3) := by decide +kernel
theorem dX8_readHistory_96 : decode cX8_readHistory 96 = .ok (.aload_n 0, 1) := by decide +kernel
theorem dX8_readHistory_97 : decode cX8_readHistory 97 = .ok (.getfield 48, 3) := by decide +kernel
theorem dX8_readHistory_100 : decode cX8_readHistory 100 = .ok (.invokevirtual 222, 3) := by decide +kernel
theorem dX8_readHistory_103 : decode cX8_readHistory 103 = .ok (.invokevirtual 234, 3) := by decide +kernel
theorem dX8_readHistory_106 : decode cX8_readHistory 106 = .ok (.iinc 3 1, 3) := by decide +kernel
theorem dX8_readHistory_109 : decode cX8_readHistory 109 = .ok (.goto (-79), 3) := by decide +kernel
theorem dX8_readHistory_112 : decode cX8_readHistory 112 = .ok (.aload_n 0, 1) := by decide +kernel
theorem dX8_readHistory_113 : decode cX8_readHistory 113 = .ok (.getfield 54, 3) := by decide +kernel
theorem dX8_readHistory_116 : decode cX8_readHistory 116 = .ok (.aload_n 2, 1) := by decide +kernel
theorem dX8_readHistory_117 : decode cX8_readHistory 117 = .ok (.sipush 4095, 3) := by decide +kernel
theorem dX8_readHistory_120 : decode cX8_readHistory 120 = .ok (.iconst 0, 1) := by decide +kernel
theorem dX8_readHistory_121 : decode cX8_readHistory 121 = .ok (.invokevirtual 234, 3) := by decide +kernel
theorem dX8_readHistory_124 : decode cX8_readHistory 124 = .ok (.aload_n 0, 1) := by decide +kernel
theorem dX8_readHistory_125 : decode cX8_readHistory 125 = .ok (.getfield 54, 3) := by decide +kernel
theorem dX8_readHistory_128 : decode cX8_readHistory 128 = .ok (.invokevirtual 238, 3) := by decide +kernel
theorem dX8_readHistory_131 : decode cX8_readHistory 131 = .ok (.iconst 1, 1) := by decide +kernel
noncomputable def vX8_readHistory_1 (P : zp) (i9 : Nat) (l3 : Int32) (σ : zc_N) : zc_N := (sX2_hear (sX4_layBest_t P σ i9 l3.toNatClampNeg) l3.toNatClampNeg (((sX4_layBest_t P σ i9 l3.toNatClampNeg) 25) 7) (rX3_lacking_t (sX4_layBest_t P σ i9 l3.toNatClampNeg)))
noncomputable def fX8_readHistory_30 (P : zp) (i9 : Nat) (l1 : Int32) (i_ : Nat) (a_ : zc_N) : zc_N := (if ((a_ (pO (nI i_).toNatClampNeg)) 3) = l1 then (if (some (pO (nI i_).toNatClampNeg)) = (some (pO i9)) then a_ else (vX8_readHistory_1 P i9 (nI i_) a_)) else a_)
def qX8_readHistory_30 (P : zp) (i9 : Nat) (l1 : Int32) (i_ : Nat) (a_ : zc_N) : Prop := ((vp_in (nI i_) 24 ∧ (nI i_).toNatClampNeg < P.2.1) ∧ ((((a_ (pO (nI i_).toNatClampNeg)) 3) = l1 → ((vp_in (nI i_) 24 ∧ (nI i_).toNatClampNeg < P.2.1) ∧ (((some (pO (nI i_).toNatClampNeg)) = (some (pO i9)) → True) ∧ (¬ (some (pO (nI i_).toNatClampNeg)) = (some (pO i9)) → ((vp_in (nI i_) 24 ∧ (nI i_).toNatClampNeg < P.2.1) ∧ ((pX4_layBest_t P a_ i9 (nI i_).toNatClampNeg) ∧ ((vp_in (nI i_) 24 ∧ (nI i_).toNatClampNeg < P.2.1) ∧ (pX2_hear (sX4_layBest_t P a_ i9 (nI i_).toNatClampNeg))))))))) ∧ (¬ ((a_ (pO (nI i_).toNatClampNeg)) 3) = l1 → True)))
set_option maxHeartbeats 2000000 in
theorem lpX8_readHistory_30 {G : zc_G} {Q : Option Value → zc_H → Prop} (P : zp) (σ : zc_N) (i9 : Nat) (h9 : i9 < P.2.1) (l1 : Int32) (n_ : Nat) (hC_ : ∀ i30_ : Nat, i30_ ≤ n_ → ((((zfor (fX8_readHistory_30 P i9 l1) i30_ σ) 3) 3) ≤ (nI i30_) ↔ n_ ≤ i30_)) (W1_ : ∀ i30_ : Nat, i30_ < n_ → qX8_readHistory_30 P i9 l1 i30_ (zfor (fX8_readHistory_30 P i9 l1) i30_ σ))
    (W2_ : zz G mX8_readHistory 19 0 0 Q 112 [some (.ref 3), none, some (.ref (pO i9)), none] [] (hh P (zfor (fX8_readHistory_30 P i9 l1) n_ σ)) 0 0) :
    zz G mX8_readHistory 19 0 0 Q 30 [some (.ref 3), some (.int l1), some (.ref (pO i9)), some (.int (nI 0))] [] (hh P σ) 0 0 := by
  refine zfor_nI (fun i_ a_ => zz G mX8_readHistory 19 0 0 Q 30 [some (.ref 3), some (.int l1), some (.ref (pO i9)), some (.int i_)] [] (hh P a_) 0 0) (fX8_readHistory_30 P i9 l1) n_ σ (fun i_ hi_ k_ => ?_) ?_
  · have W3_ := W1_ i_ hi_
    have hD_ := hC_ i_ (Nat.le_of_lt hi_)
    generalize zfor (fX8_readHistory_30 P i9 l1) i_ σ = g_ at k_ W3_ hD_ ⊢
    rw [fX8_readHistory_30] at k_
    rw [qX8_readHistory_30] at W3_
    try dsimp only at W3_
    refine z_iload_n dX8_readHistory_30 rfl ?_
    refine z_aloadr_n dX8_readHistory_31 rfl ?_
    refine z_get (ci := 8) (r := (RX8, TX8, 12)) (j := 3) (v := .int ((g_ 3) 3)) dX8_readHistory_32 (Nat.le_of_ble_eq_true rfl) (zN rfl) rfl rfl (Nat.le_of_ble_eq_true rfl) fl_X8_26 rfl ?_
    refine z_icmp_ge (tgt := 112) dX8_readHistory_35 (by decide) (fun c_ => absurd c_ (fun q_ => Nat.not_le_of_lt hi_ (hD_.mp q_))) (fun c_ => ?_)
    refine z_aloadr_n dX8_readHistory_38 rfl ?_
    refine z_get (ci := 8) (r := (RX8, TX8, 12)) (j := 2) (v := .ref 9) dX8_readHistory_39 (Nat.le_of_ble_eq_true rfl) (zN rfl) rfl rfl (Nat.le_of_ble_eq_true rfl) fl_X8_22 rfl ?_
    refine z_iload_n dX8_readHistory_42 rfl ?_
    have hp_2 := W3_.1.2
    refine z_aald (r := some (pO ((nI i_).toNatClampNeg))) dX8_readHistory_43 (Nat.le_of_ble_eq_true rfl) (zN rfl) rfl W3_.1.1 (if_pos W3_.1.2) ?_
    refine z_get (ci := 7) (r := (RX7, TX7, 5)) (j := 3) (v := .int ((g_ (pO ((nI i_).toNatClampNeg))) 3)) dX8_readHistory_44 (z3O ((nI i_).toNatClampNeg)) (zNO hp_2) (SH_pO P ((nI i_).toNatClampNeg)) rfl (Nat.le_of_ble_eq_true rfl) fl_X8_175 rfl ?_
    refine z_iload_n dX8_readHistory_47 rfl ?_
    refine z_icmp_ne (tgt := 106) dX8_readHistory_48 (by decide) (fun c_3 => ?_) (fun c_3 => ?_)
    · refine z_iinc (v := ((nI i_) + (1 : Int32))) (lv' := [some (.ref 3), some (.int l1), some (.ref (pO i9)), some (.int ((nI i_) + (1 : Int32)))]) dX8_readHistory_106 (Nat.le_of_ble_eq_true rfl) rfl (by rw [k_iconst_1]) rfl ?_
      refine z_goto (tgt := 30) dX8_readHistory_109 (by decide) ?_
      rw [nI_1]
      simpa only [if_neg c_3] using k_
    · refine z_aloadr_n dX8_readHistory_51 rfl ?_
      refine z_get (ci := 8) (r := (RX8, TX8, 12)) (j := 2) (v := .ref 9) dX8_readHistory_52 (Nat.le_of_ble_eq_true rfl) (zN rfl) rfl rfl (Nat.le_of_ble_eq_true rfl) fl_X8_22 rfl ?_
      refine z_iload_n dX8_readHistory_55 rfl ?_
      have hp_4 := ((W3_.2.1 c_3).1).2
      refine z_aald (r := some (pO ((nI i_).toNatClampNeg))) dX8_readHistory_56 (Nat.le_of_ble_eq_true rfl) (zN rfl) rfl ((W3_.2.1 c_3).1).1 (if_pos ((W3_.2.1 c_3).1).2) ?_
      refine z_aloadr_n dX8_readHistory_57 rfl ?_
      refine z_acmp_eq (r := some (pO ((nI i_).toNatClampNeg))) (q := some (pO i9)) (tgt := 106) dX8_readHistory_58 (by decide) (fun a_ q_ => by cases q_; exact (z3O ((nI i_).toNatClampNeg))) (fun a_ q_ => by cases q_; exact (z3O i9)) (fun c_5 => ?_) (fun c_5 => ?_)
      · refine z_iinc (v := ((nI i_) + (1 : Int32))) (lv' := [some (.ref 3), some (.int l1), some (.ref (pO i9)), some (.int ((nI i_) + (1 : Int32)))]) dX8_readHistory_106 (Nat.le_of_ble_eq_true rfl) rfl (by rw [k_iconst_1]) rfl ?_
        refine z_goto (tgt := 30) dX8_readHistory_109 (by decide) ?_
        rw [nI_1]
        simpa only [if_pos c_3, if_pos c_5] using k_
      · refine z_aloadr_n dX8_readHistory_61 rfl ?_
        refine z_get (ci := 8) (r := (RX8, TX8, 12)) (j := 4) (v := .ref 10) dX8_readHistory_62 (Nat.le_of_ble_eq_true rfl) (zN rfl) rfl rfl (Nat.le_of_ble_eq_true rfl) fl_X8_33 rfl ?_
        refine z_aloadr_n dX8_readHistory_65 rfl ?_
        refine z_aloadr_n dX8_readHistory_66 rfl ?_
        refine z_get (ci := 8) (r := (RX8, TX8, 12)) (j := 2) (v := .ref 9) dX8_readHistory_67 (Nat.le_of_ble_eq_true rfl) (zN rfl) rfl rfl (Nat.le_of_ble_eq_true rfl) fl_X8_22 rfl ?_
        refine z_iload_n dX8_readHistory_70 rfl ?_
        have hp_6 := (((W3_.2.1 c_3).2.2 c_5).1).2
        refine z_aald (r := some (pO ((nI i_).toNatClampNeg))) dX8_readHistory_71 (Nat.le_of_ble_eq_true rfl) (zN rfl) rfl (((W3_.2.1 c_3).2.2 c_5).1).1 (if_pos (((W3_.2.1 c_3).2.2 c_5).1).2) ?_
        refine z_aloadr_n dX8_readHistory_72 rfl ?_
        refine z_get (ci := 8) (r := (RX8, TX8, 12)) (j := 7) (v := .ref 25) dX8_readHistory_73 (Nat.le_of_ble_eq_true rfl) (zN rfl) rfl rfl (Nat.le_of_ble_eq_true rfl) fl_X8_48 rfl ?_
        refine z_callV (ci := 4) (r := (RX4, TX4, 10)) (b := 10) (As := [.ref (pO i9), .ref (pO ((nI i_).toNatClampNeg)), .ref 25]) (rest := []) (ctX4_layBest_t P g_ i9 h9 ((nI i_).toNatClampNeg) hp_6 (((W3_.2.1 c_3).2.2 c_5).2.1)) dX8_readHistory_76 lk_X8_147 lv_X4_layBest (Nat.le_of_ble_eq_true rfl) (zN rfl) rfl rfl rfl rfl (Nat.le_of_ble_eq_true rfl) (Nat.le_of_ble_eq_true rfl) (Nat.le_of_ble_eq_true rfl) (Nat.le_of_ble_eq_true rfl) (fun r_ h_ e_ => ?_)
        obtain ⟨e1_, e2_⟩ := e_
        subst e1_
        subst e2_
        show zz G mX8_readHistory 19 0 0 Q 79 [some (.ref 3), some (.int l1), some (.ref (pO i9)), some (.int (nI i_))] [] (hh P (sX4_layBest_t P g_ i9 ((nI i_).toNatClampNeg))) 0 0
        refine z_aloadr_n dX8_readHistory_79 rfl ?_
        refine z_get (ci := 8) (r := (RX8, TX8, 12)) (j := 8) (v := .ref 27) dX8_readHistory_80 (Nat.le_of_ble_eq_true rfl) (zN rfl) rfl rfl (Nat.le_of_ble_eq_true rfl) fl_X8_54 rfl ?_
        refine z_aloadr_n dX8_readHistory_83 rfl ?_
        refine z_get (ci := 8) (r := (RX8, TX8, 12)) (j := 2) (v := .ref 9) dX8_readHistory_84 (Nat.le_of_ble_eq_true rfl) (zN rfl) rfl rfl (Nat.le_of_ble_eq_true rfl) fl_X8_22 rfl ?_
        refine z_iload_n dX8_readHistory_87 rfl ?_
        have hp_7 := (((W3_.2.1 c_3).2.2 c_5).2.2.1).2
        refine z_aald (r := some (pO ((nI i_).toNatClampNeg))) dX8_readHistory_88 (Nat.le_of_ble_eq_true rfl) (zN rfl) rfl (((W3_.2.1 c_3).2.2 c_5).2.2.1).1 (if_pos (((W3_.2.1 c_3).2.2 c_5).2.2.1).2) ?_
        refine z_aloadr_n dX8_readHistory_89 rfl ?_
        refine z_get (ci := 8) (r := (RX8, TX8, 12)) (j := 7) (v := .ref 25) dX8_readHistory_90 (Nat.le_of_ble_eq_true rfl) (zN rfl) rfl rfl (Nat.le_of_ble_eq_true rfl) fl_X8_48 rfl ?_
        refine z_get (ci := 3) (r := (RX3, TX3, 10)) (j := 7) (v := .int (((sX4_layBest_t P g_ i9 ((nI i_).toNatClampNeg)) 25) 7)) dX8_readHistory_93 (Nat.le_of_ble_eq_true rfl) (zN rfl) rfl rfl (Nat.le_of_ble_eq_true rfl) fl_X8_216 rfl ?_
        refine z_aloadr_n dX8_readHistory_96 rfl ?_
        refine z_get (ci := 8) (r := (RX8, TX8, 12)) (j := 7) (v := .ref 25) dX8_readHistory_97 (Nat.le_of_ble_eq_true rfl) (zN rfl) rfl rfl (Nat.le_of_ble_eq_true rfl) fl_X8_48 rfl ?_
        refine z_callV (ci := 3) (r := (RX3, TX3, 10)) (b := 25) (As := []) (rest := [.int (((sX4_layBest_t P g_ i9 ((nI i_).toNatClampNeg)) 25) 7), .ref (pO ((nI i_).toNatClampNeg)), .ref 27]) (ctX3_lacking_t P (sX4_layBest_t P g_ i9 ((nI i_).toNatClampNeg))) dX8_readHistory_100 lk_X8_222 lv_X3_lacking (Nat.le_of_ble_eq_true rfl) (zN rfl) rfl rfl rfl rfl (Nat.le_of_ble_eq_true rfl) (Nat.le_of_ble_eq_true rfl) (Nat.le_of_ble_eq_true rfl) (Nat.le_of_ble_eq_true rfl) (fun r_ h_ e_ => ?_)
        obtain ⟨e1_, e2_⟩ := e_
        subst e1_
        subst e2_
        show zz G mX8_readHistory 19 0 0 Q 103 [some (.ref 3), some (.int l1), some (.ref (pO i9)), some (.int (nI i_))] [.int (rX3_lacking_t (sX4_layBest_t P g_ i9 ((nI i_).toNatClampNeg))), .int (((sX4_layBest_t P g_ i9 ((nI i_).toNatClampNeg)) 25) 7), .ref (pO ((nI i_).toNatClampNeg)), .ref 27] (hh P (sX4_layBest_t P g_ i9 ((nI i_).toNatClampNeg))) 0 0
        refine z_callV (ci := 2) (r := (RX2, TX2, 6)) (b := 27) (As := [.ref (pO ((nI i_).toNatClampNeg)), .int (((sX4_layBest_t P g_ i9 ((nI i_).toNatClampNeg)) 25) 7), .int (rX3_lacking_t (sX4_layBest_t P g_ i9 ((nI i_).toNatClampNeg)))]) (rest := []) (ctX2_hear P (sX4_layBest_t P g_ i9 ((nI i_).toNatClampNeg)) ((nI i_).toNatClampNeg) hp_7 (((sX4_layBest_t P g_ i9 ((nI i_).toNatClampNeg)) 25) 7) (rX3_lacking_t (sX4_layBest_t P g_ i9 ((nI i_).toNatClampNeg))) (((W3_.2.1 c_3).2.2 c_5).2.2.2)) dX8_readHistory_103 lk_X8_234 lv_X2_hear (Nat.le_of_ble_eq_true rfl) (zN rfl) rfl rfl rfl rfl (Nat.le_of_ble_eq_true rfl) (Nat.le_of_ble_eq_true rfl) (Nat.le_of_ble_eq_true rfl) (Nat.le_of_ble_eq_true rfl) (fun r_ h_ e_ => ?_)
        obtain ⟨e1_, e2_⟩ := e_
        subst e1_
        subst e2_
        show zz G mX8_readHistory 19 0 0 Q 106 [some (.ref 3), some (.int l1), some (.ref (pO i9)), some (.int (nI i_))] [] (hh P (vX8_readHistory_1 P i9 (nI i_) g_)) 0 0
        refine z_iinc (v := ((nI i_) + (1 : Int32))) (lv' := [some (.ref 3), some (.int l1), some (.ref (pO i9)), some (.int ((nI i_) + (1 : Int32)))]) dX8_readHistory_106 (Nat.le_of_ble_eq_true rfl) rfl (by rw [k_iconst_1]) rfl ?_
        refine z_goto (tgt := 30) dX8_readHistory_109 (by decide) ?_
        rw [nI_1]
        simpa only [if_pos c_3, if_neg c_5] using k_
  · have hD_ := hC_ n_ (Nat.le_refl _)
    generalize zfor (fX8_readHistory_30 P i9 l1) n_ σ = g_ at W2_ hD_ ⊢
    refine z_iload_n dX8_readHistory_30 rfl ?_
    refine z_aloadr_n dX8_readHistory_31 rfl ?_
    refine z_get (ci := 8) (r := (RX8, TX8, 12)) (j := 3) (v := .int ((g_ 3) 3)) dX8_readHistory_32 (Nat.le_of_ble_eq_true rfl) (zN rfl) rfl rfl (Nat.le_of_ble_eq_true rfl) fl_X8_26 rfl ?_
    refine z_icmp_ge (tgt := 112) dX8_readHistory_35 (by decide) (fun c_ => ?_) (fun c_ => absurd (hD_.mpr (Nat.le_refl _)) c_)
    exact zz_sub (lv' := [some (.ref 3), none, some (.ref (pO i9)), none]) ⟨rfl, ⟨rfl, trivial⟩⟩ W2_

theorem dX8_readHistory_0 : decode cX8_readHistory 0 = .ok (.aload_n 0, 1) := by decide +kernel
theorem dX8_readHistory_1 : decode cX8_readHistory 1 = .ok (.iload_n 1, 1) := by decide +kernel
theorem dX8_readHistory_2 : decode cX8_readHistory 2 = .ok (.invokevirtual 213, 3) := by decide +kernel
theorem dX8_readHistory_5 : decode cX8_readHistory 5 = .ok (.astore_n 2, 1) := by decide +kernel
theorem dX8_readHistory_6 : decode cX8_readHistory 6 = .ok (.aload_n 2, 1) := by decide +kernel
theorem dX8_readHistory_7 : decode cX8_readHistory 7 = .ok (.ifnull 12, 3) := by decide +kernel
theorem dX8_readHistory_10 : decode cX8_readHistory 10 = .ok (.aload_n 0, 1) := by decide +kernel
theorem dX8_readHistory_11 : decode cX8_readHistory 11 = .ok (.iload_n 1, 1) := by decide +kernel
theorem dX8_readHistory_12 : decode cX8_readHistory 12 = .ok (.invokevirtual 185, 3) := by decide +kernel
theorem dX8_readHistory_15 : decode cX8_readHistory 15 = .ok (.iconst 2, 1) := by decide +kernel
theorem dX8_readHistory_16 : decode cX8_readHistory 16 = .ok (.if_icmp .ge 5, 3) := by decide +kernel
theorem dX8_readHistory_19 : decode cX8_readHistory 19 = .ok (.iconst 0, 1) := by decide +kernel
theorem dX8_readHistory_20 : decode cX8_readHistory 20 = .ok (.ireturn, 1) := by decide +kernel
theorem dX8_readHistory_21 : decode cX8_readHistory 21 = .ok (.aload_n 0, 1) := by decide +kernel
theorem dX8_readHistory_22 : decode cX8_readHistory 22 = .ok (.getfield 54, 3) := by decide +kernel
theorem dX8_readHistory_25 : decode cX8_readHistory 25 = .ok (.invokevirtual 231, 3) := by decide +kernel
theorem dX8_readHistory_28 : decode cX8_readHistory 28 = .ok (.iconst 0, 1) := by decide +kernel
theorem dX8_readHistory_29 : decode cX8_readHistory 29 = .ok (.istore_n 3, 1) := by decide +kernel
theorem dX8_readHistory_132 : decode cX8_readHistory 132 = .ok (.ireturn, 1) := by decide +kernel
noncomputable def vX8_readHistory_2 (P : zp) (a1 : Int32) (σ : zc_N) : zc_N := (zfor (fX8_readHistory_30 P ((nwo P σ a1).getD 0) a1) (((((sX2_clear σ) 3) 3)).toNatClampNeg) (sX2_clear σ))
noncomputable def vX8_readHistory_3 (P : zp) (a1 : Int32) (σ : zc_N) : zc_N := (sX2_dateFlaws (sX2_hear (vX8_readHistory_2 P a1 σ) ((nwo P σ a1).getD 0) (4095 : Int32) (0 : Int32)))
def pX8_readHistory (P : zp) (σ : zc_N) (a1 : Int32) : Prop := ((pX8_newestOf P σ) ∧ (((nwo P σ a1) = none → True) ∧ (¬ (nwo P σ a1) = none → (((nwo P σ a1).getD 0) < P.2.1 ∧ ((pX8_keptBy P σ a1) ∧ (((2 : Int32) ≤ (rX8_keptBy σ a1) → ((pX2_clear σ) ∧ (((∀ i30_ : Nat, i30_ ≤ (((((sX2_clear σ) 3) 3)).toNatClampNeg) → ((((zfor (fX8_readHistory_30 P ((nwo P σ a1).getD 0) a1) i30_ (sX2_clear σ)) 3) 3) ≤ (nI i30_) ↔ (((((sX2_clear σ) 3) 3)).toNatClampNeg) ≤ i30_)) ∧ (∀ i30_ : Nat, i30_ < (((((sX2_clear σ) 3) 3)).toNatClampNeg) → qX8_readHistory_30 P ((nwo P σ a1).getD 0) a1 i30_ (zfor (fX8_readHistory_30 P ((nwo P σ a1).getD 0) a1) i30_ (sX2_clear σ)))) ∧ ((pX2_hear (vX8_readHistory_2 P a1 σ)) ∧ (pX2_dateFlaws (sX2_hear (vX8_readHistory_2 P a1 σ) ((nwo P σ a1).getD 0) (4095 : Int32) (0 : Int32))))))) ∧ (¬ (2 : Int32) ≤ (rX8_keptBy σ a1) → True)))))))
noncomputable def rX8_readHistory (P : zp) (σ : zc_N) (a1 : Int32) : Int32 := (if (nwo P σ a1) = none then (0 : Int32) else (if (2 : Int32) ≤ (rX8_keptBy σ a1) then (1 : Int32) else (0 : Int32)))
noncomputable def sX8_readHistory (P : zp) (σ : zc_N) (a1 : Int32) : zc_N := (if (nwo P σ a1) = none then σ else (if (2 : Int32) ≤ (rX8_keptBy σ a1) then (vX8_readHistory_3 P a1 σ) else σ))
set_option maxHeartbeats 1000000 in
theorem ctX8_readHistory (P : zp) (σ : zc_N) (a1 : Int32) (W_ : (pX8_readHistory P σ a1)) : sp mX8_readHistory 19 0 0 [.ref 3, .int a1] (hh P σ) (fun r_ h_ => r_ = some (.int (rX8_readHistory P σ a1)) ∧ h_ = hh P (sX8_readHistory P σ a1)) := by
  refine sp_of (lv := [some (.ref 3), some (.int a1), none, none]) (by decide) (zcats_ok _ rfl) (Nat.le_of_ble_eq_true rfl) (zlv_ok _ 2 rfl) (fun G => ?_)
  generalize hQ_ : (fun (r_ : Option Value) (h_ : zc_H) => r_ = some (.int (rX8_readHistory P σ a1)) ∧ h_ = hh P (sX8_readHistory P σ a1)) = Q_
  unfold pX8_readHistory at W_
  refine z_aloadr_n dX8_readHistory_0 rfl ?_
  refine z_iload_n dX8_readHistory_1 rfl ?_
  refine z_callV (ci := 8) (r := (RX8, TX8, 12)) (b := 3) (As := [.int a1]) (rest := []) (ctX8_newestOf P σ a1 W_.1) dX8_readHistory_2 lk_X8_213 lv_X8_newestOf (Nat.le_of_ble_eq_true rfl) (zN rfl) rfl rfl rfl rfl (Nat.le_of_ble_eq_true rfl) (Nat.le_of_ble_eq_true rfl) (Nat.le_of_ble_eq_true rfl) (Nat.le_of_ble_eq_true rfl) (fun r_ h_ e_ => ?_)
  obtain ⟨e1_, e2_⟩ := e_
  subst e1_
  subst e2_
  show zz G mX8_readHistory 19 0 0 Q_ 5 [some (.ref 3), some (.int a1), none, none] [va_rf (Option.map pO (nwo P σ a1))] (hh P σ) 0 0
  refine z_astore_n (r := (Option.map pO (nwo P σ a1))) (lv' := [some (.ref 3), some (.int a1), some (va_rf (Option.map pO (nwo P σ a1))), none]) dX8_readHistory_5 (Nat.le_of_ble_eq_true rfl) rfl ?_
  refine z_aload_n (r := (Option.map pO (nwo P σ a1))) dX8_readHistory_6 rfl ?_
  refine z_ifnullm (tgt := 19) dX8_readHistory_7 (by decide) (fun c_1 => ?_) (fun c_1 => ?_)
  · refine z_iconst dX8_readHistory_19 k_iconst_0 ?_
    exact z_ireturn dX8_readHistory_20 rfl rfl (Nat.le_of_ble_eq_true rfl) (Nat.le_of_ble_eq_true rfl) (by rw [← hQ_]; exact ⟨(by rw [rX8_readHistory]; try simp only [if_pos c_1]), (by rw [sX8_readHistory]; try simp only [if_pos c_1])⟩)
  · have hp_2 := ((W_.2.2 c_1).1)
    try rw [zopt c_1]
    show zz G mX8_readHistory 19 0 0 Q_ 10 [some (.ref 3), some (.int a1), some (.ref (pO ((nwo P σ a1).getD 0))), none] [] (hh P σ) 0 0
    refine z_aloadr_n dX8_readHistory_10 rfl ?_
    refine z_iload_n dX8_readHistory_11 rfl ?_
    refine z_callV (ci := 8) (r := (RX8, TX8, 12)) (b := 3) (As := [.int a1]) (rest := []) (ctX8_keptBy P σ a1 ((W_.2.2 c_1).2.1)) dX8_readHistory_12 lk_X8_185 lv_X8_keptBy (Nat.le_of_ble_eq_true rfl) (zN rfl) rfl rfl rfl rfl (Nat.le_of_ble_eq_true rfl) (Nat.le_of_ble_eq_true rfl) (Nat.le_of_ble_eq_true rfl) (Nat.le_of_ble_eq_true rfl) (fun r_ h_ e_ => ?_)
    obtain ⟨e1_, e2_⟩ := e_
    subst e1_
    subst e2_
    show zz G mX8_readHistory 19 0 0 Q_ 15 [some (.ref 3), some (.int a1), some (.ref (pO ((nwo P σ a1).getD 0))), none] [.int (rX8_keptBy σ a1)] (hh P σ) 0 0
    refine z_iconst dX8_readHistory_15 k_iconst_2 ?_
    refine z_icmp_ge (tgt := 21) dX8_readHistory_16 (by decide) (fun c_3 => ?_) (fun c_3 => ?_)
    · refine z_aloadr_n dX8_readHistory_21 rfl ?_
      refine z_get (ci := 8) (r := (RX8, TX8, 12)) (j := 8) (v := .ref 27) dX8_readHistory_22 (Nat.le_of_ble_eq_true rfl) (zN rfl) rfl rfl (Nat.le_of_ble_eq_true rfl) fl_X8_54 rfl ?_
      refine z_callV (ci := 2) (r := (RX2, TX2, 6)) (b := 27) (As := []) (rest := []) (ctX2_clear P σ (((W_.2.2 c_1).2.2.1 c_3).1)) dX8_readHistory_25 lk_X8_231 lv_X2_clear (Nat.le_of_ble_eq_true rfl) (zN rfl) rfl rfl rfl rfl (Nat.le_of_ble_eq_true rfl) (Nat.le_of_ble_eq_true rfl) (Nat.le_of_ble_eq_true rfl) (Nat.le_of_ble_eq_true rfl) (fun r_ h_ e_ => ?_)
      obtain ⟨e1_, e2_⟩ := e_
      subst e1_
      subst e2_
      show zz G mX8_readHistory 19 0 0 Q_ 28 [some (.ref 3), some (.int a1), some (.ref (pO ((nwo P σ a1).getD 0))), none] [] (hh P (sX2_clear σ)) 0 0
      refine z_iconst dX8_readHistory_28 k_iconst_0 ?_
      refine z_istore_n (lv' := [some (.ref 3), some (.int a1), some (.ref (pO ((nwo P σ a1).getD 0))), some (.int (0 : Int32))]) dX8_readHistory_29 (Nat.le_of_ble_eq_true rfl) rfl ?_
      refine lpX8_readHistory_30 P (sX2_clear σ) ((nwo P σ a1).getD 0) hp_2 a1 (((((sX2_clear σ) 3) 3)).toNatClampNeg) (((W_.2.2 c_1).2.2.1 c_3).2.1).1 (((W_.2.2 c_1).2.2.1 c_3).2.1).2 ?_
      show zz G mX8_readHistory 19 0 0 Q_ 112 [some (.ref 3), none, some (.ref (pO ((nwo P σ a1).getD 0))), none] [] (hh P (vX8_readHistory_2 P a1 σ)) 0 0
      refine z_aloadr_n dX8_readHistory_112 rfl ?_
      refine z_get (ci := 8) (r := (RX8, TX8, 12)) (j := 8) (v := .ref 27) dX8_readHistory_113 (Nat.le_of_ble_eq_true rfl) (zN rfl) rfl rfl (Nat.le_of_ble_eq_true rfl) fl_X8_54 rfl ?_
      refine z_aloadr_n dX8_readHistory_116 rfl ?_
      refine z_sipush dX8_readHistory_117 k_sipush_4095 ?_
      refine z_iconst dX8_readHistory_120 k_iconst_0 ?_
      refine z_callV (ci := 2) (r := (RX2, TX2, 6)) (b := 27) (As := [.ref (pO ((nwo P σ a1).getD 0)), .int (4095 : Int32), .int (0 : Int32)]) (rest := []) (ctX2_hear P (vX8_readHistory_2 P a1 σ) ((nwo P σ a1).getD 0) hp_2 (4095 : Int32) (0 : Int32) (((W_.2.2 c_1).2.2.1 c_3).2.2.1)) dX8_readHistory_121 lk_X8_234 lv_X2_hear (Nat.le_of_ble_eq_true rfl) (zN rfl) rfl rfl rfl rfl (Nat.le_of_ble_eq_true rfl) (Nat.le_of_ble_eq_true rfl) (Nat.le_of_ble_eq_true rfl) (Nat.le_of_ble_eq_true rfl) (fun r_ h_ e_ => ?_)
      obtain ⟨e1_, e2_⟩ := e_
      subst e1_
      subst e2_
      show zz G mX8_readHistory 19 0 0 Q_ 124 [some (.ref 3), none, some (.ref (pO ((nwo P σ a1).getD 0))), none] [] (hh P (sX2_hear (vX8_readHistory_2 P a1 σ) ((nwo P σ a1).getD 0) (4095 : Int32) (0 : Int32))) 0 0
      refine z_aloadr_n dX8_readHistory_124 rfl ?_
      refine z_get (ci := 8) (r := (RX8, TX8, 12)) (j := 8) (v := .ref 27) dX8_readHistory_125 (Nat.le_of_ble_eq_true rfl) (zN rfl) rfl rfl (Nat.le_of_ble_eq_true rfl) fl_X8_54 rfl ?_
      refine z_callV (ci := 2) (r := (RX2, TX2, 6)) (b := 27) (As := []) (rest := []) (ctX2_dateFlaws P (sX2_hear (vX8_readHistory_2 P a1 σ) ((nwo P σ a1).getD 0) (4095 : Int32) (0 : Int32)) (((W_.2.2 c_1).2.2.1 c_3).2.2.2)) dX8_readHistory_128 lk_X8_238 lv_X2_dateFlaws (Nat.le_of_ble_eq_true rfl) (zN rfl) rfl rfl rfl rfl (Nat.le_of_ble_eq_true rfl) (Nat.le_of_ble_eq_true rfl) (Nat.le_of_ble_eq_true rfl) (Nat.le_of_ble_eq_true rfl) (fun r_ h_ e_ => ?_)
      obtain ⟨e1_, e2_⟩ := e_
      subst e1_
      subst e2_
      show zz G mX8_readHistory 19 0 0 Q_ 131 [some (.ref 3), none, some (.ref (pO ((nwo P σ a1).getD 0))), none] [] (hh P (vX8_readHistory_3 P a1 σ)) 0 0
      refine z_iconst dX8_readHistory_131 k_iconst_1 ?_
      exact z_ireturn dX8_readHistory_132 rfl rfl (Nat.le_of_ble_eq_true rfl) (Nat.le_of_ble_eq_true rfl) (by rw [← hQ_]; exact ⟨(by rw [rX8_readHistory]; try simp only [if_neg c_1, if_pos c_3]), (by rw [sX8_readHistory]; try simp only [if_neg c_1, if_pos c_3])⟩)
    · refine z_iconst dX8_readHistory_19 k_iconst_0 ?_
      exact z_ireturn dX8_readHistory_20 rfl rfl (Nat.le_of_ble_eq_true rfl) (Nat.le_of_ble_eq_true rfl) (by rw [← hQ_]; exact ⟨(by rw [rX8_readHistory]; try simp only [if_neg c_1, if_neg c_3]), (by rw [sX8_readHistory]; try simp only [if_neg c_1, if_neg c_3])⟩)

theorem dX8_flaws_0 : decode cX8_flaws 0 = .ok (.iload_n 1, 1) := by decide +kernel
theorem dX8_flaws_1 : decode cX8_flaws 1 = .ok (.invokestatic 171, 3) := by decide +kernel
theorem dX8_flaws_4 : decode cX8_flaws 4 = .ok (.ifCond .ne 5, 3) := by decide +kernel
theorem dX8_flaws_7 : decode cX8_flaws 7 = .ok (.iconst (-1), 1) := by decide +kernel
theorem dX8_flaws_8 : decode cX8_flaws 8 = .ok (.ireturn, 1) := by decide +kernel
theorem dX8_flaws_9 : decode cX8_flaws 9 = .ok (.aload_n 0, 1) := by decide +kernel
theorem dX8_flaws_10 : decode cX8_flaws 10 = .ok (.iload_n 1, 1) := by decide +kernel
theorem dX8_flaws_11 : decode cX8_flaws 11 = .ok (.invokevirtual 196, 3) := by decide +kernel
theorem dX8_flaws_14 : decode cX8_flaws 14 = .ok (.ifCond .eq 16, 3) := by decide +kernel
theorem dX8_flaws_17 : decode cX8_flaws 17 = .ok (.aload_n 0, 1) := by decide +kernel
theorem dX8_flaws_18 : decode cX8_flaws 18 = .ok (.getfield 54, 3) := by decide +kernel
theorem dX8_flaws_21 : decode cX8_flaws 21 = .ok (.getfield 199, 3) := by decide +kernel
theorem dX8_flaws_24 : decode cX8_flaws 24 = .ok (.invokestatic 202, 3) := by decide +kernel
theorem dX8_flaws_27 : decode cX8_flaws 27 = .ok (.goto 5, 3) := by decide +kernel
theorem dX8_flaws_30 : decode cX8_flaws 30 = .ok (.bipush (-4), 2) := by decide +kernel
theorem dX8_flaws_32 : decode cX8_flaws 32 = .ok (.ireturn, 1) := by decide +kernel
def pX8_flaws (P : zp) (σ : zc_N) (a1 : Int32) : Prop := (((rX8_isTool a1) = (0 : Int32) → True) ∧ (¬ (rX8_isTool a1) = (0 : Int32) → (pX8_readHistory P σ a1)))
noncomputable def rX8_flaws (P : zp) (σ : zc_N) (a1 : Int32) : Int32 := (if (rX8_isTool a1) = (0 : Int32) then (-1 : Int32) else (if (rX8_readHistory P σ a1) = (0 : Int32) then (-4 : Int32) else (rJ6_bitCount_0f7a4 (((sX8_readHistory P σ a1) 27) 0))))
noncomputable def sX8_flaws (P : zp) (σ : zc_N) (a1 : Int32) : zc_N := (if (rX8_isTool a1) = (0 : Int32) then σ else (sX8_readHistory P σ a1))
set_option maxHeartbeats 1000000 in
theorem ctX8_flaws (P : zp) (σ : zc_N) (a1 : Int32) (W_ : (pX8_flaws P σ a1)) : sp mX8_flaws 20 0 0 [.ref 3, .int a1] (hh P σ) (fun r_ h_ => r_ = some (.int (rX8_flaws P σ a1)) ∧ h_ = hh P (sX8_flaws P σ a1)) := by
  refine sp_of (lv := [some (.ref 3), some (.int a1)]) (by decide) (zcats_ok _ rfl) (Nat.le_of_ble_eq_true rfl) (zlv_ok _ 0 rfl) (fun G => ?_)
  generalize hQ_ : (fun (r_ : Option Value) (h_ : zc_H) => r_ = some (.int (rX8_flaws P σ a1)) ∧ h_ = hh P (sX8_flaws P σ a1)) = Q_
  unfold pX8_flaws at W_
  refine z_iload_n dX8_flaws_0 rfl ?_
  refine z_callS (As := [.int a1]) (rest := []) (ctX8_isTool P σ a1 (pzX8_isTool P σ a1)) dX8_flaws_1 lk_X8_171 ls_X8_isTool rfl (Nat.le_of_ble_eq_true rfl) (Nat.le_of_ble_eq_true rfl) (Nat.le_of_ble_eq_true rfl) (Nat.le_of_ble_eq_true rfl) (fun r_ h_ e_ => ?_)
  obtain ⟨e1_, e2_⟩ := e_
  subst e1_
  subst e2_
  show zz G mX8_flaws 20 0 0 Q_ 4 [some (.ref 3), some (.int a1)] [.int (rX8_isTool a1)] (hh P σ) 0 0
  refine z_if_ne (tgt := 9) dX8_flaws_4 (by decide) (fun c_1 => ?_) (fun c_1 => ?_)
  · refine z_aloadr_n dX8_flaws_9 rfl ?_
    refine z_iload_n dX8_flaws_10 rfl ?_
    refine z_callV (ci := 8) (r := (RX8, TX8, 12)) (b := 3) (As := [.int a1]) (rest := []) (ctX8_readHistory P σ a1 (W_.2 c_1)) dX8_flaws_11 lk_X8_196 lv_X8_readHistory (Nat.le_of_ble_eq_true rfl) (zN rfl) rfl rfl rfl rfl (Nat.le_of_ble_eq_true rfl) (Nat.le_of_ble_eq_true rfl) (Nat.le_of_ble_eq_true rfl) (Nat.le_of_ble_eq_true rfl) (fun r_ h_ e_ => ?_)
    obtain ⟨e1_, e2_⟩ := e_
    subst e1_
    subst e2_
    show zz G mX8_flaws 20 0 0 Q_ 14 [some (.ref 3), some (.int a1)] [.int (rX8_readHistory P σ a1)] (hh P (sX8_readHistory P σ a1)) 0 0
    have K_1 : zz G mX8_flaws 20 0 0 Q_ 32 [none, none] [.int (if (rX8_readHistory P σ a1) = (0 : Int32) then (-4 : Int32) else (rJ6_bitCount_0f7a4 (((sX8_readHistory P σ a1) 27) 0)))] (hh P (sX8_readHistory P σ a1)) 0 0 := by
      exact z_ireturn dX8_flaws_32 rfl rfl (Nat.le_of_ble_eq_true rfl) (Nat.le_of_ble_eq_true rfl) (by rw [← hQ_]; exact ⟨(by rw [rX8_flaws]; try simp only [if_neg c_1]), (by rw [sX8_flaws]; try simp only [if_neg c_1])⟩)
    refine z_if_eq (tgt := 30) dX8_flaws_14 (by decide) (fun c_2 => ?_) (fun c_2 => ?_)
    · refine z_bipush dX8_flaws_30 k_bipush_m4 ?_
      refine zz_sub (lv' := [none, none]) trivial ?_
      rw [show (if (rX8_readHistory P σ a1) = (0 : Int32) then (-4 : Int32) else (rJ6_bitCount_0f7a4 (((sX8_readHistory P σ a1) 27) 0))) = (-4 : Int32) from (if_pos c_2)] at K_1
      exact K_1
    · refine z_aloadr_n dX8_flaws_17 rfl ?_
      refine z_get (ci := 8) (r := (RX8, TX8, 12)) (j := 8) (v := .ref 27) dX8_flaws_18 (Nat.le_of_ble_eq_true rfl) (zN rfl) rfl rfl (Nat.le_of_ble_eq_true rfl) fl_X8_54 rfl ?_
      refine z_get (ci := 2) (r := (RX2, TX2, 6)) (j := 0) (v := .int (((sX8_readHistory P σ a1) 27) 0)) dX8_flaws_21 (Nat.le_of_ble_eq_true rfl) (zN rfl) rfl rfl (Nat.le_of_ble_eq_true rfl) fl_X8_199 rfl ?_
      refine z_callS (As := [.int (((sX8_readHistory P σ a1) 27) 0)]) (rest := []) (ctJ6_bitCount_0f7a4 P (sX8_readHistory P σ a1) (((sX8_readHistory P σ a1) 27) 0)) dX8_flaws_24 lk_X8_202 ls_J6_bitCount_0f7a4 rfl (Nat.le_of_ble_eq_true rfl) (Nat.le_of_ble_eq_true rfl) (Nat.le_of_ble_eq_true rfl) (Nat.le_of_ble_eq_true rfl) (fun r_ h_ e_ => ?_)
      obtain ⟨e1_, e2_⟩ := e_
      subst e1_
      subst e2_
      show zz G mX8_flaws 20 0 0 Q_ 27 [some (.ref 3), some (.int a1)] [.int (rJ6_bitCount_0f7a4 (((sX8_readHistory P σ a1) 27) 0))] (hh P (sX8_readHistory P σ a1)) 0 0
      refine z_goto (tgt := 32) dX8_flaws_27 (by decide) ?_
      refine zz_sub (lv' := [none, none]) trivial ?_
      rw [show (if (rX8_readHistory P σ a1) = (0 : Int32) then (-4 : Int32) else (rJ6_bitCount_0f7a4 (((sX8_readHistory P σ a1) 27) 0))) = (rJ6_bitCount_0f7a4 (((sX8_readHistory P σ a1) 27) 0)) from (if_neg c_2)] at K_1
      exact K_1
  · refine z_iconst dX8_flaws_7 k_iconst_m1 ?_
    exact z_ireturn dX8_flaws_8 rfl rfl (Nat.le_of_ble_eq_true rfl) (Nat.le_of_ble_eq_true rfl) (by rw [← hQ_]; exact ⟨(by rw [rX8_flaws]; try simp only [if_pos c_1]), (by rw [sX8_flaws]; try simp only [if_pos c_1])⟩)

theorem dX8_flaw_0 : decode cX8_flaw 0 = .ok (.iload_n 1, 1) := by decide +kernel
theorem dX8_flaw_1 : decode cX8_flaw 1 = .ok (.invokestatic 171, 3) := by decide +kernel
theorem dX8_flaw_4 : decode cX8_flaw 4 = .ok (.ifCond .eq 16, 3) := by decide +kernel
theorem dX8_flaw_7 : decode cX8_flaw 7 = .ok (.iload_n 2, 1) := by decide +kernel
theorem dX8_flaw_8 : decode cX8_flaw 8 = .ok (.ifCond .lt 12, 3) := by decide +kernel
theorem dX8_flaw_11 : decode cX8_flaw 11 = .ok (.iload_n 3, 1) := by decide +kernel
theorem dX8_flaw_12 : decode cX8_flaw 12 = .ok (.iconst 0, 1) := by decide +kernel
theorem dX8_flaw_13 : decode cX8_flaw 13 = .ok (.iconst 1, 1) := by decide +kernel
theorem dX8_flaw_14 : decode cX8_flaw 14 = .ok (.invokestatic 67, 3) := by decide +kernel
theorem dX8_flaw_17 : decode cX8_flaw 17 = .ok (.ifCond .ne 5, 3) := by decide +kernel
theorem dX8_flaw_20 : decode cX8_flaw 20 = .ok (.iconst (-1), 1) := by decide +kernel
theorem dX8_flaw_21 : decode cX8_flaw 21 = .ok (.ireturn, 1) := by decide +kernel
theorem dX8_flaw_22 : decode cX8_flaw 22 = .ok (.aload_n 0, 1) := by decide +kernel
theorem dX8_flaw_23 : decode cX8_flaw 23 = .ok (.iload_n 1, 1) := by decide +kernel
theorem dX8_flaw_24 : decode cX8_flaw 24 = .ok (.invokevirtual 196, 3) := by decide +kernel
theorem dX8_flaw_27 : decode cX8_flaw 27 = .ok (.ifCond .ne 6, 3) := by decide +kernel
theorem dX8_flaw_30 : decode cX8_flaw 30 = .ok (.bipush (-4), 2) := by decide +kernel
theorem dX8_flaw_32 : decode cX8_flaw 32 = .ok (.ireturn, 1) := by decide +kernel
theorem dX8_flaw_33 : decode cX8_flaw 33 = .ok (.aload_n 0, 1) := by decide +kernel
theorem dX8_flaw_34 : decode cX8_flaw 34 = .ok (.getfield 54, 3) := by decide +kernel
theorem dX8_flaw_37 : decode cX8_flaw 37 = .ok (.iload_n 2, 1) := by decide +kernel
theorem dX8_flaw_38 : decode cX8_flaw 38 = .ok (.invokevirtual 207, 3) := by decide +kernel
theorem dX8_flaw_41 : decode cX8_flaw 41 = .ok (.istore 4, 2) := by decide +kernel
theorem dX8_flaw_43 : decode cX8_flaw 43 = .ok (.iload 4, 2) := by decide +kernel
theorem dX8_flaw_45 : decode cX8_flaw 45 = .ok (.ifCond .ge 5, 3) := by decide +kernel
theorem dX8_flaw_48 : decode cX8_flaw 48 = .ok (.iconst (-1), 1) := by decide +kernel
theorem dX8_flaw_49 : decode cX8_flaw 49 = .ok (.ireturn, 1) := by decide +kernel
theorem dX8_flaw_50 : decode cX8_flaw 50 = .ok (.iload_n 3, 1) := by decide +kernel
theorem dX8_flaw_51 : decode cX8_flaw 51 = .ok (.ifCond .ne 8, 3) := by decide +kernel
theorem dX8_flaw_54 : decode cX8_flaw 54 = .ok (.iload 4, 2) := by decide +kernel
theorem dX8_flaw_56 : decode cX8_flaw 56 = .ok (.goto 13, 3) := by decide +kernel
theorem dX8_flaw_59 : decode cX8_flaw 59 = .ok (.aload_n 0, 1) := by decide +kernel
theorem dX8_flaw_60 : decode cX8_flaw 60 = .ok (.getfield 54, 3) := by decide +kernel
theorem dX8_flaw_63 : decode cX8_flaw 63 = .ok (.getfield 210, 3) := by decide +kernel
theorem dX8_flaw_66 : decode cX8_flaw 66 = .ok (.iload 4, 2) := by decide +kernel
theorem dX8_flaw_68 : decode cX8_flaw 68 = .ok (.iaload, 1) := by decide +kernel
theorem dX8_flaw_69 : decode cX8_flaw 69 = .ok (.ireturn, 1) := by decide +kernel
def pX8_flaw (P : zp) (σ : zc_N) (a1 : Int32) (a2 : Int32) (a3 : Int32) : Prop := (((rX8_isTool a1) = (0 : Int32) → True) ∧ (¬ (rX8_isTool a1) = (0 : Int32) → ((a2 < (0 : Int32) → True) ∧ (¬ a2 < (0 : Int32) → (((rX8_isWithin a3 (0 : Int32) (1 : Int32)) = (0 : Int32) → True) ∧ (¬ (rX8_isWithin a3 (0 : Int32) (1 : Int32)) = (0 : Int32) → ((pX8_readHistory P σ a1) ∧ (((rX8_readHistory P σ a1) = (0 : Int32) → True) ∧ (¬ (rX8_readHistory P σ a1) = (0 : Int32) → ((pX2_flawAt (sX8_readHistory P σ a1) a2) ∧ (((0 : Int32) ≤ (rX2_flawAt (sX8_readHistory P σ a1) a2) → ((a3 = (0 : Int32) → True) ∧ (¬ a3 = (0 : Int32) → vp_in (rX2_flawAt (sX8_readHistory P σ a1) a2) 12))) ∧ (¬ (0 : Int32) ≤ (rX2_flawAt (sX8_readHistory P σ a1) a2) → True))))))))))))
noncomputable def rX8_flaw (P : zp) (σ : zc_N) (a1 : Int32) (a2 : Int32) (a3 : Int32) : Int32 := (if (rX8_isTool a1) = (0 : Int32) then (-1 : Int32) else (if a2 < (0 : Int32) then (-1 : Int32) else (if (rX8_isWithin a3 (0 : Int32) (1 : Int32)) = (0 : Int32) then (-1 : Int32) else (if (rX8_readHistory P σ a1) = (0 : Int32) then (-4 : Int32) else (if (0 : Int32) ≤ (rX2_flawAt (sX8_readHistory P σ a1) a2) then (if a3 = (0 : Int32) then (rX2_flawAt (sX8_readHistory P σ a1) a2) else (((sX8_readHistory P σ a1) 28) (rX2_flawAt (sX8_readHistory P σ a1) a2).toNatClampNeg)) else (-1 : Int32))))))
noncomputable def sX8_flaw (P : zp) (σ : zc_N) (a1 : Int32) (a2 : Int32) (a3 : Int32) : zc_N := (if (rX8_isTool a1) = (0 : Int32) then σ else (if a2 < (0 : Int32) then σ else (if (rX8_isWithin a3 (0 : Int32) (1 : Int32)) = (0 : Int32) then σ else (sX8_readHistory P σ a1))))
set_option maxHeartbeats 1000000 in
theorem ctX8_flaw (P : zp) (σ : zc_N) (a1 : Int32) (a2 : Int32) (a3 : Int32) (W_ : (pX8_flaw P σ a1 a2 a3)) : sp mX8_flaw 20 0 0 [.ref 3, .int a1, .int a2, .int a3] (hh P σ) (fun r_ h_ => r_ = some (.int (rX8_flaw P σ a1 a2 a3)) ∧ h_ = hh P (sX8_flaw P σ a1 a2 a3)) := by
  refine sp_of (lv := [some (.ref 3), some (.int a1), some (.int a2), some (.int a3), none]) (by decide) (zcats_ok _ rfl) (Nat.le_of_ble_eq_true rfl) (zlv_ok _ 1 rfl) (fun G => ?_)
  generalize hQ_ : (fun (r_ : Option Value) (h_ : zc_H) => r_ = some (.int (rX8_flaw P σ a1 a2 a3)) ∧ h_ = hh P (sX8_flaw P σ a1 a2 a3)) = Q_
  unfold pX8_flaw at W_
  refine z_iload_n dX8_flaw_0 rfl ?_
  refine z_callS (As := [.int a1]) (rest := []) (ctX8_isTool P σ a1 (pzX8_isTool P σ a1)) dX8_flaw_1 lk_X8_171 ls_X8_isTool rfl (Nat.le_of_ble_eq_true rfl) (Nat.le_of_ble_eq_true rfl) (Nat.le_of_ble_eq_true rfl) (Nat.le_of_ble_eq_true rfl) (fun r_ h_ e_ => ?_)
  obtain ⟨e1_, e2_⟩ := e_
  subst e1_
  subst e2_
  show zz G mX8_flaw 20 0 0 Q_ 4 [some (.ref 3), some (.int a1), some (.int a2), some (.int a3), none] [.int (rX8_isTool a1)] (hh P σ) 0 0
  refine z_if_eq (tgt := 20) dX8_flaw_4 (by decide) (fun c_1 => ?_) (fun c_1 => ?_)
  · refine z_iconst dX8_flaw_20 k_iconst_m1 ?_
    exact z_ireturn dX8_flaw_21 rfl rfl (Nat.le_of_ble_eq_true rfl) (Nat.le_of_ble_eq_true rfl) (by rw [← hQ_]; exact ⟨(by rw [rX8_flaw]; try simp only [if_pos c_1]), (by rw [sX8_flaw]; try simp only [if_pos c_1])⟩)
  · refine z_iload_n dX8_flaw_7 rfl ?_
    refine z_if_lt (tgt := 20) dX8_flaw_8 (by decide) (fun c_2 => ?_) (fun c_2 => ?_)
    · refine z_iconst dX8_flaw_20 k_iconst_m1 ?_
      exact z_ireturn dX8_flaw_21 rfl rfl (Nat.le_of_ble_eq_true rfl) (Nat.le_of_ble_eq_true rfl) (by rw [← hQ_]; exact ⟨(by rw [rX8_flaw]; try simp only [if_neg c_1, if_pos c_2]), (by rw [sX8_flaw]; try simp only [if_neg c_1, if_pos c_2])⟩)
    · refine z_iload_n dX8_flaw_11 rfl ?_
      refine z_iconst dX8_flaw_12 k_iconst_0 ?_
      refine z_iconst dX8_flaw_13 k_iconst_1 ?_
      refine z_callS (As := [.int a3, .int (0 : Int32), .int (1 : Int32)]) (rest := []) (ctX8_isWithin P σ a3 (0 : Int32) (1 : Int32)) dX8_flaw_14 lk_X8_67 ls_X8_isWithin rfl (Nat.le_of_ble_eq_true rfl) (Nat.le_of_ble_eq_true rfl) (Nat.le_of_ble_eq_true rfl) (Nat.le_of_ble_eq_true rfl) (fun r_ h_ e_ => ?_)
      obtain ⟨e1_, e2_⟩ := e_
      subst e1_
      subst e2_
      show zz G mX8_flaw 20 0 0 Q_ 17 [some (.ref 3), some (.int a1), some (.int a2), some (.int a3), none] [.int (rX8_isWithin a3 (0 : Int32) (1 : Int32))] (hh P σ) 0 0
      refine z_if_ne (tgt := 22) dX8_flaw_17 (by decide) (fun c_3 => ?_) (fun c_3 => ?_)
      · refine z_aloadr_n dX8_flaw_22 rfl ?_
        refine z_iload_n dX8_flaw_23 rfl ?_
        refine z_callV (ci := 8) (r := (RX8, TX8, 12)) (b := 3) (As := [.int a1]) (rest := []) (ctX8_readHistory P σ a1 ((((W_.2 c_1).2 c_2).2 c_3).1)) dX8_flaw_24 lk_X8_196 lv_X8_readHistory (Nat.le_of_ble_eq_true rfl) (zN rfl) rfl rfl rfl rfl (Nat.le_of_ble_eq_true rfl) (Nat.le_of_ble_eq_true rfl) (Nat.le_of_ble_eq_true rfl) (Nat.le_of_ble_eq_true rfl) (fun r_ h_ e_ => ?_)
        obtain ⟨e1_, e2_⟩ := e_
        subst e1_
        subst e2_
        show zz G mX8_flaw 20 0 0 Q_ 27 [some (.ref 3), some (.int a1), some (.int a2), some (.int a3), none] [.int (rX8_readHistory P σ a1)] (hh P (sX8_readHistory P σ a1)) 0 0
        refine z_if_ne (tgt := 33) dX8_flaw_27 (by decide) (fun c_4 => ?_) (fun c_4 => ?_)
        · refine z_aloadr_n dX8_flaw_33 rfl ?_
          refine z_get (ci := 8) (r := (RX8, TX8, 12)) (j := 8) (v := .ref 27) dX8_flaw_34 (Nat.le_of_ble_eq_true rfl) (zN rfl) rfl rfl (Nat.le_of_ble_eq_true rfl) fl_X8_54 rfl ?_
          refine z_iload_n dX8_flaw_37 rfl ?_
          refine z_callV (ci := 2) (r := (RX2, TX2, 6)) (b := 27) (As := [.int a2]) (rest := []) (ctX2_flawAt P (sX8_readHistory P σ a1) a2 (((((W_.2 c_1).2 c_2).2 c_3).2.2 c_4).1)) dX8_flaw_38 lk_X8_207 lv_X2_flawAt (Nat.le_of_ble_eq_true rfl) (zN rfl) rfl rfl rfl rfl (Nat.le_of_ble_eq_true rfl) (Nat.le_of_ble_eq_true rfl) (Nat.le_of_ble_eq_true rfl) (Nat.le_of_ble_eq_true rfl) (fun r_ h_ e_ => ?_)
          obtain ⟨e1_, e2_⟩ := e_
          subst e1_
          subst e2_
          show zz G mX8_flaw 20 0 0 Q_ 41 [some (.ref 3), some (.int a1), some (.int a2), some (.int a3), none] [.int (rX2_flawAt (sX8_readHistory P σ a1) a2)] (hh P (sX8_readHistory P σ a1)) 0 0
          refine z_istore (lv' := [some (.ref 3), some (.int a1), some (.int a2), some (.int a3), some (.int (rX2_flawAt (sX8_readHistory P σ a1) a2))]) dX8_flaw_41 (Nat.le_of_ble_eq_true rfl) rfl ?_
          refine z_iload dX8_flaw_43 rfl ?_
          refine z_if_ge (tgt := 50) dX8_flaw_45 (by decide) (fun c_5 => ?_) (fun c_5 => ?_)
          · refine z_iload_n dX8_flaw_50 rfl ?_
            have K_1 : zz G mX8_flaw 20 0 0 Q_ 69 [none, none, none, none, none] [.int (if a3 = (0 : Int32) then (rX2_flawAt (sX8_readHistory P σ a1) a2) else (((sX8_readHistory P σ a1) 28) (rX2_flawAt (sX8_readHistory P σ a1) a2).toNatClampNeg))] (hh P (sX8_readHistory P σ a1)) 0 0 := by
              exact z_ireturn dX8_flaw_69 rfl rfl (Nat.le_of_ble_eq_true rfl) (Nat.le_of_ble_eq_true rfl) (by rw [← hQ_]; exact ⟨(by rw [rX8_flaw]; try simp only [if_neg c_1, if_neg c_2, if_neg c_3, if_neg c_4, if_pos c_5]), (by rw [sX8_flaw]; try simp only [if_neg c_1, if_neg c_2, if_neg c_3, if_neg c_4, if_pos c_5])⟩)
            refine z_if_ne (tgt := 59) dX8_flaw_51 (by decide) (fun c_6 => ?_) (fun c_6 => ?_)
            · refine z_aloadr_n dX8_flaw_59 rfl ?_
              refine z_get (ci := 8) (r := (RX8, TX8, 12)) (j := 8) (v := .ref 27) dX8_flaw_60 (Nat.le_of_ble_eq_true rfl) (zN rfl) rfl rfl (Nat.le_of_ble_eq_true rfl) fl_X8_54 rfl ?_
              refine z_get (ci := 2) (r := (RX2, TX2, 6)) (j := 1) (v := .ref 28) dX8_flaw_63 (Nat.le_of_ble_eq_true rfl) (zN rfl) rfl rfl (Nat.le_of_ble_eq_true rfl) fl_X8_210 rfl ?_
              refine z_iload dX8_flaw_66 rfl ?_
              refine z_iald (v := (((sX8_readHistory P σ a1) 28) (rX2_flawAt (sX8_readHistory P σ a1) a2).toNatClampNeg)) dX8_flaw_68 (zN rfl) rfl ((((((W_.2 c_1).2 c_2).2 c_3).2.2 c_4).2.1 c_5).2 c_6) rfl ?_
              refine zz_sub (lv' := [none, none, none, none, none]) trivial ?_
              rw [show (if a3 = (0 : Int32) then (rX2_flawAt (sX8_readHistory P σ a1) a2) else (((sX8_readHistory P σ a1) 28) (rX2_flawAt (sX8_readHistory P σ a1) a2).toNatClampNeg)) = (((sX8_readHistory P σ a1) 28) (rX2_flawAt (sX8_readHistory P σ a1) a2).toNatClampNeg) from (if_neg c_6)] at K_1
              exact K_1
            · refine z_iload dX8_flaw_54 rfl ?_
              refine z_goto (tgt := 69) dX8_flaw_56 (by decide) ?_
              refine zz_sub (lv' := [none, none, none, none, none]) trivial ?_
              rw [show (if a3 = (0 : Int32) then (rX2_flawAt (sX8_readHistory P σ a1) a2) else (((sX8_readHistory P σ a1) 28) (rX2_flawAt (sX8_readHistory P σ a1) a2).toNatClampNeg)) = (rX2_flawAt (sX8_readHistory P σ a1) a2) from (if_pos c_6)] at K_1
              exact K_1
          · refine z_iconst dX8_flaw_48 k_iconst_m1 ?_
            exact z_ireturn dX8_flaw_49 rfl rfl (Nat.le_of_ble_eq_true rfl) (Nat.le_of_ble_eq_true rfl) (by rw [← hQ_]; exact ⟨(by rw [rX8_flaw]; try simp only [if_neg c_1, if_neg c_2, if_neg c_3, if_neg c_4, if_neg c_5]), (by rw [sX8_flaw]; try simp only [if_neg c_1, if_neg c_2, if_neg c_3, if_neg c_4, if_neg c_5])⟩)
        · refine z_bipush dX8_flaw_30 k_bipush_m4 ?_
          exact z_ireturn dX8_flaw_32 rfl rfl (Nat.le_of_ble_eq_true rfl) (Nat.le_of_ble_eq_true rfl) (by rw [← hQ_]; exact ⟨(by rw [rX8_flaw]; try simp only [if_neg c_1, if_neg c_2, if_neg c_3, if_pos c_4]), (by rw [sX8_flaw]; try simp only [if_neg c_1, if_neg c_2, if_neg c_3, if_pos c_4])⟩)
      · refine z_iconst dX8_flaw_20 k_iconst_m1 ?_
        exact z_ireturn dX8_flaw_21 rfl rfl (Nat.le_of_ble_eq_true rfl) (Nat.le_of_ble_eq_true rfl) (by rw [← hQ_]; exact ⟨(by rw [rX8_flaw]; try simp only [if_neg c_1, if_neg c_2, if_pos c_3]), (by rw [sX8_flaw]; try simp only [if_neg c_1, if_neg c_2, if_pos c_3])⟩)

theorem dX8_age_0 : decode cX8_age 0 = .ok (.aload_n 0, 1) := by decide +kernel
theorem dX8_age_1 : decode cX8_age 1 = .ok (.iload_n 1, 1) := by decide +kernel
theorem dX8_age_2 : decode cX8_age 2 = .ok (.invokevirtual 117, 3) := by decide +kernel
theorem dX8_age_5 : decode cX8_age 5 = .ok (.astore_n 3, 1) := by decide +kernel
theorem dX8_age_6 : decode cX8_age 6 = .ok (.aload_n 3, 1) := by decide +kernel
theorem dX8_age_7 : decode cX8_age 7 = .ok (.ifnull 10, 3) := by decide +kernel
theorem dX8_age_10 : decode cX8_age 10 = .ok (.iload_n 2, 1) := by decide +kernel
theorem dX8_age_11 : decode cX8_age 11 = .ok (.invokestatic 171, 3) := by decide +kernel
theorem dX8_age_14 : decode cX8_age 14 = .ok (.ifCond .ne 5, 3) := by decide +kernel
theorem dX8_age_17 : decode cX8_age 17 = .ok (.iconst (-1), 1) := by decide +kernel
theorem dX8_age_18 : decode cX8_age 18 = .ok (.ireturn, 1) := by decide +kernel
theorem dX8_age_19 : decode cX8_age 19 = .ok (.aload_n 3, 1) := by decide +kernel
theorem dX8_age_20 : decode cX8_age 20 = .ok (.getfield 175, 3) := by decide +kernel
theorem dX8_age_23 : decode cX8_age 23 = .ok (.iload_n 2, 1) := by decide +kernel
theorem dX8_age_24 : decode cX8_age 24 = .ok (.if_icmp .eq 11, 3) := by decide +kernel
theorem dX8_age_27 : decode cX8_age 27 = .ok (.aload_n 0, 1) := by decide +kernel
theorem dX8_age_28 : decode cX8_age 28 = .ok (.iload_n 2, 1) := by decide +kernel
theorem dX8_age_29 : decode cX8_age 29 = .ok (.invokevirtual 196, 3) := by decide +kernel
theorem dX8_age_32 : decode cX8_age 32 = .ok (.ifCond .ne 6, 3) := by decide +kernel
theorem dX8_age_35 : decode cX8_age 35 = .ok (.bipush (-4), 2) := by decide +kernel
theorem dX8_age_37 : decode cX8_age 37 = .ok (.ireturn, 1) := by decide +kernel
theorem dX8_age_38 : decode cX8_age 38 = .ok (.aload_n 0, 1) := by decide +kernel
theorem dX8_age_39 : decode cX8_age 39 = .ok (.iload_n 2, 1) := by decide +kernel
theorem dX8_age_40 : decode cX8_age 40 = .ok (.invokevirtual 213, 3) := by decide +kernel
theorem dX8_age_43 : decode cX8_age 43 = .ok (.astore 4, 2) := by decide +kernel
theorem dX8_age_45 : decode cX8_age 45 = .ok (.aload 4, 2) := by decide +kernel
theorem dX8_age_47 : decode cX8_age 47 = .ok (.ifnonnull 6, 3) := by decide +kernel
theorem dX8_age_50 : decode cX8_age 50 = .ok (.bipush (-4), 2) := by decide +kernel
theorem dX8_age_52 : decode cX8_age 52 = .ok (.ireturn, 1) := by decide +kernel
theorem dX8_age_53 : decode cX8_age 53 = .ok (.aload_n 0, 1) := by decide +kernel
theorem dX8_age_54 : decode cX8_age 54 = .ok (.getfield 33, 3) := by decide +kernel
theorem dX8_age_57 : decode cX8_age 57 = .ok (.aload 4, 2) := by decide +kernel
theorem dX8_age_59 : decode cX8_age 59 = .ok (.aload_n 3, 1) := by decide +kernel
theorem dX8_age_60 : decode cX8_age 60 = .ok (.aload_n 0, 1) := by decide +kernel
theorem dX8_age_61 : decode cX8_age 61 = .ok (.getfield 48, 3) := by decide +kernel
theorem dX8_age_64 : decode cX8_age 64 = .ok (.invokevirtual 147, 3) := by decide +kernel
theorem dX8_age_67 : decode cX8_age 67 = .ok (.aload_n 0, 1) := by decide +kernel
theorem dX8_age_68 : decode cX8_age 68 = .ok (.aload_n 0, 1) := by decide +kernel
theorem dX8_age_69 : decode cX8_age 69 = .ok (.getfield 54, 3) := by decide +kernel
theorem dX8_age_72 : decode cX8_age 72 = .ok (.aload_n 0, 1) := by decide +kernel
theorem dX8_age_73 : decode cX8_age 73 = .ok (.getfield 48, 3) := by decide +kernel
theorem dX8_age_76 : decode cX8_age 76 = .ok (.getfield 216, 3) := by decide +kernel
theorem dX8_age_79 : decode cX8_age 79 = .ok (.iconst 0, 1) := by decide +kernel
theorem dX8_age_80 : decode cX8_age 80 = .ok (.invokevirtual 219, 3) := by decide +kernel
theorem dX8_age_83 : decode cX8_age 83 = .ok (.putfield 58, 3) := by decide +kernel
theorem dX8_age_86 : decode cX8_age 86 = .ok (.aload_n 0, 1) := by decide +kernel
theorem dX8_age_87 : decode cX8_age 87 = .ok (.aload_n 0, 1) := by decide +kernel
theorem dX8_age_88 : decode cX8_age 88 = .ok (.getfield 54, 3) := by decide +kernel
theorem dX8_age_91 : decode cX8_age 91 = .ok (.aload_n 0, 1) := by decide +kernel
theorem dX8_age_92 : decode cX8_age 92 = .ok (.getfield 48, 3) := by decide +kernel
theorem dX8_age_95 : decode cX8_age 95 = .ok (.invokevirtual 222, 3) := by decide +kernel
theorem dX8_age_98 : decode cX8_age 98 = .ok (.sipush 10000, 3) := by decide +kernel
theorem dX8_age_101 : decode cX8_age 101 = .ok (.invokevirtual 225, 3) := by decide +kernel
theorem dX8_age_104 : decode cX8_age 104 = .ok (.putfield 61, 3) := by decide +kernel
theorem dX8_age_107 : decode cX8_age 107 = .ok (.aload_n 0, 1) := by decide +kernel
theorem dX8_age_108 : decode cX8_age 108 = .ok (.iconst 1, 1) := by decide +kernel
theorem dX8_age_109 : decode cX8_age 109 = .ok (.putfield 64, 3) := by decide +kernel
theorem dX8_age_112 : decode cX8_age 112 = .ok (.aload_n 0, 1) := by decide +kernel
theorem dX8_age_113 : decode cX8_age 113 = .ok (.getfield 58, 3) := by decide +kernel
theorem dX8_age_116 : decode cX8_age 116 = .ok (.aload_n 0, 1) := by decide +kernel
theorem dX8_age_117 : decode cX8_age 117 = .ok (.getfield 61, 3) := by decide +kernel
theorem dX8_age_120 : decode cX8_age 120 = .ok (.if_icmp .lt 7, 3) := by decide +kernel
theorem dX8_age_123 : decode cX8_age 123 = .ok (.iconst 0, 1) := by decide +kernel
theorem dX8_age_124 : decode cX8_age 124 = .ok (.goto 4, 3) := by decide +kernel
theorem dX8_age_127 : decode cX8_age 127 = .ok (.iconst 1, 1) := by decide +kernel
theorem dX8_age_128 : decode cX8_age 128 = .ok (.ireturn, 1) := by decide +kernel
noncomputable def vX8_age_1 (P : zp) (a1 : Int32) (a2 : Int32) (σ : zc_N) : zc_N := (sX4_layBest_t P (sX8_readHistory P σ a2) ((nwo P (sX8_readHistory P σ a2) a2).getD 0) a1.toNatClampNeg)
def pX8_age (P : zp) (σ : zc_N) (a1 : Int32) (a2 : Int32) : Prop := ((pX8_printAt P σ a1) ∧ (((rX8_isWithin a1 (0 : Int32) (((σ 3) 3) - (1 : Int32))) = (0 : Int32) → True) ∧ (¬ (rX8_isWithin a1 (0 : Int32) (((σ 3) 3) - (1 : Int32))) = (0 : Int32) → (a1.toNatClampNeg < P.2.1 ∧ (((rX8_isTool a2) = (0 : Int32) → True) ∧ (¬ (rX8_isTool a2) = (0 : Int32) → ((((σ (pO a1.toNatClampNeg)) 3) = a2 → True) ∧ (¬ ((σ (pO a1.toNatClampNeg)) 3) = a2 → ((pX8_readHistory P σ a2) ∧ (((rX8_readHistory P σ a2) = (0 : Int32) → True) ∧ (¬ (rX8_readHistory P σ a2) = (0 : Int32) → ((pX8_newestOf P (sX8_readHistory P σ a2)) ∧ (((nwo P (sX8_readHistory P σ a2) a2) = none → True) ∧ (¬ (nwo P (sX8_readHistory P σ a2) a2) = none → (((nwo P (sX8_readHistory P σ a2) a2).getD 0) < P.2.1 ∧ (pX4_layBest_t P (sX8_readHistory P σ a2) ((nwo P (sX8_readHistory P σ a2) a2).getD 0) a1.toNatClampNeg))))))))))))))))
noncomputable def rX8_age (P : zp) (σ : zc_N) (a1 : Int32) (a2 : Int32) : Int32 := (if (rX8_isWithin a1 (0 : Int32) (((σ 3) 3) - (1 : Int32))) = (0 : Int32) then (-1 : Int32) else (if (rX8_isTool a2) = (0 : Int32) then (-1 : Int32) else (if ((σ (pO a1.toNatClampNeg)) 3) = a2 then (-4 : Int32) else (if (rX8_readHistory P σ a2) = (0 : Int32) then (-4 : Int32) else (if (nwo P (sX8_readHistory P σ a2) a2) = none then (-4 : Int32) else (if ((zu (zu (zu ((vX8_age_1 P a1 a2 σ) 3) 9 (rX2_lastComing (vX8_age_1 P a1 a2 σ) (((vX8_age_1 P a1 a2 σ) 25) 7) (0 : Int32))) 10 (rX2_firstComing (zu (vX8_age_1 P a1 a2 σ) 3 (zu ((vX8_age_1 P a1 a2 σ) 3) 9 (rX2_lastComing (vX8_age_1 P a1 a2 σ) (((vX8_age_1 P a1 a2 σ) 25) 7) (0 : Int32)))) (rX3_lacking_t (zu (vX8_age_1 P a1 a2 σ) 3 (zu ((vX8_age_1 P a1 a2 σ) 3) 9 (rX2_lastComing (vX8_age_1 P a1 a2 σ) (((vX8_age_1 P a1 a2 σ) 25) 7) (0 : Int32))))) (10000 : Int32))) 11 (1 : Int32)) 9) < ((zu (zu (zu ((vX8_age_1 P a1 a2 σ) 3) 9 (rX2_lastComing (vX8_age_1 P a1 a2 σ) (((vX8_age_1 P a1 a2 σ) 25) 7) (0 : Int32))) 10 (rX2_firstComing (zu (vX8_age_1 P a1 a2 σ) 3 (zu ((vX8_age_1 P a1 a2 σ) 3) 9 (rX2_lastComing (vX8_age_1 P a1 a2 σ) (((vX8_age_1 P a1 a2 σ) 25) 7) (0 : Int32)))) (rX3_lacking_t (zu (vX8_age_1 P a1 a2 σ) 3 (zu ((vX8_age_1 P a1 a2 σ) 3) 9 (rX2_lastComing (vX8_age_1 P a1 a2 σ) (((vX8_age_1 P a1 a2 σ) 25) 7) (0 : Int32))))) (10000 : Int32))) 11 (1 : Int32)) 10) then (1 : Int32) else (0 : Int32)))))))
noncomputable def sX8_age (P : zp) (σ : zc_N) (a1 : Int32) (a2 : Int32) : zc_N := (if (rX8_isWithin a1 (0 : Int32) (((σ 3) 3) - (1 : Int32))) = (0 : Int32) then σ else (if (rX8_isTool a2) = (0 : Int32) then σ else (if ((σ (pO a1.toNatClampNeg)) 3) = a2 then σ else (if (rX8_readHistory P σ a2) = (0 : Int32) then (sX8_readHistory P σ a2) else (if (nwo P (sX8_readHistory P σ a2) a2) = none then (sX8_readHistory P σ a2) else (zu (vX8_age_1 P a1 a2 σ) 3 (zu (zu (zu ((vX8_age_1 P a1 a2 σ) 3) 9 (rX2_lastComing (vX8_age_1 P a1 a2 σ) (((vX8_age_1 P a1 a2 σ) 25) 7) (0 : Int32))) 10 (rX2_firstComing (zu (vX8_age_1 P a1 a2 σ) 3 (zu ((vX8_age_1 P a1 a2 σ) 3) 9 (rX2_lastComing (vX8_age_1 P a1 a2 σ) (((vX8_age_1 P a1 a2 σ) 25) 7) (0 : Int32)))) (rX3_lacking_t (zu (vX8_age_1 P a1 a2 σ) 3 (zu ((vX8_age_1 P a1 a2 σ) 3) 9 (rX2_lastComing (vX8_age_1 P a1 a2 σ) (((vX8_age_1 P a1 a2 σ) 25) 7) (0 : Int32))))) (10000 : Int32))) 11 (1 : Int32))))))))
set_option maxHeartbeats 1000000 in
theorem ctX8_age (P : zp) (σ : zc_N) (a1 : Int32) (a2 : Int32) (W_ : (pX8_age P σ a1 a2)) : sp mX8_age 20 0 0 [.ref 3, .int a1, .int a2] (hh P σ) (fun r_ h_ => r_ = some (.int (rX8_age P σ a1 a2)) ∧ h_ = hh P (sX8_age P σ a1 a2)) := by
  refine sp_of (lv := [some (.ref 3), some (.int a1), some (.int a2), none, none]) (by decide) (zcats_ok _ rfl) (Nat.le_of_ble_eq_true rfl) (zlv_ok _ 2 rfl) (fun G => ?_)
  generalize hQ_ : (fun (r_ : Option Value) (h_ : zc_H) => r_ = some (.int (rX8_age P σ a1 a2)) ∧ h_ = hh P (sX8_age P σ a1 a2)) = Q_
  unfold pX8_age at W_
  refine z_aloadr_n dX8_age_0 rfl ?_
  refine z_iload_n dX8_age_1 rfl ?_
  refine z_callV (ci := 8) (r := (RX8, TX8, 12)) (b := 3) (As := [.int a1]) (rest := []) (ctX8_printAt P σ a1 W_.1) dX8_age_2 lk_X8_117 lv_X8_printAt (Nat.le_of_ble_eq_true rfl) (zN rfl) rfl rfl rfl rfl (Nat.le_of_ble_eq_true rfl) (Nat.le_of_ble_eq_true rfl) (Nat.le_of_ble_eq_true rfl) (Nat.le_of_ble_eq_true rfl) (fun r_ h_ e_ => ?_)
  obtain ⟨e1_, e2_⟩ := e_
  subst e1_
  subst e2_
  show zz G mX8_age 20 0 0 Q_ 5 [some (.ref 3), some (.int a1), some (.int a2), none, none] [va_rf (if (rX8_isWithin a1 (0 : Int32) (((σ 3) 3) - (1 : Int32))) = (0 : Int32) then none else some (pO a1.toNatClampNeg))] (hh P σ) 0 0
  refine z_astore_n (r := (if (rX8_isWithin a1 (0 : Int32) (((σ 3) 3) - (1 : Int32))) = (0 : Int32) then none else some (pO a1.toNatClampNeg))) (lv' := [some (.ref 3), some (.int a1), some (.int a2), some (va_rf (if (rX8_isWithin a1 (0 : Int32) (((σ 3) 3) - (1 : Int32))) = (0 : Int32) then none else some (pO a1.toNatClampNeg))), none]) dX8_age_5 (Nat.le_of_ble_eq_true rfl) rfl ?_
  refine z_aload_n (r := (if (rX8_isWithin a1 (0 : Int32) (((σ 3) 3) - (1 : Int32))) = (0 : Int32) then none else some (pO a1.toNatClampNeg))) dX8_age_6 rfl ?_
  refine z_ifnullc (c := (rX8_isWithin a1 (0 : Int32) (((σ 3) 3) - (1 : Int32))) = (0 : Int32)) inferInstance (tgt := 17) dX8_age_7 (by decide) (fun c_1 => ?_) (fun c_1 => ?_)
  · refine z_iconst dX8_age_17 k_iconst_m1 ?_
    exact z_ireturn dX8_age_18 rfl rfl (Nat.le_of_ble_eq_true rfl) (Nat.le_of_ble_eq_true rfl) (by rw [← hQ_]; exact ⟨(by rw [rX8_age]; try simp only [if_pos c_1]), (by rw [sX8_age]; try simp only [if_pos c_1])⟩)
  · have hp_2 := ((W_.2.2 c_1).1)
    try rw [if_neg c_1]
    show zz G mX8_age 20 0 0 Q_ 10 [some (.ref 3), some (.int a1), some (.int a2), some (.ref (pO a1.toNatClampNeg)), none] [] (hh P σ) 0 0
    refine z_iload_n dX8_age_10 rfl ?_
    refine z_callS (As := [.int a2]) (rest := []) (ctX8_isTool P σ a2 (pzX8_isTool P σ a2)) dX8_age_11 lk_X8_171 ls_X8_isTool rfl (Nat.le_of_ble_eq_true rfl) (Nat.le_of_ble_eq_true rfl) (Nat.le_of_ble_eq_true rfl) (Nat.le_of_ble_eq_true rfl) (fun r_ h_ e_ => ?_)
    obtain ⟨e1_, e2_⟩ := e_
    subst e1_
    subst e2_
    show zz G mX8_age 20 0 0 Q_ 14 [some (.ref 3), some (.int a1), some (.int a2), some (.ref (pO a1.toNatClampNeg)), none] [.int (rX8_isTool a2)] (hh P σ) 0 0
    refine z_if_ne (tgt := 19) dX8_age_14 (by decide) (fun c_3 => ?_) (fun c_3 => ?_)
    · refine z_aloadr_n dX8_age_19 rfl ?_
      refine z_get (ci := 7) (r := (RX7, TX7, 5)) (j := 3) (v := .int ((σ (pO a1.toNatClampNeg)) 3)) dX8_age_20 (z3O a1.toNatClampNeg) (zNO hp_2) (SH_pO P a1.toNatClampNeg) rfl (Nat.le_of_ble_eq_true rfl) fl_X8_175 rfl ?_
      refine z_iload_n dX8_age_23 rfl ?_
      refine z_icmp_eq (tgt := 35) dX8_age_24 (by decide) (fun c_4 => ?_) (fun c_4 => ?_)
      · refine z_bipush dX8_age_35 k_bipush_m4 ?_
        exact z_ireturn dX8_age_37 rfl rfl (Nat.le_of_ble_eq_true rfl) (Nat.le_of_ble_eq_true rfl) (by rw [← hQ_]; exact ⟨(by rw [rX8_age]; try simp only [if_neg c_1, if_neg c_3, if_pos c_4]), (by rw [sX8_age]; try simp only [if_neg c_1, if_neg c_3, if_pos c_4])⟩)
      · refine z_aloadr_n dX8_age_27 rfl ?_
        refine z_iload_n dX8_age_28 rfl ?_
        refine z_callV (ci := 8) (r := (RX8, TX8, 12)) (b := 3) (As := [.int a2]) (rest := []) (ctX8_readHistory P σ a2 ((((W_.2.2 c_1).2.2 c_3).2 c_4).1)) dX8_age_29 lk_X8_196 lv_X8_readHistory (Nat.le_of_ble_eq_true rfl) (zN rfl) rfl rfl rfl rfl (Nat.le_of_ble_eq_true rfl) (Nat.le_of_ble_eq_true rfl) (Nat.le_of_ble_eq_true rfl) (Nat.le_of_ble_eq_true rfl) (fun r_ h_ e_ => ?_)
        obtain ⟨e1_, e2_⟩ := e_
        subst e1_
        subst e2_
        show zz G mX8_age 20 0 0 Q_ 32 [some (.ref 3), some (.int a1), some (.int a2), some (.ref (pO a1.toNatClampNeg)), none] [.int (rX8_readHistory P σ a2)] (hh P (sX8_readHistory P σ a2)) 0 0
        refine z_if_ne (tgt := 38) dX8_age_32 (by decide) (fun c_5 => ?_) (fun c_5 => ?_)
        · refine z_aloadr_n dX8_age_38 rfl ?_
          refine z_iload_n dX8_age_39 rfl ?_
          refine z_callV (ci := 8) (r := (RX8, TX8, 12)) (b := 3) (As := [.int a2]) (rest := []) (ctX8_newestOf P (sX8_readHistory P σ a2) a2 (((((W_.2.2 c_1).2.2 c_3).2 c_4).2.2 c_5).1)) dX8_age_40 lk_X8_213 lv_X8_newestOf (Nat.le_of_ble_eq_true rfl) (zN rfl) rfl rfl rfl rfl (Nat.le_of_ble_eq_true rfl) (Nat.le_of_ble_eq_true rfl) (Nat.le_of_ble_eq_true rfl) (Nat.le_of_ble_eq_true rfl) (fun r_ h_ e_ => ?_)
          obtain ⟨e1_, e2_⟩ := e_
          subst e1_
          subst e2_
          show zz G mX8_age 20 0 0 Q_ 43 [some (.ref 3), some (.int a1), some (.int a2), some (.ref (pO a1.toNatClampNeg)), none] [va_rf (Option.map pO (nwo P (sX8_readHistory P σ a2) a2))] (hh P (sX8_readHistory P σ a2)) 0 0
          refine z_astore (r := (Option.map pO (nwo P (sX8_readHistory P σ a2) a2))) (lv' := [some (.ref 3), some (.int a1), some (.int a2), some (.ref (pO a1.toNatClampNeg)), some (va_rf (Option.map pO (nwo P (sX8_readHistory P σ a2) a2)))]) dX8_age_43 (Nat.le_of_ble_eq_true rfl) rfl ?_
          refine z_aload (r := (Option.map pO (nwo P (sX8_readHistory P σ a2) a2))) dX8_age_45 rfl ?_
          refine z_ifnonnullm (tgt := 53) dX8_age_47 (by decide) (fun c_6 => ?_) (fun c_6 => ?_)
          · have hp_7 := ((((((W_.2.2 c_1).2.2 c_3).2 c_4).2.2 c_5).2.2 c_6).1)
            try rw [zopt c_6]
            show zz G mX8_age 20 0 0 Q_ 53 [some (.ref 3), some (.int a1), some (.int a2), some (.ref (pO a1.toNatClampNeg)), some (.ref (pO ((nwo P (sX8_readHistory P σ a2) a2).getD 0)))] [] (hh P (sX8_readHistory P σ a2)) 0 0
            refine z_aloadr_n dX8_age_53 rfl ?_
            refine z_get (ci := 8) (r := (RX8, TX8, 12)) (j := 4) (v := .ref 10) dX8_age_54 (Nat.le_of_ble_eq_true rfl) (zN rfl) rfl rfl (Nat.le_of_ble_eq_true rfl) fl_X8_33 rfl ?_
            refine z_aloadr dX8_age_57 rfl ?_
            refine z_aloadr_n dX8_age_59 rfl ?_
            refine z_aloadr_n dX8_age_60 rfl ?_
            refine z_get (ci := 8) (r := (RX8, TX8, 12)) (j := 7) (v := .ref 25) dX8_age_61 (Nat.le_of_ble_eq_true rfl) (zN rfl) rfl rfl (Nat.le_of_ble_eq_true rfl) fl_X8_48 rfl ?_
            refine z_callV (ci := 4) (r := (RX4, TX4, 10)) (b := 10) (As := [.ref (pO ((nwo P (sX8_readHistory P σ a2) a2).getD 0)), .ref (pO a1.toNatClampNeg), .ref 25]) (rest := []) (ctX4_layBest_t P (sX8_readHistory P σ a2) ((nwo P (sX8_readHistory P σ a2) a2).getD 0) hp_7 a1.toNatClampNeg hp_2 ((((((W_.2.2 c_1).2.2 c_3).2 c_4).2.2 c_5).2.2 c_6).2)) dX8_age_64 lk_X8_147 lv_X4_layBest (Nat.le_of_ble_eq_true rfl) (zN rfl) rfl rfl rfl rfl (Nat.le_of_ble_eq_true rfl) (Nat.le_of_ble_eq_true rfl) (Nat.le_of_ble_eq_true rfl) (Nat.le_of_ble_eq_true rfl) (fun r_ h_ e_ => ?_)
            obtain ⟨e1_, e2_⟩ := e_
            subst e1_
            subst e2_
            show zz G mX8_age 20 0 0 Q_ 67 [some (.ref 3), some (.int a1), some (.int a2), some (.ref (pO a1.toNatClampNeg)), some (.ref (pO ((nwo P (sX8_readHistory P σ a2) a2).getD 0)))] [] (hh P (vX8_age_1 P a1 a2 σ)) 0 0
            refine z_aloadr_n dX8_age_67 rfl ?_
            refine z_aloadr_n dX8_age_68 rfl ?_
            refine z_get (ci := 8) (r := (RX8, TX8, 12)) (j := 8) (v := .ref 27) dX8_age_69 (Nat.le_of_ble_eq_true rfl) (zN rfl) rfl rfl (Nat.le_of_ble_eq_true rfl) fl_X8_54 rfl ?_
            refine z_aloadr_n dX8_age_72 rfl ?_
            refine z_get (ci := 8) (r := (RX8, TX8, 12)) (j := 7) (v := .ref 25) dX8_age_73 (Nat.le_of_ble_eq_true rfl) (zN rfl) rfl rfl (Nat.le_of_ble_eq_true rfl) fl_X8_48 rfl ?_
            refine z_get (ci := 3) (r := (RX3, TX3, 10)) (j := 7) (v := .int (((vX8_age_1 P a1 a2 σ) 25) 7)) dX8_age_76 (Nat.le_of_ble_eq_true rfl) (zN rfl) rfl rfl (Nat.le_of_ble_eq_true rfl) fl_X8_216 rfl ?_
            refine z_iconst dX8_age_79 k_iconst_0 ?_
            refine z_callV (ci := 2) (r := (RX2, TX2, 6)) (b := 27) (As := [.int (((vX8_age_1 P a1 a2 σ) 25) 7), .int (0 : Int32)]) (rest := [.ref 3]) (ctX2_lastComing P (vX8_age_1 P a1 a2 σ) (((vX8_age_1 P a1 a2 σ) 25) 7) (0 : Int32)) dX8_age_80 lk_X8_219 lv_X2_lastComing (Nat.le_of_ble_eq_true rfl) (zN rfl) rfl rfl rfl rfl (Nat.le_of_ble_eq_true rfl) (Nat.le_of_ble_eq_true rfl) (Nat.le_of_ble_eq_true rfl) (Nat.le_of_ble_eq_true rfl) (fun r_ h_ e_ => ?_)
            obtain ⟨e1_, e2_⟩ := e_
            subst e1_
            subst e2_
            show zz G mX8_age 20 0 0 Q_ 83 [some (.ref 3), some (.int a1), some (.int a2), some (.ref (pO a1.toNatClampNeg)), some (.ref (pO ((nwo P (sX8_readHistory P σ a2) a2).getD 0)))] [.int (rX2_lastComing (vX8_age_1 P a1 a2 σ) (((vX8_age_1 P a1 a2 σ) 25) 7) (0 : Int32)), .ref 3] (hh P (vX8_age_1 P a1 a2 σ)) 0 0
            refine z_put (ci := 8) (r := (RX8, TX8, 12)) (j := 9) (σ' := (zu (vX8_age_1 P a1 a2 σ) 3 (zu ((vX8_age_1 P a1 a2 σ) 3) 9 (rX2_lastComing (vX8_age_1 P a1 a2 σ) (((vX8_age_1 P a1 a2 σ) 25) 7) (0 : Int32))))) dX8_age_83 (Nat.le_of_ble_eq_true rfl) (zN rfl) rfl rfl (Nat.le_of_ble_eq_true rfl) fl_X8_58 rfl rfl rfl rfl rfl ?_
            refine z_aloadr_n dX8_age_86 rfl ?_
            refine z_aloadr_n dX8_age_87 rfl ?_
            refine z_get (ci := 8) (r := (RX8, TX8, 12)) (j := 8) (v := .ref 27) dX8_age_88 (Nat.le_of_ble_eq_true rfl) (zN rfl) rfl rfl (Nat.le_of_ble_eq_true rfl) fl_X8_54 rfl ?_
            refine z_aloadr_n dX8_age_91 rfl ?_
            refine z_get (ci := 8) (r := (RX8, TX8, 12)) (j := 7) (v := .ref 25) dX8_age_92 (Nat.le_of_ble_eq_true rfl) (zN rfl) rfl rfl (Nat.le_of_ble_eq_true rfl) fl_X8_48 rfl ?_
            refine z_callV (ci := 3) (r := (RX3, TX3, 10)) (b := 25) (As := []) (rest := [.ref 27, .ref 3]) (ctX3_lacking_t P (zu (vX8_age_1 P a1 a2 σ) 3 (zu ((vX8_age_1 P a1 a2 σ) 3) 9 (rX2_lastComing (vX8_age_1 P a1 a2 σ) (((vX8_age_1 P a1 a2 σ) 25) 7) (0 : Int32))))) dX8_age_95 lk_X8_222 lv_X3_lacking (Nat.le_of_ble_eq_true rfl) (zN rfl) rfl rfl rfl rfl (Nat.le_of_ble_eq_true rfl) (Nat.le_of_ble_eq_true rfl) (Nat.le_of_ble_eq_true rfl) (Nat.le_of_ble_eq_true rfl) (fun r_ h_ e_ => ?_)
            obtain ⟨e1_, e2_⟩ := e_
            subst e1_
            subst e2_
            show zz G mX8_age 20 0 0 Q_ 98 [some (.ref 3), some (.int a1), some (.int a2), some (.ref (pO a1.toNatClampNeg)), some (.ref (pO ((nwo P (sX8_readHistory P σ a2) a2).getD 0)))] [.int (rX3_lacking_t (zu (vX8_age_1 P a1 a2 σ) 3 (zu ((vX8_age_1 P a1 a2 σ) 3) 9 (rX2_lastComing (vX8_age_1 P a1 a2 σ) (((vX8_age_1 P a1 a2 σ) 25) 7) (0 : Int32))))), .ref 27, .ref 3] (hh P (zu (vX8_age_1 P a1 a2 σ) 3 (zu ((vX8_age_1 P a1 a2 σ) 3) 9 (rX2_lastComing (vX8_age_1 P a1 a2 σ) (((vX8_age_1 P a1 a2 σ) 25) 7) (0 : Int32))))) 0 0
            refine z_sipush dX8_age_98 k_sipush_10000 ?_
            refine z_callV (ci := 2) (r := (RX2, TX2, 6)) (b := 27) (As := [.int (rX3_lacking_t (zu (vX8_age_1 P a1 a2 σ) 3 (zu ((vX8_age_1 P a1 a2 σ) 3) 9 (rX2_lastComing (vX8_age_1 P a1 a2 σ) (((vX8_age_1 P a1 a2 σ) 25) 7) (0 : Int32))))), .int (10000 : Int32)]) (rest := [.ref 3]) (ctX2_firstComing P (zu (vX8_age_1 P a1 a2 σ) 3 (zu ((vX8_age_1 P a1 a2 σ) 3) 9 (rX2_lastComing (vX8_age_1 P a1 a2 σ) (((vX8_age_1 P a1 a2 σ) 25) 7) (0 : Int32)))) (rX3_lacking_t (zu (vX8_age_1 P a1 a2 σ) 3 (zu ((vX8_age_1 P a1 a2 σ) 3) 9 (rX2_lastComing (vX8_age_1 P a1 a2 σ) (((vX8_age_1 P a1 a2 σ) 25) 7) (0 : Int32))))) (10000 : Int32)) dX8_age_101 lk_X8_225 lv_X2_firstComing (Nat.le_of_ble_eq_true rfl) (zN rfl) rfl rfl rfl rfl (Nat.le_of_ble_eq_true rfl) (Nat.le_of_ble_eq_true rfl) (Nat.le_of_ble_eq_true rfl) (Nat.le_of_ble_eq_true rfl) (fun r_ h_ e_ => ?_)
            obtain ⟨e1_, e2_⟩ := e_
            subst e1_
            subst e2_
            show zz G mX8_age 20 0 0 Q_ 104 [some (.ref 3), some (.int a1), some (.int a2), some (.ref (pO a1.toNatClampNeg)), some (.ref (pO ((nwo P (sX8_readHistory P σ a2) a2).getD 0)))] [.int (rX2_firstComing (zu (vX8_age_1 P a1 a2 σ) 3 (zu ((vX8_age_1 P a1 a2 σ) 3) 9 (rX2_lastComing (vX8_age_1 P a1 a2 σ) (((vX8_age_1 P a1 a2 σ) 25) 7) (0 : Int32)))) (rX3_lacking_t (zu (vX8_age_1 P a1 a2 σ) 3 (zu ((vX8_age_1 P a1 a2 σ) 3) 9 (rX2_lastComing (vX8_age_1 P a1 a2 σ) (((vX8_age_1 P a1 a2 σ) 25) 7) (0 : Int32))))) (10000 : Int32)), .ref 3] (hh P (zu (vX8_age_1 P a1 a2 σ) 3 (zu ((vX8_age_1 P a1 a2 σ) 3) 9 (rX2_lastComing (vX8_age_1 P a1 a2 σ) (((vX8_age_1 P a1 a2 σ) 25) 7) (0 : Int32))))) 0 0
            refine z_put (ci := 8) (r := (RX8, TX8, 12)) (j := 10) (σ' := (zu (vX8_age_1 P a1 a2 σ) 3 (zu (zu ((vX8_age_1 P a1 a2 σ) 3) 9 (rX2_lastComing (vX8_age_1 P a1 a2 σ) (((vX8_age_1 P a1 a2 σ) 25) 7) (0 : Int32))) 10 (rX2_firstComing (zu (vX8_age_1 P a1 a2 σ) 3 (zu ((vX8_age_1 P a1 a2 σ) 3) 9 (rX2_lastComing (vX8_age_1 P a1 a2 σ) (((vX8_age_1 P a1 a2 σ) 25) 7) (0 : Int32)))) (rX3_lacking_t (zu (vX8_age_1 P a1 a2 σ) 3 (zu ((vX8_age_1 P a1 a2 σ) 3) 9 (rX2_lastComing (vX8_age_1 P a1 a2 σ) (((vX8_age_1 P a1 a2 σ) 25) 7) (0 : Int32))))) (10000 : Int32))))) dX8_age_104 (Nat.le_of_ble_eq_true rfl) (zN rfl) rfl rfl (Nat.le_of_ble_eq_true rfl) fl_X8_61 rfl rfl rfl rfl ((congrArg (fun g_ => zu _ _ (zu g_ _ _)) (zu_self _ _ _)).trans (zu_zu _ _ _ _)) ?_
            refine z_aloadr_n dX8_age_107 rfl ?_
            refine z_iconst dX8_age_108 k_iconst_1 ?_
            refine z_put (ci := 8) (r := (RX8, TX8, 12)) (j := 11) (σ' := (zu (vX8_age_1 P a1 a2 σ) 3 (zu (zu (zu ((vX8_age_1 P a1 a2 σ) 3) 9 (rX2_lastComing (vX8_age_1 P a1 a2 σ) (((vX8_age_1 P a1 a2 σ) 25) 7) (0 : Int32))) 10 (rX2_firstComing (zu (vX8_age_1 P a1 a2 σ) 3 (zu ((vX8_age_1 P a1 a2 σ) 3) 9 (rX2_lastComing (vX8_age_1 P a1 a2 σ) (((vX8_age_1 P a1 a2 σ) 25) 7) (0 : Int32)))) (rX3_lacking_t (zu (vX8_age_1 P a1 a2 σ) 3 (zu ((vX8_age_1 P a1 a2 σ) 3) 9 (rX2_lastComing (vX8_age_1 P a1 a2 σ) (((vX8_age_1 P a1 a2 σ) 25) 7) (0 : Int32))))) (10000 : Int32))) 11 (1 : Int32)))) dX8_age_109 (Nat.le_of_ble_eq_true rfl) (zN rfl) rfl rfl (Nat.le_of_ble_eq_true rfl) fl_X8_64 rfl rfl rfl rfl ((congrArg (fun g_ => zu _ _ (zu g_ _ _)) (zu_self _ _ _)).trans (zu_zu _ _ _ _)) ?_
            refine z_aloadr_n dX8_age_112 rfl ?_
            refine z_get (ci := 8) (r := (RX8, TX8, 12)) (j := 9) (v := .int ((zu (zu (zu ((vX8_age_1 P a1 a2 σ) 3) 9 (rX2_lastComing (vX8_age_1 P a1 a2 σ) (((vX8_age_1 P a1 a2 σ) 25) 7) (0 : Int32))) 10 (rX2_firstComing (zu (vX8_age_1 P a1 a2 σ) 3 (zu ((vX8_age_1 P a1 a2 σ) 3) 9 (rX2_lastComing (vX8_age_1 P a1 a2 σ) (((vX8_age_1 P a1 a2 σ) 25) 7) (0 : Int32)))) (rX3_lacking_t (zu (vX8_age_1 P a1 a2 σ) 3 (zu ((vX8_age_1 P a1 a2 σ) 3) 9 (rX2_lastComing (vX8_age_1 P a1 a2 σ) (((vX8_age_1 P a1 a2 σ) 25) 7) (0 : Int32))))) (10000 : Int32))) 11 (1 : Int32)) 9)) dX8_age_113 (Nat.le_of_ble_eq_true rfl) (zN rfl) rfl rfl (Nat.le_of_ble_eq_true rfl) fl_X8_58 (congrArg Value.int (congrFun (zu_self _ _ _) _)) ?_
            refine z_aloadr_n dX8_age_116 rfl ?_
            refine z_get (ci := 8) (r := (RX8, TX8, 12)) (j := 10) (v := .int ((zu (zu (zu ((vX8_age_1 P a1 a2 σ) 3) 9 (rX2_lastComing (vX8_age_1 P a1 a2 σ) (((vX8_age_1 P a1 a2 σ) 25) 7) (0 : Int32))) 10 (rX2_firstComing (zu (vX8_age_1 P a1 a2 σ) 3 (zu ((vX8_age_1 P a1 a2 σ) 3) 9 (rX2_lastComing (vX8_age_1 P a1 a2 σ) (((vX8_age_1 P a1 a2 σ) 25) 7) (0 : Int32)))) (rX3_lacking_t (zu (vX8_age_1 P a1 a2 σ) 3 (zu ((vX8_age_1 P a1 a2 σ) 3) 9 (rX2_lastComing (vX8_age_1 P a1 a2 σ) (((vX8_age_1 P a1 a2 σ) 25) 7) (0 : Int32))))) (10000 : Int32))) 11 (1 : Int32)) 10)) dX8_age_117 (Nat.le_of_ble_eq_true rfl) (zN rfl) rfl rfl (Nat.le_of_ble_eq_true rfl) fl_X8_61 (congrArg Value.int (congrFun (zu_self _ _ _) _)) ?_
            have K_1 : zz G mX8_age 20 0 0 Q_ 128 [none, none, none, none, none] [.int (if ((zu (zu (zu ((vX8_age_1 P a1 a2 σ) 3) 9 (rX2_lastComing (vX8_age_1 P a1 a2 σ) (((vX8_age_1 P a1 a2 σ) 25) 7) (0 : Int32))) 10 (rX2_firstComing (zu (vX8_age_1 P a1 a2 σ) 3 (zu ((vX8_age_1 P a1 a2 σ) 3) 9 (rX2_lastComing (vX8_age_1 P a1 a2 σ) (((vX8_age_1 P a1 a2 σ) 25) 7) (0 : Int32)))) (rX3_lacking_t (zu (vX8_age_1 P a1 a2 σ) 3 (zu ((vX8_age_1 P a1 a2 σ) 3) 9 (rX2_lastComing (vX8_age_1 P a1 a2 σ) (((vX8_age_1 P a1 a2 σ) 25) 7) (0 : Int32))))) (10000 : Int32))) 11 (1 : Int32)) 9) < ((zu (zu (zu ((vX8_age_1 P a1 a2 σ) 3) 9 (rX2_lastComing (vX8_age_1 P a1 a2 σ) (((vX8_age_1 P a1 a2 σ) 25) 7) (0 : Int32))) 10 (rX2_firstComing (zu (vX8_age_1 P a1 a2 σ) 3 (zu ((vX8_age_1 P a1 a2 σ) 3) 9 (rX2_lastComing (vX8_age_1 P a1 a2 σ) (((vX8_age_1 P a1 a2 σ) 25) 7) (0 : Int32)))) (rX3_lacking_t (zu (vX8_age_1 P a1 a2 σ) 3 (zu ((vX8_age_1 P a1 a2 σ) 3) 9 (rX2_lastComing (vX8_age_1 P a1 a2 σ) (((vX8_age_1 P a1 a2 σ) 25) 7) (0 : Int32))))) (10000 : Int32))) 11 (1 : Int32)) 10) then (1 : Int32) else (0 : Int32))] (hh P (zu (vX8_age_1 P a1 a2 σ) 3 (zu (zu (zu ((vX8_age_1 P a1 a2 σ) 3) 9 (rX2_lastComing (vX8_age_1 P a1 a2 σ) (((vX8_age_1 P a1 a2 σ) 25) 7) (0 : Int32))) 10 (rX2_firstComing (zu (vX8_age_1 P a1 a2 σ) 3 (zu ((vX8_age_1 P a1 a2 σ) 3) 9 (rX2_lastComing (vX8_age_1 P a1 a2 σ) (((vX8_age_1 P a1 a2 σ) 25) 7) (0 : Int32)))) (rX3_lacking_t (zu (vX8_age_1 P a1 a2 σ) 3 (zu ((vX8_age_1 P a1 a2 σ) 3) 9 (rX2_lastComing (vX8_age_1 P a1 a2 σ) (((vX8_age_1 P a1 a2 σ) 25) 7) (0 : Int32))))) (10000 : Int32))) 11 (1 : Int32)))) 0 0 := by
              exact z_ireturn dX8_age_128 rfl rfl (Nat.le_of_ble_eq_true rfl) (Nat.le_of_ble_eq_true rfl) (by rw [← hQ_]; exact ⟨(by rw [rX8_age]; try simp only [if_neg c_1, if_neg c_3, if_neg c_4, if_neg c_5, if_neg c_6]), (by rw [sX8_age]; try simp only [if_neg c_1, if_neg c_3, if_neg c_4, if_neg c_5, if_neg c_6])⟩)
            refine z_icmp_lt (tgt := 127) dX8_age_120 (by decide) (fun c_8 => ?_) (fun c_8 => ?_)
            · refine z_iconst dX8_age_127 k_iconst_1 ?_
              refine zz_sub (lv' := [none, none, none, none, none]) trivial ?_
              rw [show (if ((zu (zu (zu ((vX8_age_1 P a1 a2 σ) 3) 9 (rX2_lastComing (vX8_age_1 P a1 a2 σ) (((vX8_age_1 P a1 a2 σ) 25) 7) (0 : Int32))) 10 (rX2_firstComing (zu (vX8_age_1 P a1 a2 σ) 3 (zu ((vX8_age_1 P a1 a2 σ) 3) 9 (rX2_lastComing (vX8_age_1 P a1 a2 σ) (((vX8_age_1 P a1 a2 σ) 25) 7) (0 : Int32)))) (rX3_lacking_t (zu (vX8_age_1 P a1 a2 σ) 3 (zu ((vX8_age_1 P a1 a2 σ) 3) 9 (rX2_lastComing (vX8_age_1 P a1 a2 σ) (((vX8_age_1 P a1 a2 σ) 25) 7) (0 : Int32))))) (10000 : Int32))) 11 (1 : Int32)) 9) < ((zu (zu (zu ((vX8_age_1 P a1 a2 σ) 3) 9 (rX2_lastComing (vX8_age_1 P a1 a2 σ) (((vX8_age_1 P a1 a2 σ) 25) 7) (0 : Int32))) 10 (rX2_firstComing (zu (vX8_age_1 P a1 a2 σ) 3 (zu ((vX8_age_1 P a1 a2 σ) 3) 9 (rX2_lastComing (vX8_age_1 P a1 a2 σ) (((vX8_age_1 P a1 a2 σ) 25) 7) (0 : Int32)))) (rX3_lacking_t (zu (vX8_age_1 P a1 a2 σ) 3 (zu ((vX8_age_1 P a1 a2 σ) 3) 9 (rX2_lastComing (vX8_age_1 P a1 a2 σ) (((vX8_age_1 P a1 a2 σ) 25) 7) (0 : Int32))))) (10000 : Int32))) 11 (1 : Int32)) 10) then (1 : Int32) else (0 : Int32)) = (1 : Int32) from (if_pos c_8)] at K_1
              exact K_1
            · refine z_iconst dX8_age_123 k_iconst_0 ?_
              refine z_goto (tgt := 128) dX8_age_124 (by decide) ?_
              refine zz_sub (lv' := [none, none, none, none, none]) trivial ?_
              rw [show (if ((zu (zu (zu ((vX8_age_1 P a1 a2 σ) 3) 9 (rX2_lastComing (vX8_age_1 P a1 a2 σ) (((vX8_age_1 P a1 a2 σ) 25) 7) (0 : Int32))) 10 (rX2_firstComing (zu (vX8_age_1 P a1 a2 σ) 3 (zu ((vX8_age_1 P a1 a2 σ) 3) 9 (rX2_lastComing (vX8_age_1 P a1 a2 σ) (((vX8_age_1 P a1 a2 σ) 25) 7) (0 : Int32)))) (rX3_lacking_t (zu (vX8_age_1 P a1 a2 σ) 3 (zu ((vX8_age_1 P a1 a2 σ) 3) 9 (rX2_lastComing (vX8_age_1 P a1 a2 σ) (((vX8_age_1 P a1 a2 σ) 25) 7) (0 : Int32))))) (10000 : Int32))) 11 (1 : Int32)) 9) < ((zu (zu (zu ((vX8_age_1 P a1 a2 σ) 3) 9 (rX2_lastComing (vX8_age_1 P a1 a2 σ) (((vX8_age_1 P a1 a2 σ) 25) 7) (0 : Int32))) 10 (rX2_firstComing (zu (vX8_age_1 P a1 a2 σ) 3 (zu ((vX8_age_1 P a1 a2 σ) 3) 9 (rX2_lastComing (vX8_age_1 P a1 a2 σ) (((vX8_age_1 P a1 a2 σ) 25) 7) (0 : Int32)))) (rX3_lacking_t (zu (vX8_age_1 P a1 a2 σ) 3 (zu ((vX8_age_1 P a1 a2 σ) 3) 9 (rX2_lastComing (vX8_age_1 P a1 a2 σ) (((vX8_age_1 P a1 a2 σ) 25) 7) (0 : Int32))))) (10000 : Int32))) 11 (1 : Int32)) 10) then (1 : Int32) else (0 : Int32)) = (0 : Int32) from (if_neg c_8)] at K_1
              exact K_1
          · refine z_bipush dX8_age_50 k_bipush_m4 ?_
            exact z_ireturn dX8_age_52 rfl rfl (Nat.le_of_ble_eq_true rfl) (Nat.le_of_ble_eq_true rfl) (by rw [← hQ_]; exact ⟨(by rw [rX8_age]; try simp only [if_neg c_1, if_neg c_3, if_neg c_4, if_neg c_5, if_pos c_6]), (by rw [sX8_age]; try simp only [if_neg c_1, if_neg c_3, if_neg c_4, if_neg c_5, if_pos c_6])⟩)
        · refine z_bipush dX8_age_35 k_bipush_m4 ?_
          exact z_ireturn dX8_age_37 rfl rfl (Nat.le_of_ble_eq_true rfl) (Nat.le_of_ble_eq_true rfl) (by rw [← hQ_]; exact ⟨(by rw [rX8_age]; try simp only [if_neg c_1, if_neg c_3, if_neg c_4, if_pos c_5]), (by rw [sX8_age]; try simp only [if_neg c_1, if_neg c_3, if_neg c_4, if_pos c_5])⟩)
    · refine z_iconst dX8_age_17 k_iconst_m1 ?_
      exact z_ireturn dX8_age_18 rfl rfl (Nat.le_of_ble_eq_true rfl) (Nat.le_of_ble_eq_true rfl) (by rw [← hQ_]; exact ⟨(by rw [rX8_age]; try simp only [if_neg c_1, if_pos c_3]), (by rw [sX8_age]; try simp only [if_neg c_1, if_pos c_3])⟩)
