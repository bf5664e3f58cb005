/-! ===== wip/whole/p95.py: the system is made ===== -/
def IV (c : Nat) : Nat → Int32 := if c = 10 then zu (fun _ => 0) 0 1 else fun _ => 0
/-- the system half made: cells 4 .. M - 1 stand, cell 3 has the references rf -/
def ckI (L : Nat) (sh : Nat → zc_S) (σ : zc_N) (M : Nat) (rf : Nat → Option Nat) (S : Nat → zc_S) (T : zc_N) : Prop := S 3 = (11, 12, rf) ∧ (∀ c, 3 < c → c < M → S c = SH (zP0 L) c ∧ T c = IV c) ∧ (∀ c, c < 3 ∨ M ≤ c → S c = sh c ∧ T c = σ c) ∧ T 3 = fun _ => 0
theorem ckI_arr {L M : Nat} {sh : Nat → zc_S} {σ : zc_N} {rf : Nat → Option Nat} {S : Nat → zc_S} {T : zc_N} {v : zc_S} (h : ckI L sh σ M rf S T) (hM : 3 < M) (hv : v = SH (zP0 L) M) (h10 : M ≠ 10) : ckI L sh σ (M + 1) rf (zu S M v) (zu T M (fun _ => 0)) := by
  obtain ⟨h1, h2, h3, h4⟩ := h
  refine ⟨by rw [zu_ne _ _ (by omega)]; exact h1, fun c c1 c2 => ?_, fun c hc => ?_, by rw [zu_ne _ _ (by omega)]; exact h4⟩
  · by_cases e : c = M
    · rw [e, zu_self, zu_self]
      exact ⟨hv, (if_neg h10).symm⟩
    · rw [zu_ne _ _ e, zu_ne _ _ e]
      exact h2 c c1 (by omega)
  · rw [zu_ne _ _ (by omega), zu_ne _ _ (by omega)]
    exact h3 c (by omega)
theorem ckI_put {L M : Nat} {sh : Nat → zc_S} {σ : zc_N} {rf rf' : Nat → Option Nat} {S : Nat → zc_S} {T : zc_N} (h : ckI L sh σ M rf S T) (hM : 3 < M) : ckI L sh σ M rf' (zu S 3 ((11, 12, rf') : zc_S)) T := by
  obtain ⟨h1, h2, h3, h4⟩ := h
  refine ⟨zu_self _ _ _, fun c c1 c2 => ?_, fun c hc => ?_, h4⟩
  · rw [zu_ne _ _ (by omega)]
    exact h2 c c1 c2
  · rw [zu_ne _ _ (by omega)]
    exact h3 c hc
theorem ckI_call {L M M' : Nat} {sh : Nat → zc_S} {σ : zc_N} {rf : Nat → Option Nat} {S S' : Nat → zc_S} {T T' : zc_N} (h : ckI L sh σ M rf S T) (hM : 3 < M) (hMM : M ≤ M') (hin : ∀ c, M ≤ c → c < M' → S' c = SH (zP0 L) c ∧ T' c = IV c) (hout : ∀ c, c < M ∨ M' ≤ c → S' c = S c ∧ T' c = T c) : ckI L sh σ M' rf S' T' := by
  obtain ⟨h1, h2, h3, h4⟩ := h
  refine ⟨by rw [(hout 3 (Or.inl hM)).1]; exact h1, fun c c1 c2 => ?_, fun c hc => ?_, by rw [(hout 3 (Or.inl hM)).2]; exact h4⟩
  · by_cases e : c < M
    · rw [(hout c (Or.inl e)).1, (hout c (Or.inl e)).2]
      exact h2 c c1 e
    · exact hin c (by omega) c2
  · have : c < M ∨ M' ≤ c := by omega
    rw [(hout c this).1, (hout c this).2]
    exact h3 c (by omega)
theorem dX8_init_0 : decode cX8_init 0 = .ok (.aload_n 0, 1) := by decide +kernel
theorem dX8_init_1 : decode cX8_init 1 = .ok (.invokespecial 3, 3) := by decide +kernel
theorem dX8_init_4 : decode cX8_init 4 = .ok (.aload_n 0, 1) := by decide +kernel
theorem dX8_init_5 : decode cX8_init 5 = .ok (.new 9, 3) := by decide +kernel
theorem dX8_init_8 : decode cX8_init 8 = .ok (.dup, 1) := by decide +kernel
theorem dX8_init_9 : decode cX8_init 9 = .ok (.invokespecial 11, 3) := by decide +kernel
theorem dX8_init_12 : decode cX8_init 12 = .ok (.putfield 12, 3) := by decide +kernel
theorem dX8_init_15 : decode cX8_init 15 = .ok (.aload_n 0, 1) := by decide +kernel
theorem dX8_init_16 : decode cX8_init 16 = .ok (.bipush 12, 2) := by decide +kernel
theorem dX8_init_18 : decode cX8_init 18 = .ok (.newarray .int, 2) := by decide +kernel
theorem dX8_init_20 : decode cX8_init 20 = .ok (.putfield 16, 3) := by decide +kernel
theorem dX8_init_23 : decode cX8_init 23 = .ok (.aload_n 0, 1) := by decide +kernel
theorem dX8_init_24 : decode cX8_init 24 = .ok (.bipush 24, 2) := by decide +kernel
theorem dX8_init_26 : decode cX8_init 26 = .ok (.anewarray 20, 3) := by decide +kernel
theorem dX8_init_29 : decode cX8_init 29 = .ok (.putfield 22, 3) := by decide +kernel
theorem dX8_init_32 : decode cX8_init 32 = .ok (.aload_n 0, 1) := by decide +kernel
theorem dX8_init_33 : decode cX8_init 33 = .ok (.iconst 0, 1) := by decide +kernel
theorem dX8_init_34 : decode cX8_init 34 = .ok (.putfield 26, 3) := by decide +kernel
theorem dX8_init_37 : decode cX8_init 37 = .ok (.aload_n 0, 1) := by decide +kernel
theorem dX8_init_38 : decode cX8_init 38 = .ok (.new 30, 3) := by decide +kernel
theorem dX8_init_41 : decode cX8_init 41 = .ok (.dup, 1) := by decide +kernel
theorem dX8_init_42 : decode cX8_init 42 = .ok (.invokespecial 32, 3) := by decide +kernel
theorem dX8_init_45 : decode cX8_init 45 = .ok (.putfield 33, 3) := by decide +kernel
theorem dX8_init_48 : decode cX8_init 48 = .ok (.aload_n 0, 1) := by decide +kernel
theorem dX8_init_49 : decode cX8_init 49 = .ok (.new 37, 3) := by decide +kernel
theorem dX8_init_52 : decode cX8_init 52 = .ok (.dup, 1) := by decide +kernel
theorem dX8_init_53 : decode cX8_init 53 = .ok (.invokespecial 39, 3) := by decide +kernel
theorem dX8_init_56 : decode cX8_init 56 = .ok (.putfield 40, 3) := by decide +kernel
theorem dX8_init_59 : decode cX8_init 59 = .ok (.aload_n 0, 1) := by decide +kernel
theorem dX8_init_60 : decode cX8_init 60 = .ok (.iconst 0, 1) := by decide +kernel
theorem dX8_init_61 : decode cX8_init 61 = .ok (.putfield 44, 3) := by decide +kernel
theorem dX8_init_64 : decode cX8_init 64 = .ok (.aload_n 0, 1) := by decide +kernel
theorem dX8_init_65 : decode cX8_init 65 = .ok (.new 37, 3) := by decide +kernel
theorem dX8_init_68 : decode cX8_init 68 = .ok (.dup, 1) := by decide +kernel
theorem dX8_init_69 : decode cX8_init 69 = .ok (.invokespecial 39, 3) := by decide +kernel
theorem dX8_init_72 : decode cX8_init 72 = .ok (.putfield 48, 3) := by decide +kernel
theorem dX8_init_75 : decode cX8_init 75 = .ok (.aload_n 0, 1) := by decide +kernel
theorem dX8_init_76 : decode cX8_init 76 = .ok (.new 51, 3) := by decide +kernel
theorem dX8_init_79 : decode cX8_init 79 = .ok (.dup, 1) := by decide +kernel
theorem dX8_init_80 : decode cX8_init 80 = .ok (.invokespecial 53, 3) := by decide +kernel
theorem dX8_init_83 : decode cX8_init 83 = .ok (.putfield 54, 3) := by decide +kernel
theorem dX8_init_86 : decode cX8_init 86 = .ok (.aload_n 0, 1) := by decide +kernel
theorem dX8_init_87 : decode cX8_init 87 = .ok (.iconst 0, 1) := by decide +kernel
theorem dX8_init_88 : decode cX8_init 88 = .ok (.putfield 58, 3) := by decide +kernel
theorem dX8_init_91 : decode cX8_init 91 = .ok (.aload_n 0, 1) := by decide +kernel
theorem dX8_init_92 : decode cX8_init 92 = .ok (.iconst 0, 1) := by decide +kernel
theorem dX8_init_93 : decode cX8_init 93 = .ok (.putfield 61, 3) := by decide +kernel
theorem dX8_init_96 : decode cX8_init 96 = .ok (.aload_n 0, 1) := by decide +kernel
theorem dX8_init_97 : decode cX8_init 97 = .ok (.iconst 0, 1) := by decide +kernel
theorem dX8_init_98 : decode cX8_init 98 = .ok (.putfield 64, 3) := by decide +kernel
theorem dX8_init_101 : decode cX8_init 101 = .ok (.return_, 1) := by decide +kernel
theorem rf_3 (L : Nat) : ((11, 12, (zu (zu (zu (zu (zu (zu (zu (fun _ => none) 0 (some 4)) 1 (some 8)) 2 (some 9)) 4 (some 10)) 5 (some 23)) 7 (some 25)) 8 (some 27))) : zc_S) = SH (zP0 L) 3 := by
  refine congrArg (fun z => ((11, 12, z) : zc_S)) (funext (fun j => ?_))
  match j with
  | 0 => rfl
  | 1 => rfl
  | 2 => rfl
  | 3 => rfl
  | 4 => rfl
  | 5 => rfl
  | 6 => rfl
  | 7 => rfl
  | 8 => rfl
  | 9 => rfl
  | 10 => rfl
  | 11 => rfl
  | j + 12 => rfl
set_option maxHeartbeats 4000000 in
theorem ctX8_init (L : Nat) {sh : Nat → zc_S} {σ : zc_N} (hs : sh 3 = (11, 12, fun _ => none)) (h0 : σ 3 = fun _ => 0) : sp mX8_init 3 28 2972 [.ref 3] (4, sh, σ) (fun r_ h_ => r_ = none ∧ ∃ S T, h_ = (32, S, T) ∧ ckI L sh σ 32 (zu (zu (zu (zu (zu (zu (zu (fun _ => none) 0 (some 4)) 1 (some 8)) 2 (some 9)) 4 (some 10)) 5 (some 23)) 7 (some 25)) 8 (some 27)) S T) := by
  refine sp_of (lv := [some (.ref 3)]) (by decide) (zcats_ok _ rfl) (Nat.le_of_ble_eq_true rfl) (zlv_ok _ 0 rfl) (fun G => ?_)
  generalize hQ_ : (fun (r_ : Option Value) (h_ : zc_H) => r_ = none ∧ ∃ S T, h_ = (32, S, T) ∧ ckI L sh σ 32 (zu (zu (zu (zu (zu (zu (zu (fun _ => none) 0 (some 4)) 1 (some 8)) 2 (some 9)) 4 (some 10)) 5 (some 23)) 7 (some 25)) 8 (some 27)) S T) = Q_
  have c0_ : ckI L sh σ 4 (fun _ => none) sh σ := ⟨hs, fun c h1 h2 => absurd h1 (by omega), fun c _ => ⟨rfl, rfl⟩, h0⟩
  refine z_aloadr_n dX8_init_0 rfl ?_
  refine z_objInit dX8_init_1 oi_X8_3 zw_oi2 zw_oi3 (Nat.le_of_ble_eq_true rfl) (Nat.le_of_ble_eq_true rfl) ?_
  refine z_aloadr_n dX8_init_4 rfl ?_
  refine z_new (ci := 1) (r := (RX1, TX1, 3)) dX8_init_5 rfl cl_X8_9 nw_X1 ni_X1 df_X1 (Nat.le_of_ble_eq_true rfl) (Nat.le_of_ble_eq_true rfl) ?_
  refine z_dup dX8_init_8 rfl ?_
  refine z_callIN (b := 4) (As := []) (rest := [.ref 4, .ref 3]) rfl (ctX1_init_4 L (sh := zu sh 4 ((4, 3, fun _ => none) : zc_S)) (σ := zu σ 4 (fun _ => 0)) rfl rfl) dX8_init_9 ln_X8_11 li_X1_init rfl (Nat.le_of_ble_eq_true rfl) (Nat.le_of_ble_eq_true rfl) (Nat.le_of_ble_eq_true rfl) (Nat.le_of_ble_eq_true rfl) (fun r_ h_ e_ => ?_)
  obtain ⟨e1_, e2_⟩ := e_
  subst e1_
  subst e2_
  have c1_ : ckI L sh σ 8 (fun _ => none) (zu (zu (zu (zu (zu sh 4 ((4, 3, fun _ => none) : zc_S)) 4 (SH (zP0 L) 4)) 5 (SH (zP0 L) 5)) 6 (SH (zP0 L) 6)) 7 (SH (zP0 L) 7)) (zu (zu (zu (zu σ 4 (fun _ => (0 : Int32))) 5 (fun _ => (0 : Int32))) 6 (fun _ => (0 : Int32))) 7 (fun _ => (0 : Int32))) := by
    refine ckI_call (M := 4) c0_ (by decide) (by decide) (fun c h1 h2 => ?_) (fun c hc => ?_)
    · have hc : c = 4 ∨ c = 5 ∨ c = 6 ∨ c = 7 := by omega
      rcases hc with rfl | rfl | rfl | rfl
      · exact ⟨rfl, rfl⟩
      · exact ⟨rfl, rfl⟩
      · exact ⟨rfl, rfl⟩
      · exact ⟨rfl, rfl⟩
    · exact ⟨by rw [zu_ne _ _ (by omega), zu_ne _ _ (by omega), zu_ne _ _ (by omega), zu_ne _ _ (by omega), zu_ne _ _ (by omega)], by rw [zu_ne _ _ (by omega), zu_ne _ _ (by omega), zu_ne _ _ (by omega), zu_ne _ _ (by omega)]⟩
  show zz G mX8_init 3 28 2972 Q_ 12 [some (.ref 3)] [.ref 4, .ref 3] (8, (zu (zu (zu (zu (zu sh 4 ((4, 3, fun _ => none) : zc_S)) 4 (SH (zP0 L) 4)) 5 (SH (zP0 L) 5)) 6 (SH (zP0 L) 6)) 7 (SH (zP0 L) 7)), (zu (zu (zu (zu σ 4 (fun _ => (0 : Int32))) 5 (fun _ => (0 : Int32))) 6 (fun _ => (0 : Int32))) 7 (fun _ => (0 : Int32)))) 4 363
  generalize (zu (zu (zu (zu (zu sh 4 ((4, 3, fun _ => none) : zc_S)) 4 (SH (zP0 L) 4)) 5 (SH (zP0 L) 5)) 6 (SH (zP0 L) 6)) 7 (SH (zP0 L) 7)) = S1 at c1_ ⊢
  generalize (zu (zu (zu (zu σ 4 (fun _ => (0 : Int32))) 5 (fun _ => (0 : Int32))) 6 (fun _ => (0 : Int32))) 7 (fun _ => (0 : Int32))) = T1 at c1_ ⊢
  refine z_putFr (sh' := zu S1 3 ((11, 12, (zu (fun _ => none) 0 (some 4))) : zc_S)) (ci := 8) (n := 12) (rf := (fun _ => none)) (r := (RX8, TX8, 12)) (j := 0) dX8_init_12 (Nat.le_of_ble_eq_true rfl) (Nat.le_of_ble_eq_true rfl) c1_.1 rfl (Nat.le_of_ble_eq_true rfl) fl_X8_12 rfl rfl rfl rfl (fun _ => rfl) (fun _ => rfl) rfl ?_
  have c2_ := ckI_put (rf' := (zu (fun _ => none) 0 (some 4))) c1_ (by decide)
  generalize zu S1 3 ((11, 12, (zu (fun _ => none) 0 (some 4))) : zc_S) = S2 at c2_ ⊢
  refine z_aloadr_n dX8_init_15 rfl ?_
  refine z_bipush (v := (12 : Int32)) dX8_init_16 (by decide +kernel) ?_
  refine z_newi (n := 12) (v := 0) dX8_init_18 (by decide) (by decide) (by decide) zw_ai (Nat.le_of_ble_eq_true rfl) (Nat.le_of_ble_eq_true rfl) ?_
  have c3_ := ckI_arr (v := ((0, 12, fun _ => none) : zc_S)) c2_ (by decide) rfl (by decide)
  generalize zu S2 8 ((0, 12, fun _ => none) : zc_S) = S3 at c3_ ⊢
  generalize zu T1 8 (fun _ => (0 : Int32)) = T3 at c3_ ⊢
  refine z_putFr (sh' := zu S3 3 ((11, 12, (zu (zu (fun _ => none) 0 (some 4)) 1 (some 8))) : zc_S)) (ci := 8) (n := 12) (rf := (zu (fun _ => none) 0 (some 4))) (r := (RX8, TX8, 12)) (j := 1) dX8_init_20 (Nat.le_of_ble_eq_true rfl) (Nat.le_of_ble_eq_true rfl) c3_.1 rfl (Nat.le_of_ble_eq_true rfl) fl_X8_16 rfl rfl rfl rfl (fun _ => rfl) (fun _ => rfl) rfl ?_
  have c4_ := ckI_put (rf' := (zu (zu (fun _ => none) 0 (some 4)) 1 (some 8))) c3_ (by decide)
  generalize zu S3 3 ((11, 12, (zu (zu (fun _ => none) 0 (some 4)) 1 (some 8))) : zc_S) = S4 at c4_ ⊢
  refine z_aloadr_n dX8_init_23 rfl ?_
  refine z_bipush (v := (24 : Int32)) dX8_init_24 (by decide +kernel) ?_
  refine z_anew (n := 24) dX8_init_26 (by decide) (by decide) (by decide) cl_X8_20 zw_ao (Nat.le_of_ble_eq_true rfl) (Nat.le_of_ble_eq_true rfl) ?_
  have c5_ := ckI_arr (v := ((2, 24, fun _ => none) : zc_S)) c4_ (by decide) (congrArg (fun z => ((2, 24, z) : zc_S)) (funext (fun j => (if_neg (Nat.not_lt_zero j)).symm))) (by decide)
  generalize zu S4 9 ((2, 24, fun _ => none) : zc_S) = S5 at c5_ ⊢
  generalize zu T3 9 (fun _ => (0 : Int32)) = T5 at c5_ ⊢
  refine z_putFr (sh' := zu S5 3 ((11, 12, (zu (zu (zu (fun _ => none) 0 (some 4)) 1 (some 8)) 2 (some 9))) : zc_S)) (ci := 8) (n := 12) (rf := (zu (zu (fun _ => none) 0 (some 4)) 1 (some 8))) (r := (RX8, TX8, 12)) (j := 2) dX8_init_29 (Nat.le_of_ble_eq_true rfl) (Nat.le_of_ble_eq_true rfl) c5_.1 rfl (Nat.le_of_ble_eq_true rfl) fl_X8_22 rfl rfl rfl rfl (fun _ => rfl) (fun _ => rfl) rfl ?_
  have c6_ := ckI_put (rf' := (zu (zu (zu (fun _ => none) 0 (some 4)) 1 (some 8)) 2 (some 9))) c5_ (by decide)
  generalize zu S5 3 ((11, 12, (zu (zu (zu (fun _ => none) 0 (some 4)) 1 (some 8)) 2 (some 9))) : zc_S) = S6 at c6_ ⊢
  refine z_aloadr_n dX8_init_32 rfl ?_
  refine z_iconst (v := (0 : Int32)) dX8_init_33 (by decide +kernel) ?_
  refine z_put (σ' := T5) (ci := 8) (n := 12) (rf := (zu (zu (zu (fun _ => none) 0 (some 4)) 1 (some 8)) 2 (some 9))) (r := (RX8, TX8, 12)) (j := 3) dX8_init_34 (Nat.le_of_ble_eq_true rfl) (Nat.le_of_ble_eq_true rfl) c6_.1 rfl (Nat.le_of_ble_eq_true rfl) fl_X8_26 rfl rfl rfl rfl (zu_keep (congrFun c6_.2.2.2 3)) ?_
  refine z_aloadr_n dX8_init_37 rfl ?_
  refine z_new (ci := 4) (r := (RX4, TX4, 10)) dX8_init_38 rfl cl_X8_30 nw_X4 ni_X4 df_X4 (Nat.le_of_ble_eq_true rfl) (Nat.le_of_ble_eq_true rfl) ?_
  refine z_dup dX8_init_41 rfl ?_
  refine z_callIN (b := 10) (As := []) (rest := [.ref 10, .ref 3]) rfl (ctX4_init_10 L (sh := zu S6 10 ((7, 10, fun _ => none) : zc_S)) (σ := zu T5 10 (fun _ => 0)) rfl rfl) dX8_init_42 ln_X8_32 li_X4_init rfl (Nat.le_of_ble_eq_true rfl) (Nat.le_of_ble_eq_true rfl) (Nat.le_of_ble_eq_true rfl) (Nat.le_of_ble_eq_true rfl) (fun r_ h_ e_ => ?_)
  obtain ⟨e1_, e2_⟩ := e_
  subst e1_
  subst e2_
  have c7_ : ckI L sh σ 23 (zu (zu (zu (fun _ => none) 0 (some 4)) 1 (some 8)) 2 (some 9)) (zu (zu (zu (zu (zu (zu (zu (zu (zu (zu (zu (zu (zu (zu S6 10 ((7, 10, fun _ => none) : zc_S)) 10 (SH (zP0 L) 10)) 11 (SH (zP0 L) 11)) 12 (SH (zP0 L) 12)) 13 (SH (zP0 L) 13)) 14 (SH (zP0 L) 14)) 15 (SH (zP0 L) 15)) 16 (SH (zP0 L) 16)) 17 (SH (zP0 L) 17)) 18 (SH (zP0 L) 18)) 19 (SH (zP0 L) 19)) 20 (SH (zP0 L) 20)) 21 (SH (zP0 L) 21)) 22 (SH (zP0 L) 22)) (zu (zu (zu (zu (zu (zu (zu (zu (zu (zu (zu (zu (zu (zu T5 10 (fun _ => (0 : Int32))) 10 (zu (fun _ => (0 : Int32)) 0 (1 : Int32))) 11 (fun _ => (0 : Int32))) 12 (fun _ => (0 : Int32))) 13 (fun _ => (0 : Int32))) 14 (fun _ => (0 : Int32))) 15 (fun _ => (0 : Int32))) 16 (fun _ => (0 : Int32))) 17 (fun _ => (0 : Int32))) 18 (fun _ => (0 : Int32))) 19 (fun _ => (0 : Int32))) 20 (fun _ => (0 : Int32))) 21 (fun _ => (0 : Int32))) 22 (fun _ => (0 : Int32))) := by
    refine ckI_call (M := 10) c6_ (by decide) (by decide) (fun c h1 h2 => ?_) (fun c hc => ?_)
    · have hc : c = 10 ∨ c = 11 ∨ c = 12 ∨ c = 13 ∨ c = 14 ∨ c = 15 ∨ c = 16 ∨ c = 17 ∨ c = 18 ∨ c = 19 ∨ c = 20 ∨ c = 21 ∨ c = 22 := by omega
      rcases hc with rfl | rfl | rfl | rfl | rfl | rfl | rfl | rfl | rfl | rfl | rfl | rfl | rfl
      · exact ⟨rfl, rfl⟩
      · exact ⟨rfl, rfl⟩
      · exact ⟨rfl, rfl⟩
      · exact ⟨rfl, rfl⟩
      · exact ⟨rfl, rfl⟩
      · exact ⟨rfl, rfl⟩
      · exact ⟨rfl, rfl⟩
      · exact ⟨rfl, rfl⟩
      · exact ⟨rfl, rfl⟩
      · exact ⟨rfl, rfl⟩
      · exact ⟨rfl, rfl⟩
      · exact ⟨rfl, rfl⟩
      · exact ⟨rfl, rfl⟩
    · exact ⟨by rw [zu_ne _ _ (by omega), zu_ne _ _ (by omega), zu_ne _ _ (by omega), zu_ne _ _ (by omega), zu_ne _ _ (by omega), zu_ne _ _ (by omega), zu_ne _ _ (by omega), zu_ne _ _ (by omega), zu_ne _ _ (by omega), zu_ne _ _ (by omega), zu_ne _ _ (by omega), zu_ne _ _ (by omega), zu_ne _ _ (by omega), zu_ne _ _ (by omega)], by rw [zu_ne _ _ (by omega), zu_ne _ _ (by omega), zu_ne _ _ (by omega), zu_ne _ _ (by omega), zu_ne _ _ (by omega), zu_ne _ _ (by omega), zu_ne _ _ (by omega), zu_ne _ _ (by omega), zu_ne _ _ (by omega), zu_ne _ _ (by omega), zu_ne _ _ (by omega), zu_ne _ _ (by omega), zu_ne _ _ (by omega), zu_ne _ _ (by omega)]⟩
  show zz G mX8_init 3 28 2972 Q_ 45 [some (.ref 3)] [.ref 10, .ref 3] (23, (zu (zu (zu (zu (zu (zu (zu (zu (zu (zu (zu (zu (zu (zu S6 10 ((7, 10, fun _ => none) : zc_S)) 10 (SH (zP0 L) 10)) 11 (SH (zP0 L) 11)) 12 (SH (zP0 L) 12)) 13 (SH (zP0 L) 13)) 14 (SH (zP0 L) 14)) 15 (SH (zP0 L) 15)) 16 (SH (zP0 L) 16)) 17 (SH (zP0 L) 17)) 18 (SH (zP0 L) 18)) 19 (SH (zP0 L) 19)) 20 (SH (zP0 L) 20)) 21 (SH (zP0 L) 21)) 22 (SH (zP0 L) 22)), (zu (zu (zu (zu (zu (zu (zu (zu (zu (zu (zu (zu (zu (zu T5 10 (fun _ => (0 : Int32))) 10 (zu (fun _ => (0 : Int32)) 0 (1 : Int32))) 11 (fun _ => (0 : Int32))) 12 (fun _ => (0 : Int32))) 13 (fun _ => (0 : Int32))) 14 (fun _ => (0 : Int32))) 15 (fun _ => (0 : Int32))) 16 (fun _ => (0 : Int32))) 17 (fun _ => (0 : Int32))) 18 (fun _ => (0 : Int32))) 19 (fun _ => (0 : Int32))) 20 (fun _ => (0 : Int32))) 21 (fun _ => (0 : Int32))) 22 (fun _ => (0 : Int32)))) 19 2850
  generalize (zu (zu (zu (zu (zu (zu (zu (zu (zu (zu (zu (zu (zu (zu S6 10 ((7, 10, fun _ => none) : zc_S)) 10 (SH (zP0 L) 10)) 11 (SH (zP0 L) 11)) 12 (SH (zP0 L) 12)) 13 (SH (zP0 L) 13)) 14 (SH (zP0 L) 14)) 15 (SH (zP0 L) 15)) 16 (SH (zP0 L) 16)) 17 (SH (zP0 L) 17)) 18 (SH (zP0 L) 18)) 19 (SH (zP0 L) 19)) 20 (SH (zP0 L) 20)) 21 (SH (zP0 L) 21)) 22 (SH (zP0 L) 22)) = S7 at c7_ ⊢
  generalize (zu (zu (zu (zu (zu (zu (zu (zu (zu (zu (zu (zu (zu (zu T5 10 (fun _ => (0 : Int32))) 10 (zu (fun _ => (0 : Int32)) 0 (1 : Int32))) 11 (fun _ => (0 : Int32))) 12 (fun _ => (0 : Int32))) 13 (fun _ => (0 : Int32))) 14 (fun _ => (0 : Int32))) 15 (fun _ => (0 : Int32))) 16 (fun _ => (0 : Int32))) 17 (fun _ => (0 : Int32))) 18 (fun _ => (0 : Int32))) 19 (fun _ => (0 : Int32))) 20 (fun _ => (0 : Int32))) 21 (fun _ => (0 : Int32))) 22 (fun _ => (0 : Int32))) = T7 at c7_ ⊢
  refine z_putFr (sh' := zu S7 3 ((11, 12, (zu (zu (zu (zu (fun _ => none) 0 (some 4)) 1 (some 8)) 2 (some 9)) 4 (some 10))) : zc_S)) (ci := 8) (n := 12) (rf := (zu (zu (zu (fun _ => none) 0 (some 4)) 1 (some 8)) 2 (some 9))) (r := (RX8, TX8, 12)) (j := 4) dX8_init_45 (Nat.le_of_ble_eq_true rfl) (Nat.le_of_ble_eq_true rfl) c7_.1 rfl (Nat.le_of_ble_eq_true rfl) fl_X8_33 rfl rfl rfl rfl (fun _ => rfl) (fun _ => rfl) rfl ?_
  have c8_ := ckI_put (rf' := (zu (zu (zu (zu (fun _ => none) 0 (some 4)) 1 (some 8)) 2 (some 9)) 4 (some 10))) c7_ (by decide)
  generalize zu S7 3 ((11, 12, (zu (zu (zu (zu (fun _ => none) 0 (some 4)) 1 (some 8)) 2 (some 9)) 4 (some 10))) : zc_S) = S8 at c8_ ⊢
  refine z_aloadr_n dX8_init_48 rfl ?_
  refine z_new (ci := 3) (r := (RX3, TX3, 10)) dX8_init_49 rfl cl_X8_37 nw_X3 ni_X3 df_X3 (Nat.le_of_ble_eq_true rfl) (Nat.le_of_ble_eq_true rfl) ?_
  refine z_dup dX8_init_52 rfl ?_
  refine z_callIN (b := 23) (As := []) (rest := [.ref 23, .ref 3]) rfl (ctX3_init_23 L (sh := zu S8 23 ((6, 10, fun _ => none) : zc_S)) (σ := zu T7 23 (fun _ => 0)) rfl rfl) dX8_init_53 ln_X8_39 li_X3_init rfl (Nat.le_of_ble_eq_true rfl) (Nat.le_of_ble_eq_true rfl) (Nat.le_of_ble_eq_true rfl) (Nat.le_of_ble_eq_true rfl) (fun r_ h_ e_ => ?_)
  obtain ⟨e1_, e2_⟩ := e_
  subst e1_
  subst e2_
  have c9_ : ckI L sh σ 25 (zu (zu (zu (zu (fun _ => none) 0 (some 4)) 1 (some 8)) 2 (some 9)) 4 (some 10)) (zu (zu (zu S8 23 ((6, 10, fun _ => none) : zc_S)) 23 (SH (zP0 L) 23)) 24 (SH (zP0 L) 24)) (zu (zu T7 23 (fun _ => (0 : Int32))) 24 (fun _ => (0 : Int32))) := by
    refine ckI_call (M := 23) c8_ (by decide) (by decide) (fun c h1 h2 => ?_) (fun c hc => ?_)
    · have hc : c = 23 ∨ c = 24 := by omega
      rcases hc with rfl | rfl
      · exact ⟨rfl, rfl⟩
      · exact ⟨rfl, rfl⟩
    · exact ⟨by rw [zu_ne _ _ (by omega), zu_ne _ _ (by omega), zu_ne _ _ (by omega)], by rw [zu_ne _ _ (by omega), zu_ne _ _ (by omega)]⟩
  show zz G mX8_init 3 28 2972 Q_ 56 [some (.ref 3)] [.ref 23, .ref 3] (25, (zu (zu (zu S8 23 ((6, 10, fun _ => none) : zc_S)) 23 (SH (zP0 L) 23)) 24 (SH (zP0 L) 24)), (zu (zu T7 23 (fun _ => (0 : Int32))) 24 (fun _ => (0 : Int32)))) 21 2872
  generalize (zu (zu (zu S8 23 ((6, 10, fun _ => none) : zc_S)) 23 (SH (zP0 L) 23)) 24 (SH (zP0 L) 24)) = S9 at c9_ ⊢
  generalize (zu (zu T7 23 (fun _ => (0 : Int32))) 24 (fun _ => (0 : Int32))) = T9 at c9_ ⊢
  refine z_putFr (sh' := zu S9 3 ((11, 12, (zu (zu (zu (zu (zu (fun _ => none) 0 (some 4)) 1 (some 8)) 2 (some 9)) 4 (some 10)) 5 (some 23))) : zc_S)) (ci := 8) (n := 12) (rf := (zu (zu (zu (zu (fun _ => none) 0 (some 4)) 1 (some 8)) 2 (some 9)) 4 (some 10))) (r := (RX8, TX8, 12)) (j := 5) dX8_init_56 (Nat.le_of_ble_eq_true rfl) (Nat.le_of_ble_eq_true rfl) c9_.1 rfl (Nat.le_of_ble_eq_true rfl) fl_X8_40 rfl rfl rfl rfl (fun _ => rfl) (fun _ => rfl) rfl ?_
  have c10_ := ckI_put (rf' := (zu (zu (zu (zu (zu (fun _ => none) 0 (some 4)) 1 (some 8)) 2 (some 9)) 4 (some 10)) 5 (some 23))) c9_ (by decide)
  generalize zu S9 3 ((11, 12, (zu (zu (zu (zu (zu (fun _ => none) 0 (some 4)) 1 (some 8)) 2 (some 9)) 4 (some 10)) 5 (some 23))) : zc_S) = S10 at c10_ ⊢
  refine z_aloadr_n dX8_init_59 rfl ?_
  refine z_iconst (v := (0 : Int32)) dX8_init_60 (by decide +kernel) ?_
  refine z_put (σ' := T9) (ci := 8) (n := 12) (rf := (zu (zu (zu (zu (zu (fun _ => none) 0 (some 4)) 1 (some 8)) 2 (some 9)) 4 (some 10)) 5 (some 23))) (r := (RX8, TX8, 12)) (j := 6) dX8_init_61 (Nat.le_of_ble_eq_true rfl) (Nat.le_of_ble_eq_true rfl) c10_.1 rfl (Nat.le_of_ble_eq_true rfl) fl_X8_44 rfl rfl rfl rfl (zu_keep (congrFun c10_.2.2.2 6)) ?_
  refine z_aloadr_n dX8_init_64 rfl ?_
  refine z_new (ci := 3) (r := (RX3, TX3, 10)) dX8_init_65 rfl cl_X8_37 nw_X3 ni_X3 df_X3 (Nat.le_of_ble_eq_true rfl) (Nat.le_of_ble_eq_true rfl) ?_
  refine z_dup dX8_init_68 rfl ?_
  refine z_callIN (b := 25) (As := []) (rest := [.ref 25, .ref 3]) rfl (ctX3_init_25 L (sh := zu S10 25 ((6, 10, fun _ => none) : zc_S)) (σ := zu T9 25 (fun _ => 0)) rfl rfl) dX8_init_69 ln_X8_39 li_X3_init rfl (Nat.le_of_ble_eq_true rfl) (Nat.le_of_ble_eq_true rfl) (Nat.le_of_ble_eq_true rfl) (Nat.le_of_ble_eq_true rfl) (fun r_ h_ e_ => ?_)
  obtain ⟨e1_, e2_⟩ := e_
  subst e1_
  subst e2_
  have c11_ : ckI L sh σ 27 (zu (zu (zu (zu (zu (fun _ => none) 0 (some 4)) 1 (some 8)) 2 (some 9)) 4 (some 10)) 5 (some 23)) (zu (zu (zu S10 25 ((6, 10, fun _ => none) : zc_S)) 25 (SH (zP0 L) 25)) 26 (SH (zP0 L) 26)) (zu (zu T9 25 (fun _ => (0 : Int32))) 26 (fun _ => (0 : Int32))) := by
    refine ckI_call (M := 25) c10_ (by decide) (by decide) (fun c h1 h2 => ?_) (fun c hc => ?_)
    · have hc : c = 25 ∨ c = 26 := by omega
      rcases hc with rfl | rfl
      · exact ⟨rfl, rfl⟩
      · exact ⟨rfl, rfl⟩
    · exact ⟨by rw [zu_ne _ _ (by omega), zu_ne _ _ (by omega), zu_ne _ _ (by omega)], by rw [zu_ne _ _ (by omega), zu_ne _ _ (by omega)]⟩
  show zz G mX8_init 3 28 2972 Q_ 72 [some (.ref 3)] [.ref 25, .ref 3] (27, (zu (zu (zu S10 25 ((6, 10, fun _ => none) : zc_S)) 25 (SH (zP0 L) 25)) 26 (SH (zP0 L) 26)), (zu (zu T9 25 (fun _ => (0 : Int32))) 26 (fun _ => (0 : Int32)))) 23 2894
  generalize (zu (zu (zu S10 25 ((6, 10, fun _ => none) : zc_S)) 25 (SH (zP0 L) 25)) 26 (SH (zP0 L) 26)) = S11 at c11_ ⊢
  generalize (zu (zu T9 25 (fun _ => (0 : Int32))) 26 (fun _ => (0 : Int32))) = T11 at c11_ ⊢
  refine z_putFr (sh' := zu S11 3 ((11, 12, (zu (zu (zu (zu (zu (zu (fun _ => none) 0 (some 4)) 1 (some 8)) 2 (some 9)) 4 (some 10)) 5 (some 23)) 7 (some 25))) : zc_S)) (ci := 8) (n := 12) (rf := (zu (zu (zu (zu (zu (fun _ => none) 0 (some 4)) 1 (some 8)) 2 (some 9)) 4 (some 10)) 5 (some 23))) (r := (RX8, TX8, 12)) (j := 7) dX8_init_72 (Nat.le_of_ble_eq_true rfl) (Nat.le_of_ble_eq_true rfl) c11_.1 rfl (Nat.le_of_ble_eq_true rfl) fl_X8_48 rfl rfl rfl rfl (fun _ => rfl) (fun _ => rfl) rfl ?_
  have c12_ := ckI_put (rf' := (zu (zu (zu (zu (zu (zu (fun _ => none) 0 (some 4)) 1 (some 8)) 2 (some 9)) 4 (some 10)) 5 (some 23)) 7 (some 25))) c11_ (by decide)
  generalize zu S11 3 ((11, 12, (zu (zu (zu (zu (zu (zu (fun _ => none) 0 (some 4)) 1 (some 8)) 2 (some 9)) 4 (some 10)) 5 (some 23)) 7 (some 25))) : zc_S) = S12 at c12_ ⊢
  refine z_aloadr_n dX8_init_75 rfl ?_
  refine z_new (ci := 2) (r := (RX2, TX2, 6)) dX8_init_76 rfl cl_X8_51 nw_X2 ni_X2 df_X2 (Nat.le_of_ble_eq_true rfl) (Nat.le_of_ble_eq_true rfl) ?_
  refine z_dup dX8_init_79 rfl ?_
  refine z_callIN (b := 27) (As := []) (rest := [.ref 27, .ref 3]) rfl (ctX2_init_27 L (sh := zu S12 27 ((5, 6, fun _ => none) : zc_S)) (σ := zu T11 27 (fun _ => 0)) rfl rfl) dX8_init_80 ln_X8_53 li_X2_init rfl (Nat.le_of_ble_eq_true rfl) (Nat.le_of_ble_eq_true rfl) (Nat.le_of_ble_eq_true rfl) (Nat.le_of_ble_eq_true rfl) (fun r_ h_ e_ => ?_)
  obtain ⟨e1_, e2_⟩ := e_
  subst e1_
  subst e2_
  have c13_ : ckI L sh σ 32 (zu (zu (zu (zu (zu (zu (fun _ => none) 0 (some 4)) 1 (some 8)) 2 (some 9)) 4 (some 10)) 5 (some 23)) 7 (some 25)) (zu (zu (zu (zu (zu (zu S12 27 ((5, 6, fun _ => none) : zc_S)) 27 (SH (zP0 L) 27)) 28 (SH (zP0 L) 28)) 29 (SH (zP0 L) 29)) 30 (SH (zP0 L) 30)) 31 (SH (zP0 L) 31)) (zu (zu (zu (zu (zu T11 27 (fun _ => (0 : Int32))) 28 (fun _ => (0 : Int32))) 29 (fun _ => (0 : Int32))) 30 (fun _ => (0 : Int32))) 31 (fun _ => (0 : Int32))) := by
    refine ckI_call (M := 27) c12_ (by decide) (by decide) (fun c h1 h2 => ?_) (fun c hc => ?_)
    · have hc : c = 27 ∨ c = 28 ∨ c = 29 ∨ c = 30 ∨ c = 31 := by omega
      rcases hc with rfl | rfl | rfl | rfl | rfl
      · exact ⟨rfl, rfl⟩
      · exact ⟨rfl, rfl⟩
      · exact ⟨rfl, rfl⟩
      · exact ⟨rfl, rfl⟩
      · exact ⟨rfl, rfl⟩
    · exact ⟨by rw [zu_ne _ _ (by omega), zu_ne _ _ (by omega), zu_ne _ _ (by omega), zu_ne _ _ (by omega), zu_ne _ _ (by omega), zu_ne _ _ (by omega)], by rw [zu_ne _ _ (by omega), zu_ne _ _ (by omega), zu_ne _ _ (by omega), zu_ne _ _ (by omega), zu_ne _ _ (by omega)]⟩
  show zz G mX8_init 3 28 2972 Q_ 83 [some (.ref 3)] [.ref 27, .ref 3] (32, (zu (zu (zu (zu (zu (zu S12 27 ((5, 6, fun _ => none) : zc_S)) 27 (SH (zP0 L) 27)) 28 (SH (zP0 L) 28)) 29 (SH (zP0 L) 29)) 30 (SH (zP0 L) 30)) 31 (SH (zP0 L) 31)), (zu (zu (zu (zu (zu T11 27 (fun _ => (0 : Int32))) 28 (fun _ => (0 : Int32))) 29 (fun _ => (0 : Int32))) 30 (fun _ => (0 : Int32))) 31 (fun _ => (0 : Int32)))) 28 2972
  generalize (zu (zu (zu (zu (zu (zu S12 27 ((5, 6, fun _ => none) : zc_S)) 27 (SH (zP0 L) 27)) 28 (SH (zP0 L) 28)) 29 (SH (zP0 L) 29)) 30 (SH (zP0 L) 30)) 31 (SH (zP0 L) 31)) = S13 at c13_ ⊢
  generalize (zu (zu (zu (zu (zu T11 27 (fun _ => (0 : Int32))) 28 (fun _ => (0 : Int32))) 29 (fun _ => (0 : Int32))) 30 (fun _ => (0 : Int32))) 31 (fun _ => (0 : Int32))) = T13 at c13_ ⊢
  refine z_putFr (sh' := zu S13 3 ((11, 12, (zu (zu (zu (zu (zu (zu (zu (fun _ => none) 0 (some 4)) 1 (some 8)) 2 (some 9)) 4 (some 10)) 5 (some 23)) 7 (some 25)) 8 (some 27))) : zc_S)) (ci := 8) (n := 12) (rf := (zu (zu (zu (zu (zu (zu (fun _ => none) 0 (some 4)) 1 (some 8)) 2 (some 9)) 4 (some 10)) 5 (some 23)) 7 (some 25))) (r := (RX8, TX8, 12)) (j := 8) dX8_init_83 (Nat.le_of_ble_eq_true rfl) (Nat.le_of_ble_eq_true rfl) c13_.1 rfl (Nat.le_of_ble_eq_true rfl) fl_X8_54 rfl rfl rfl rfl (fun _ => rfl) (fun _ => rfl) rfl ?_
  have c14_ := ckI_put (rf' := (zu (zu (zu (zu (zu (zu (zu (fun _ => none) 0 (some 4)) 1 (some 8)) 2 (some 9)) 4 (some 10)) 5 (some 23)) 7 (some 25)) 8 (some 27))) c13_ (by decide)
  generalize zu S13 3 ((11, 12, (zu (zu (zu (zu (zu (zu (zu (fun _ => none) 0 (some 4)) 1 (some 8)) 2 (some 9)) 4 (some 10)) 5 (some 23)) 7 (some 25)) 8 (some 27))) : zc_S) = S14 at c14_ ⊢
  refine z_aloadr_n dX8_init_86 rfl ?_
  refine z_iconst (v := (0 : Int32)) dX8_init_87 (by decide +kernel) ?_
  refine z_put (σ' := T13) (ci := 8) (n := 12) (rf := (zu (zu (zu (zu (zu (zu (zu (fun _ => none) 0 (some 4)) 1 (some 8)) 2 (some 9)) 4 (some 10)) 5 (some 23)) 7 (some 25)) 8 (some 27))) (r := (RX8, TX8, 12)) (j := 9) dX8_init_88 (Nat.le_of_ble_eq_true rfl) (Nat.le_of_ble_eq_true rfl) c14_.1 rfl (Nat.le_of_ble_eq_true rfl) fl_X8_58 rfl rfl rfl rfl (zu_keep (congrFun c14_.2.2.2 9)) ?_
  refine z_aloadr_n dX8_init_91 rfl ?_
  refine z_iconst (v := (0 : Int32)) dX8_init_92 (by decide +kernel) ?_
  refine z_put (σ' := T13) (ci := 8) (n := 12) (rf := (zu (zu (zu (zu (zu (zu (zu (fun _ => none) 0 (some 4)) 1 (some 8)) 2 (some 9)) 4 (some 10)) 5 (some 23)) 7 (some 25)) 8 (some 27))) (r := (RX8, TX8, 12)) (j := 10) dX8_init_93 (Nat.le_of_ble_eq_true rfl) (Nat.le_of_ble_eq_true rfl) c14_.1 rfl (Nat.le_of_ble_eq_true rfl) fl_X8_61 rfl rfl rfl rfl (zu_keep (congrFun c14_.2.2.2 10)) ?_
  refine z_aloadr_n dX8_init_96 rfl ?_
  refine z_iconst (v := (0 : Int32)) dX8_init_97 (by decide +kernel) ?_
  refine z_put (σ' := T13) (ci := 8) (n := 12) (rf := (zu (zu (zu (zu (zu (zu (zu (fun _ => none) 0 (some 4)) 1 (some 8)) 2 (some 9)) 4 (some 10)) 5 (some 23)) 7 (some 25)) 8 (some 27))) (r := (RX8, TX8, 12)) (j := 11) dX8_init_98 (Nat.le_of_ble_eq_true rfl) (Nat.le_of_ble_eq_true rfl) c14_.1 rfl (Nat.le_of_ble_eq_true rfl) fl_X8_64 rfl rfl rfl rfl (zu_keep (congrFun c14_.2.2.2 11)) ?_
  exact z_return dX8_init_101 rfl (Nat.le_of_ble_eq_true rfl) (Nat.le_of_ble_eq_true rfl) (by rw [← hQ_]; exact ⟨rfl, S14, T13, rfl, c14_⟩)
