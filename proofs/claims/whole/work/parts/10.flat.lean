/-! ===== printed by wip/whole/p10.py: methods without loops ===== -/
def zshl (x y : Int32) : Int32 := x <<< (y &&& 31)
def zshr (x y : Int32) : Int32 := x >>> (y &&& 31)
def zushr (x y : Int32) : Int32 := (x.toUInt32 >>> (y.toUInt32 &&& Int32.toUInt32 31)).toInt32
def zcat1 : List Value → Bool
  | [] => true
  | .int _ :: t => zcat1 t
  | .ref _ :: t => zcat1 t
  | .null :: t => zcat1 t
  | _ => false
theorem zcats_ok : ∀ (As : List Value), zcat1 As = true → ∀ w ∈ As, w.category = 1
  | [], _, w, h => by simp at h
  | .int x :: t, hc, w, h => by
    rcases List.mem_cons.mp h with rfl | h
    · rfl
    · exact zcats_ok t hc w h
  | .ref x :: t, hc, w, h => by
    rcases List.mem_cons.mp h with rfl | h
    · rfl
    · exact zcats_ok t hc w h
  | .null :: t, hc, w, h => by
    rcases List.mem_cons.mp h with rfl | h
    · rfl
    · exact zcats_ok t hc w h
  | .long _ :: _, hc, _, _ => by cases hc
  | .float _ :: _, hc, _, _ => by cases hc
  | .double _ :: _, hc, _, _ => by cases hc
  | .retAddr _ :: _, hc, _, _ => by cases hc
def zpad (As : List Value) (n : Nat) : List (Option Value) := As.map some ++ List.replicate n none
theorem zlv_ok (As : List Value) (n : Nat) {lv : List (Option Value)} (h : zpad As n = lv) : ∀ (i : Nat) (v : Value), lv[i]? = some (some v) → As[i]? = some v := by
  intro i v hi
  subst h
  unfold zpad at hi
  by_cases hl : i < As.length
  · rw [List.getElem?_append_left (by simpa using hl), List.getElem?_map] at hi
    cases hx : As[i]? with
    | none => rw [hx] at hi; cases hi
    | some w => rw [hx] at hi; cases hi; rfl
  · rw [List.getElem?_append_right (by simpa using hl), List.getElem?_replicate] at hi
    split at hi <;> cases hi
section ZSW
variable {G : zc_G} {mi : zc_M} {d mc ms : Nat} {Q : Option Value → zc_H → Prop} {pc : Nat} {lv : List (Option Value)} {st : List Value} {h : zc_H} {ka na : Nat}
theorem z_tin {dflt lo hi : Int} {offs : Array Int} {len : Nat} {x : Int32} {off : Int} {tgt : Nat} (hd : decode mi.2.1 pc = .ok (.tableswitch dflt lo hi offs, len)) (h1 : ¬ x.toInt < lo) (h2 : ¬ hi < x.toInt) (ho : offs[(x.toInt - lo).toNat]? = some off) (ht : (pc : Int) + off = (tgt : Int)) (k : zz G mi d mc ms Q tgt lv st h ka na) : zz G mi d mc ms Q pc lv (.int x :: st) h ka na :=
  fun p l e R s m args below meth c Qw C H locs ls hR hS hl => lv_tableIn C.1.1 C.1.2.1 hd h1 h2 ho ht (k p l e R s m args below meth c Qw C H locs ls hR hS hl)
theorem z_tout {dflt lo hi : Int} {offs : Array Int} {len : Nat} {x : Int32} {tgt : Nat} (hd : decode mi.2.1 pc = .ok (.tableswitch dflt lo hi offs, len)) (h1 : x.toInt < lo ∨ hi < x.toInt) (ht : (pc : Int) + dflt = (tgt : Int)) (k : zz G mi d mc ms Q tgt lv st h ka na) : zz G mi d mc ms Q pc lv (.int x :: st) h ka na :=
  fun p l e R s m args below meth c Qw C H locs ls hR hS hl => lv_tableOut C.1.1 C.1.2.1 hd h1 ht (k p l e R s m args below meth c Qw C H locs ls hR hS hl)
end ZSW
theorem z_nz {x : Int32} {k : Int32} (h : ¬ x = k) : x.toInt ≠ k.toInt := fun e => h (Int32.toInt_inj.mp e)
theorem z_tab3 {x : Int32} (h0 : ¬ x = 0) (h1 : ¬ x = 1) (h2 : ¬ x = 2) : x.toInt < 0 ∨ 2 < x.toInt := by
  have e0 : x.toInt ≠ 0 := z_nz h0
  have e1 : x.toInt ≠ 1 := z_nz h1
  have e2 : x.toInt ≠ 2 := z_nz h2
  omega
theorem zu_zu {α : Type} (f : Nat → α) (i : Nat) (v w : α) : zu (zu f i v) i w = zu f i w := by
  funext j
  by_cases hj : j = i
  · subst hj
    rw [zu_self, zu_self]
  · rw [zu_ne _ _ hj, zu_ne _ _ hj, zu_ne _ _ hj]

theorem dX8_isWithin_0 : decode cX8_isWithin 0 = .ok (.iload_n 0, 1) := by decide +kernel
theorem dX8_isWithin_1 : decode cX8_isWithin 1 = .ok (.iload_n 1, 1) := by decide +kernel
theorem dX8_isWithin_2 : decode cX8_isWithin 2 = .ok (.if_icmp .lt 12, 3) := by decide +kernel
theorem dX8_isWithin_5 : decode cX8_isWithin 5 = .ok (.iload_n 0, 1) := by decide +kernel
theorem dX8_isWithin_6 : decode cX8_isWithin 6 = .ok (.iload_n 2, 1) := by decide +kernel
theorem dX8_isWithin_7 : decode cX8_isWithin 7 = .ok (.if_icmp .gt 7, 3) := by decide +kernel
theorem dX8_isWithin_10 : decode cX8_isWithin 10 = .ok (.iconst 1, 1) := by decide +kernel
theorem dX8_isWithin_11 : decode cX8_isWithin 11 = .ok (.goto 4, 3) := by decide +kernel
theorem dX8_isWithin_14 : decode cX8_isWithin 14 = .ok (.iconst 0, 1) := by decide +kernel
theorem dX8_isWithin_15 : decode cX8_isWithin 15 = .ok (.ireturn, 1) := by decide +kernel
noncomputable def rX8_isWithin (a1 : Int32) (a2 : Int32) (a3 : Int32) : Int32 := (if a1 < a2 then (0 : Int32) else (if a3 < a1 then (0 : Int32) else (1 : Int32)))
set_option maxHeartbeats 1000000 in
theorem ctX8_isWithin (P : zp) (σ : zc_N) (a1 : Int32) (a2 : Int32) (a3 : Int32) : sp mX8_isWithin 0 0 0 [.int a1, .int a2, .int a3] (hh P σ) (fun r_ h_ => r_ = some (.int (rX8_isWithin a1 a2 a3)) ∧ h_ = hh P σ) := by
  refine sp_of (lv := [some (.int a1), some (.int a2), some (.int a3)]) (by decide) (zcats_ok _ rfl) (Nat.le_of_ble_eq_true rfl) (zlv_ok _ 0 rfl) (fun G => ?_)
  generalize hQ_ : (fun (r_ : Option Value) (h_ : zc_H) => r_ = some (.int (rX8_isWithin a1 a2 a3)) ∧ h_ = hh P σ) = Q_
  refine z_iload_n dX8_isWithin_0 rfl ?_
  refine z_iload_n dX8_isWithin_1 rfl ?_
  have K_1 : zz G mX8_isWithin 0 0 0 Q_ 15 [none, none, none] [.int (if a1 < a2 then (0 : Int32) else (if a3 < a1 then (0 : Int32) else (1 : Int32)))] (hh P σ) 0 0 := by
    exact z_ireturn dX8_isWithin_15 rfl (by (repeat' split) <;> rfl) (Nat.le_of_ble_eq_true rfl) (Nat.le_of_ble_eq_true rfl) (by rw [← hQ_]; exact ⟨(by rw [rX8_isWithin]), rfl⟩)
  refine z_icmp_lt (tgt := 14) dX8_isWithin_2 (by decide) (fun c_1 => ?_) (fun c_1 => ?_)
  · refine z_iconst dX8_isWithin_14 k_iconst_0 ?_
    refine zz_sub (lv' := [none, none, none]) trivial ?_
    rw [show (if a1 < a2 then (0 : Int32) else (if a3 < a1 then (0 : Int32) else (1 : Int32))) = (0 : Int32) from (if_pos c_1)] at K_1
    exact K_1
  · refine z_iload_n dX8_isWithin_5 rfl ?_
    refine z_iload_n dX8_isWithin_6 rfl ?_
    refine z_icmp_gt (tgt := 14) dX8_isWithin_7 (by decide) (fun c_2 => ?_) (fun c_2 => ?_)
    · refine z_iconst dX8_isWithin_14 k_iconst_0 ?_
      refine zz_sub (lv' := [none, none, none]) trivial ?_
      rw [show (if a1 < a2 then (0 : Int32) else (if a3 < a1 then (0 : Int32) else (1 : Int32))) = (0 : Int32) from ((if_neg c_1).trans (if_pos c_2))] at K_1
      exact K_1
    · refine z_iconst dX8_isWithin_10 k_iconst_1 ?_
      refine z_goto (tgt := 15) dX8_isWithin_11 (by decide) ?_
      refine zz_sub (lv' := [none, none, none]) trivial ?_
      rw [show (if a1 < a2 then (0 : Int32) else (if a3 < a1 then (0 : Int32) else (1 : Int32))) = (1 : Int32) from ((if_neg c_1).trans (if_neg c_2))] at K_1
      exact K_1

theorem dX1_setRow_0 : decode cX1_setRow 0 = .ok (.aload_n 0, 1) := by decide +kernel
theorem dX1_setRow_1 : decode cX1_setRow 1 = .ok (.getfield 11, 3) := by decide +kernel
theorem dX1_setRow_4 : decode cX1_setRow 4 = .ok (.iload_n 1, 1) := by decide +kernel
theorem dX1_setRow_5 : decode cX1_setRow 5 = .ok (.iconst 1, 1) := by decide +kernel
theorem dX1_setRow_6 : decode cX1_setRow 6 = .ok (.iadd, 1) := by decide +kernel
theorem dX1_setRow_7 : decode cX1_setRow 7 = .ok (.iload_n 2, 1) := by decide +kernel
theorem dX1_setRow_8 : decode cX1_setRow 8 = .ok (.iconst 1, 1) := by decide +kernel
theorem dX1_setRow_9 : decode cX1_setRow 9 = .ok (.ishl, 1) := by decide +kernel
theorem dX1_setRow_10 : decode cX1_setRow 10 = .ok (.iastore, 1) := by decide +kernel
theorem dX1_setRow_11 : decode cX1_setRow 11 = .ok (.return_, 1) := by decide +kernel
def pX1_setRow (a1 : Int32) : Prop := vp_in (a1 + (1 : Int32)) 18
noncomputable def sX1_setRow (σ : zc_N) (a1 : Int32) (a2 : Int32) : zc_N := (zu σ 5 (zu (σ 5) (a1 + (1 : Int32)).toNatClampNeg (zshl a2 (1 : Int32))))
set_option maxHeartbeats 1000000 in
theorem ctX1_setRow (P : zp) (σ : zc_N) (a1 : Int32) (a2 : Int32) (W_ : (pX1_setRow a1)) : sp mX1_setRow 0 0 0 [.ref 4, .int a1, .int a2] (hh P σ) (fun r_ h_ => r_ = none ∧ h_ = hh P (sX1_setRow σ a1 a2)) := by
  refine sp_of (lv := [some (.ref 4), some (.int a1), some (.int a2)]) (by decide) (zcats_ok _ rfl) (Nat.le_of_ble_eq_true rfl) (zlv_ok _ 0 rfl) (fun G => ?_)
  generalize hQ_ : (fun (r_ : Option Value) (h_ : zc_H) => r_ = none ∧ h_ = hh P (sX1_setRow σ a1 a2)) = Q_
  unfold pX1_setRow at W_
  refine z_aloadr_n dX1_setRow_0 rfl ?_
  refine z_get (ci := 1) (r := (RX1, TX1, 3)) (j := 0) (v := .ref 5) dX1_setRow_1 (Nat.le_of_ble_eq_true rfl) (zN rfl) rfl rfl (Nat.le_of_ble_eq_true rfl) fl_X1_11 rfl ?_
  refine z_iload_n dX1_setRow_4 rfl ?_
  refine z_iconst dX1_setRow_5 k_iconst_1 ?_
  refine z_iadd (v := (a1 + (1 : Int32))) dX1_setRow_6 rfl ?_
  refine z_iload_n dX1_setRow_7 rfl ?_
  refine z_iconst dX1_setRow_8 k_iconst_1 ?_
  refine z_ishl (v := (zshl a2 (1 : Int32))) dX1_setRow_9 rfl ?_
  refine z_iast (σ' := (zu σ 5 (zu (σ 5) (a1 + (1 : Int32)).toNatClampNeg (zshl a2 (1 : Int32))))) dX1_setRow_10 (Nat.le_of_ble_eq_true rfl) (zN rfl) rfl W_ rfl ?_
  exact z_return dX1_setRow_11 rfl (Nat.le_of_ble_eq_true rfl) (Nat.le_of_ble_eq_true rfl) (by rw [← hQ_]; exact ⟨rfl, (by rw [sX1_setRow])⟩)

theorem dX1_bitsOf_0 : decode cX1_bitsOf 0 = .ok (.aload_n 0, 1) := by decide +kernel
theorem dX1_bitsOf_1 : decode cX1_bitsOf 1 = .ok (.getfield 11, 3) := by decide +kernel
theorem dX1_bitsOf_4 : decode cX1_bitsOf 4 = .ok (.iload_n 1, 1) := by decide +kernel
theorem dX1_bitsOf_5 : decode cX1_bitsOf 5 = .ok (.iconst 1, 1) := by decide +kernel
theorem dX1_bitsOf_6 : decode cX1_bitsOf 6 = .ok (.iadd, 1) := by decide +kernel
theorem dX1_bitsOf_7 : decode cX1_bitsOf 7 = .ok (.iaload, 1) := by decide +kernel
theorem dX1_bitsOf_8 : decode cX1_bitsOf 8 = .ok (.iconst 1, 1) := by decide +kernel
theorem dX1_bitsOf_9 : decode cX1_bitsOf 9 = .ok (.ishr, 1) := by decide +kernel
theorem dX1_bitsOf_10 : decode cX1_bitsOf 10 = .ok (.ireturn, 1) := by decide +kernel
def pX1_bitsOf (a1 : Int32) : Prop := vp_in (a1 + (1 : Int32)) 18
noncomputable def rX1_bitsOf (σ : zc_N) (a1 : Int32) : Int32 := (zshr ((σ 5) (a1 + (1 : Int32)).toNatClampNeg) (1 : Int32))
set_option maxHeartbeats 1000000 in
theorem ctX1_bitsOf (P : zp) (σ : zc_N) (a1 : Int32) (W_ : (pX1_bitsOf a1)) : sp mX1_bitsOf 0 0 0 [.ref 4, .int a1] (hh P σ) (fun r_ h_ => r_ = some (.int (rX1_bitsOf σ a1)) ∧ h_ = hh P σ) := by
  refine sp_of (lv := [some (.ref 4), some (.int a1)]) (by decide) (zcats_ok _ rfl) (Nat.le_of_ble_eq_true rfl) (zlv_ok _ 0 rfl) (fun G => ?_)
  generalize hQ_ : (fun (r_ : Option Value) (h_ : zc_H) => r_ = some (.int (rX1_bitsOf σ a1)) ∧ h_ = hh P σ) = Q_
  unfold pX1_bitsOf at W_
  refine z_aloadr_n dX1_bitsOf_0 rfl ?_
  refine z_get (ci := 1) (r := (RX1, TX1, 3)) (j := 0) (v := .ref 5) dX1_bitsOf_1 (Nat.le_of_ble_eq_true rfl) (zN rfl) rfl rfl (Nat.le_of_ble_eq_true rfl) fl_X1_11 rfl ?_
  refine z_iload_n dX1_bitsOf_4 rfl ?_
  refine z_iconst dX1_bitsOf_5 k_iconst_1 ?_
  refine z_iadd (v := (a1 + (1 : Int32))) dX1_bitsOf_6 rfl ?_
  refine z_iald (v := ((σ 5) (a1 + (1 : Int32)).toNatClampNeg)) dX1_bitsOf_7 (zN rfl) rfl W_ rfl ?_
  refine z_iconst dX1_bitsOf_8 k_iconst_1 ?_
  refine z_ishr (v := (zshr ((σ 5) (a1 + (1 : Int32)).toNatClampNeg) (1 : Int32))) dX1_bitsOf_9 rfl ?_
  exact z_ireturn dX1_bitsOf_10 rfl rfl (Nat.le_of_ble_eq_true rfl) (Nat.le_of_ble_eq_true rfl) (by rw [← hQ_]; exact ⟨(by rw [rX1_bitsOf]), rfl⟩)

theorem dX1_threeAt_0 : decode cX1_threeAt 0 = .ok (.iload_n 0, 1) := by decide +kernel
theorem dX1_threeAt_1 : decode cX1_threeAt 1 = .ok (.bipush 15, 2) := by decide +kernel
theorem dX1_threeAt_3 : decode cX1_threeAt 3 = .ok (.iload_n 1, 1) := by decide +kernel
theorem dX1_threeAt_4 : decode cX1_threeAt 4 = .ok (.isub, 1) := by decide +kernel
theorem dX1_threeAt_5 : decode cX1_threeAt 5 = .ok (.ishr, 1) := by decide +kernel
theorem dX1_threeAt_6 : decode cX1_threeAt 6 = .ok (.bipush 7, 2) := by decide +kernel
theorem dX1_threeAt_8 : decode cX1_threeAt 8 = .ok (.iand, 1) := by decide +kernel
theorem dX1_threeAt_9 : decode cX1_threeAt 9 = .ok (.ireturn, 1) := by decide +kernel
noncomputable def rX1_threeAt (a1 : Int32) (a2 : Int32) : Int32 := ((zshr a1 ((15 : Int32) - a2)) &&& (7 : Int32))
set_option maxHeartbeats 1000000 in
theorem ctX1_threeAt (P : zp) (σ : zc_N) (a1 : Int32) (a2 : Int32) : sp mX1_threeAt 0 0 0 [.int a1, .int a2] (hh P σ) (fun r_ h_ => r_ = some (.int (rX1_threeAt a1 a2)) ∧ h_ = hh P σ) := by
  refine sp_of (lv := [some (.int a1), some (.int a2)]) (by decide) (zcats_ok _ rfl) (Nat.le_of_ble_eq_true rfl) (zlv_ok _ 0 rfl) (fun G => ?_)
  generalize hQ_ : (fun (r_ : Option Value) (h_ : zc_H) => r_ = some (.int (rX1_threeAt a1 a2)) ∧ h_ = hh P σ) = Q_
  refine z_iload_n dX1_threeAt_0 rfl ?_
  refine z_bipush dX1_threeAt_1 k_bipush_15 ?_
  refine z_iload_n dX1_threeAt_3 rfl ?_
  refine z_isub (v := ((15 : Int32) - a2)) dX1_threeAt_4 rfl ?_
  refine z_ishr (v := (zshr a1 ((15 : Int32) - a2))) dX1_threeAt_5 rfl ?_
  refine z_bipush dX1_threeAt_6 k_bipush_7 ?_
  refine z_iand (v := ((zshr a1 ((15 : Int32) - a2)) &&& (7 : Int32))) dX1_threeAt_8 rfl ?_
  exact z_ireturn dX1_threeAt_9 rfl rfl (Nat.le_of_ble_eq_true rfl) (Nat.le_of_ble_eq_true rfl) (by rw [← hQ_]; exact ⟨(by rw [rX1_threeAt]), rfl⟩)

theorem dX1_isDark_0 : decode cX1_isDark 0 = .ok (.aload_n 0, 1) := by decide +kernel
theorem dX1_isDark_1 : decode cX1_isDark 1 = .ok (.getfield 11, 3) := by decide +kernel
theorem dX1_isDark_4 : decode cX1_isDark 4 = .ok (.iload_n 2, 1) := by decide +kernel
theorem dX1_isDark_5 : decode cX1_isDark 5 = .ok (.iconst 1, 1) := by decide +kernel
theorem dX1_isDark_6 : decode cX1_isDark 6 = .ok (.iadd, 1) := by decide +kernel
theorem dX1_isDark_7 : decode cX1_isDark 7 = .ok (.iaload, 1) := by decide +kernel
theorem dX1_isDark_8 : decode cX1_isDark 8 = .ok (.bipush 16, 2) := by decide +kernel
theorem dX1_isDark_10 : decode cX1_isDark 10 = .ok (.iload_n 1, 1) := by decide +kernel
theorem dX1_isDark_11 : decode cX1_isDark 11 = .ok (.isub, 1) := by decide +kernel
theorem dX1_isDark_12 : decode cX1_isDark 12 = .ok (.ishr, 1) := by decide +kernel
theorem dX1_isDark_13 : decode cX1_isDark 13 = .ok (.iconst 1, 1) := by decide +kernel
theorem dX1_isDark_14 : decode cX1_isDark 14 = .ok (.iand, 1) := by decide +kernel
theorem dX1_isDark_15 : decode cX1_isDark 15 = .ok (.ifCond .eq 7, 3) := by decide +kernel
theorem dX1_isDark_18 : decode cX1_isDark 18 = .ok (.iconst 1, 1) := by decide +kernel
theorem dX1_isDark_19 : decode cX1_isDark 19 = .ok (.goto 4, 3) := by decide +kernel
theorem dX1_isDark_22 : decode cX1_isDark 22 = .ok (.iconst 0, 1) := by decide +kernel
theorem dX1_isDark_23 : decode cX1_isDark 23 = .ok (.ireturn, 1) := by decide +kernel
def pX1_isDark (a2 : Int32) : Prop := vp_in (a2 + (1 : Int32)) 18
noncomputable def rX1_isDark (σ : zc_N) (a1 : Int32) (a2 : Int32) : Int32 := (if ((zshr ((σ 5) (a2 + (1 : Int32)).toNatClampNeg) ((16 : Int32) - a1)) &&& (1 : Int32)) = (0 : Int32) then (0 : Int32) else (1 : Int32))
set_option maxHeartbeats 1000000 in
theorem ctX1_isDark (P : zp) (σ : zc_N) (a1 : Int32) (a2 : Int32) (W_ : (pX1_isDark a2)) : sp mX1_isDark 0 0 0 [.ref 4, .int a1, .int a2] (hh P σ) (fun r_ h_ => r_ = some (.int (rX1_isDark σ a1 a2)) ∧ h_ = hh P σ) := by
  refine sp_of (lv := [some (.ref 4), some (.int a1), some (.int a2)]) (by decide) (zcats_ok _ rfl) (Nat.le_of_ble_eq_true rfl) (zlv_ok _ 0 rfl) (fun G => ?_)
  generalize hQ_ : (fun (r_ : Option Value) (h_ : zc_H) => r_ = some (.int (rX1_isDark σ a1 a2)) ∧ h_ = hh P σ) = Q_
  unfold pX1_isDark at W_
  refine z_aloadr_n dX1_isDark_0 rfl ?_
  refine z_get (ci := 1) (r := (RX1, TX1, 3)) (j := 0) (v := .ref 5) dX1_isDark_1 (Nat.le_of_ble_eq_true rfl) (zN rfl) rfl rfl (Nat.le_of_ble_eq_true rfl) fl_X1_11 rfl ?_
  refine z_iload_n dX1_isDark_4 rfl ?_
  refine z_iconst dX1_isDark_5 k_iconst_1 ?_
  refine z_iadd (v := (a2 + (1 : Int32))) dX1_isDark_6 rfl ?_
  refine z_iald (v := ((σ 5) (a2 + (1 : Int32)).toNatClampNeg)) dX1_isDark_7 (zN rfl) rfl W_ rfl ?_
  refine z_bipush dX1_isDark_8 k_bipush_16 ?_
  refine z_iload_n dX1_isDark_10 rfl ?_
  refine z_isub (v := ((16 : Int32) - a1)) dX1_isDark_11 rfl ?_
  refine z_ishr (v := (zshr ((σ 5) (a2 + (1 : Int32)).toNatClampNeg) ((16 : Int32) - a1))) dX1_isDark_12 rfl ?_
  refine z_iconst dX1_isDark_13 k_iconst_1 ?_
  refine z_iand (v := ((zshr ((σ 5) (a2 + (1 : Int32)).toNatClampNeg) ((16 : Int32) - a1)) &&& (1 : Int32))) dX1_isDark_14 rfl ?_
  have K_1 : zz G mX1_isDark 0 0 0 Q_ 23 [none, none, none] [.int (if ((zshr ((σ 5) (a2 + (1 : Int32)).toNatClampNeg) ((16 : Int32) - a1)) &&& (1 : Int32)) = (0 : Int32) then (0 : Int32) else (1 : Int32))] (hh P σ) 0 0 := by
    exact z_ireturn dX1_isDark_23 rfl (by (repeat' split) <;> rfl) (Nat.le_of_ble_eq_true rfl) (Nat.le_of_ble_eq_true rfl) (by rw [← hQ_]; exact ⟨(by rw [rX1_isDark]), rfl⟩)
  refine z_if_eq (tgt := 22) dX1_isDark_15 (by decide) (fun c_1 => ?_) (fun c_1 => ?_)
  · refine z_iconst dX1_isDark_22 k_iconst_0 ?_
    refine zz_sub (lv' := [none, none, none]) trivial ?_
    rw [show (if ((zshr ((σ 5) (a2 + (1 : Int32)).toNatClampNeg) ((16 : Int32) - a1)) &&& (1 : Int32)) = (0 : Int32) then (0 : Int32) else (1 : Int32)) = (0 : Int32) from (if_pos c_1)] at K_1
    exact K_1
  · refine z_iconst dX1_isDark_18 k_iconst_1 ?_
    refine z_goto (tgt := 23) dX1_isDark_19 (by decide) ?_
    refine zz_sub (lv' := [none, none, none]) trivial ?_
    rw [show (if ((zshr ((σ 5) (a2 + (1 : Int32)).toNatClampNeg) ((16 : Int32) - a1)) &&& (1 : Int32)) = (0 : Int32) then (0 : Int32) else (1 : Int32)) = (1 : Int32) from (if_neg c_1)] at K_1
    exact K_1

theorem dX1_ringAt_0 : decode cX1_ringAt 0 = .ok (.aload_n 0, 1) := by decide +kernel
theorem dX1_ringAt_1 : decode cX1_ringAt 1 = .ok (.getfield 11, 3) := by decide +kernel
theorem dX1_ringAt_4 : decode cX1_ringAt 4 = .ok (.iload_n 2, 1) := by decide +kernel
theorem dX1_ringAt_5 : decode cX1_ringAt 5 = .ok (.iaload, 1) := by decide +kernel
theorem dX1_ringAt_6 : decode cX1_ringAt 6 = .ok (.iload_n 1, 1) := by decide +kernel
theorem dX1_ringAt_7 : decode cX1_ringAt 7 = .ok (.invokestatic 46, 3) := by decide +kernel
theorem dX1_ringAt_10 : decode cX1_ringAt 10 = .ok (.istore_n 3, 1) := by decide +kernel
theorem dX1_ringAt_11 : decode cX1_ringAt 11 = .ok (.aload_n 0, 1) := by decide +kernel
theorem dX1_ringAt_12 : decode cX1_ringAt 12 = .ok (.getfield 11, 3) := by decide +kernel
theorem dX1_ringAt_15 : decode cX1_ringAt 15 = .ok (.iload_n 2, 1) := by decide +kernel
theorem dX1_ringAt_16 : decode cX1_ringAt 16 = .ok (.iconst 1, 1) := by decide +kernel
theorem dX1_ringAt_17 : decode cX1_ringAt 17 = .ok (.iadd, 1) := by decide +kernel
theorem dX1_ringAt_18 : decode cX1_ringAt 18 = .ok (.iaload, 1) := by decide +kernel
theorem dX1_ringAt_19 : decode cX1_ringAt 19 = .ok (.iload_n 1, 1) := by decide +kernel
theorem dX1_ringAt_20 : decode cX1_ringAt 20 = .ok (.invokestatic 46, 3) := by decide +kernel
theorem dX1_ringAt_23 : decode cX1_ringAt 23 = .ok (.istore 4, 2) := by decide +kernel
theorem dX1_ringAt_25 : decode cX1_ringAt 25 = .ok (.aload_n 0, 1) := by decide +kernel
theorem dX1_ringAt_26 : decode cX1_ringAt 26 = .ok (.getfield 11, 3) := by decide +kernel
theorem dX1_ringAt_29 : decode cX1_ringAt 29 = .ok (.iload_n 2, 1) := by decide +kernel
theorem dX1_ringAt_30 : decode cX1_ringAt 30 = .ok (.iconst 2, 1) := by decide +kernel
theorem dX1_ringAt_31 : decode cX1_ringAt 31 = .ok (.iadd, 1) := by decide +kernel
theorem dX1_ringAt_32 : decode cX1_ringAt 32 = .ok (.iaload, 1) := by decide +kernel
theorem dX1_ringAt_33 : decode cX1_ringAt 33 = .ok (.iload_n 1, 1) := by decide +kernel
theorem dX1_ringAt_34 : decode cX1_ringAt 34 = .ok (.invokestatic 46, 3) := by decide +kernel
theorem dX1_ringAt_37 : decode cX1_ringAt 37 = .ok (.istore 5, 2) := by decide +kernel
theorem dX1_ringAt_39 : decode cX1_ringAt 39 = .ok (.iload 4, 2) := by decide +kernel
theorem dX1_ringAt_41 : decode cX1_ringAt 41 = .ok (.iconst 1, 1) := by decide +kernel
theorem dX1_ringAt_42 : decode cX1_ringAt 42 = .ok (.iand, 1) := by decide +kernel
theorem dX1_ringAt_43 : decode cX1_ringAt 43 = .ok (.istore 6, 2) := by decide +kernel
theorem dX1_ringAt_45 : decode cX1_ringAt 45 = .ok (.iload 5, 2) := by decide +kernel
theorem dX1_ringAt_47 : decode cX1_ringAt 47 = .ok (.iconst 1, 1) := by decide +kernel
theorem dX1_ringAt_48 : decode cX1_ringAt 48 = .ok (.iand, 1) := by decide +kernel
theorem dX1_ringAt_49 : decode cX1_ringAt 49 = .ok (.iconst 2, 1) := by decide +kernel
theorem dX1_ringAt_50 : decode cX1_ringAt 50 = .ok (.ishl, 1) := by decide +kernel
theorem dX1_ringAt_51 : decode cX1_ringAt 51 = .ok (.iload 5, 2) := by decide +kernel
theorem dX1_ringAt_53 : decode cX1_ringAt 53 = .ok (.iconst 2, 1) := by decide +kernel
theorem dX1_ringAt_54 : decode cX1_ringAt 54 = .ok (.iand, 1) := by decide +kernel
theorem dX1_ringAt_55 : decode cX1_ringAt 55 = .ok (.ior, 1) := by decide +kernel
theorem dX1_ringAt_56 : decode cX1_ringAt 56 = .ok (.iload 5, 2) := by decide +kernel
theorem dX1_ringAt_58 : decode cX1_ringAt 58 = .ok (.iconst 2, 1) := by decide +kernel
theorem dX1_ringAt_59 : decode cX1_ringAt 59 = .ok (.ishr, 1) := by decide +kernel
theorem dX1_ringAt_60 : decode cX1_ringAt 60 = .ok (.ior, 1) := by decide +kernel
theorem dX1_ringAt_61 : decode cX1_ringAt 61 = .ok (.istore 7, 2) := by decide +kernel
theorem dX1_ringAt_63 : decode cX1_ringAt 63 = .ok (.iload_n 3, 1) := by decide +kernel
theorem dX1_ringAt_64 : decode cX1_ringAt 64 = .ok (.iconst 5, 1) := by decide +kernel
theorem dX1_ringAt_65 : decode cX1_ringAt 65 = .ok (.ishl, 1) := by decide +kernel
theorem dX1_ringAt_66 : decode cX1_ringAt 66 = .ok (.iload 6, 2) := by decide +kernel
theorem dX1_ringAt_68 : decode cX1_ringAt 68 = .ok (.iconst 4, 1) := by decide +kernel
theorem dX1_ringAt_69 : decode cX1_ringAt 69 = .ok (.ishl, 1) := by decide +kernel
theorem dX1_ringAt_70 : decode cX1_ringAt 70 = .ok (.ior, 1) := by decide +kernel
theorem dX1_ringAt_71 : decode cX1_ringAt 71 = .ok (.iload 7, 2) := by decide +kernel
theorem dX1_ringAt_73 : decode cX1_ringAt 73 = .ok (.iconst 1, 1) := by decide +kernel
theorem dX1_ringAt_74 : decode cX1_ringAt 74 = .ok (.ishl, 1) := by decide +kernel
theorem dX1_ringAt_75 : decode cX1_ringAt 75 = .ok (.ior, 1) := by decide +kernel
theorem dX1_ringAt_76 : decode cX1_ringAt 76 = .ok (.iload 4, 2) := by decide +kernel
theorem dX1_ringAt_78 : decode cX1_ringAt 78 = .ok (.iconst 2, 1) := by decide +kernel
theorem dX1_ringAt_79 : decode cX1_ringAt 79 = .ok (.ishr, 1) := by decide +kernel
theorem dX1_ringAt_80 : decode cX1_ringAt 80 = .ok (.ior, 1) := by decide +kernel
theorem dX1_ringAt_81 : decode cX1_ringAt 81 = .ok (.ireturn, 1) := by decide +kernel
noncomputable def vX1_ringAt_1 (a1 : Int32) (a2 : Int32) (σ : zc_N) : Int32 := (((zshl ((rX1_threeAt ((σ 5) (a2 + (2 : Int32)).toNatClampNeg) a1) &&& (1 : Int32)) (2 : Int32)) ||| ((rX1_threeAt ((σ 5) (a2 + (2 : Int32)).toNatClampNeg) a1) &&& (2 : Int32))) ||| (zshr (rX1_threeAt ((σ 5) (a2 + (2 : Int32)).toNatClampNeg) a1) (2 : Int32)))
def pX1_ringAt (a2 : Int32) : Prop := (vp_in a2 18 ∧ (vp_in (a2 + (1 : Int32)) 18 ∧ vp_in (a2 + (2 : Int32)) 18))
noncomputable def rX1_ringAt (σ : zc_N) (a1 : Int32) (a2 : Int32) : Int32 := ((((zshl (rX1_threeAt ((σ 5) a2.toNatClampNeg) a1) (5 : Int32)) ||| (zshl ((rX1_threeAt ((σ 5) (a2 + (1 : Int32)).toNatClampNeg) a1) &&& (1 : Int32)) (4 : Int32))) ||| (zshl (vX1_ringAt_1 a1 a2 σ) (1 : Int32))) ||| (zshr (rX1_threeAt ((σ 5) (a2 + (1 : Int32)).toNatClampNeg) a1) (2 : Int32)))
set_option maxHeartbeats 1000000 in
theorem ctX1_ringAt (P : zp) (σ : zc_N) (a1 : Int32) (a2 : Int32) (W_ : (pX1_ringAt a2)) : sp mX1_ringAt 1 0 0 [.ref 4, .int a1, .int a2] (hh P σ) (fun r_ h_ => r_ = some (.int (rX1_ringAt σ a1 a2)) ∧ h_ = hh P σ) := by
  refine sp_of (lv := [some (.ref 4), some (.int a1), some (.int a2), none, none, none, none, none]) (by decide) (zcats_ok _ rfl) (Nat.le_of_ble_eq_true rfl) (zlv_ok _ 5 rfl) (fun G => ?_)
  generalize hQ_ : (fun (r_ : Option Value) (h_ : zc_H) => r_ = some (.int (rX1_ringAt σ a1 a2)) ∧ h_ = hh P σ) = Q_
  unfold pX1_ringAt at W_
  refine z_aloadr_n dX1_ringAt_0 rfl ?_
  refine z_get (ci := 1) (r := (RX1, TX1, 3)) (j := 0) (v := .ref 5) dX1_ringAt_1 (Nat.le_of_ble_eq_true rfl) (zN rfl) rfl rfl (Nat.le_of_ble_eq_true rfl) fl_X1_11 rfl ?_
  refine z_iload_n dX1_ringAt_4 rfl ?_
  refine z_iald (v := ((σ 5) a2.toNatClampNeg)) dX1_ringAt_5 (zN rfl) rfl W_.1 rfl ?_
  refine z_iload_n dX1_ringAt_6 rfl ?_
  refine z_callS (As := [.int ((σ 5) a2.toNatClampNeg), .int a1]) (rest := []) (ctX1_threeAt P σ ((σ 5) a2.toNatClampNeg) a1) dX1_ringAt_7 lk_X1_46 ls_X1_threeAt rfl (Nat.le_of_ble_eq_true rfl) (Nat.le_of_ble_eq_true rfl) (Nat.le_of_ble_eq_true rfl) (Nat.le_of_ble_eq_true rfl) (fun r_ h_ e_ => ?_)
  obtain ⟨e1_, e2_⟩ := e_
  subst e1_
  subst e2_
  show zz G mX1_ringAt 1 0 0 Q_ 10 [some (.ref 4), some (.int a1), some (.int a2), none, none, none, none, none] [.int (rX1_threeAt ((σ 5) a2.toNatClampNeg) a1)] (hh P σ) 0 0
  refine z_istore_n (lv' := [some (.ref 4), some (.int a1), some (.int a2), some (.int (rX1_threeAt ((σ 5) a2.toNatClampNeg) a1)), none, none, none, none]) dX1_ringAt_10 (Nat.le_of_ble_eq_true rfl) rfl ?_
  refine z_aloadr_n dX1_ringAt_11 rfl ?_
  refine z_get (ci := 1) (r := (RX1, TX1, 3)) (j := 0) (v := .ref 5) dX1_ringAt_12 (Nat.le_of_ble_eq_true rfl) (zN rfl) rfl rfl (Nat.le_of_ble_eq_true rfl) fl_X1_11 rfl ?_
  refine z_iload_n dX1_ringAt_15 rfl ?_
  refine z_iconst dX1_ringAt_16 k_iconst_1 ?_
  refine z_iadd (v := (a2 + (1 : Int32))) dX1_ringAt_17 rfl ?_
  refine z_iald (v := ((σ 5) (a2 + (1 : Int32)).toNatClampNeg)) dX1_ringAt_18 (zN rfl) rfl W_.2.1 rfl ?_
  refine z_iload_n dX1_ringAt_19 rfl ?_
  refine z_callS (As := [.int ((σ 5) (a2 + (1 : Int32)).toNatClampNeg), .int a1]) (rest := []) (ctX1_threeAt P σ ((σ 5) (a2 + (1 : Int32)).toNatClampNeg) a1) dX1_ringAt_20 lk_X1_46 ls_X1_threeAt rfl (Nat.le_of_ble_eq_true rfl) (Nat.le_of_ble_eq_true rfl) (Nat.le_of_ble_eq_true rfl) (Nat.le_of_ble_eq_true rfl) (fun r_ h_ e_ => ?_)
  obtain ⟨e1_, e2_⟩ := e_
  subst e1_
  subst e2_
  show zz G mX1_ringAt 1 0 0 Q_ 23 [some (.ref 4), some (.int a1), some (.int a2), some (.int (rX1_threeAt ((σ 5) a2.toNatClampNeg) a1)), none, none, none, none] [.int (rX1_threeAt ((σ 5) (a2 + (1 : Int32)).toNatClampNeg) a1)] (hh P σ) 0 0
  refine z_istore (lv' := [some (.ref 4), some (.int a1), some (.int a2), some (.int (rX1_threeAt ((σ 5) a2.toNatClampNeg) a1)), some (.int (rX1_threeAt ((σ 5) (a2 + (1 : Int32)).toNatClampNeg) a1)), none, none, none]) dX1_ringAt_23 (Nat.le_of_ble_eq_true rfl) rfl ?_
  refine z_aloadr_n dX1_ringAt_25 rfl ?_
  refine z_get (ci := 1) (r := (RX1, TX1, 3)) (j := 0) (v := .ref 5) dX1_ringAt_26 (Nat.le_of_ble_eq_true rfl) (zN rfl) rfl rfl (Nat.le_of_ble_eq_true rfl) fl_X1_11 rfl ?_
  refine z_iload_n dX1_ringAt_29 rfl ?_
  refine z_iconst dX1_ringAt_30 k_iconst_2 ?_
  refine z_iadd (v := (a2 + (2 : Int32))) dX1_ringAt_31 rfl ?_
  refine z_iald (v := ((σ 5) (a2 + (2 : Int32)).toNatClampNeg)) dX1_ringAt_32 (zN rfl) rfl W_.2.2 rfl ?_
  refine z_iload_n dX1_ringAt_33 rfl ?_
  refine z_callS (As := [.int ((σ 5) (a2 + (2 : Int32)).toNatClampNeg), .int a1]) (rest := []) (ctX1_threeAt P σ ((σ 5) (a2 + (2 : Int32)).toNatClampNeg) a1) dX1_ringAt_34 lk_X1_46 ls_X1_threeAt rfl (Nat.le_of_ble_eq_true rfl) (Nat.le_of_ble_eq_true rfl) (Nat.le_of_ble_eq_true rfl) (Nat.le_of_ble_eq_true rfl) (fun r_ h_ e_ => ?_)
  obtain ⟨e1_, e2_⟩ := e_
  subst e1_
  subst e2_
  show zz G mX1_ringAt 1 0 0 Q_ 37 [some (.ref 4), some (.int a1), some (.int a2), some (.int (rX1_threeAt ((σ 5) a2.toNatClampNeg) a1)), some (.int (rX1_threeAt ((σ 5) (a2 + (1 : Int32)).toNatClampNeg) a1)), none, none, none] [.int (rX1_threeAt ((σ 5) (a2 + (2 : Int32)).toNatClampNeg) a1)] (hh P σ) 0 0
  refine z_istore (lv' := [some (.ref 4), some (.int a1), some (.int a2), some (.int (rX1_threeAt ((σ 5) a2.toNatClampNeg) a1)), some (.int (rX1_threeAt ((σ 5) (a2 + (1 : Int32)).toNatClampNeg) a1)), some (.int (rX1_threeAt ((σ 5) (a2 + (2 : Int32)).toNatClampNeg) a1)), none, none]) dX1_ringAt_37 (Nat.le_of_ble_eq_true rfl) rfl ?_
  refine z_iload dX1_ringAt_39 rfl ?_
  refine z_iconst dX1_ringAt_41 k_iconst_1 ?_
  refine z_iand (v := ((rX1_threeAt ((σ 5) (a2 + (1 : Int32)).toNatClampNeg) a1) &&& (1 : Int32))) dX1_ringAt_42 rfl ?_
  refine z_istore (lv' := [some (.ref 4), some (.int a1), some (.int a2), some (.int (rX1_threeAt ((σ 5) a2.toNatClampNeg) a1)), some (.int (rX1_threeAt ((σ 5) (a2 + (1 : Int32)).toNatClampNeg) a1)), some (.int (rX1_threeAt ((σ 5) (a2 + (2 : Int32)).toNatClampNeg) a1)), some (.int ((rX1_threeAt ((σ 5) (a2 + (1 : Int32)).toNatClampNeg) a1) &&& (1 : Int32))), none]) dX1_ringAt_43 (Nat.le_of_ble_eq_true rfl) rfl ?_
  refine z_iload dX1_ringAt_45 rfl ?_
  refine z_iconst dX1_ringAt_47 k_iconst_1 ?_
  refine z_iand (v := ((rX1_threeAt ((σ 5) (a2 + (2 : Int32)).toNatClampNeg) a1) &&& (1 : Int32))) dX1_ringAt_48 rfl ?_
  refine z_iconst dX1_ringAt_49 k_iconst_2 ?_
  refine z_ishl (v := (zshl ((rX1_threeAt ((σ 5) (a2 + (2 : Int32)).toNatClampNeg) a1) &&& (1 : Int32)) (2 : Int32))) dX1_ringAt_50 rfl ?_
  refine z_iload dX1_ringAt_51 rfl ?_
  refine z_iconst dX1_ringAt_53 k_iconst_2 ?_
  refine z_iand (v := ((rX1_threeAt ((σ 5) (a2 + (2 : Int32)).toNatClampNeg) a1) &&& (2 : Int32))) dX1_ringAt_54 rfl ?_
  refine z_ior (v := ((zshl ((rX1_threeAt ((σ 5) (a2 + (2 : Int32)).toNatClampNeg) a1) &&& (1 : Int32)) (2 : Int32)) ||| ((rX1_threeAt ((σ 5) (a2 + (2 : Int32)).toNatClampNeg) a1) &&& (2 : Int32)))) dX1_ringAt_55 rfl ?_
  refine z_iload dX1_ringAt_56 rfl ?_
  refine z_iconst dX1_ringAt_58 k_iconst_2 ?_
  refine z_ishr (v := (zshr (rX1_threeAt ((σ 5) (a2 + (2 : Int32)).toNatClampNeg) a1) (2 : Int32))) dX1_ringAt_59 rfl ?_
  refine z_ior (v := (((zshl ((rX1_threeAt ((σ 5) (a2 + (2 : Int32)).toNatClampNeg) a1) &&& (1 : Int32)) (2 : Int32)) ||| ((rX1_threeAt ((σ 5) (a2 + (2 : Int32)).toNatClampNeg) a1) &&& (2 : Int32))) ||| (zshr (rX1_threeAt ((σ 5) (a2 + (2 : Int32)).toNatClampNeg) a1) (2 : Int32)))) dX1_ringAt_60 rfl ?_
  refine z_istore (lv' := [some (.ref 4), some (.int a1), some (.int a2), some (.int (rX1_threeAt ((σ 5) a2.toNatClampNeg) a1)), some (.int (rX1_threeAt ((σ 5) (a2 + (1 : Int32)).toNatClampNeg) a1)), some (.int (rX1_threeAt ((σ 5) (a2 + (2 : Int32)).toNatClampNeg) a1)), some (.int ((rX1_threeAt ((σ 5) (a2 + (1 : Int32)).toNatClampNeg) a1) &&& (1 : Int32))), some (.int (vX1_ringAt_1 a1 a2 σ))]) dX1_ringAt_61 (Nat.le_of_ble_eq_true rfl) rfl ?_
  refine z_iload_n dX1_ringAt_63 rfl ?_
  refine z_iconst dX1_ringAt_64 k_iconst_5 ?_
  refine z_ishl (v := (zshl (rX1_threeAt ((σ 5) a2.toNatClampNeg) a1) (5 : Int32))) dX1_ringAt_65 rfl ?_
  refine z_iload dX1_ringAt_66 rfl ?_
  refine z_iconst dX1_ringAt_68 k_iconst_4 ?_
  refine z_ishl (v := (zshl ((rX1_threeAt ((σ 5) (a2 + (1 : Int32)).toNatClampNeg) a1) &&& (1 : Int32)) (4 : Int32))) dX1_ringAt_69 rfl ?_
  refine z_ior (v := ((zshl (rX1_threeAt ((σ 5) a2.toNatClampNeg) a1) (5 : Int32)) ||| (zshl ((rX1_threeAt ((σ 5) (a2 + (1 : Int32)).toNatClampNeg) a1) &&& (1 : Int32)) (4 : Int32)))) dX1_ringAt_70 rfl ?_
  refine z_iload dX1_ringAt_71 rfl ?_
  refine z_iconst dX1_ringAt_73 k_iconst_1 ?_
  refine z_ishl (v := (zshl (vX1_ringAt_1 a1 a2 σ) (1 : Int32))) dX1_ringAt_74 rfl ?_
  refine z_ior (v := (((zshl (rX1_threeAt ((σ 5) a2.toNatClampNeg) a1) (5 : Int32)) ||| (zshl ((rX1_threeAt ((σ 5) (a2 + (1 : Int32)).toNatClampNeg) a1) &&& (1 : Int32)) (4 : Int32))) ||| (zshl (vX1_ringAt_1 a1 a2 σ) (1 : Int32)))) dX1_ringAt_75 rfl ?_
  refine z_iload dX1_ringAt_76 rfl ?_
  refine z_iconst dX1_ringAt_78 k_iconst_2 ?_
  refine z_ishr (v := (zshr (rX1_threeAt ((σ 5) (a2 + (1 : Int32)).toNatClampNeg) a1) (2 : Int32))) dX1_ringAt_79 rfl ?_
  refine z_ior (v := ((((zshl (rX1_threeAt ((σ 5) a2.toNatClampNeg) a1) (5 : Int32)) ||| (zshl ((rX1_threeAt ((σ 5) (a2 + (1 : Int32)).toNatClampNeg) a1) &&& (1 : Int32)) (4 : Int32))) ||| (zshl (vX1_ringAt_1 a1 a2 σ) (1 : Int32))) ||| (zshr (rX1_threeAt ((σ 5) (a2 + (1 : Int32)).toNatClampNeg) a1) (2 : Int32)))) dX1_ringAt_80 rfl ?_
  exact z_ireturn dX1_ringAt_81 rfl rfl (Nat.le_of_ble_eq_true rfl) (Nat.le_of_ble_eq_true rfl) (by rw [← hQ_]; exact ⟨(by rw [rX1_ringAt]), rfl⟩)

theorem dJ6_bitCount_0f7a4_0 : decode cJ6_bitCount_0f7a4 0 = .ok (.iload_n 0, 1) := by decide +kernel
theorem dJ6_bitCount_0f7a4_1 : decode cJ6_bitCount_0f7a4 1 = .ok (.iload_n 0, 1) := by decide +kernel
theorem dJ6_bitCount_0f7a4_2 : decode cJ6_bitCount_0f7a4 2 = .ok (.iconst 1, 1) := by decide +kernel
theorem dJ6_bitCount_0f7a4_3 : decode cJ6_bitCount_0f7a4 3 = .ok (.iushr, 1) := by decide +kernel
theorem dJ6_bitCount_0f7a4_4 : decode cJ6_bitCount_0f7a4 4 = .ok (.ldc_w 265, 3) := by decide +kernel
theorem dJ6_bitCount_0f7a4_7 : decode cJ6_bitCount_0f7a4 7 = .ok (.iand, 1) := by decide +kernel
theorem dJ6_bitCount_0f7a4_8 : decode cJ6_bitCount_0f7a4 8 = .ok (.isub, 1) := by decide +kernel
theorem dJ6_bitCount_0f7a4_9 : decode cJ6_bitCount_0f7a4 9 = .ok (.istore_n 0, 1) := by decide +kernel
theorem dJ6_bitCount_0f7a4_10 : decode cJ6_bitCount_0f7a4 10 = .ok (.iload_n 0, 1) := by decide +kernel
theorem dJ6_bitCount_0f7a4_11 : decode cJ6_bitCount_0f7a4 11 = .ok (.ldc_w 266, 3) := by decide +kernel
theorem dJ6_bitCount_0f7a4_14 : decode cJ6_bitCount_0f7a4 14 = .ok (.iand, 1) := by decide +kernel
theorem dJ6_bitCount_0f7a4_15 : decode cJ6_bitCount_0f7a4 15 = .ok (.iload_n 0, 1) := by decide +kernel
theorem dJ6_bitCount_0f7a4_16 : decode cJ6_bitCount_0f7a4 16 = .ok (.iconst 2, 1) := by decide +kernel
theorem dJ6_bitCount_0f7a4_17 : decode cJ6_bitCount_0f7a4 17 = .ok (.iushr, 1) := by decide +kernel
theorem dJ6_bitCount_0f7a4_18 : decode cJ6_bitCount_0f7a4 18 = .ok (.ldc_w 266, 3) := by decide +kernel
theorem dJ6_bitCount_0f7a4_21 : decode cJ6_bitCount_0f7a4 21 = .ok (.iand, 1) := by decide +kernel
theorem dJ6_bitCount_0f7a4_22 : decode cJ6_bitCount_0f7a4 22 = .ok (.iadd, 1) := by decide +kernel
theorem dJ6_bitCount_0f7a4_23 : decode cJ6_bitCount_0f7a4 23 = .ok (.istore_n 0, 1) := by decide +kernel
theorem dJ6_bitCount_0f7a4_24 : decode cJ6_bitCount_0f7a4 24 = .ok (.iload_n 0, 1) := by decide +kernel
theorem dJ6_bitCount_0f7a4_25 : decode cJ6_bitCount_0f7a4 25 = .ok (.iload_n 0, 1) := by decide +kernel
theorem dJ6_bitCount_0f7a4_26 : decode cJ6_bitCount_0f7a4 26 = .ok (.iconst 4, 1) := by decide +kernel
theorem dJ6_bitCount_0f7a4_27 : decode cJ6_bitCount_0f7a4 27 = .ok (.iushr, 1) := by decide +kernel
theorem dJ6_bitCount_0f7a4_28 : decode cJ6_bitCount_0f7a4 28 = .ok (.iadd, 1) := by decide +kernel
theorem dJ6_bitCount_0f7a4_29 : decode cJ6_bitCount_0f7a4 29 = .ok (.ldc_w 267, 3) := by decide +kernel
theorem dJ6_bitCount_0f7a4_32 : decode cJ6_bitCount_0f7a4 32 = .ok (.iand, 1) := by decide +kernel
theorem dJ6_bitCount_0f7a4_33 : decode cJ6_bitCount_0f7a4 33 = .ok (.istore_n 0, 1) := by decide +kernel
theorem dJ6_bitCount_0f7a4_34 : decode cJ6_bitCount_0f7a4 34 = .ok (.iload_n 0, 1) := by decide +kernel
theorem dJ6_bitCount_0f7a4_35 : decode cJ6_bitCount_0f7a4 35 = .ok (.iload_n 0, 1) := by decide +kernel
theorem dJ6_bitCount_0f7a4_36 : decode cJ6_bitCount_0f7a4 36 = .ok (.bipush 8, 2) := by decide +kernel
theorem dJ6_bitCount_0f7a4_38 : decode cJ6_bitCount_0f7a4 38 = .ok (.iushr, 1) := by decide +kernel
theorem dJ6_bitCount_0f7a4_39 : decode cJ6_bitCount_0f7a4 39 = .ok (.iadd, 1) := by decide +kernel
theorem dJ6_bitCount_0f7a4_40 : decode cJ6_bitCount_0f7a4 40 = .ok (.istore_n 0, 1) := by decide +kernel
theorem dJ6_bitCount_0f7a4_41 : decode cJ6_bitCount_0f7a4 41 = .ok (.iload_n 0, 1) := by decide +kernel
theorem dJ6_bitCount_0f7a4_42 : decode cJ6_bitCount_0f7a4 42 = .ok (.iload_n 0, 1) := by decide +kernel
theorem dJ6_bitCount_0f7a4_43 : decode cJ6_bitCount_0f7a4 43 = .ok (.bipush 16, 2) := by decide +kernel
theorem dJ6_bitCount_0f7a4_45 : decode cJ6_bitCount_0f7a4 45 = .ok (.iushr, 1) := by decide +kernel
theorem dJ6_bitCount_0f7a4_46 : decode cJ6_bitCount_0f7a4 46 = .ok (.iadd, 1) := by decide +kernel
theorem dJ6_bitCount_0f7a4_47 : decode cJ6_bitCount_0f7a4 47 = .ok (.istore_n 0, 1) := by decide +kernel
theorem dJ6_bitCount_0f7a4_48 : decode cJ6_bitCount_0f7a4 48 = .ok (.iload_n 0, 1) := by decide +kernel
theorem dJ6_bitCount_0f7a4_49 : decode cJ6_bitCount_0f7a4 49 = .ok (.bipush 63, 2) := by decide +kernel
theorem dJ6_bitCount_0f7a4_51 : decode cJ6_bitCount_0f7a4 51 = .ok (.iand, 1) := by decide +kernel
theorem dJ6_bitCount_0f7a4_52 : decode cJ6_bitCount_0f7a4 52 = .ok (.ireturn, 1) := by decide +kernel
noncomputable def vJ6_bitCount_0f7a4_1 (a1 : Int32) : Int32 := (((a1 - ((zushr a1 (1 : Int32)) &&& (1431655765 : Int32))) &&& (858993459 : Int32)) + ((zushr (a1 - ((zushr a1 (1 : Int32)) &&& (1431655765 : Int32))) (2 : Int32)) &&& (858993459 : Int32)))
noncomputable def vJ6_bitCount_0f7a4_2 (a1 : Int32) : Int32 := ((((vJ6_bitCount_0f7a4_1 a1) + (zushr (vJ6_bitCount_0f7a4_1 a1) (4 : Int32))) &&& (252645135 : Int32)) + (zushr (((vJ6_bitCount_0f7a4_1 a1) + (zushr (vJ6_bitCount_0f7a4_1 a1) (4 : Int32))) &&& (252645135 : Int32)) (8 : Int32)))
noncomputable def rJ6_bitCount_0f7a4 (a1 : Int32) : Int32 := (((vJ6_bitCount_0f7a4_2 a1) + (zushr (vJ6_bitCount_0f7a4_2 a1) (16 : Int32))) &&& (63 : Int32))
set_option maxHeartbeats 1000000 in
theorem ctJ6_bitCount_0f7a4 (P : zp) (σ : zc_N) (a1 : Int32) : sp mJ6_bitCount_0f7a4 0 0 0 [.int a1] (hh P σ) (fun r_ h_ => r_ = some (.int (rJ6_bitCount_0f7a4 a1)) ∧ h_ = hh P σ) := by
  refine sp_of (lv := [some (.int a1)]) (by decide) (zcats_ok _ rfl) (Nat.le_of_ble_eq_true rfl) (zlv_ok _ 0 rfl) (fun G => ?_)
  generalize hQ_ : (fun (r_ : Option Value) (h_ : zc_H) => r_ = some (.int (rJ6_bitCount_0f7a4 a1)) ∧ h_ = hh P σ) = Q_
  refine z_iload_n dJ6_bitCount_0f7a4_0 rfl ?_
  refine z_iload_n dJ6_bitCount_0f7a4_1 rfl ?_
  refine z_iconst dJ6_bitCount_0f7a4_2 k_iconst_1 ?_
  refine z_iushr (v := (zushr a1 (1 : Int32))) dJ6_bitCount_0f7a4_3 rfl ?_
  refine z_ldcw dJ6_bitCount_0f7a4_4 ck_J6_265 ?_
  refine z_iand (v := ((zushr a1 (1 : Int32)) &&& (1431655765 : Int32))) dJ6_bitCount_0f7a4_7 rfl ?_
  refine z_isub (v := (a1 - ((zushr a1 (1 : Int32)) &&& (1431655765 : Int32)))) dJ6_bitCount_0f7a4_8 rfl ?_
  refine z_istore_n (lv' := [some (.int (a1 - ((zushr a1 (1 : Int32)) &&& (1431655765 : Int32))))]) dJ6_bitCount_0f7a4_9 (Nat.le_of_ble_eq_true rfl) rfl ?_
  refine z_iload_n dJ6_bitCount_0f7a4_10 rfl ?_
  refine z_ldcw dJ6_bitCount_0f7a4_11 ck_J6_266 ?_
  refine z_iand (v := ((a1 - ((zushr a1 (1 : Int32)) &&& (1431655765 : Int32))) &&& (858993459 : Int32))) dJ6_bitCount_0f7a4_14 rfl ?_
  refine z_iload_n dJ6_bitCount_0f7a4_15 rfl ?_
  refine z_iconst dJ6_bitCount_0f7a4_16 k_iconst_2 ?_
  refine z_iushr (v := (zushr (a1 - ((zushr a1 (1 : Int32)) &&& (1431655765 : Int32))) (2 : Int32))) dJ6_bitCount_0f7a4_17 rfl ?_
  refine z_ldcw dJ6_bitCount_0f7a4_18 ck_J6_266 ?_
  refine z_iand (v := ((zushr (a1 - ((zushr a1 (1 : Int32)) &&& (1431655765 : Int32))) (2 : Int32)) &&& (858993459 : Int32))) dJ6_bitCount_0f7a4_21 rfl ?_
  refine z_iadd (v := (((a1 - ((zushr a1 (1 : Int32)) &&& (1431655765 : Int32))) &&& (858993459 : Int32)) + ((zushr (a1 - ((zushr a1 (1 : Int32)) &&& (1431655765 : Int32))) (2 : Int32)) &&& (858993459 : Int32)))) dJ6_bitCount_0f7a4_22 rfl ?_
  refine z_istore_n (lv' := [some (.int (vJ6_bitCount_0f7a4_1 a1))]) dJ6_bitCount_0f7a4_23 (Nat.le_of_ble_eq_true rfl) rfl ?_
  refine z_iload_n dJ6_bitCount_0f7a4_24 rfl ?_
  refine z_iload_n dJ6_bitCount_0f7a4_25 rfl ?_
  refine z_iconst dJ6_bitCount_0f7a4_26 k_iconst_4 ?_
  refine z_iushr (v := (zushr (vJ6_bitCount_0f7a4_1 a1) (4 : Int32))) dJ6_bitCount_0f7a4_27 rfl ?_
  refine z_iadd (v := ((vJ6_bitCount_0f7a4_1 a1) + (zushr (vJ6_bitCount_0f7a4_1 a1) (4 : Int32)))) dJ6_bitCount_0f7a4_28 rfl ?_
  refine z_ldcw dJ6_bitCount_0f7a4_29 ck_J6_267 ?_
  refine z_iand (v := (((vJ6_bitCount_0f7a4_1 a1) + (zushr (vJ6_bitCount_0f7a4_1 a1) (4 : Int32))) &&& (252645135 : Int32))) dJ6_bitCount_0f7a4_32 rfl ?_
  refine z_istore_n (lv' := [some (.int (((vJ6_bitCount_0f7a4_1 a1) + (zushr (vJ6_bitCount_0f7a4_1 a1) (4 : Int32))) &&& (252645135 : Int32)))]) dJ6_bitCount_0f7a4_33 (Nat.le_of_ble_eq_true rfl) rfl ?_
  refine z_iload_n dJ6_bitCount_0f7a4_34 rfl ?_
  refine z_iload_n dJ6_bitCount_0f7a4_35 rfl ?_
  refine z_bipush dJ6_bitCount_0f7a4_36 k_bipush_8 ?_
  refine z_iushr (v := (zushr (((vJ6_bitCount_0f7a4_1 a1) + (zushr (vJ6_bitCount_0f7a4_1 a1) (4 : Int32))) &&& (252645135 : Int32)) (8 : Int32))) dJ6_bitCount_0f7a4_38 rfl ?_
  refine z_iadd (v := ((((vJ6_bitCount_0f7a4_1 a1) + (zushr (vJ6_bitCount_0f7a4_1 a1) (4 : Int32))) &&& (252645135 : Int32)) + (zushr (((vJ6_bitCount_0f7a4_1 a1) + (zushr (vJ6_bitCount_0f7a4_1 a1) (4 : Int32))) &&& (252645135 : Int32)) (8 : Int32)))) dJ6_bitCount_0f7a4_39 rfl ?_
  refine z_istore_n (lv' := [some (.int (vJ6_bitCount_0f7a4_2 a1))]) dJ6_bitCount_0f7a4_40 (Nat.le_of_ble_eq_true rfl) rfl ?_
  refine z_iload_n dJ6_bitCount_0f7a4_41 rfl ?_
  refine z_iload_n dJ6_bitCount_0f7a4_42 rfl ?_
  refine z_bipush dJ6_bitCount_0f7a4_43 k_bipush_16 ?_
  refine z_iushr (v := (zushr (vJ6_bitCount_0f7a4_2 a1) (16 : Int32))) dJ6_bitCount_0f7a4_45 rfl ?_
  refine z_iadd (v := ((vJ6_bitCount_0f7a4_2 a1) + (zushr (vJ6_bitCount_0f7a4_2 a1) (16 : Int32)))) dJ6_bitCount_0f7a4_46 rfl ?_
  refine z_istore_n (lv' := [some (.int ((vJ6_bitCount_0f7a4_2 a1) + (zushr (vJ6_bitCount_0f7a4_2 a1) (16 : Int32))))]) dJ6_bitCount_0f7a4_47 (Nat.le_of_ble_eq_true rfl) rfl ?_
  refine z_iload_n dJ6_bitCount_0f7a4_48 rfl ?_
  refine z_bipush dJ6_bitCount_0f7a4_49 k_bipush_63 ?_
  refine z_iand (v := (((vJ6_bitCount_0f7a4_2 a1) + (zushr (vJ6_bitCount_0f7a4_2 a1) (16 : Int32))) &&& (63 : Int32))) dJ6_bitCount_0f7a4_51 rfl ?_
  exact z_ireturn dJ6_bitCount_0f7a4_52 rfl rfl (Nat.le_of_ble_eq_true rfl) (Nat.le_of_ble_eq_true rfl) (by rw [← hQ_]; exact ⟨(by rw [rJ6_bitCount_0f7a4]), rfl⟩)

theorem dX1_hangsTogether_0 : decode cX1_hangsTogether 0 = .ok (.iload_n 0, 1) := by decide +kernel
theorem dX1_hangsTogether_1 : decode cX1_hangsTogether 1 = .ok (.bipush 85, 2) := by decide +kernel
theorem dX1_hangsTogether_3 : decode cX1_hangsTogether 3 = .ok (.iand, 1) := by decide +kernel
theorem dX1_hangsTogether_4 : decode cX1_hangsTogether 4 = .ok (.istore_n 1, 1) := by decide +kernel
theorem dX1_hangsTogether_5 : decode cX1_hangsTogether 5 = .ok (.iload_n 0, 1) := by decide +kernel
theorem dX1_hangsTogether_6 : decode cX1_hangsTogether 6 = .ok (.iload_n 1, 1) := by decide +kernel
theorem dX1_hangsTogether_7 : decode cX1_hangsTogether 7 = .ok (.iconst 1, 1) := by decide +kernel
theorem dX1_hangsTogether_8 : decode cX1_hangsTogether 8 = .ok (.ishl, 1) := by decide +kernel
theorem dX1_hangsTogether_9 : decode cX1_hangsTogether 9 = .ok (.iload_n 1, 1) := by decide +kernel
theorem dX1_hangsTogether_10 : decode cX1_hangsTogether 10 = .ok (.iconst 1, 1) := by decide +kernel
theorem dX1_hangsTogether_11 : decode cX1_hangsTogether 11 = .ok (.ishr, 1) := by decide +kernel
theorem dX1_hangsTogether_12 : decode cX1_hangsTogether 12 = .ok (.iload_n 1, 1) := by decide +kernel
theorem dX1_hangsTogether_13 : decode cX1_hangsTogether 13 = .ok (.bipush 7, 2) := by decide +kernel
theorem dX1_hangsTogether_15 : decode cX1_hangsTogether 15 = .ok (.ishl, 1) := by decide +kernel
theorem dX1_hangsTogether_16 : decode cX1_hangsTogether 16 = .ok (.ior, 1) := by decide +kernel
theorem dX1_hangsTogether_17 : decode cX1_hangsTogether 17 = .ok (.iand, 1) := by decide +kernel
theorem dX1_hangsTogether_18 : decode cX1_hangsTogether 18 = .ok (.ior, 1) := by decide +kernel
theorem dX1_hangsTogether_19 : decode cX1_hangsTogether 19 = .ok (.istore_n 2, 1) := by decide +kernel
theorem dX1_hangsTogether_20 : decode cX1_hangsTogether 20 = .ok (.iload_n 2, 1) := by decide +kernel
theorem dX1_hangsTogether_21 : decode cX1_hangsTogether 21 = .ok (.iload_n 2, 1) := by decide +kernel
theorem dX1_hangsTogether_22 : decode cX1_hangsTogether 22 = .ok (.iconst 1, 1) := by decide +kernel
theorem dX1_hangsTogether_23 : decode cX1_hangsTogether 23 = .ok (.ishl, 1) := by decide +kernel
theorem dX1_hangsTogether_24 : decode cX1_hangsTogether 24 = .ok (.iload_n 2, 1) := by decide +kernel
theorem dX1_hangsTogether_25 : decode cX1_hangsTogether 25 = .ok (.bipush 7, 2) := by decide +kernel
theorem dX1_hangsTogether_27 : decode cX1_hangsTogether 27 = .ok (.ishr, 1) := by decide +kernel
theorem dX1_hangsTogether_28 : decode cX1_hangsTogether 28 = .ok (.ior, 1) := by decide +kernel
theorem dX1_hangsTogether_29 : decode cX1_hangsTogether 29 = .ok (.iconst (-1), 1) := by decide +kernel
theorem dX1_hangsTogether_30 : decode cX1_hangsTogether 30 = .ok (.ixor, 1) := by decide +kernel
theorem dX1_hangsTogether_31 : decode cX1_hangsTogether 31 = .ok (.iand, 1) := by decide +kernel
theorem dX1_hangsTogether_32 : decode cX1_hangsTogether 32 = .ok (.istore_n 3, 1) := by decide +kernel
theorem dX1_hangsTogether_33 : decode cX1_hangsTogether 33 = .ok (.iload_n 3, 1) := by decide +kernel
theorem dX1_hangsTogether_34 : decode cX1_hangsTogether 34 = .ok (.invokestatic 21, 3) := by decide +kernel
theorem dX1_hangsTogether_37 : decode cX1_hangsTogether 37 = .ok (.iconst 1, 1) := by decide +kernel
theorem dX1_hangsTogether_38 : decode cX1_hangsTogether 38 = .ok (.if_icmp .gt 7, 3) := by decide +kernel
theorem dX1_hangsTogether_41 : decode cX1_hangsTogether 41 = .ok (.iconst 1, 1) := by decide +kernel
theorem dX1_hangsTogether_42 : decode cX1_hangsTogether 42 = .ok (.goto 4, 3) := by decide +kernel
theorem dX1_hangsTogether_45 : decode cX1_hangsTogether 45 = .ok (.iconst 0, 1) := by decide +kernel
theorem dX1_hangsTogether_46 : decode cX1_hangsTogether 46 = .ok (.ireturn, 1) := by decide +kernel
noncomputable def vX1_hangsTogether_1 (a1 : Int32) : Int32 := (a1 ||| ((zshl (a1 &&& (85 : Int32)) (1 : Int32)) &&& ((zshr (a1 &&& (85 : Int32)) (1 : Int32)) ||| (zshl (a1 &&& (85 : Int32)) (7 : Int32)))))
noncomputable def vX1_hangsTogether_2 (a1 : Int32) : Int32 := ((vX1_hangsTogether_1 a1) &&& (((zshl (vX1_hangsTogether_1 a1) (1 : Int32)) ||| (zshr (vX1_hangsTogether_1 a1) (7 : Int32))) ^^^ (-1 : Int32)))
noncomputable def rX1_hangsTogether (a1 : Int32) : Int32 := (if (1 : Int32) < (rJ6_bitCount_0f7a4 (vX1_hangsTogether_2 a1)) then (0 : Int32) else (1 : Int32))
set_option maxHeartbeats 1000000 in
theorem ctX1_hangsTogether (P : zp) (σ : zc_N) (a1 : Int32) : sp mX1_hangsTogether 1 0 0 [.int a1] (hh P σ) (fun r_ h_ => r_ = some (.int (rX1_hangsTogether a1)) ∧ h_ = hh P σ) := by
  refine sp_of (lv := [some (.int a1), none, none, none]) (by decide) (zcats_ok _ rfl) (Nat.le_of_ble_eq_true rfl) (zlv_ok _ 3 rfl) (fun G => ?_)
  generalize hQ_ : (fun (r_ : Option Value) (h_ : zc_H) => r_ = some (.int (rX1_hangsTogether a1)) ∧ h_ = hh P σ) = Q_
  refine z_iload_n dX1_hangsTogether_0 rfl ?_
  refine z_bipush dX1_hangsTogether_1 k_bipush_85 ?_
  refine z_iand (v := (a1 &&& (85 : Int32))) dX1_hangsTogether_3 rfl ?_
  refine z_istore_n (lv' := [some (.int a1), some (.int (a1 &&& (85 : Int32))), none, none]) dX1_hangsTogether_4 (Nat.le_of_ble_eq_true rfl) rfl ?_
  refine z_iload_n dX1_hangsTogether_5 rfl ?_
  refine z_iload_n dX1_hangsTogether_6 rfl ?_
  refine z_iconst dX1_hangsTogether_7 k_iconst_1 ?_
  refine z_ishl (v := (zshl (a1 &&& (85 : Int32)) (1 : Int32))) dX1_hangsTogether_8 rfl ?_
  refine z_iload_n dX1_hangsTogether_9 rfl ?_
  refine z_iconst dX1_hangsTogether_10 k_iconst_1 ?_
  refine z_ishr (v := (zshr (a1 &&& (85 : Int32)) (1 : Int32))) dX1_hangsTogether_11 rfl ?_
  refine z_iload_n dX1_hangsTogether_12 rfl ?_
  refine z_bipush dX1_hangsTogether_13 k_bipush_7 ?_
  refine z_ishl (v := (zshl (a1 &&& (85 : Int32)) (7 : Int32))) dX1_hangsTogether_15 rfl ?_
  refine z_ior (v := ((zshr (a1 &&& (85 : Int32)) (1 : Int32)) ||| (zshl (a1 &&& (85 : Int32)) (7 : Int32)))) dX1_hangsTogether_16 rfl ?_
  refine z_iand (v := ((zshl (a1 &&& (85 : Int32)) (1 : Int32)) &&& ((zshr (a1 &&& (85 : Int32)) (1 : Int32)) ||| (zshl (a1 &&& (85 : Int32)) (7 : Int32))))) dX1_hangsTogether_17 rfl ?_
  refine z_ior (v := (a1 ||| ((zshl (a1 &&& (85 : Int32)) (1 : Int32)) &&& ((zshr (a1 &&& (85 : Int32)) (1 : Int32)) ||| (zshl (a1 &&& (85 : Int32)) (7 : Int32)))))) dX1_hangsTogether_18 rfl ?_
  refine z_istore_n (lv' := [some (.int a1), some (.int (a1 &&& (85 : Int32))), some (.int (vX1_hangsTogether_1 a1)), none]) dX1_hangsTogether_19 (Nat.le_of_ble_eq_true rfl) rfl ?_
  refine z_iload_n dX1_hangsTogether_20 rfl ?_
  refine z_iload_n dX1_hangsTogether_21 rfl ?_
  refine z_iconst dX1_hangsTogether_22 k_iconst_1 ?_
  refine z_ishl (v := (zshl (vX1_hangsTogether_1 a1) (1 : Int32))) dX1_hangsTogether_23 rfl ?_
  refine z_iload_n dX1_hangsTogether_24 rfl ?_
  refine z_bipush dX1_hangsTogether_25 k_bipush_7 ?_
  refine z_ishr (v := (zshr (vX1_hangsTogether_1 a1) (7 : Int32))) dX1_hangsTogether_27 rfl ?_
  refine z_ior (v := ((zshl (vX1_hangsTogether_1 a1) (1 : Int32)) ||| (zshr (vX1_hangsTogether_1 a1) (7 : Int32)))) dX1_hangsTogether_28 rfl ?_
  refine z_iconst dX1_hangsTogether_29 k_iconst_m1 ?_
  refine z_ixor (v := (((zshl (vX1_hangsTogether_1 a1) (1 : Int32)) ||| (zshr (vX1_hangsTogether_1 a1) (7 : Int32))) ^^^ (-1 : Int32))) dX1_hangsTogether_30 rfl ?_
  refine z_iand (v := ((vX1_hangsTogether_1 a1) &&& (((zshl (vX1_hangsTogether_1 a1) (1 : Int32)) ||| (zshr (vX1_hangsTogether_1 a1) (7 : Int32))) ^^^ (-1 : Int32)))) dX1_hangsTogether_31 rfl ?_
  refine z_istore_n (lv' := [some (.int a1), some (.int (a1 &&& (85 : Int32))), some (.int (vX1_hangsTogether_1 a1)), some (.int (vX1_hangsTogether_2 a1))]) dX1_hangsTogether_32 (Nat.le_of_ble_eq_true rfl) rfl ?_
  refine z_iload_n dX1_hangsTogether_33 rfl ?_
  refine z_callS (As := [.int (vX1_hangsTogether_2 a1)]) (rest := []) (ctJ6_bitCount_0f7a4 P σ (vX1_hangsTogether_2 a1)) dX1_hangsTogether_34 lk_X1_21 ls_J6_bitCount_0f7a4 rfl (Nat.le_of_ble_eq_true rfl) (Nat.le_of_ble_eq_true rfl) (Nat.le_of_ble_eq_true rfl) (Nat.le_of_ble_eq_true rfl) (fun r_ h_ e_ => ?_)
  obtain ⟨e1_, e2_⟩ := e_
  subst e1_
  subst e2_
  show zz G mX1_hangsTogether 1 0 0 Q_ 37 [some (.int a1), some (.int (a1 &&& (85 : Int32))), some (.int (vX1_hangsTogether_1 a1)), some (.int (vX1_hangsTogether_2 a1))] [.int (rJ6_bitCount_0f7a4 (vX1_hangsTogether_2 a1))] (hh P σ) 0 0
  refine z_iconst dX1_hangsTogether_37 k_iconst_1 ?_
  have K_1 : zz G mX1_hangsTogether 1 0 0 Q_ 46 [none, none, none, none] [.int (if (1 : Int32) < (rJ6_bitCount_0f7a4 (vX1_hangsTogether_2 a1)) then (0 : Int32) else (1 : Int32))] (hh P σ) 0 0 := by
    exact z_ireturn dX1_hangsTogether_46 rfl (by (repeat' split) <;> rfl) (Nat.le_of_ble_eq_true rfl) (Nat.le_of_ble_eq_true rfl) (by rw [← hQ_]; exact ⟨(by rw [rX1_hangsTogether]), rfl⟩)
  refine z_icmp_gt (tgt := 45) dX1_hangsTogether_38 (by decide) (fun c_1 => ?_) (fun c_1 => ?_)
  · refine z_iconst dX1_hangsTogether_45 k_iconst_0 ?_
    refine zz_sub (lv' := [none, none, none, none]) trivial ?_
    rw [show (if (1 : Int32) < (rJ6_bitCount_0f7a4 (vX1_hangsTogether_2 a1)) then (0 : Int32) else (1 : Int32)) = (0 : Int32) from (if_pos c_1)] at K_1
    exact K_1
  · refine z_iconst dX1_hangsTogether_41 k_iconst_1 ?_
    refine z_goto (tgt := 46) dX1_hangsTogether_42 (by decide) ?_
    refine zz_sub (lv' := [none, none, none, none]) trivial ?_
    rw [show (if (1 : Int32) < (rJ6_bitCount_0f7a4 (vX1_hangsTogether_2 a1)) then (0 : Int32) else (1 : Int32)) = (1 : Int32) from (if_neg c_1)] at K_1
    exact K_1

theorem dX1_goes_0 : decode cX1_goes 0 = .ok (.iload_n 0, 1) := by decide +kernel
theorem dX1_goes_1 : decode cX1_goes 1 = .ok (.bipush 85, 2) := by decide +kernel
theorem dX1_goes_3 : decode cX1_goes 3 = .ok (.iand, 1) := by decide +kernel
theorem dX1_goes_4 : decode cX1_goes 4 = .ok (.istore_n 1, 1) := by decide +kernel
theorem dX1_goes_5 : decode cX1_goes 5 = .ok (.iload_n 1, 1) := by decide +kernel
theorem dX1_goes_6 : decode cX1_goes 6 = .ok (.bipush 85, 2) := by decide +kernel
theorem dX1_goes_8 : decode cX1_goes 8 = .ok (.if_icmp .eq 22, 3) := by decide +kernel
theorem dX1_goes_11 : decode cX1_goes 11 = .ok (.iload_n 0, 1) := by decide +kernel
theorem dX1_goes_12 : decode cX1_goes 12 = .ok (.invokestatic 21, 3) := by decide +kernel
theorem dX1_goes_15 : decode cX1_goes 15 = .ok (.iconst 2, 1) := by decide +kernel
theorem dX1_goes_16 : decode cX1_goes 16 = .ok (.if_icmp .lt 14, 3) := by decide +kernel
theorem dX1_goes_19 : decode cX1_goes 19 = .ok (.iload_n 0, 1) := by decide +kernel
theorem dX1_goes_20 : decode cX1_goes 20 = .ok (.invokestatic 43, 3) := by decide +kernel
theorem dX1_goes_23 : decode cX1_goes 23 = .ok (.ifCond .eq 7, 3) := by decide +kernel
theorem dX1_goes_26 : decode cX1_goes 26 = .ok (.iconst 1, 1) := by decide +kernel
theorem dX1_goes_27 : decode cX1_goes 27 = .ok (.goto 4, 3) := by decide +kernel
theorem dX1_goes_30 : decode cX1_goes 30 = .ok (.iconst 0, 1) := by decide +kernel
theorem dX1_goes_31 : decode cX1_goes 31 = .ok (.ireturn, 1) := by decide +kernel
noncomputable def rX1_goes (a1 : Int32) : Int32 := (if (a1 &&& (85 : Int32)) = (85 : Int32) then (0 : Int32) else (if (rJ6_bitCount_0f7a4 a1) < (2 : Int32) then (0 : Int32) else (if (rX1_hangsTogether a1) = (0 : Int32) then (0 : Int32) else (1 : Int32))))
set_option maxHeartbeats 1000000 in
theorem ctX1_goes (P : zp) (σ : zc_N) (a1 : Int32) : sp mX1_goes 2 0 0 [.int a1] (hh P σ) (fun r_ h_ => r_ = some (.int (rX1_goes a1)) ∧ h_ = hh P σ) := by
  refine sp_of (lv := [some (.int a1), none]) (by decide) (zcats_ok _ rfl) (Nat.le_of_ble_eq_true rfl) (zlv_ok _ 1 rfl) (fun G => ?_)
  generalize hQ_ : (fun (r_ : Option Value) (h_ : zc_H) => r_ = some (.int (rX1_goes a1)) ∧ h_ = hh P σ) = Q_
  refine z_iload_n dX1_goes_0 rfl ?_
  refine z_bipush dX1_goes_1 k_bipush_85 ?_
  refine z_iand (v := (a1 &&& (85 : Int32))) dX1_goes_3 rfl ?_
  refine z_istore_n (lv' := [some (.int a1), some (.int (a1 &&& (85 : Int32)))]) dX1_goes_4 (Nat.le_of_ble_eq_true rfl) rfl ?_
  refine z_iload_n dX1_goes_5 rfl ?_
  refine z_bipush dX1_goes_6 k_bipush_85 ?_
  have K_1 : zz G mX1_goes 2 0 0 Q_ 31 [none, none] [.int (if (a1 &&& (85 : Int32)) = (85 : Int32) then (0 : Int32) else (if (rJ6_bitCount_0f7a4 a1) < (2 : Int32) then (0 : Int32) else (if (rX1_hangsTogether a1) = (0 : Int32) then (0 : Int32) else (1 : Int32))))] (hh P σ) 0 0 := by
    exact z_ireturn dX1_goes_31 rfl (by (repeat' split) <;> rfl) (Nat.le_of_ble_eq_true rfl) (Nat.le_of_ble_eq_true rfl) (by rw [← hQ_]; exact ⟨(by rw [rX1_goes]), rfl⟩)
  refine z_icmp_eq (tgt := 30) dX1_goes_8 (by decide) (fun c_1 => ?_) (fun c_1 => ?_)
  · refine z_iconst dX1_goes_30 k_iconst_0 ?_
    refine zz_sub (lv' := [none, none]) trivial ?_
    rw [show (if (a1 &&& (85 : Int32)) = (85 : Int32) then (0 : Int32) else (if (rJ6_bitCount_0f7a4 a1) < (2 : Int32) then (0 : Int32) else (if (rX1_hangsTogether a1) = (0 : Int32) then (0 : Int32) else (1 : Int32)))) = (0 : Int32) from (if_pos c_1)] at K_1
    exact K_1
  · refine z_iload_n dX1_goes_11 rfl ?_
    refine z_callS (As := [.int a1]) (rest := []) (ctJ6_bitCount_0f7a4 P σ a1) dX1_goes_12 lk_X1_21 ls_J6_bitCount_0f7a4 rfl (Nat.le_of_ble_eq_true rfl) (Nat.le_of_ble_eq_true rfl) (Nat.le_of_ble_eq_true rfl) (Nat.le_of_ble_eq_true rfl) (fun r_ h_ e_ => ?_)
    obtain ⟨e1_, e2_⟩ := e_
    subst e1_
    subst e2_
    show zz G mX1_goes 2 0 0 Q_ 15 [some (.int a1), some (.int (a1 &&& (85 : Int32)))] [.int (rJ6_bitCount_0f7a4 a1)] (hh P σ) 0 0
    refine z_iconst dX1_goes_15 k_iconst_2 ?_
    refine z_icmp_lt (tgt := 30) dX1_goes_16 (by decide) (fun c_2 => ?_) (fun c_2 => ?_)
    · refine z_iconst dX1_goes_30 k_iconst_0 ?_
      refine zz_sub (lv' := [none, none]) trivial ?_
      rw [show (if (a1 &&& (85 : Int32)) = (85 : Int32) then (0 : Int32) else (if (rJ6_bitCount_0f7a4 a1) < (2 : Int32) then (0 : Int32) else (if (rX1_hangsTogether a1) = (0 : Int32) then (0 : Int32) else (1 : Int32)))) = (0 : Int32) from ((if_neg c_1).trans (if_pos c_2))] at K_1
      exact K_1
    · refine z_iload_n dX1_goes_19 rfl ?_
      refine z_callS (As := [.int a1]) (rest := []) (ctX1_hangsTogether P σ a1) dX1_goes_20 lk_X1_43 ls_X1_hangsTogether rfl (Nat.le_of_ble_eq_true rfl) (Nat.le_of_ble_eq_true rfl) (Nat.le_of_ble_eq_true rfl) (Nat.le_of_ble_eq_true rfl) (fun r_ h_ e_ => ?_)
      obtain ⟨e1_, e2_⟩ := e_
      subst e1_
      subst e2_
      show zz G mX1_goes 2 0 0 Q_ 23 [some (.int a1), some (.int (a1 &&& (85 : Int32)))] [.int (rX1_hangsTogether a1)] (hh P σ) 0 0
      refine z_if_eq (tgt := 30) dX1_goes_23 (by decide) (fun c_3 => ?_) (fun c_3 => ?_)
      · refine z_iconst dX1_goes_30 k_iconst_0 ?_
        refine zz_sub (lv' := [none, none]) trivial ?_
        rw [show (if (a1 &&& (85 : Int32)) = (85 : Int32) then (0 : Int32) else (if (rJ6_bitCount_0f7a4 a1) < (2 : Int32) then (0 : Int32) else (if (rX1_hangsTogether a1) = (0 : Int32) then (0 : Int32) else (1 : Int32)))) = (0 : Int32) from ((if_neg c_1).trans ((if_neg c_2).trans (if_pos c_3)))] at K_1
        exact K_1
      · refine z_iconst dX1_goes_26 k_iconst_1 ?_
        refine z_goto (tgt := 31) dX1_goes_27 (by decide) ?_
        refine zz_sub (lv' := [none, none]) trivial ?_
        rw [show (if (a1 &&& (85 : Int32)) = (85 : Int32) then (0 : Int32) else (if (rJ6_bitCount_0f7a4 a1) < (2 : Int32) then (0 : Int32) else (if (rX1_hangsTogether a1) = (0 : Int32) then (0 : Int32) else (1 : Int32)))) = (1 : Int32) from ((if_neg c_1).trans ((if_neg c_2).trans (if_neg c_3)))] at K_1
        exact K_1

theorem dX1_kindOf_0 : decode cX1_kindOf 0 = .ok (.iload_n 0, 1) := by decide +kernel
theorem dX1_kindOf_1 : decode cX1_kindOf 1 = .ok (.ifCond .ne 5, 3) := by decide +kernel
theorem dX1_kindOf_4 : decode cX1_kindOf 4 = .ok (.iconst 0, 1) := by decide +kernel
theorem dX1_kindOf_5 : decode cX1_kindOf 5 = .ok (.ireturn, 1) := by decide +kernel
theorem dX1_kindOf_6 : decode cX1_kindOf 6 = .ok (.iload_n 0, 1) := by decide +kernel
theorem dX1_kindOf_7 : decode cX1_kindOf 7 = .ok (.iconst 1, 1) := by decide +kernel
theorem dX1_kindOf_8 : decode cX1_kindOf 8 = .ok (.if_icmp .ne 5, 3) := by decide +kernel
theorem dX1_kindOf_11 : decode cX1_kindOf 11 = .ok (.iconst 1, 1) := by decide +kernel
theorem dX1_kindOf_12 : decode cX1_kindOf 12 = .ok (.ireturn, 1) := by decide +kernel
theorem dX1_kindOf_13 : decode cX1_kindOf 13 = .ok (.iload_n 0, 1) := by decide +kernel
theorem dX1_kindOf_14 : decode cX1_kindOf 14 = .ok (.iconst 3, 1) := by decide +kernel
theorem dX1_kindOf_15 : decode cX1_kindOf 15 = .ok (.if_icmp .lt 11, 3) := by decide +kernel
theorem dX1_kindOf_18 : decode cX1_kindOf 18 = .ok (.iload_n 1, 1) := by decide +kernel
theorem dX1_kindOf_19 : decode cX1_kindOf 19 = .ok (.ifCond .ne 7, 3) := by decide +kernel
theorem dX1_kindOf_22 : decode cX1_kindOf 22 = .ok (.iconst 2, 1) := by decide +kernel
theorem dX1_kindOf_23 : decode cX1_kindOf 23 = .ok (.goto 4, 3) := by decide +kernel
theorem dX1_kindOf_26 : decode cX1_kindOf 26 = .ok (.iconst (-1), 1) := by decide +kernel
theorem dX1_kindOf_27 : decode cX1_kindOf 27 = .ok (.ireturn, 1) := by decide +kernel
noncomputable def rX1_kindOf (a1 : Int32) (a2 : Int32) : Int32 := (if a1 = (0 : Int32) then (0 : Int32) else (if a1 = (1 : Int32) then (1 : Int32) else (if a1 < (3 : Int32) then (-1 : Int32) else (if a2 = (0 : Int32) then (2 : Int32) else (-1 : Int32)))))
set_option maxHeartbeats 1000000 in
theorem ctX1_kindOf (P : zp) (σ : zc_N) (a1 : Int32) (a2 : Int32) : sp mX1_kindOf 0 0 0 [.int a1, .int a2] (hh P σ) (fun r_ h_ => r_ = some (.int (rX1_kindOf a1 a2)) ∧ h_ = hh P σ) := by
  refine sp_of (lv := [some (.int a1), some (.int a2)]) (by decide) (zcats_ok _ rfl) (Nat.le_of_ble_eq_true rfl) (zlv_ok _ 0 rfl) (fun G => ?_)
  generalize hQ_ : (fun (r_ : Option Value) (h_ : zc_H) => r_ = some (.int (rX1_kindOf a1 a2)) ∧ h_ = hh P σ) = Q_
  refine z_iload_n dX1_kindOf_0 rfl ?_
  refine z_if_ne (tgt := 6) dX1_kindOf_1 (by decide) (fun c_1 => ?_) (fun c_1 => ?_)
  · refine z_iload_n dX1_kindOf_6 rfl ?_
    refine z_iconst dX1_kindOf_7 k_iconst_1 ?_
    refine z_icmp_ne (tgt := 13) dX1_kindOf_8 (by decide) (fun c_2 => ?_) (fun c_2 => ?_)
    · refine z_iload_n dX1_kindOf_13 rfl ?_
      refine z_iconst dX1_kindOf_14 k_iconst_3 ?_
      have K_1 : zz G mX1_kindOf 0 0 0 Q_ 27 [none, none] [.int (if a1 < (3 : Int32) then (-1 : Int32) else (if a2 = (0 : Int32) then (2 : Int32) else (-1 : Int32)))] (hh P σ) 0 0 := by
        exact z_ireturn dX1_kindOf_27 rfl rfl (Nat.le_of_ble_eq_true rfl) (Nat.le_of_ble_eq_true rfl) (by rw [← hQ_]; exact ⟨(by rw [rX1_kindOf]; try simp only [if_neg c_1, if_neg c_2]), rfl⟩)
      refine z_icmp_lt (tgt := 26) dX1_kindOf_15 (by decide) (fun c_3 => ?_) (fun c_3 => ?_)
      · refine z_iconst dX1_kindOf_26 k_iconst_m1 ?_
        refine zz_sub (lv' := [none, none]) trivial ?_
        rw [show (if a1 < (3 : Int32) then (-1 : Int32) else (if a2 = (0 : Int32) then (2 : Int32) else (-1 : Int32))) = (-1 : Int32) from (if_pos c_3)] at K_1
        exact K_1
      · refine z_iload_n dX1_kindOf_18 rfl ?_
        refine z_if_ne (tgt := 26) dX1_kindOf_19 (by decide) (fun c_4 => ?_) (fun c_4 => ?_)
        · refine z_iconst dX1_kindOf_26 k_iconst_m1 ?_
          refine zz_sub (lv' := [none, none]) trivial ?_
          rw [show (if a1 < (3 : Int32) then (-1 : Int32) else (if a2 = (0 : Int32) then (2 : Int32) else (-1 : Int32))) = (-1 : Int32) from ((if_neg c_3).trans (if_neg c_4))] at K_1
          exact K_1
        · refine z_iconst dX1_kindOf_22 k_iconst_2 ?_
          refine z_goto (tgt := 27) dX1_kindOf_23 (by decide) ?_
          refine zz_sub (lv' := [none, none]) trivial ?_
          rw [show (if a1 < (3 : Int32) then (-1 : Int32) else (if a2 = (0 : Int32) then (2 : Int32) else (-1 : Int32))) = (2 : Int32) from ((if_neg c_3).trans (if_pos c_4))] at K_1
          exact K_1
    · refine z_iconst dX1_kindOf_11 k_iconst_1 ?_
      exact z_ireturn dX1_kindOf_12 rfl rfl (Nat.le_of_ble_eq_true rfl) (Nat.le_of_ble_eq_true rfl) (by rw [← hQ_]; exact ⟨(by rw [rX1_kindOf]; try simp only [if_neg c_1, if_pos c_2]), rfl⟩)
  · refine z_iconst dX1_kindOf_4 k_iconst_0 ?_
    exact z_ireturn dX1_kindOf_5 rfl rfl (Nat.le_of_ble_eq_true rfl) (Nat.le_of_ble_eq_true rfl) (by rw [← hQ_]; exact ⟨(by rw [rX1_kindOf]; try simp only [if_pos c_1]), rfl⟩)

theorem dX1_takes_0 : decode cX1_takes 0 = .ok (.iload_n 1, 1) := by decide +kernel
theorem dX1_takes_1 : decode cX1_takes 1 = .ok (.iconst 0, 1) := by decide +kernel
theorem dX1_takes_2 : decode cX1_takes 2 = .ok (.bipush 17, 2) := by decide +kernel
theorem dX1_takes_4 : decode cX1_takes 4 = .ok (.invokestatic 72, 3) := by decide +kernel
theorem dX1_takes_7 : decode cX1_takes 7 = .ok (.ifCond .eq 13, 3) := by decide +kernel
theorem dX1_takes_10 : decode cX1_takes 10 = .ok (.iload_n 2, 1) := by decide +kernel
theorem dX1_takes_11 : decode cX1_takes 11 = .ok (.iconst 0, 1) := by decide +kernel
theorem dX1_takes_12 : decode cX1_takes 12 = .ok (.bipush 17, 2) := by decide +kernel
theorem dX1_takes_14 : decode cX1_takes 14 = .ok (.invokestatic 72, 3) := by decide +kernel
theorem dX1_takes_17 : decode cX1_takes 17 = .ok (.ifCond .ne 5, 3) := by decide +kernel
theorem dX1_takes_20 : decode cX1_takes 20 = .ok (.iconst 0, 1) := by decide +kernel
theorem dX1_takes_21 : decode cX1_takes 21 = .ok (.ireturn, 1) := by decide +kernel
theorem dX1_takes_22 : decode cX1_takes 22 = .ok (.iconst 1, 1) := by decide +kernel
theorem dX1_takes_23 : decode cX1_takes 23 = .ok (.bipush 17, 2) := by decide +kernel
theorem dX1_takes_25 : decode cX1_takes 25 = .ok (.iload_n 1, 1) := by decide +kernel
theorem dX1_takes_26 : decode cX1_takes 26 = .ok (.isub, 1) := by decide +kernel
theorem dX1_takes_27 : decode cX1_takes 27 = .ok (.ishl, 1) := by decide +kernel
theorem dX1_takes_28 : decode cX1_takes 28 = .ok (.istore_n 3, 1) := by decide +kernel
theorem dX1_takes_29 : decode cX1_takes 29 = .ok (.aload_n 0, 1) := by decide +kernel
theorem dX1_takes_30 : decode cX1_takes 30 = .ok (.getfield 15, 3) := by decide +kernel
theorem dX1_takes_33 : decode cX1_takes 33 = .ok (.iload_n 2, 1) := by decide +kernel
theorem dX1_takes_34 : decode cX1_takes 34 = .ok (.iaload, 1) := by decide +kernel
theorem dX1_takes_35 : decode cX1_takes 35 = .ok (.iload_n 3, 1) := by decide +kernel
theorem dX1_takes_36 : decode cX1_takes 36 = .ok (.iand, 1) := by decide +kernel
theorem dX1_takes_37 : decode cX1_takes 37 = .ok (.ifCond .eq 7, 3) := by decide +kernel
theorem dX1_takes_40 : decode cX1_takes 40 = .ok (.iconst 1, 1) := by decide +kernel
theorem dX1_takes_41 : decode cX1_takes 41 = .ok (.goto 4, 3) := by decide +kernel
theorem dX1_takes_44 : decode cX1_takes 44 = .ok (.iconst 0, 1) := by decide +kernel
theorem dX1_takes_45 : decode cX1_takes 45 = .ok (.istore 4, 2) := by decide +kernel
theorem dX1_takes_47 : decode cX1_takes 47 = .ok (.aload_n 0, 1) := by decide +kernel
theorem dX1_takes_48 : decode cX1_takes 48 = .ok (.getfield 15, 3) := by decide +kernel
theorem dX1_takes_51 : decode cX1_takes 51 = .ok (.iload_n 2, 1) := by decide +kernel
theorem dX1_takes_52 : decode cX1_takes 52 = .ok (.dup2, 1) := by decide +kernel
theorem dX1_takes_53 : decode cX1_takes 53 = .ok (.iaload, 1) := by decide +kernel
theorem dX1_takes_54 : decode cX1_takes 54 = .ok (.iload_n 3, 1) := by decide +kernel
theorem dX1_takes_55 : decode cX1_takes 55 = .ok (.iconst (-1), 1) := by decide +kernel
theorem dX1_takes_56 : decode cX1_takes 56 = .ok (.ixor, 1) := by decide +kernel
theorem dX1_takes_57 : decode cX1_takes 57 = .ok (.iand, 1) := by decide +kernel
theorem dX1_takes_58 : decode cX1_takes 58 = .ok (.iastore, 1) := by decide +kernel
theorem dX1_takes_59 : decode cX1_takes 59 = .ok (.iload 4, 2) := by decide +kernel
theorem dX1_takes_61 : decode cX1_takes 61 = .ok (.ireturn, 1) := by decide +kernel
def pX1_takes (a1 : Int32) (a2 : Int32) : Prop := (((rX8_isWithin a1 (0 : Int32) (17 : Int32)) = (0 : Int32) → True) ∧ (¬ (rX8_isWithin a1 (0 : Int32) (17 : Int32)) = (0 : Int32) → (((rX8_isWithin a2 (0 : Int32) (17 : Int32)) = (0 : Int32) → True) ∧ (¬ (rX8_isWithin a2 (0 : Int32) (17 : Int32)) = (0 : Int32) → (vp_in a2 18 ∧ (vp_in a2 18 ∧ vp_in a2 18))))))
noncomputable def rX1_takes (σ : zc_N) (a1 : Int32) (a2 : Int32) : Int32 := (if (rX8_isWithin a1 (0 : Int32) (17 : Int32)) = (0 : Int32) then (0 : Int32) else (if (rX8_isWithin a2 (0 : Int32) (17 : Int32)) = (0 : Int32) then (0 : Int32) else (if (((σ 6) a2.toNatClampNeg) &&& (zshl (1 : Int32) ((17 : Int32) - a1))) = (0 : Int32) then (0 : Int32) else (1 : Int32))))
noncomputable def sX1_takes (σ : zc_N) (a1 : Int32) (a2 : Int32) : zc_N := (if (rX8_isWithin a1 (0 : Int32) (17 : Int32)) = (0 : Int32) then σ else (if (rX8_isWithin a2 (0 : Int32) (17 : Int32)) = (0 : Int32) then σ else (zu σ 6 (zu (σ 6) a2.toNatClampNeg (((σ 6) a2.toNatClampNeg) &&& ((zshl (1 : Int32) ((17 : Int32) - a1)) ^^^ (-1 : Int32)))))))
set_option maxHeartbeats 1000000 in
theorem ctX1_takes (P : zp) (σ : zc_N) (a1 : Int32) (a2 : Int32) (W_ : (pX1_takes a1 a2)) : sp mX1_takes 1 0 0 [.ref 4, .int a1, .int a2] (hh P σ) (fun r_ h_ => r_ = some (.int (rX1_takes σ a1 a2)) ∧ h_ = hh P (sX1_takes σ a1 a2)) := by
  refine sp_of (lv := [some (.ref 4), some (.int a1), some (.int a2), none, none]) (by decide) (zcats_ok _ rfl) (Nat.le_of_ble_eq_true rfl) (zlv_ok _ 2 rfl) (fun G => ?_)
  generalize hQ_ : (fun (r_ : Option Value) (h_ : zc_H) => r_ = some (.int (rX1_takes σ a1 a2)) ∧ h_ = hh P (sX1_takes σ a1 a2)) = Q_
  unfold pX1_takes at W_
  refine z_iload_n dX1_takes_0 rfl ?_
  refine z_iconst dX1_takes_1 k_iconst_0 ?_
  refine z_bipush dX1_takes_2 k_bipush_17 ?_
  refine z_callSN (As := [.int a1, .int (0 : Int32), .int (17 : Int32)]) (rest := []) (ctX8_isWithin P σ a1 (0 : Int32) (17 : Int32)) dX1_takes_4 ln_X1_72 ls_X8_isWithin rfl (Nat.le_of_ble_eq_true rfl) (Nat.le_of_ble_eq_true rfl) (Nat.le_of_ble_eq_true rfl) (Nat.le_of_ble_eq_true rfl) (fun r_ h_ e_ => ?_)
  obtain ⟨e1_, e2_⟩ := e_
  subst e1_
  subst e2_
  show zz G mX1_takes 1 0 0 Q_ 7 [some (.ref 4), some (.int a1), some (.int a2), none, none] [.int (rX8_isWithin a1 (0 : Int32) (17 : Int32))] (hh P σ) 0 0
  refine z_if_eq (tgt := 20) dX1_takes_7 (by decide) (fun c_1 => ?_) (fun c_1 => ?_)
  · refine z_iconst dX1_takes_20 k_iconst_0 ?_
    exact z_ireturn dX1_takes_21 rfl rfl (Nat.le_of_ble_eq_true rfl) (Nat.le_of_ble_eq_true rfl) (by rw [← hQ_]; exact ⟨(by rw [rX1_takes]; try simp only [if_pos c_1]), (by rw [sX1_takes]; try simp only [if_pos c_1])⟩)
  · refine z_iload_n dX1_takes_10 rfl ?_
    refine z_iconst dX1_takes_11 k_iconst_0 ?_
    refine z_bipush dX1_takes_12 k_bipush_17 ?_
    refine z_callSN (As := [.int a2, .int (0 : Int32), .int (17 : Int32)]) (rest := []) (ctX8_isWithin P σ a2 (0 : Int32) (17 : Int32)) dX1_takes_14 ln_X1_72 ls_X8_isWithin rfl (Nat.le_of_ble_eq_true rfl) (Nat.le_of_ble_eq_true rfl) (Nat.le_of_ble_eq_true rfl) (Nat.le_of_ble_eq_true rfl) (fun r_ h_ e_ => ?_)
    obtain ⟨e1_, e2_⟩ := e_
    subst e1_
    subst e2_
    show zz G mX1_takes 1 0 0 Q_ 17 [some (.ref 4), some (.int a1), some (.int a2), none, none] [.int (rX8_isWithin a2 (0 : Int32) (17 : Int32))] (hh P σ) 0 0
    refine z_if_ne (tgt := 22) dX1_takes_17 (by decide) (fun c_2 => ?_) (fun c_2 => ?_)
    · refine z_iconst dX1_takes_22 k_iconst_1 ?_
      refine z_bipush dX1_takes_23 k_bipush_17 ?_
      refine z_iload_n dX1_takes_25 rfl ?_
      refine z_isub (v := ((17 : Int32) - a1)) dX1_takes_26 rfl ?_
      refine z_ishl (v := (zshl (1 : Int32) ((17 : Int32) - a1))) dX1_takes_27 rfl ?_
      refine z_istore_n (lv' := [some (.ref 4), some (.int a1), some (.int a2), some (.int (zshl (1 : Int32) ((17 : Int32) - a1))), none]) dX1_takes_28 (Nat.le_of_ble_eq_true rfl) rfl ?_
      refine z_aloadr_n dX1_takes_29 rfl ?_
      refine z_get (ci := 1) (r := (RX1, TX1, 3)) (j := 1) (v := .ref 6) dX1_takes_30 (Nat.le_of_ble_eq_true rfl) (zN rfl) rfl rfl (Nat.le_of_ble_eq_true rfl) fl_X1_15 rfl ?_
      refine z_iload_n dX1_takes_33 rfl ?_
      refine z_iald (v := ((σ 6) a2.toNatClampNeg)) dX1_takes_34 (zN rfl) rfl (((W_.2 c_1).2 c_2).1) rfl ?_
      refine z_iload_n dX1_takes_35 rfl ?_
      refine z_iand (v := (((σ 6) a2.toNatClampNeg) &&& (zshl (1 : Int32) ((17 : Int32) - a1)))) dX1_takes_36 rfl ?_
      have K_1 : zz G mX1_takes 1 0 0 Q_ 45 [some (.ref 4), none, some (.int a2), some (.int (zshl (1 : Int32) ((17 : Int32) - a1))), none] [.int (if (((σ 6) a2.toNatClampNeg) &&& (zshl (1 : Int32) ((17 : Int32) - a1))) = (0 : Int32) then (0 : Int32) else (1 : Int32))] (hh P σ) 0 0 := by
        refine z_istore (lv' := [some (.ref 4), none, some (.int a2), some (.int (zshl (1 : Int32) ((17 : Int32) - a1))), some (.int (if (((σ 6) a2.toNatClampNeg) &&& (zshl (1 : Int32) ((17 : Int32) - a1))) = (0 : Int32) then (0 : Int32) else (1 : Int32)))]) dX1_takes_45 (Nat.le_of_ble_eq_true rfl) rfl ?_
        refine z_aloadr_n dX1_takes_47 rfl ?_
        refine z_get (ci := 1) (r := (RX1, TX1, 3)) (j := 1) (v := .ref 6) dX1_takes_48 (Nat.le_of_ble_eq_true rfl) (zN rfl) rfl rfl (Nat.le_of_ble_eq_true rfl) fl_X1_15 rfl ?_
        refine z_iload_n dX1_takes_51 rfl ?_
        refine z_dup2 dX1_takes_52 rfl rfl ?_
        refine z_iald (v := ((σ 6) a2.toNatClampNeg)) dX1_takes_53 (zN rfl) rfl (((W_.2 c_1).2 c_2).2.1) rfl ?_
        refine z_iload_n dX1_takes_54 rfl ?_
        refine z_iconst dX1_takes_55 k_iconst_m1 ?_
        refine z_ixor (v := ((zshl (1 : Int32) ((17 : Int32) - a1)) ^^^ (-1 : Int32))) dX1_takes_56 rfl ?_
        refine z_iand (v := (((σ 6) a2.toNatClampNeg) &&& ((zshl (1 : Int32) ((17 : Int32) - a1)) ^^^ (-1 : Int32)))) dX1_takes_57 rfl ?_
        refine z_iast (σ' := (zu σ 6 (zu (σ 6) a2.toNatClampNeg (((σ 6) a2.toNatClampNeg) &&& ((zshl (1 : Int32) ((17 : Int32) - a1)) ^^^ (-1 : Int32)))))) dX1_takes_58 (Nat.le_of_ble_eq_true rfl) (zN rfl) rfl (((W_.2 c_1).2 c_2).2.2) rfl ?_
        refine z_iload dX1_takes_59 rfl ?_
        exact z_ireturn dX1_takes_61 rfl (by (repeat' split) <;> rfl) (Nat.le_of_ble_eq_true rfl) (Nat.le_of_ble_eq_true rfl) (by rw [← hQ_]; exact ⟨(by rw [rX1_takes]; try simp only [if_neg c_1, if_neg c_2]), (by rw [sX1_takes]; try simp only [if_neg c_1, if_neg c_2])⟩)
      refine z_if_eq (tgt := 44) dX1_takes_37 (by decide) (fun c_3 => ?_) (fun c_3 => ?_)
      · refine z_iconst dX1_takes_44 k_iconst_0 ?_
        refine zz_sub (lv' := [some (.ref 4), none, some (.int a2), some (.int (zshl (1 : Int32) ((17 : Int32) - a1))), none]) ⟨rfl, ⟨rfl, ⟨rfl, trivial⟩⟩⟩ ?_
        rw [show (if (((σ 6) a2.toNatClampNeg) &&& (zshl (1 : Int32) ((17 : Int32) - a1))) = (0 : Int32) then (0 : Int32) else (1 : Int32)) = (0 : Int32) from (if_pos c_3)] at K_1
        exact K_1
      · refine z_iconst dX1_takes_40 k_iconst_1 ?_
        refine z_goto (tgt := 45) dX1_takes_41 (by decide) ?_
        refine zz_sub (lv' := [some (.ref 4), none, some (.int a2), some (.int (zshl (1 : Int32) ((17 : Int32) - a1))), none]) ⟨rfl, ⟨rfl, ⟨rfl, trivial⟩⟩⟩ ?_
        rw [show (if (((σ 6) a2.toNatClampNeg) &&& (zshl (1 : Int32) ((17 : Int32) - a1))) = (0 : Int32) then (0 : Int32) else (1 : Int32)) = (1 : Int32) from (if_neg c_3)] at K_1
        exact K_1
    · refine z_iconst dX1_takes_20 k_iconst_0 ?_
      exact z_ireturn dX1_takes_21 rfl rfl (Nat.le_of_ble_eq_true rfl) (Nat.le_of_ble_eq_true rfl) (by rw [← hQ_]; exact ⟨(by rw [rX1_takes]; try simp only [if_neg c_1, if_pos c_2]), (by rw [sX1_takes]; try simp only [if_neg c_1, if_pos c_2])⟩)

theorem dX6_turnedColumn_0 : decode cX6_turnedColumn 0 = .ok (.iload_n 2, 1) := by decide +kernel
theorem dX6_turnedColumn_1 : decode cX6_turnedColumn 1 = .ok (.tableswitch 39 0 2 #[27, 29, 34], 27) := by decide +kernel
theorem dX6_turnedColumn_28 : decode cX6_turnedColumn 28 = .ok (.iload_n 0, 1) := by decide +kernel
theorem dX6_turnedColumn_29 : decode cX6_turnedColumn 29 = .ok (.ireturn, 1) := by decide +kernel
theorem dX6_turnedColumn_30 : decode cX6_turnedColumn 30 = .ok (.bipush 15, 2) := by decide +kernel
theorem dX6_turnedColumn_32 : decode cX6_turnedColumn 32 = .ok (.iload_n 1, 1) := by decide +kernel
theorem dX6_turnedColumn_33 : decode cX6_turnedColumn 33 = .ok (.isub, 1) := by decide +kernel
theorem dX6_turnedColumn_34 : decode cX6_turnedColumn 34 = .ok (.ireturn, 1) := by decide +kernel
theorem dX6_turnedColumn_35 : decode cX6_turnedColumn 35 = .ok (.bipush 15, 2) := by decide +kernel
theorem dX6_turnedColumn_37 : decode cX6_turnedColumn 37 = .ok (.iload_n 0, 1) := by decide +kernel
theorem dX6_turnedColumn_38 : decode cX6_turnedColumn 38 = .ok (.isub, 1) := by decide +kernel
theorem dX6_turnedColumn_39 : decode cX6_turnedColumn 39 = .ok (.ireturn, 1) := by decide +kernel
theorem dX6_turnedColumn_40 : decode cX6_turnedColumn 40 = .ok (.iload_n 1, 1) := by decide +kernel
theorem dX6_turnedColumn_41 : decode cX6_turnedColumn 41 = .ok (.ireturn, 1) := by decide +kernel
noncomputable def rX6_turnedColumn (a1 : Int32) (a2 : Int32) (a3 : Int32) : Int32 := (if a3 = (0 : Int32) then a1 else (if a3 = (1 : Int32) then ((15 : Int32) - a2) else (if a3 = (2 : Int32) then ((15 : Int32) - a1) else a2)))
set_option maxHeartbeats 1000000 in
theorem ctX6_turnedColumn (P : zp) (σ : zc_N) (a1 : Int32) (a2 : Int32) (a3 : Int32) : sp mX6_turnedColumn 0 0 0 [.int a1, .int a2, .int a3] (hh P σ) (fun r_ h_ => r_ = some (.int (rX6_turnedColumn a1 a2 a3)) ∧ h_ = hh P σ) := by
  refine sp_of (lv := [some (.int a1), some (.int a2), some (.int a3)]) (by decide) (zcats_ok _ rfl) (Nat.le_of_ble_eq_true rfl) (zlv_ok _ 0 rfl) (fun G => ?_)
  generalize hQ_ : (fun (r_ : Option Value) (h_ : zc_H) => r_ = some (.int (rX6_turnedColumn a1 a2 a3)) ∧ h_ = hh P σ) = Q_
  refine z_iload_n dX6_turnedColumn_0 rfl ?_
  by_cases c_1 : a3 = (0 : Int32)
  · refine z_tin (off := 27) (tgt := 28) dX6_turnedColumn_1 (by rw [c_1]; decide) (by rw [c_1]; decide) (by rw [c_1]; decide) (by decide) ?_
    refine z_iload_n dX6_turnedColumn_28 rfl ?_
    exact z_ireturn dX6_turnedColumn_29 rfl rfl (Nat.le_of_ble_eq_true rfl) (Nat.le_of_ble_eq_true rfl) (by rw [← hQ_]; exact ⟨(by rw [rX6_turnedColumn]; try simp only [if_pos c_1]), rfl⟩)
  ·
    by_cases c_2 : a3 = (1 : Int32)
    · refine z_tin (off := 29) (tgt := 30) dX6_turnedColumn_1 (by rw [c_2]; decide) (by rw [c_2]; decide) (by rw [c_2]; decide) (by decide) ?_
      refine z_bipush dX6_turnedColumn_30 k_bipush_15 ?_
      refine z_iload_n dX6_turnedColumn_32 rfl ?_
      refine z_isub (v := ((15 : Int32) - a2)) dX6_turnedColumn_33 rfl ?_
      exact z_ireturn dX6_turnedColumn_34 rfl rfl (Nat.le_of_ble_eq_true rfl) (Nat.le_of_ble_eq_true rfl) (by rw [← hQ_]; exact ⟨(by rw [rX6_turnedColumn]; try simp only [if_neg c_1, if_pos c_2]), rfl⟩)
    ·
      by_cases c_3 : a3 = (2 : Int32)
      · refine z_tin (off := 34) (tgt := 35) dX6_turnedColumn_1 (by rw [c_3]; decide) (by rw [c_3]; decide) (by rw [c_3]; decide) (by decide) ?_
        refine z_bipush dX6_turnedColumn_35 k_bipush_15 ?_
        refine z_iload_n dX6_turnedColumn_37 rfl ?_
        refine z_isub (v := ((15 : Int32) - a1)) dX6_turnedColumn_38 rfl ?_
        exact z_ireturn dX6_turnedColumn_39 rfl rfl (Nat.le_of_ble_eq_true rfl) (Nat.le_of_ble_eq_true rfl) (by rw [← hQ_]; exact ⟨(by rw [rX6_turnedColumn]; try simp only [if_neg c_1, if_neg c_2, if_pos c_3]), rfl⟩)
      ·
        refine z_tout (tgt := 40) dX6_turnedColumn_1 (z_tab3 c_1 c_2 c_3) (by decide) ?_
        refine z_iload_n dX6_turnedColumn_40 rfl ?_
        exact z_ireturn dX6_turnedColumn_41 rfl rfl (Nat.le_of_ble_eq_true rfl) (Nat.le_of_ble_eq_true rfl) (by rw [← hQ_]; exact ⟨(by rw [rX6_turnedColumn]; try simp only [if_neg c_1, if_neg c_2, if_neg c_3]), rfl⟩)

theorem dX6_turnedRow_0 : decode cX6_turnedRow 0 = .ok (.iload_n 2, 1) := by decide +kernel
theorem dX6_turnedRow_1 : decode cX6_turnedRow 1 = .ok (.tableswitch 36 0 2 #[27, 29, 31], 27) := by decide +kernel
theorem dX6_turnedRow_28 : decode cX6_turnedRow 28 = .ok (.iload_n 1, 1) := by decide +kernel
theorem dX6_turnedRow_29 : decode cX6_turnedRow 29 = .ok (.ireturn, 1) := by decide +kernel
theorem dX6_turnedRow_30 : decode cX6_turnedRow 30 = .ok (.iload_n 0, 1) := by decide +kernel
theorem dX6_turnedRow_31 : decode cX6_turnedRow 31 = .ok (.ireturn, 1) := by decide +kernel
theorem dX6_turnedRow_32 : decode cX6_turnedRow 32 = .ok (.bipush 15, 2) := by decide +kernel
theorem dX6_turnedRow_34 : decode cX6_turnedRow 34 = .ok (.iload_n 1, 1) := by decide +kernel
theorem dX6_turnedRow_35 : decode cX6_turnedRow 35 = .ok (.isub, 1) := by decide +kernel
theorem dX6_turnedRow_36 : decode cX6_turnedRow 36 = .ok (.ireturn, 1) := by decide +kernel
theorem dX6_turnedRow_37 : decode cX6_turnedRow 37 = .ok (.bipush 15, 2) := by decide +kernel
theorem dX6_turnedRow_39 : decode cX6_turnedRow 39 = .ok (.iload_n 0, 1) := by decide +kernel
theorem dX6_turnedRow_40 : decode cX6_turnedRow 40 = .ok (.isub, 1) := by decide +kernel
theorem dX6_turnedRow_41 : decode cX6_turnedRow 41 = .ok (.ireturn, 1) := by decide +kernel
noncomputable def rX6_turnedRow (a1 : Int32) (a2 : Int32) (a3 : Int32) : Int32 := (if a3 = (0 : Int32) then a2 else (if a3 = (1 : Int32) then a1 else (if a3 = (2 : Int32) then ((15 : Int32) - a2) else ((15 : Int32) - a1))))
set_option maxHeartbeats 1000000 in
theorem ctX6_turnedRow (P : zp) (σ : zc_N) (a1 : Int32) (a2 : Int32) (a3 : Int32) : sp mX6_turnedRow 0 0 0 [.int a1, .int a2, .int a3] (hh P σ) (fun r_ h_ => r_ = some (.int (rX6_turnedRow a1 a2 a3)) ∧ h_ = hh P σ) := by
  refine sp_of (lv := [some (.int a1), some (.int a2), some (.int a3)]) (by decide) (zcats_ok _ rfl) (Nat.le_of_ble_eq_true rfl) (zlv_ok _ 0 rfl) (fun G => ?_)
  generalize hQ_ : (fun (r_ : Option Value) (h_ : zc_H) => r_ = some (.int (rX6_turnedRow a1 a2 a3)) ∧ h_ = hh P σ) = Q_
  refine z_iload_n dX6_turnedRow_0 rfl ?_
  by_cases c_1 : a3 = (0 : Int32)
  · refine z_tin (off := 27) (tgt := 28) dX6_turnedRow_1 (by rw [c_1]; decide) (by rw [c_1]; decide) (by rw [c_1]; decide) (by decide) ?_
    refine z_iload_n dX6_turnedRow_28 rfl ?_
    exact z_ireturn dX6_turnedRow_29 rfl rfl (Nat.le_of_ble_eq_true rfl) (Nat.le_of_ble_eq_true rfl) (by rw [← hQ_]; exact ⟨(by rw [rX6_turnedRow]; try simp only [if_pos c_1]), rfl⟩)
  ·
    by_cases c_2 : a3 = (1 : Int32)
    · refine z_tin (off := 29) (tgt := 30) dX6_turnedRow_1 (by rw [c_2]; decide) (by rw [c_2]; decide) (by rw [c_2]; decide) (by decide) ?_
      refine z_iload_n dX6_turnedRow_30 rfl ?_
      exact z_ireturn dX6_turnedRow_31 rfl rfl (Nat.le_of_ble_eq_true rfl) (Nat.le_of_ble_eq_true rfl) (by rw [← hQ_]; exact ⟨(by rw [rX6_turnedRow]; try simp only [if_neg c_1, if_pos c_2]), rfl⟩)
    ·
      by_cases c_3 : a3 = (2 : Int32)
      · refine z_tin (off := 31) (tgt := 32) dX6_turnedRow_1 (by rw [c_3]; decide) (by rw [c_3]; decide) (by rw [c_3]; decide) (by decide) ?_
        refine z_bipush dX6_turnedRow_32 k_bipush_15 ?_
        refine z_iload_n dX6_turnedRow_34 rfl ?_
        refine z_isub (v := ((15 : Int32) - a2)) dX6_turnedRow_35 rfl ?_
        exact z_ireturn dX6_turnedRow_36 rfl rfl (Nat.le_of_ble_eq_true rfl) (Nat.le_of_ble_eq_true rfl) (by rw [← hQ_]; exact ⟨(by rw [rX6_turnedRow]; try simp only [if_neg c_1, if_neg c_2, if_pos c_3]), rfl⟩)
      ·
        refine z_tout (tgt := 37) dX6_turnedRow_1 (z_tab3 c_1 c_2 c_3) (by decide) ?_
        refine z_bipush dX6_turnedRow_37 k_bipush_15 ?_
        refine z_iload_n dX6_turnedRow_39 rfl ?_
        refine z_isub (v := ((15 : Int32) - a1)) dX6_turnedRow_40 rfl ?_
        exact z_ireturn dX6_turnedRow_41 rfl rfl (Nat.le_of_ble_eq_true rfl) (Nat.le_of_ble_eq_true rfl) (by rw [← hQ_]; exact ⟨(by rw [rX6_turnedRow]; try simp only [if_neg c_1, if_neg c_2, if_neg c_3]), rfl⟩)

theorem dX9_within_0 : decode cX9_within 0 = .ok (.iload_n 0, 1) := by decide +kernel
theorem dX9_within_1 : decode cX9_within 1 = .ok (.iload_n 1, 1) := by decide +kernel
theorem dX9_within_2 : decode cX9_within 2 = .ok (.if_icmp .lt 12, 3) := by decide +kernel
theorem dX9_within_5 : decode cX9_within 5 = .ok (.iload_n 0, 1) := by decide +kernel
theorem dX9_within_6 : decode cX9_within 6 = .ok (.iload_n 2, 1) := by decide +kernel
theorem dX9_within_7 : decode cX9_within 7 = .ok (.if_icmp .gt 7, 3) := by decide +kernel
theorem dX9_within_10 : decode cX9_within 10 = .ok (.iconst 1, 1) := by decide +kernel
theorem dX9_within_11 : decode cX9_within 11 = .ok (.goto 4, 3) := by decide +kernel
theorem dX9_within_14 : decode cX9_within 14 = .ok (.iconst 0, 1) := by decide +kernel
theorem dX9_within_15 : decode cX9_within 15 = .ok (.ireturn, 1) := by decide +kernel
noncomputable def rX9_within (a1 : Int32) (a2 : Int32) (a3 : Int32) : Int32 := (if a1 < a2 then (0 : Int32) else (if a3 < a1 then (0 : Int32) else (1 : Int32)))
set_option maxHeartbeats 1000000 in
theorem ctX9_within (P : zp) (σ : zc_N) (a1 : Int32) (a2 : Int32) (a3 : Int32) : sp mX9_within 0 0 0 [.int a1, .int a2, .int a3] (hh P σ) (fun r_ h_ => r_ = some (.int (rX9_within a1 a2 a3)) ∧ h_ = hh P σ) := by
  refine sp_of (lv := [some (.int a1), some (.int a2), some (.int a3)]) (by decide) (zcats_ok _ rfl) (Nat.le_of_ble_eq_true rfl) (zlv_ok _ 0 rfl) (fun G => ?_)
  generalize hQ_ : (fun (r_ : Option Value) (h_ : zc_H) => r_ = some (.int (rX9_within a1 a2 a3)) ∧ h_ = hh P σ) = Q_
  refine z_iload_n dX9_within_0 rfl ?_
  refine z_iload_n dX9_within_1 rfl ?_
  have K_1 : zz G mX9_within 0 0 0 Q_ 15 [none, none, none] [.int (if a1 < a2 then (0 : Int32) else (if a3 < a1 then (0 : Int32) else (1 : Int32)))] (hh P σ) 0 0 := by
    exact z_ireturn dX9_within_15 rfl (by (repeat' split) <;> rfl) (Nat.le_of_ble_eq_true rfl) (Nat.le_of_ble_eq_true rfl) (by rw [← hQ_]; exact ⟨(by rw [rX9_within]), rfl⟩)
  refine z_icmp_lt (tgt := 14) dX9_within_2 (by decide) (fun c_1 => ?_) (fun c_1 => ?_)
  · refine z_iconst dX9_within_14 k_iconst_0 ?_
    refine zz_sub (lv' := [none, none, none]) trivial ?_
    rw [show (if a1 < a2 then (0 : Int32) else (if a3 < a1 then (0 : Int32) else (1 : Int32))) = (0 : Int32) from (if_pos c_1)] at K_1
    exact K_1
  · refine z_iload_n dX9_within_5 rfl ?_
    refine z_iload_n dX9_within_6 rfl ?_
    refine z_icmp_gt (tgt := 14) dX9_within_7 (by decide) (fun c_2 => ?_) (fun c_2 => ?_)
    · refine z_iconst dX9_within_14 k_iconst_0 ?_
      refine zz_sub (lv' := [none, none, none]) trivial ?_
      rw [show (if a1 < a2 then (0 : Int32) else (if a3 < a1 then (0 : Int32) else (1 : Int32))) = (0 : Int32) from ((if_neg c_1).trans (if_pos c_2))] at K_1
      exact K_1
    · refine z_iconst dX9_within_10 k_iconst_1 ?_
      refine z_goto (tgt := 15) dX9_within_11 (by decide) ?_
      refine zz_sub (lv' := [none, none, none]) trivial ?_
      rw [show (if a1 < a2 then (0 : Int32) else (if a3 < a1 then (0 : Int32) else (1 : Int32))) = (1 : Int32) from ((if_neg c_1).trans (if_neg c_2))] at K_1
      exact K_1

theorem dX9_isDark_0 : decode cX9_isDark 0 = .ok (.iload_n 1, 1) := by decide +kernel
theorem dX9_isDark_1 : decode cX9_isDark 1 = .ok (.ifCond .lt 37, 3) := by decide +kernel
theorem dX9_isDark_4 : decode cX9_isDark 4 = .ok (.iload_n 1, 1) := by decide +kernel
theorem dX9_isDark_5 : decode cX9_isDark 5 = .ok (.bipush 16, 2) := by decide +kernel
theorem dX9_isDark_7 : decode cX9_isDark 7 = .ok (.if_icmp .ge 31, 3) := by decide +kernel
theorem dX9_isDark_10 : decode cX9_isDark 10 = .ok (.iload_n 2, 1) := by decide +kernel
theorem dX9_isDark_11 : decode cX9_isDark 11 = .ok (.ifCond .lt 27, 3) := by decide +kernel
theorem dX9_isDark_14 : decode cX9_isDark 14 = .ok (.iload_n 2, 1) := by decide +kernel
theorem dX9_isDark_15 : decode cX9_isDark 15 = .ok (.bipush 16, 2) := by decide +kernel
theorem dX9_isDark_17 : decode cX9_isDark 17 = .ok (.if_icmp .ge 21, 3) := by decide +kernel
theorem dX9_isDark_20 : decode cX9_isDark 20 = .ok (.aload_n 0, 1) := by decide +kernel
theorem dX9_isDark_21 : decode cX9_isDark 21 = .ok (.getfield 9, 3) := by decide +kernel
theorem dX9_isDark_24 : decode cX9_isDark 24 = .ok (.bipush 16, 2) := by decide +kernel
theorem dX9_isDark_26 : decode cX9_isDark 26 = .ok (.iload_n 2, 1) := by decide +kernel
theorem dX9_isDark_27 : decode cX9_isDark 27 = .ok (.imul, 1) := by decide +kernel
theorem dX9_isDark_28 : decode cX9_isDark 28 = .ok (.iload_n 1, 1) := by decide +kernel
theorem dX9_isDark_29 : decode cX9_isDark 29 = .ok (.iadd, 1) := by decide +kernel
theorem dX9_isDark_30 : decode cX9_isDark 30 = .ok (.baload, 1) := by decide +kernel
theorem dX9_isDark_31 : decode cX9_isDark 31 = .ok (.ifCond .eq 7, 3) := by decide +kernel
theorem dX9_isDark_34 : decode cX9_isDark 34 = .ok (.iconst 1, 1) := by decide +kernel
theorem dX9_isDark_35 : decode cX9_isDark 35 = .ok (.goto 4, 3) := by decide +kernel
theorem dX9_isDark_38 : decode cX9_isDark 38 = .ok (.iconst 0, 1) := by decide +kernel
theorem dX9_isDark_39 : decode cX9_isDark 39 = .ok (.ireturn, 1) := by decide +kernel
def pX9_isDark (a1 : Int32) (a2 : Int32) : Prop := ((a1 < (0 : Int32) → True) ∧ (¬ a1 < (0 : Int32) → (((16 : Int32) ≤ a1 → True) ∧ (¬ (16 : Int32) ≤ a1 → ((a2 < (0 : Int32) → True) ∧ (¬ a2 < (0 : Int32) → (((16 : Int32) ≤ a2 → True) ∧ (¬ (16 : Int32) ≤ a2 → vp_in (((16 : Int32) * a2) + a1) 256))))))))
noncomputable def rX9_isDark (σ : zc_N) (a1 : Int32) (a2 : Int32) : Int32 := (if a1 < (0 : Int32) then (0 : Int32) else (if (16 : Int32) ≤ a1 then (0 : Int32) else (if a2 < (0 : Int32) then (0 : Int32) else (if (16 : Int32) ≤ a2 then (0 : Int32) else (if ((σ 33) (((16 : Int32) * a2) + a1).toNatClampNeg) = (0 : Int32) then (0 : Int32) else (1 : Int32))))))
set_option maxHeartbeats 1000000 in
theorem ctX9_isDark (P : zp) (σ : zc_N) (a1 : Int32) (a2 : Int32) (W_ : (pX9_isDark a1 a2)) : sp mX9_isDark 0 0 0 [.ref 32, .int a1, .int a2] (hh P σ) (fun r_ h_ => r_ = some (.int (rX9_isDark σ a1 a2)) ∧ h_ = hh P σ) := by
  refine sp_of (lv := [some (.ref 32), some (.int a1), some (.int a2)]) (by decide) (zcats_ok _ rfl) (Nat.le_of_ble_eq_true rfl) (zlv_ok _ 0 rfl) (fun G => ?_)
  generalize hQ_ : (fun (r_ : Option Value) (h_ : zc_H) => r_ = some (.int (rX9_isDark σ a1 a2)) ∧ h_ = hh P σ) = Q_
  unfold pX9_isDark at W_
  refine z_iload_n dX9_isDark_0 rfl ?_
  have K_1 : zz G mX9_isDark 0 0 0 Q_ 39 [none, none, none] [.int (if a1 < (0 : Int32) then (0 : Int32) else (if (16 : Int32) ≤ a1 then (0 : Int32) else (if a2 < (0 : Int32) then (0 : Int32) else (if (16 : Int32) ≤ a2 then (0 : Int32) else (if ((σ 33) (((16 : Int32) * a2) + a1).toNatClampNeg) = (0 : Int32) then (0 : Int32) else (1 : Int32))))))] (hh P σ) 0 0 := by
    exact z_ireturn dX9_isDark_39 rfl (by (repeat' split) <;> rfl) (Nat.le_of_ble_eq_true rfl) (Nat.le_of_ble_eq_true rfl) (by rw [← hQ_]; exact ⟨(by rw [rX9_isDark]), rfl⟩)
  refine z_if_lt (tgt := 38) dX9_isDark_1 (by decide) (fun c_1 => ?_) (fun c_1 => ?_)
  · refine z_iconst dX9_isDark_38 k_iconst_0 ?_
    refine zz_sub (lv' := [none, none, none]) trivial ?_
    rw [show (if a1 < (0 : Int32) then (0 : Int32) else (if (16 : Int32) ≤ a1 then (0 : Int32) else (if a2 < (0 : Int32) then (0 : Int32) else (if (16 : Int32) ≤ a2 then (0 : Int32) else (if ((σ 33) (((16 : Int32) * a2) + a1).toNatClampNeg) = (0 : Int32) then (0 : Int32) else (1 : Int32)))))) = (0 : Int32) from (if_pos c_1)] at K_1
    exact K_1
  · refine z_iload_n dX9_isDark_4 rfl ?_
    refine z_bipush dX9_isDark_5 k_bipush_16 ?_
    refine z_icmp_ge (tgt := 38) dX9_isDark_7 (by decide) (fun c_2 => ?_) (fun c_2 => ?_)
    · refine z_iconst dX9_isDark_38 k_iconst_0 ?_
      refine zz_sub (lv' := [none, none, none]) trivial ?_
      rw [show (if a1 < (0 : Int32) then (0 : Int32) else (if (16 : Int32) ≤ a1 then (0 : Int32) else (if a2 < (0 : Int32) then (0 : Int32) else (if (16 : Int32) ≤ a2 then (0 : Int32) else (if ((σ 33) (((16 : Int32) * a2) + a1).toNatClampNeg) = (0 : Int32) then (0 : Int32) else (1 : Int32)))))) = (0 : Int32) from ((if_neg c_1).trans (if_pos c_2))] at K_1
      exact K_1
    · refine z_iload_n dX9_isDark_10 rfl ?_
      refine z_if_lt (tgt := 38) dX9_isDark_11 (by decide) (fun c_3 => ?_) (fun c_3 => ?_)
      · refine z_iconst dX9_isDark_38 k_iconst_0 ?_
        refine zz_sub (lv' := [none, none, none]) trivial ?_
        rw [show (if a1 < (0 : Int32) then (0 : Int32) else (if (16 : Int32) ≤ a1 then (0 : Int32) else (if a2 < (0 : Int32) then (0 : Int32) else (if (16 : Int32) ≤ a2 then (0 : Int32) else (if ((σ 33) (((16 : Int32) * a2) + a1).toNatClampNeg) = (0 : Int32) then (0 : Int32) else (1 : Int32)))))) = (0 : Int32) from ((if_neg c_1).trans ((if_neg c_2).trans (if_pos c_3)))] at K_1
        exact K_1
      · refine z_iload_n dX9_isDark_14 rfl ?_
        refine z_bipush dX9_isDark_15 k_bipush_16 ?_
        refine z_icmp_ge (tgt := 38) dX9_isDark_17 (by decide) (fun c_4 => ?_) (fun c_4 => ?_)
        · refine z_iconst dX9_isDark_38 k_iconst_0 ?_
          refine zz_sub (lv' := [none, none, none]) trivial ?_
          rw [show (if a1 < (0 : Int32) then (0 : Int32) else (if (16 : Int32) ≤ a1 then (0 : Int32) else (if a2 < (0 : Int32) then (0 : Int32) else (if (16 : Int32) ≤ a2 then (0 : Int32) else (if ((σ 33) (((16 : Int32) * a2) + a1).toNatClampNeg) = (0 : Int32) then (0 : Int32) else (1 : Int32)))))) = (0 : Int32) from ((if_neg c_1).trans ((if_neg c_2).trans ((if_neg c_3).trans (if_pos c_4))))] at K_1
          exact K_1
        · refine z_aloadr_n dX9_isDark_20 rfl ?_
          refine z_get (ci := 9) (r := (RX9, TX9, 38)) (j := 0) (v := .ref 33) dX9_isDark_21 (Nat.le_of_ble_eq_true rfl) (zN rfl) rfl rfl (Nat.le_of_ble_eq_true rfl) fl_X9_9 rfl ?_
          refine z_bipush dX9_isDark_24 k_bipush_16 ?_
          refine z_iload_n dX9_isDark_26 rfl ?_
          refine z_imul (v := ((16 : Int32) * a2)) dX9_isDark_27 rfl ?_
          refine z_iload_n dX9_isDark_28 rfl ?_
          refine z_iadd (v := (((16 : Int32) * a2) + a1)) dX9_isDark_29 rfl ?_
          refine z_bald (v := ((σ 33) (((16 : Int32) * a2) + a1).toNatClampNeg)) dX9_isDark_30 (Nat.le_of_ble_eq_true rfl) (zN rfl) rfl ((((W_.2 c_1).2 c_2).2 c_3).2 c_4) rfl ?_
          refine z_if_eq (tgt := 38) dX9_isDark_31 (by decide) (fun c_5 => ?_) (fun c_5 => ?_)
          · refine z_iconst dX9_isDark_38 k_iconst_0 ?_
            refine zz_sub (lv' := [none, none, none]) trivial ?_
            rw [show (if a1 < (0 : Int32) then (0 : Int32) else (if (16 : Int32) ≤ a1 then (0 : Int32) else (if a2 < (0 : Int32) then (0 : Int32) else (if (16 : Int32) ≤ a2 then (0 : Int32) else (if ((σ 33) (((16 : Int32) * a2) + a1).toNatClampNeg) = (0 : Int32) then (0 : Int32) else (1 : Int32)))))) = (0 : Int32) from ((if_neg c_1).trans ((if_neg c_2).trans ((if_neg c_3).trans ((if_neg c_4).trans (if_pos c_5)))))] at K_1
            exact K_1
          · refine z_iconst dX9_isDark_34 k_iconst_1 ?_
            refine z_goto (tgt := 39) dX9_isDark_35 (by decide) ?_
            refine zz_sub (lv' := [none, none, none]) trivial ?_
            rw [show (if a1 < (0 : Int32) then (0 : Int32) else (if (16 : Int32) ≤ a1 then (0 : Int32) else (if a2 < (0 : Int32) then (0 : Int32) else (if (16 : Int32) ≤ a2 then (0 : Int32) else (if ((σ 33) (((16 : Int32) * a2) + a1).toNatClampNeg) = (0 : Int32) then (0 : Int32) else (1 : Int32)))))) = (1 : Int32) from ((if_neg c_1).trans ((if_neg c_2).trans ((if_neg c_3).trans ((if_neg c_4).trans (if_neg c_5)))))] at K_1
            exact K_1

theorem dX9_stepX_0 : decode cX9_stepX 0 = .ok (.iload_n 0, 1) := by decide +kernel
theorem dX9_stepX_1 : decode cX9_stepX 1 = .ok (.ifCond .eq 14, 3) := by decide +kernel
theorem dX9_stepX_4 : decode cX9_stepX 4 = .ok (.iload_n 0, 1) := by decide +kernel
theorem dX9_stepX_5 : decode cX9_stepX 5 = .ok (.iconst 1, 1) := by decide +kernel
theorem dX9_stepX_6 : decode cX9_stepX 6 = .ok (.if_icmp .eq 9, 3) := by decide +kernel
theorem dX9_stepX_9 : decode cX9_stepX 9 = .ok (.iload_n 0, 1) := by decide +kernel
theorem dX9_stepX_10 : decode cX9_stepX 10 = .ok (.bipush 7, 2) := by decide +kernel
theorem dX9_stepX_12 : decode cX9_stepX 12 = .ok (.if_icmp .ne 7, 3) := by decide +kernel
theorem dX9_stepX_15 : decode cX9_stepX 15 = .ok (.iconst 1, 1) := by decide +kernel
theorem dX9_stepX_16 : decode cX9_stepX 16 = .ok (.goto 23, 3) := by decide +kernel
theorem dX9_stepX_19 : decode cX9_stepX 19 = .ok (.iload_n 0, 1) := by decide +kernel
theorem dX9_stepX_20 : decode cX9_stepX 20 = .ok (.iconst 3, 1) := by decide +kernel
theorem dX9_stepX_21 : decode cX9_stepX 21 = .ok (.if_icmp .eq 13, 3) := by decide +kernel
theorem dX9_stepX_24 : decode cX9_stepX 24 = .ok (.iload_n 0, 1) := by decide +kernel
theorem dX9_stepX_25 : decode cX9_stepX 25 = .ok (.iconst 4, 1) := by decide +kernel
theorem dX9_stepX_26 : decode cX9_stepX 26 = .ok (.if_icmp .eq 8, 3) := by decide +kernel
theorem dX9_stepX_29 : decode cX9_stepX 29 = .ok (.iload_n 0, 1) := by decide +kernel
theorem dX9_stepX_30 : decode cX9_stepX 30 = .ok (.iconst 5, 1) := by decide +kernel
theorem dX9_stepX_31 : decode cX9_stepX 31 = .ok (.if_icmp .ne 7, 3) := by decide +kernel
theorem dX9_stepX_34 : decode cX9_stepX 34 = .ok (.iconst (-1), 1) := by decide +kernel
theorem dX9_stepX_35 : decode cX9_stepX 35 = .ok (.goto 4, 3) := by decide +kernel
theorem dX9_stepX_38 : decode cX9_stepX 38 = .ok (.iconst 0, 1) := by decide +kernel
theorem dX9_stepX_39 : decode cX9_stepX 39 = .ok (.ireturn, 1) := by decide +kernel
noncomputable def rX9_stepX (a1 : Int32) : Int32 := (if a1 = (0 : Int32) then (1 : Int32) else (if a1 = (1 : Int32) then (1 : Int32) else (if a1 = (7 : Int32) then (1 : Int32) else (if a1 = (3 : Int32) then (-1 : Int32) else (if a1 = (4 : Int32) then (-1 : Int32) else (if a1 = (5 : Int32) then (-1 : Int32) else (0 : Int32)))))))
set_option maxHeartbeats 1000000 in
theorem ctX9_stepX (P : zp) (σ : zc_N) (a1 : Int32) : sp mX9_stepX 0 0 0 [.int a1] (hh P σ) (fun r_ h_ => r_ = some (.int (rX9_stepX a1)) ∧ h_ = hh P σ) := by
  refine sp_of (lv := [some (.int a1)]) (by decide) (zcats_ok _ rfl) (Nat.le_of_ble_eq_true rfl) (zlv_ok _ 0 rfl) (fun G => ?_)
  generalize hQ_ : (fun (r_ : Option Value) (h_ : zc_H) => r_ = some (.int (rX9_stepX a1)) ∧ h_ = hh P σ) = Q_
  refine z_iload_n dX9_stepX_0 rfl ?_
  have K_1 : zz G mX9_stepX 0 0 0 Q_ 39 [none] [.int (if a1 = (0 : Int32) then (1 : Int32) else (if a1 = (1 : Int32) then (1 : Int32) else (if a1 = (7 : Int32) then (1 : Int32) else (if a1 = (3 : Int32) then (-1 : Int32) else (if a1 = (4 : Int32) then (-1 : Int32) else (if a1 = (5 : Int32) then (-1 : Int32) else (0 : Int32)))))))] (hh P σ) 0 0 := by
    exact z_ireturn dX9_stepX_39 rfl rfl (Nat.le_of_ble_eq_true rfl) (Nat.le_of_ble_eq_true rfl) (by rw [← hQ_]; exact ⟨(by rw [rX9_stepX]), rfl⟩)
  refine z_if_eq (tgt := 15) dX9_stepX_1 (by decide) (fun c_1 => ?_) (fun c_1 => ?_)
  · refine z_iconst dX9_stepX_15 k_iconst_1 ?_
    refine z_goto (tgt := 39) dX9_stepX_16 (by decide) ?_
    refine zz_sub (lv' := [none]) trivial ?_
    rw [show (if a1 = (0 : Int32) then (1 : Int32) else (if a1 = (1 : Int32) then (1 : Int32) else (if a1 = (7 : Int32) then (1 : Int32) else (if a1 = (3 : Int32) then (-1 : Int32) else (if a1 = (4 : Int32) then (-1 : Int32) else (if a1 = (5 : Int32) then (-1 : Int32) else (0 : Int32))))))) = (1 : Int32) from (if_pos c_1)] at K_1
    exact K_1
  · refine z_iload_n dX9_stepX_4 rfl ?_
    refine z_iconst dX9_stepX_5 k_iconst_1 ?_
    refine z_icmp_eq (tgt := 15) dX9_stepX_6 (by decide) (fun c_2 => ?_) (fun c_2 => ?_)
    · refine z_iconst dX9_stepX_15 k_iconst_1 ?_
      refine z_goto (tgt := 39) dX9_stepX_16 (by decide) ?_
      refine zz_sub (lv' := [none]) trivial ?_
      rw [show (if a1 = (0 : Int32) then (1 : Int32) else (if a1 = (1 : Int32) then (1 : Int32) else (if a1 = (7 : Int32) then (1 : Int32) else (if a1 = (3 : Int32) then (-1 : Int32) else (if a1 = (4 : Int32) then (-1 : Int32) else (if a1 = (5 : Int32) then (-1 : Int32) else (0 : Int32))))))) = (1 : Int32) from ((if_neg c_1).trans (if_pos c_2))] at K_1
      exact K_1
    · refine z_iload_n dX9_stepX_9 rfl ?_
      refine z_bipush dX9_stepX_10 k_bipush_7 ?_
      refine z_icmp_ne (tgt := 19) dX9_stepX_12 (by decide) (fun c_3 => ?_) (fun c_3 => ?_)
      · refine z_iload_n dX9_stepX_19 rfl ?_
        refine z_iconst dX9_stepX_20 k_iconst_3 ?_
        refine z_icmp_eq (tgt := 34) dX9_stepX_21 (by decide) (fun c_4 => ?_) (fun c_4 => ?_)
        · refine z_iconst dX9_stepX_34 k_iconst_m1 ?_
          refine z_goto (tgt := 39) dX9_stepX_35 (by decide) ?_
          refine zz_sub (lv' := [none]) trivial ?_
          rw [show (if a1 = (0 : Int32) then (1 : Int32) else (if a1 = (1 : Int32) then (1 : Int32) else (if a1 = (7 : Int32) then (1 : Int32) else (if a1 = (3 : Int32) then (-1 : Int32) else (if a1 = (4 : Int32) then (-1 : Int32) else (if a1 = (5 : Int32) then (-1 : Int32) else (0 : Int32))))))) = (-1 : Int32) from ((if_neg c_1).trans ((if_neg c_2).trans ((if_neg c_3).trans (if_pos c_4))))] at K_1
          exact K_1
        · refine z_iload_n dX9_stepX_24 rfl ?_
          refine z_iconst dX9_stepX_25 k_iconst_4 ?_
          refine z_icmp_eq (tgt := 34) dX9_stepX_26 (by decide) (fun c_5 => ?_) (fun c_5 => ?_)
          · refine z_iconst dX9_stepX_34 k_iconst_m1 ?_
            refine z_goto (tgt := 39) dX9_stepX_35 (by decide) ?_
            refine zz_sub (lv' := [none]) trivial ?_
            rw [show (if a1 = (0 : Int32) then (1 : Int32) else (if a1 = (1 : Int32) then (1 : Int32) else (if a1 = (7 : Int32) then (1 : Int32) else (if a1 = (3 : Int32) then (-1 : Int32) else (if a1 = (4 : Int32) then (-1 : Int32) else (if a1 = (5 : Int32) then (-1 : Int32) else (0 : Int32))))))) = (-1 : Int32) from ((if_neg c_1).trans ((if_neg c_2).trans ((if_neg c_3).trans ((if_neg c_4).trans (if_pos c_5)))))] at K_1
            exact K_1
          · refine z_iload_n dX9_stepX_29 rfl ?_
            refine z_iconst dX9_stepX_30 k_iconst_5 ?_
            refine z_icmp_ne (tgt := 38) dX9_stepX_31 (by decide) (fun c_6 => ?_) (fun c_6 => ?_)
            · refine z_iconst dX9_stepX_38 k_iconst_0 ?_
              refine zz_sub (lv' := [none]) trivial ?_
              rw [show (if a1 = (0 : Int32) then (1 : Int32) else (if a1 = (1 : Int32) then (1 : Int32) else (if a1 = (7 : Int32) then (1 : Int32) else (if a1 = (3 : Int32) then (-1 : Int32) else (if a1 = (4 : Int32) then (-1 : Int32) else (if a1 = (5 : Int32) then (-1 : Int32) else (0 : Int32))))))) = (0 : Int32) from ((if_neg c_1).trans ((if_neg c_2).trans ((if_neg c_3).trans ((if_neg c_4).trans ((if_neg c_5).trans (if_neg c_6))))))] at K_1
              exact K_1
            · refine z_iconst dX9_stepX_34 k_iconst_m1 ?_
              refine z_goto (tgt := 39) dX9_stepX_35 (by decide) ?_
              refine zz_sub (lv' := [none]) trivial ?_
              rw [show (if a1 = (0 : Int32) then (1 : Int32) else (if a1 = (1 : Int32) then (1 : Int32) else (if a1 = (7 : Int32) then (1 : Int32) else (if a1 = (3 : Int32) then (-1 : Int32) else (if a1 = (4 : Int32) then (-1 : Int32) else (if a1 = (5 : Int32) then (-1 : Int32) else (0 : Int32))))))) = (-1 : Int32) from ((if_neg c_1).trans ((if_neg c_2).trans ((if_neg c_3).trans ((if_neg c_4).trans ((if_neg c_5).trans (if_pos c_6))))))] at K_1
              exact K_1
      · refine z_iconst dX9_stepX_15 k_iconst_1 ?_
        refine z_goto (tgt := 39) dX9_stepX_16 (by decide) ?_
        refine zz_sub (lv' := [none]) trivial ?_
        rw [show (if a1 = (0 : Int32) then (1 : Int32) else (if a1 = (1 : Int32) then (1 : Int32) else (if a1 = (7 : Int32) then (1 : Int32) else (if a1 = (3 : Int32) then (-1 : Int32) else (if a1 = (4 : Int32) then (-1 : Int32) else (if a1 = (5 : Int32) then (-1 : Int32) else (0 : Int32))))))) = (1 : Int32) from ((if_neg c_1).trans ((if_neg c_2).trans (if_pos c_3)))] at K_1
        exact K_1

theorem dX9_stepY_0 : decode cX9_stepY 0 = .ok (.iload_n 0, 1) := by decide +kernel
theorem dX9_stepY_1 : decode cX9_stepY 1 = .ok (.iconst 1, 1) := by decide +kernel
theorem dX9_stepY_2 : decode cX9_stepY 2 = .ok (.if_icmp .eq 13, 3) := by decide +kernel
theorem dX9_stepY_5 : decode cX9_stepY 5 = .ok (.iload_n 0, 1) := by decide +kernel
theorem dX9_stepY_6 : decode cX9_stepY 6 = .ok (.iconst 2, 1) := by decide +kernel
theorem dX9_stepY_7 : decode cX9_stepY 7 = .ok (.if_icmp .eq 8, 3) := by decide +kernel
theorem dX9_stepY_10 : decode cX9_stepY 10 = .ok (.iload_n 0, 1) := by decide +kernel
theorem dX9_stepY_11 : decode cX9_stepY 11 = .ok (.iconst 3, 1) := by decide +kernel
theorem dX9_stepY_12 : decode cX9_stepY 12 = .ok (.if_icmp .ne 7, 3) := by decide +kernel
theorem dX9_stepY_15 : decode cX9_stepY 15 = .ok (.iconst 1, 1) := by decide +kernel
theorem dX9_stepY_16 : decode cX9_stepY 16 = .ok (.goto 25, 3) := by decide +kernel
theorem dX9_stepY_19 : decode cX9_stepY 19 = .ok (.iload_n 0, 1) := by decide +kernel
theorem dX9_stepY_20 : decode cX9_stepY 20 = .ok (.iconst 5, 1) := by decide +kernel
theorem dX9_stepY_21 : decode cX9_stepY 21 = .ok (.if_icmp .eq 15, 3) := by decide +kernel
theorem dX9_stepY_24 : decode cX9_stepY 24 = .ok (.iload_n 0, 1) := by decide +kernel
theorem dX9_stepY_25 : decode cX9_stepY 25 = .ok (.bipush 6, 2) := by decide +kernel
theorem dX9_stepY_27 : decode cX9_stepY 27 = .ok (.if_icmp .eq 9, 3) := by decide +kernel
theorem dX9_stepY_30 : decode cX9_stepY 30 = .ok (.iload_n 0, 1) := by decide +kernel
theorem dX9_stepY_31 : decode cX9_stepY 31 = .ok (.bipush 7, 2) := by decide +kernel
theorem dX9_stepY_33 : decode cX9_stepY 33 = .ok (.if_icmp .ne 7, 3) := by decide +kernel
theorem dX9_stepY_36 : decode cX9_stepY 36 = .ok (.iconst (-1), 1) := by decide +kernel
theorem dX9_stepY_37 : decode cX9_stepY 37 = .ok (.goto 4, 3) := by decide +kernel
theorem dX9_stepY_40 : decode cX9_stepY 40 = .ok (.iconst 0, 1) := by decide +kernel
theorem dX9_stepY_41 : decode cX9_stepY 41 = .ok (.ireturn, 1) := by decide +kernel
noncomputable def rX9_stepY (a1 : Int32) : Int32 := (if a1 = (1 : Int32) then (1 : Int32) else (if a1 = (2 : Int32) then (1 : Int32) else (if a1 = (3 : Int32) then (1 : Int32) else (if a1 = (5 : Int32) then (-1 : Int32) else (if a1 = (6 : Int32) then (-1 : Int32) else (if a1 = (7 : Int32) then (-1 : Int32) else (0 : Int32)))))))
set_option maxHeartbeats 1000000 in
theorem ctX9_stepY (P : zp) (σ : zc_N) (a1 : Int32) : sp mX9_stepY 0 0 0 [.int a1] (hh P σ) (fun r_ h_ => r_ = some (.int (rX9_stepY a1)) ∧ h_ = hh P σ) := by
  refine sp_of (lv := [some (.int a1)]) (by decide) (zcats_ok _ rfl) (Nat.le_of_ble_eq_true rfl) (zlv_ok _ 0 rfl) (fun G => ?_)
  generalize hQ_ : (fun (r_ : Option Value) (h_ : zc_H) => r_ = some (.int (rX9_stepY a1)) ∧ h_ = hh P σ) = Q_
  refine z_iload_n dX9_stepY_0 rfl ?_
  refine z_iconst dX9_stepY_1 k_iconst_1 ?_
  have K_1 : zz G mX9_stepY 0 0 0 Q_ 41 [none] [.int (if a1 = (1 : Int32) then (1 : Int32) else (if a1 = (2 : Int32) then (1 : Int32) else (if a1 = (3 : Int32) then (1 : Int32) else (if a1 = (5 : Int32) then (-1 : Int32) else (if a1 = (6 : Int32) then (-1 : Int32) else (if a1 = (7 : Int32) then (-1 : Int32) else (0 : Int32)))))))] (hh P σ) 0 0 := by
    exact z_ireturn dX9_stepY_41 rfl rfl (Nat.le_of_ble_eq_true rfl) (Nat.le_of_ble_eq_true rfl) (by rw [← hQ_]; exact ⟨(by rw [rX9_stepY]), rfl⟩)
  refine z_icmp_eq (tgt := 15) dX9_stepY_2 (by decide) (fun c_1 => ?_) (fun c_1 => ?_)
  · refine z_iconst dX9_stepY_15 k_iconst_1 ?_
    refine z_goto (tgt := 41) dX9_stepY_16 (by decide) ?_
    refine zz_sub (lv' := [none]) trivial ?_
    rw [show (if a1 = (1 : Int32) then (1 : Int32) else (if a1 = (2 : Int32) then (1 : Int32) else (if a1 = (3 : Int32) then (1 : Int32) else (if a1 = (5 : Int32) then (-1 : Int32) else (if a1 = (6 : Int32) then (-1 : Int32) else (if a1 = (7 : Int32) then (-1 : Int32) else (0 : Int32))))))) = (1 : Int32) from (if_pos c_1)] at K_1
    exact K_1
  · refine z_iload_n dX9_stepY_5 rfl ?_
    refine z_iconst dX9_stepY_6 k_iconst_2 ?_
    refine z_icmp_eq (tgt := 15) dX9_stepY_7 (by decide) (fun c_2 => ?_) (fun c_2 => ?_)
    · refine z_iconst dX9_stepY_15 k_iconst_1 ?_
      refine z_goto (tgt := 41) dX9_stepY_16 (by decide) ?_
      refine zz_sub (lv' := [none]) trivial ?_
      rw [show (if a1 = (1 : Int32) then (1 : Int32) else (if a1 = (2 : Int32) then (1 : Int32) else (if a1 = (3 : Int32) then (1 : Int32) else (if a1 = (5 : Int32) then (-1 : Int32) else (if a1 = (6 : Int32) then (-1 : Int32) else (if a1 = (7 : Int32) then (-1 : Int32) else (0 : Int32))))))) = (1 : Int32) from ((if_neg c_1).trans (if_pos c_2))] at K_1
      exact K_1
    · refine z_iload_n dX9_stepY_10 rfl ?_
      refine z_iconst dX9_stepY_11 k_iconst_3 ?_
      refine z_icmp_ne (tgt := 19) dX9_stepY_12 (by decide) (fun c_3 => ?_) (fun c_3 => ?_)
      · refine z_iload_n dX9_stepY_19 rfl ?_
        refine z_iconst dX9_stepY_20 k_iconst_5 ?_
        refine z_icmp_eq (tgt := 36) dX9_stepY_21 (by decide) (fun c_4 => ?_) (fun c_4 => ?_)
        · refine z_iconst dX9_stepY_36 k_iconst_m1 ?_
          refine z_goto (tgt := 41) dX9_stepY_37 (by decide) ?_
          refine zz_sub (lv' := [none]) trivial ?_
          rw [show (if a1 = (1 : Int32) then (1 : Int32) else (if a1 = (2 : Int32) then (1 : Int32) else (if a1 = (3 : Int32) then (1 : Int32) else (if a1 = (5 : Int32) then (-1 : Int32) else (if a1 = (6 : Int32) then (-1 : Int32) else (if a1 = (7 : Int32) then (-1 : Int32) else (0 : Int32))))))) = (-1 : Int32) from ((if_neg c_1).trans ((if_neg c_2).trans ((if_neg c_3).trans (if_pos c_4))))] at K_1
          exact K_1
        · refine z_iload_n dX9_stepY_24 rfl ?_
          refine z_bipush dX9_stepY_25 k_bipush_6 ?_
          refine z_icmp_eq (tgt := 36) dX9_stepY_27 (by decide) (fun c_5 => ?_) (fun c_5 => ?_)
          · refine z_iconst dX9_stepY_36 k_iconst_m1 ?_
            refine z_goto (tgt := 41) dX9_stepY_37 (by decide) ?_
            refine zz_sub (lv' := [none]) trivial ?_
            rw [show (if a1 = (1 : Int32) then (1 : Int32) else (if a1 = (2 : Int32) then (1 : Int32) else (if a1 = (3 : Int32) then (1 : Int32) else (if a1 = (5 : Int32) then (-1 : Int32) else (if a1 = (6 : Int32) then (-1 : Int32) else (if a1 = (7 : Int32) then (-1 : Int32) else (0 : Int32))))))) = (-1 : Int32) from ((if_neg c_1).trans ((if_neg c_2).trans ((if_neg c_3).trans ((if_neg c_4).trans (if_pos c_5)))))] at K_1
            exact K_1
          · refine z_iload_n dX9_stepY_30 rfl ?_
            refine z_bipush dX9_stepY_31 k_bipush_7 ?_
            refine z_icmp_ne (tgt := 40) dX9_stepY_33 (by decide) (fun c_6 => ?_) (fun c_6 => ?_)
            · refine z_iconst dX9_stepY_40 k_iconst_0 ?_
              refine zz_sub (lv' := [none]) trivial ?_
              rw [show (if a1 = (1 : Int32) then (1 : Int32) else (if a1 = (2 : Int32) then (1 : Int32) else (if a1 = (3 : Int32) then (1 : Int32) else (if a1 = (5 : Int32) then (-1 : Int32) else (if a1 = (6 : Int32) then (-1 : Int32) else (if a1 = (7 : Int32) then (-1 : Int32) else (0 : Int32))))))) = (0 : Int32) from ((if_neg c_1).trans ((if_neg c_2).trans ((if_neg c_3).trans ((if_neg c_4).trans ((if_neg c_5).trans (if_neg c_6))))))] at K_1
              exact K_1
            · refine z_iconst dX9_stepY_36 k_iconst_m1 ?_
              refine z_goto (tgt := 41) dX9_stepY_37 (by decide) ?_
              refine zz_sub (lv' := [none]) trivial ?_
              rw [show (if a1 = (1 : Int32) then (1 : Int32) else (if a1 = (2 : Int32) then (1 : Int32) else (if a1 = (3 : Int32) then (1 : Int32) else (if a1 = (5 : Int32) then (-1 : Int32) else (if a1 = (6 : Int32) then (-1 : Int32) else (if a1 = (7 : Int32) then (-1 : Int32) else (0 : Int32))))))) = (-1 : Int32) from ((if_neg c_1).trans ((if_neg c_2).trans ((if_neg c_3).trans ((if_neg c_4).trans ((if_neg c_5).trans (if_pos c_6))))))] at K_1
              exact K_1
      · refine z_iconst dX9_stepY_15 k_iconst_1 ?_
        refine z_goto (tgt := 41) dX9_stepY_16 (by decide) ?_
        refine zz_sub (lv' := [none]) trivial ?_
        rw [show (if a1 = (1 : Int32) then (1 : Int32) else (if a1 = (2 : Int32) then (1 : Int32) else (if a1 = (3 : Int32) then (1 : Int32) else (if a1 = (5 : Int32) then (-1 : Int32) else (if a1 = (6 : Int32) then (-1 : Int32) else (if a1 = (7 : Int32) then (-1 : Int32) else (0 : Int32))))))) = (1 : Int32) from ((if_neg c_1).trans ((if_neg c_2).trans (if_pos c_3)))] at K_1
        exact K_1

theorem dX9_isPrint_0 : decode cX9_isPrint 0 = .ok (.iload_n 1, 1) := by decide +kernel
theorem dX9_isPrint_1 : decode cX9_isPrint 1 = .ok (.ifCond .lt 15, 3) := by decide +kernel
theorem dX9_isPrint_4 : decode cX9_isPrint 4 = .ok (.iload_n 1, 1) := by decide +kernel
theorem dX9_isPrint_5 : decode cX9_isPrint 5 = .ok (.aload_n 0, 1) := by decide +kernel
theorem dX9_isPrint_6 : decode cX9_isPrint 6 = .ok (.getfield 131, 3) := by decide +kernel
theorem dX9_isPrint_9 : decode cX9_isPrint 9 = .ok (.if_icmp .ge 7, 3) := by decide +kernel
theorem dX9_isPrint_12 : decode cX9_isPrint 12 = .ok (.iconst 1, 1) := by decide +kernel
theorem dX9_isPrint_13 : decode cX9_isPrint 13 = .ok (.goto 4, 3) := by decide +kernel
theorem dX9_isPrint_16 : decode cX9_isPrint 16 = .ok (.iconst 0, 1) := by decide +kernel
theorem dX9_isPrint_17 : decode cX9_isPrint 17 = .ok (.ireturn, 1) := by decide +kernel
noncomputable def rX9_isPrint (σ : zc_N) (a1 : Int32) : Int32 := (if a1 < (0 : Int32) then (0 : Int32) else (if ((σ 32) 11) ≤ a1 then (0 : Int32) else (1 : Int32)))
set_option maxHeartbeats 1000000 in
theorem ctX9_isPrint (P : zp) (σ : zc_N) (a1 : Int32) : sp mX9_isPrint 0 0 0 [.ref 32, .int a1] (hh P σ) (fun r_ h_ => r_ = some (.int (rX9_isPrint σ a1)) ∧ h_ = hh P σ) := by
  refine sp_of (lv := [some (.ref 32), some (.int a1)]) (by decide) (zcats_ok _ rfl) (Nat.le_of_ble_eq_true rfl) (zlv_ok _ 0 rfl) (fun G => ?_)
  generalize hQ_ : (fun (r_ : Option Value) (h_ : zc_H) => r_ = some (.int (rX9_isPrint σ a1)) ∧ h_ = hh P σ) = Q_
  refine z_iload_n dX9_isPrint_0 rfl ?_
  have K_1 : zz G mX9_isPrint 0 0 0 Q_ 17 [none, none] [.int (if a1 < (0 : Int32) then (0 : Int32) else (if ((σ 32) 11) ≤ a1 then (0 : Int32) else (1 : Int32)))] (hh P σ) 0 0 := by
    exact z_ireturn dX9_isPrint_17 rfl (by (repeat' split) <;> rfl) (Nat.le_of_ble_eq_true rfl) (Nat.le_of_ble_eq_true rfl) (by rw [← hQ_]; exact ⟨(by rw [rX9_isPrint]), rfl⟩)
  refine z_if_lt (tgt := 16) dX9_isPrint_1 (by decide) (fun c_1 => ?_) (fun c_1 => ?_)
  · refine z_iconst dX9_isPrint_16 k_iconst_0 ?_
    refine zz_sub (lv' := [none, none]) trivial ?_
    rw [show (if a1 < (0 : Int32) then (0 : Int32) else (if ((σ 32) 11) ≤ a1 then (0 : Int32) else (1 : Int32))) = (0 : Int32) from (if_pos c_1)] at K_1
    exact K_1
  · refine z_iload_n dX9_isPrint_4 rfl ?_
    refine z_aloadr_n dX9_isPrint_5 rfl ?_
    refine z_get (ci := 9) (r := (RX9, TX9, 38)) (j := 11) (v := .int ((σ 32) 11)) dX9_isPrint_6 (Nat.le_of_ble_eq_true rfl) (zN rfl) rfl rfl (Nat.le_of_ble_eq_true rfl) fl_X9_131 rfl ?_
    refine z_icmp_ge (tgt := 16) dX9_isPrint_9 (by decide) (fun c_2 => ?_) (fun c_2 => ?_)
    · refine z_iconst dX9_isPrint_16 k_iconst_0 ?_
      refine zz_sub (lv' := [none, none]) trivial ?_
      rw [show (if a1 < (0 : Int32) then (0 : Int32) else (if ((σ 32) 11) ≤ a1 then (0 : Int32) else (1 : Int32))) = (0 : Int32) from ((if_neg c_1).trans (if_pos c_2))] at K_1
      exact K_1
    · refine z_iconst dX9_isPrint_12 k_iconst_1 ?_
      refine z_goto (tgt := 17) dX9_isPrint_13 (by decide) ?_
      refine zz_sub (lv' := [none, none]) trivial ?_
      rw [show (if a1 < (0 : Int32) then (0 : Int32) else (if ((σ 32) 11) ≤ a1 then (0 : Int32) else (1 : Int32))) = (1 : Int32) from ((if_neg c_1).trans (if_neg c_2))] at K_1
      exact K_1

theorem dX9_turnedX_0 : decode cX9_turnedX 0 = .ok (.iload_n 2, 1) := by decide +kernel
theorem dX9_turnedX_1 : decode cX9_turnedX 1 = .ok (.ifCond .ne 7, 3) := by decide +kernel
theorem dX9_turnedX_4 : decode cX9_turnedX 4 = .ok (.iload_n 0, 1) := by decide +kernel
theorem dX9_turnedX_5 : decode cX9_turnedX 5 = .ok (.goto 28, 3) := by decide +kernel
theorem dX9_turnedX_8 : decode cX9_turnedX 8 = .ok (.iload_n 2, 1) := by decide +kernel
theorem dX9_turnedX_9 : decode cX9_turnedX 9 = .ok (.iconst 1, 1) := by decide +kernel
theorem dX9_turnedX_10 : decode cX9_turnedX 10 = .ok (.if_icmp .ne 10, 3) := by decide +kernel
theorem dX9_turnedX_13 : decode cX9_turnedX 13 = .ok (.bipush 15, 2) := by decide +kernel
theorem dX9_turnedX_15 : decode cX9_turnedX 15 = .ok (.iload_n 1, 1) := by decide +kernel
theorem dX9_turnedX_16 : decode cX9_turnedX 16 = .ok (.isub, 1) := by decide +kernel
theorem dX9_turnedX_17 : decode cX9_turnedX 17 = .ok (.goto 16, 3) := by decide +kernel
theorem dX9_turnedX_20 : decode cX9_turnedX 20 = .ok (.iload_n 2, 1) := by decide +kernel
theorem dX9_turnedX_21 : decode cX9_turnedX 21 = .ok (.iconst 2, 1) := by decide +kernel
theorem dX9_turnedX_22 : decode cX9_turnedX 22 = .ok (.if_icmp .ne 10, 3) := by decide +kernel
theorem dX9_turnedX_25 : decode cX9_turnedX 25 = .ok (.bipush 15, 2) := by decide +kernel
theorem dX9_turnedX_27 : decode cX9_turnedX 27 = .ok (.iload_n 0, 1) := by decide +kernel
theorem dX9_turnedX_28 : decode cX9_turnedX 28 = .ok (.isub, 1) := by decide +kernel
theorem dX9_turnedX_29 : decode cX9_turnedX 29 = .ok (.goto 4, 3) := by decide +kernel
theorem dX9_turnedX_32 : decode cX9_turnedX 32 = .ok (.iload_n 1, 1) := by decide +kernel
theorem dX9_turnedX_33 : decode cX9_turnedX 33 = .ok (.ireturn, 1) := by decide +kernel
noncomputable def rX9_turnedX (a1 : Int32) (a2 : Int32) (a3 : Int32) : Int32 := (if a3 = (0 : Int32) then a1 else (if a3 = (1 : Int32) then ((15 : Int32) - a2) else (if a3 = (2 : Int32) then ((15 : Int32) - a1) else a2)))
set_option maxHeartbeats 1000000 in
theorem ctX9_turnedX (P : zp) (σ : zc_N) (a1 : Int32) (a2 : Int32) (a3 : Int32) : sp mX9_turnedX 0 0 0 [.int a1, .int a2, .int a3] (hh P σ) (fun r_ h_ => r_ = some (.int (rX9_turnedX a1 a2 a3)) ∧ h_ = hh P σ) := by
  refine sp_of (lv := [some (.int a1), some (.int a2), some (.int a3)]) (by decide) (zcats_ok _ rfl) (Nat.le_of_ble_eq_true rfl) (zlv_ok _ 0 rfl) (fun G => ?_)
  generalize hQ_ : (fun (r_ : Option Value) (h_ : zc_H) => r_ = some (.int (rX9_turnedX a1 a2 a3)) ∧ h_ = hh P σ) = Q_
  refine z_iload_n dX9_turnedX_0 rfl ?_
  have K_1 : zz G mX9_turnedX 0 0 0 Q_ 33 [none, none, none] [.int (if a3 = (0 : Int32) then a1 else (if a3 = (1 : Int32) then ((15 : Int32) - a2) else (if a3 = (2 : Int32) then ((15 : Int32) - a1) else a2)))] (hh P σ) 0 0 := by
    exact z_ireturn dX9_turnedX_33 rfl rfl (Nat.le_of_ble_eq_true rfl) (Nat.le_of_ble_eq_true rfl) (by rw [← hQ_]; exact ⟨(by rw [rX9_turnedX]), rfl⟩)
  refine z_if_ne (tgt := 8) dX9_turnedX_1 (by decide) (fun c_1 => ?_) (fun c_1 => ?_)
  · refine z_iload_n dX9_turnedX_8 rfl ?_
    refine z_iconst dX9_turnedX_9 k_iconst_1 ?_
    refine z_icmp_ne (tgt := 20) dX9_turnedX_10 (by decide) (fun c_2 => ?_) (fun c_2 => ?_)
    · refine z_iload_n dX9_turnedX_20 rfl ?_
      refine z_iconst dX9_turnedX_21 k_iconst_2 ?_
      refine z_icmp_ne (tgt := 32) dX9_turnedX_22 (by decide) (fun c_3 => ?_) (fun c_3 => ?_)
      · refine z_iload_n dX9_turnedX_32 rfl ?_
        refine zz_sub (lv' := [none, none, none]) trivial ?_
        rw [show (if a3 = (0 : Int32) then a1 else (if a3 = (1 : Int32) then ((15 : Int32) - a2) else (if a3 = (2 : Int32) then ((15 : Int32) - a1) else a2))) = a2 from ((if_neg c_1).trans ((if_neg c_2).trans (if_neg c_3)))] at K_1
        exact K_1
      · refine z_bipush dX9_turnedX_25 k_bipush_15 ?_
        refine z_iload_n dX9_turnedX_27 rfl ?_
        refine z_isub (v := ((15 : Int32) - a1)) dX9_turnedX_28 rfl ?_
        refine z_goto (tgt := 33) dX9_turnedX_29 (by decide) ?_
        refine zz_sub (lv' := [none, none, none]) trivial ?_
        rw [show (if a3 = (0 : Int32) then a1 else (if a3 = (1 : Int32) then ((15 : Int32) - a2) else (if a3 = (2 : Int32) then ((15 : Int32) - a1) else a2))) = ((15 : Int32) - a1) from ((if_neg c_1).trans ((if_neg c_2).trans (if_pos c_3)))] at K_1
        exact K_1
    · refine z_bipush dX9_turnedX_13 k_bipush_15 ?_
      refine z_iload_n dX9_turnedX_15 rfl ?_
      refine z_isub (v := ((15 : Int32) - a2)) dX9_turnedX_16 rfl ?_
      refine z_goto (tgt := 33) dX9_turnedX_17 (by decide) ?_
      refine zz_sub (lv' := [none, none, none]) trivial ?_
      rw [show (if a3 = (0 : Int32) then a1 else (if a3 = (1 : Int32) then ((15 : Int32) - a2) else (if a3 = (2 : Int32) then ((15 : Int32) - a1) else a2))) = ((15 : Int32) - a2) from ((if_neg c_1).trans (if_pos c_2))] at K_1
      exact K_1
  · refine z_iload_n dX9_turnedX_4 rfl ?_
    refine z_goto (tgt := 33) dX9_turnedX_5 (by decide) ?_
    refine zz_sub (lv' := [none, none, none]) trivial ?_
    rw [show (if a3 = (0 : Int32) then a1 else (if a3 = (1 : Int32) then ((15 : Int32) - a2) else (if a3 = (2 : Int32) then ((15 : Int32) - a1) else a2))) = a1 from (if_pos c_1)] at K_1
    exact K_1

theorem dX9_turnedY_0 : decode cX9_turnedY 0 = .ok (.iload_n 2, 1) := by decide +kernel
theorem dX9_turnedY_1 : decode cX9_turnedY 1 = .ok (.ifCond .ne 7, 3) := by decide +kernel
theorem dX9_turnedY_4 : decode cX9_turnedY 4 = .ok (.iload_n 1, 1) := by decide +kernel
theorem dX9_turnedY_5 : decode cX9_turnedY 5 = .ok (.goto 28, 3) := by decide +kernel
theorem dX9_turnedY_8 : decode cX9_turnedY 8 = .ok (.iload_n 2, 1) := by decide +kernel
theorem dX9_turnedY_9 : decode cX9_turnedY 9 = .ok (.iconst 1, 1) := by decide +kernel
theorem dX9_turnedY_10 : decode cX9_turnedY 10 = .ok (.if_icmp .ne 7, 3) := by decide +kernel
theorem dX9_turnedY_13 : decode cX9_turnedY 13 = .ok (.iload_n 0, 1) := by decide +kernel
theorem dX9_turnedY_14 : decode cX9_turnedY 14 = .ok (.goto 19, 3) := by decide +kernel
theorem dX9_turnedY_17 : decode cX9_turnedY 17 = .ok (.iload_n 2, 1) := by decide +kernel
theorem dX9_turnedY_18 : decode cX9_turnedY 18 = .ok (.iconst 2, 1) := by decide +kernel
theorem dX9_turnedY_19 : decode cX9_turnedY 19 = .ok (.if_icmp .ne 10, 3) := by decide +kernel
theorem dX9_turnedY_22 : decode cX9_turnedY 22 = .ok (.bipush 15, 2) := by decide +kernel
theorem dX9_turnedY_24 : decode cX9_turnedY 24 = .ok (.iload_n 1, 1) := by decide +kernel
theorem dX9_turnedY_25 : decode cX9_turnedY 25 = .ok (.isub, 1) := by decide +kernel
theorem dX9_turnedY_26 : decode cX9_turnedY 26 = .ok (.goto 7, 3) := by decide +kernel
theorem dX9_turnedY_29 : decode cX9_turnedY 29 = .ok (.bipush 15, 2) := by decide +kernel
theorem dX9_turnedY_31 : decode cX9_turnedY 31 = .ok (.iload_n 0, 1) := by decide +kernel
theorem dX9_turnedY_32 : decode cX9_turnedY 32 = .ok (.isub, 1) := by decide +kernel
theorem dX9_turnedY_33 : decode cX9_turnedY 33 = .ok (.ireturn, 1) := by decide +kernel
noncomputable def rX9_turnedY (a1 : Int32) (a2 : Int32) (a3 : Int32) : Int32 := (if a3 = (0 : Int32) then a2 else (if a3 = (1 : Int32) then a1 else (if a3 = (2 : Int32) then ((15 : Int32) - a2) else ((15 : Int32) - a1))))
set_option maxHeartbeats 1000000 in
theorem ctX9_turnedY (P : zp) (σ : zc_N) (a1 : Int32) (a2 : Int32) (a3 : Int32) : sp mX9_turnedY 0 0 0 [.int a1, .int a2, .int a3] (hh P σ) (fun r_ h_ => r_ = some (.int (rX9_turnedY a1 a2 a3)) ∧ h_ = hh P σ) := by
  refine sp_of (lv := [some (.int a1), some (.int a2), some (.int a3)]) (by decide) (zcats_ok _ rfl) (Nat.le_of_ble_eq_true rfl) (zlv_ok _ 0 rfl) (fun G => ?_)
  generalize hQ_ : (fun (r_ : Option Value) (h_ : zc_H) => r_ = some (.int (rX9_turnedY a1 a2 a3)) ∧ h_ = hh P σ) = Q_
  refine z_iload_n dX9_turnedY_0 rfl ?_
  have K_1 : zz G mX9_turnedY 0 0 0 Q_ 33 [none, none, none] [.int (if a3 = (0 : Int32) then a2 else (if a3 = (1 : Int32) then a1 else (if a3 = (2 : Int32) then ((15 : Int32) - a2) else ((15 : Int32) - a1))))] (hh P σ) 0 0 := by
    exact z_ireturn dX9_turnedY_33 rfl rfl (Nat.le_of_ble_eq_true rfl) (Nat.le_of_ble_eq_true rfl) (by rw [← hQ_]; exact ⟨(by rw [rX9_turnedY]), rfl⟩)
  refine z_if_ne (tgt := 8) dX9_turnedY_1 (by decide) (fun c_1 => ?_) (fun c_1 => ?_)
  · refine z_iload_n dX9_turnedY_8 rfl ?_
    refine z_iconst dX9_turnedY_9 k_iconst_1 ?_
    refine z_icmp_ne (tgt := 17) dX9_turnedY_10 (by decide) (fun c_2 => ?_) (fun c_2 => ?_)
    · refine z_iload_n dX9_turnedY_17 rfl ?_
      refine z_iconst dX9_turnedY_18 k_iconst_2 ?_
      refine z_icmp_ne (tgt := 29) dX9_turnedY_19 (by decide) (fun c_3 => ?_) (fun c_3 => ?_)
      · refine z_bipush dX9_turnedY_29 k_bipush_15 ?_
        refine z_iload_n dX9_turnedY_31 rfl ?_
        refine z_isub (v := ((15 : Int32) - a1)) dX9_turnedY_32 rfl ?_
        refine zz_sub (lv' := [none, none, none]) trivial ?_
        rw [show (if a3 = (0 : Int32) then a2 else (if a3 = (1 : Int32) then a1 else (if a3 = (2 : Int32) then ((15 : Int32) - a2) else ((15 : Int32) - a1)))) = ((15 : Int32) - a1) from ((if_neg c_1).trans ((if_neg c_2).trans (if_neg c_3)))] at K_1
        exact K_1
      · refine z_bipush dX9_turnedY_22 k_bipush_15 ?_
        refine z_iload_n dX9_turnedY_24 rfl ?_
        refine z_isub (v := ((15 : Int32) - a2)) dX9_turnedY_25 rfl ?_
        refine z_goto (tgt := 33) dX9_turnedY_26 (by decide) ?_
        refine zz_sub (lv' := [none, none, none]) trivial ?_
        rw [show (if a3 = (0 : Int32) then a2 else (if a3 = (1 : Int32) then a1 else (if a3 = (2 : Int32) then ((15 : Int32) - a2) else ((15 : Int32) - a1)))) = ((15 : Int32) - a2) from ((if_neg c_1).trans ((if_neg c_2).trans (if_pos c_3)))] at K_1
        exact K_1
    · refine z_iload_n dX9_turnedY_13 rfl ?_
      refine z_goto (tgt := 33) dX9_turnedY_14 (by decide) ?_
      refine zz_sub (lv' := [none, none, none]) trivial ?_
      rw [show (if a3 = (0 : Int32) then a2 else (if a3 = (1 : Int32) then a1 else (if a3 = (2 : Int32) then ((15 : Int32) - a2) else ((15 : Int32) - a1)))) = a1 from ((if_neg c_1).trans (if_pos c_2))] at K_1
      exact K_1
  · refine z_iload_n dX9_turnedY_4 rfl ?_
    refine z_goto (tgt := 33) dX9_turnedY_5 (by decide) ?_
    refine zz_sub (lv' := [none, none, none]) trivial ?_
    rw [show (if a3 = (0 : Int32) then a2 else (if a3 = (1 : Int32) then a1 else (if a3 = (2 : Int32) then ((15 : Int32) - a2) else ((15 : Int32) - a1)))) = a2 from (if_pos c_1)] at K_1
    exact K_1

theorem dX9_liesIn_0 : decode cX9_liesIn 0 = .ok (.iload_n 0, 1) := by decide +kernel
theorem dX9_liesIn_1 : decode cX9_liesIn 1 = .ok (.aload_n 2, 1) := by decide +kernel
theorem dX9_liesIn_2 : decode cX9_liesIn 2 = .ok (.iload_n 3, 1) := by decide +kernel
theorem dX9_liesIn_3 : decode cX9_liesIn 3 = .ok (.iaload, 1) := by decide +kernel
theorem dX9_liesIn_4 : decode cX9_liesIn 4 = .ok (.if_icmp .lt 34, 3) := by decide +kernel
theorem dX9_liesIn_7 : decode cX9_liesIn 7 = .ok (.iload_n 0, 1) := by decide +kernel
theorem dX9_liesIn_8 : decode cX9_liesIn 8 = .ok (.aload_n 2, 1) := by decide +kernel
theorem dX9_liesIn_9 : decode cX9_liesIn 9 = .ok (.iload_n 3, 1) := by decide +kernel
theorem dX9_liesIn_10 : decode cX9_liesIn 10 = .ok (.iconst 2, 1) := by decide +kernel
theorem dX9_liesIn_11 : decode cX9_liesIn 11 = .ok (.iadd, 1) := by decide +kernel
theorem dX9_liesIn_12 : decode cX9_liesIn 12 = .ok (.iaload, 1) := by decide +kernel
theorem dX9_liesIn_13 : decode cX9_liesIn 13 = .ok (.if_icmp .gt 25, 3) := by decide +kernel
theorem dX9_liesIn_16 : decode cX9_liesIn 16 = .ok (.iload_n 1, 1) := by decide +kernel
theorem dX9_liesIn_17 : decode cX9_liesIn 17 = .ok (.aload_n 2, 1) := by decide +kernel
theorem dX9_liesIn_18 : decode cX9_liesIn 18 = .ok (.iload_n 3, 1) := by decide +kernel
theorem dX9_liesIn_19 : decode cX9_liesIn 19 = .ok (.iconst 1, 1) := by decide +kernel
theorem dX9_liesIn_20 : decode cX9_liesIn 20 = .ok (.iadd, 1) := by decide +kernel
theorem dX9_liesIn_21 : decode cX9_liesIn 21 = .ok (.iaload, 1) := by decide +kernel
theorem dX9_liesIn_22 : decode cX9_liesIn 22 = .ok (.if_icmp .lt 16, 3) := by decide +kernel
theorem dX9_liesIn_25 : decode cX9_liesIn 25 = .ok (.iload_n 1, 1) := by decide +kernel
theorem dX9_liesIn_26 : decode cX9_liesIn 26 = .ok (.aload_n 2, 1) := by decide +kernel
theorem dX9_liesIn_27 : decode cX9_liesIn 27 = .ok (.iload_n 3, 1) := by decide +kernel
theorem dX9_liesIn_28 : decode cX9_liesIn 28 = .ok (.iconst 3, 1) := by decide +kernel
theorem dX9_liesIn_29 : decode cX9_liesIn 29 = .ok (.iadd, 1) := by decide +kernel
theorem dX9_liesIn_30 : decode cX9_liesIn 30 = .ok (.iaload, 1) := by decide +kernel
theorem dX9_liesIn_31 : decode cX9_liesIn 31 = .ok (.if_icmp .gt 7, 3) := by decide +kernel
theorem dX9_liesIn_34 : decode cX9_liesIn 34 = .ok (.iconst 1, 1) := by decide +kernel
theorem dX9_liesIn_35 : decode cX9_liesIn 35 = .ok (.goto 4, 3) := by decide +kernel
theorem dX9_liesIn_38 : decode cX9_liesIn 38 = .ok (.iconst 0, 1) := by decide +kernel
theorem dX9_liesIn_39 : decode cX9_liesIn 39 = .ok (.ireturn, 1) := by decide +kernel
def pX9_liesIn_s (σ : zc_N) (a1 : Int32) (a2 : Int32) (a3 : Int32) : Prop := (vp_in a3 96 ∧ ((a1 < ((σ 41) a3.toNatClampNeg) → True) ∧ (¬ a1 < ((σ 41) a3.toNatClampNeg) → (vp_in (a3 + (2 : Int32)) 96 ∧ ((((σ 41) (a3 + (2 : Int32)).toNatClampNeg) < a1 → True) ∧ (¬ ((σ 41) (a3 + (2 : Int32)).toNatClampNeg) < a1 → (vp_in (a3 + (1 : Int32)) 96 ∧ ((a2 < ((σ 41) (a3 + (1 : Int32)).toNatClampNeg) → True) ∧ (¬ a2 < ((σ 41) (a3 + (1 : Int32)).toNatClampNeg) → vp_in (a3 + (3 : Int32)) 96)))))))))
noncomputable def rX9_liesIn_s (σ : zc_N) (a1 : Int32) (a2 : Int32) (a3 : Int32) : Int32 := (if a1 < ((σ 41) a3.toNatClampNeg) then (0 : Int32) else (if ((σ 41) (a3 + (2 : Int32)).toNatClampNeg) < a1 then (0 : Int32) else (if a2 < ((σ 41) (a3 + (1 : Int32)).toNatClampNeg) then (0 : Int32) else (if ((σ 41) (a3 + (3 : Int32)).toNatClampNeg) < a2 then (0 : Int32) else (1 : Int32)))))
set_option maxHeartbeats 1000000 in
theorem ctX9_liesIn_s (P : zp) (σ : zc_N) (a1 : Int32) (a2 : Int32) (a3 : Int32) (W_ : (pX9_liesIn_s σ a1 a2 a3)) : sp mX9_liesIn 0 0 0 [.int a1, .int a2, .ref 41, .int a3] (hh P σ) (fun r_ h_ => r_ = some (.int (rX9_liesIn_s σ a1 a2 a3)) ∧ h_ = hh P σ) := by
  refine sp_of (lv := [some (.int a1), some (.int a2), some (.ref 41), some (.int a3)]) (by decide) (zcats_ok _ rfl) (Nat.le_of_ble_eq_true rfl) (zlv_ok _ 0 rfl) (fun G => ?_)
  generalize hQ_ : (fun (r_ : Option Value) (h_ : zc_H) => r_ = some (.int (rX9_liesIn_s σ a1 a2 a3)) ∧ h_ = hh P σ) = Q_
  unfold pX9_liesIn_s at W_
  refine z_iload_n dX9_liesIn_0 rfl ?_
  refine z_aloadr_n dX9_liesIn_1 rfl ?_
  refine z_iload_n dX9_liesIn_2 rfl ?_
  refine z_iald (v := ((σ 41) a3.toNatClampNeg)) dX9_liesIn_3 (zN rfl) rfl W_.1 rfl ?_
  have K_1 : zz G mX9_liesIn 0 0 0 Q_ 39 [none, none, none, none] [.int (if a1 < ((σ 41) a3.toNatClampNeg) then (0 : Int32) else (if ((σ 41) (a3 + (2 : Int32)).toNatClampNeg) < a1 then (0 : Int32) else (if a2 < ((σ 41) (a3 + (1 : Int32)).toNatClampNeg) then (0 : Int32) else (if ((σ 41) (a3 + (3 : Int32)).toNatClampNeg) < a2 then (0 : Int32) else (1 : Int32)))))] (hh P σ) 0 0 := by
    exact z_ireturn dX9_liesIn_39 rfl (by (repeat' split) <;> rfl) (Nat.le_of_ble_eq_true rfl) (Nat.le_of_ble_eq_true rfl) (by rw [← hQ_]; exact ⟨(by rw [rX9_liesIn_s]), rfl⟩)
  refine z_icmp_lt (tgt := 38) dX9_liesIn_4 (by decide) (fun c_1 => ?_) (fun c_1 => ?_)
  · refine z_iconst dX9_liesIn_38 k_iconst_0 ?_
    refine zz_sub (lv' := [none, none, none, none]) trivial ?_
    rw [show (if a1 < ((σ 41) a3.toNatClampNeg) then (0 : Int32) else (if ((σ 41) (a3 + (2 : Int32)).toNatClampNeg) < a1 then (0 : Int32) else (if a2 < ((σ 41) (a3 + (1 : Int32)).toNatClampNeg) then (0 : Int32) else (if ((σ 41) (a3 + (3 : Int32)).toNatClampNeg) < a2 then (0 : Int32) else (1 : Int32))))) = (0 : Int32) from (if_pos c_1)] at K_1
    exact K_1
  · refine z_iload_n dX9_liesIn_7 rfl ?_
    refine z_aloadr_n dX9_liesIn_8 rfl ?_
    refine z_iload_n dX9_liesIn_9 rfl ?_
    refine z_iconst dX9_liesIn_10 k_iconst_2 ?_
    refine z_iadd (v := (a3 + (2 : Int32))) dX9_liesIn_11 rfl ?_
    refine z_iald (v := ((σ 41) (a3 + (2 : Int32)).toNatClampNeg)) dX9_liesIn_12 (zN rfl) rfl ((W_.2.2 c_1).1) rfl ?_
    refine z_icmp_gt (tgt := 38) dX9_liesIn_13 (by decide) (fun c_2 => ?_) (fun c_2 => ?_)
    · refine z_iconst dX9_liesIn_38 k_iconst_0 ?_
      refine zz_sub (lv' := [none, none, none, none]) trivial ?_
      rw [show (if a1 < ((σ 41) a3.toNatClampNeg) then (0 : Int32) else (if ((σ 41) (a3 + (2 : Int32)).toNatClampNeg) < a1 then (0 : Int32) else (if a2 < ((σ 41) (a3 + (1 : Int32)).toNatClampNeg) then (0 : Int32) else (if ((σ 41) (a3 + (3 : Int32)).toNatClampNeg) < a2 then (0 : Int32) else (1 : Int32))))) = (0 : Int32) from ((if_neg c_1).trans (if_pos c_2))] at K_1
      exact K_1
    · refine z_iload_n dX9_liesIn_16 rfl ?_
      refine z_aloadr_n dX9_liesIn_17 rfl ?_
      refine z_iload_n dX9_liesIn_18 rfl ?_
      refine z_iconst dX9_liesIn_19 k_iconst_1 ?_
      refine z_iadd (v := (a3 + (1 : Int32))) dX9_liesIn_20 rfl ?_
      refine z_iald (v := ((σ 41) (a3 + (1 : Int32)).toNatClampNeg)) dX9_liesIn_21 (zN rfl) rfl (((W_.2.2 c_1).2.2 c_2).1) rfl ?_
      refine z_icmp_lt (tgt := 38) dX9_liesIn_22 (by decide) (fun c_3 => ?_) (fun c_3 => ?_)
      · refine z_iconst dX9_liesIn_38 k_iconst_0 ?_
        refine zz_sub (lv' := [none, none, none, none]) trivial ?_
        rw [show (if a1 < ((σ 41) a3.toNatClampNeg) then (0 : Int32) else (if ((σ 41) (a3 + (2 : Int32)).toNatClampNeg) < a1 then (0 : Int32) else (if a2 < ((σ 41) (a3 + (1 : Int32)).toNatClampNeg) then (0 : Int32) else (if ((σ 41) (a3 + (3 : Int32)).toNatClampNeg) < a2 then (0 : Int32) else (1 : Int32))))) = (0 : Int32) from ((if_neg c_1).trans ((if_neg c_2).trans (if_pos c_3)))] at K_1
        exact K_1
      · refine z_iload_n dX9_liesIn_25 rfl ?_
        refine z_aloadr_n dX9_liesIn_26 rfl ?_
        refine z_iload_n dX9_liesIn_27 rfl ?_
        refine z_iconst dX9_liesIn_28 k_iconst_3 ?_
        refine z_iadd (v := (a3 + (3 : Int32))) dX9_liesIn_29 rfl ?_
        refine z_iald (v := ((σ 41) (a3 + (3 : Int32)).toNatClampNeg)) dX9_liesIn_30 (zN rfl) rfl (((W_.2.2 c_1).2.2 c_2).2.2 c_3) rfl ?_
        refine z_icmp_gt (tgt := 38) dX9_liesIn_31 (by decide) (fun c_4 => ?_) (fun c_4 => ?_)
        · refine z_iconst dX9_liesIn_38 k_iconst_0 ?_
          refine zz_sub (lv' := [none, none, none, none]) trivial ?_
          rw [show (if a1 < ((σ 41) a3.toNatClampNeg) then (0 : Int32) else (if ((σ 41) (a3 + (2 : Int32)).toNatClampNeg) < a1 then (0 : Int32) else (if a2 < ((σ 41) (a3 + (1 : Int32)).toNatClampNeg) then (0 : Int32) else (if ((σ 41) (a3 + (3 : Int32)).toNatClampNeg) < a2 then (0 : Int32) else (1 : Int32))))) = (0 : Int32) from ((if_neg c_1).trans ((if_neg c_2).trans ((if_neg c_3).trans (if_pos c_4))))] at K_1
          exact K_1
        · refine z_iconst dX9_liesIn_34 k_iconst_1 ?_
          refine z_goto (tgt := 39) dX9_liesIn_35 (by decide) ?_
          refine zz_sub (lv' := [none, none, none, none]) trivial ?_
          rw [show (if a1 < ((σ 41) a3.toNatClampNeg) then (0 : Int32) else (if ((σ 41) (a3 + (2 : Int32)).toNatClampNeg) < a1 then (0 : Int32) else (if a2 < ((σ 41) (a3 + (1 : Int32)).toNatClampNeg) then (0 : Int32) else (if ((σ 41) (a3 + (3 : Int32)).toNatClampNeg) < a2 then (0 : Int32) else (1 : Int32))))) = (1 : Int32) from ((if_neg c_1).trans ((if_neg c_2).trans ((if_neg c_3).trans (if_neg c_4))))] at K_1
          exact K_1


def pX9_liesIn_l (σ : zc_N) (a1 : Int32) (a2 : Int32) (a3 : Int32) : Prop := (vp_in a3 4 ∧ ((a1 < ((σ 46) a3.toNatClampNeg) → True) ∧ (¬ a1 < ((σ 46) a3.toNatClampNeg) → (vp_in (a3 + (2 : Int32)) 4 ∧ ((((σ 46) (a3 + (2 : Int32)).toNatClampNeg) < a1 → True) ∧ (¬ ((σ 46) (a3 + (2 : Int32)).toNatClampNeg) < a1 → (vp_in (a3 + (1 : Int32)) 4 ∧ ((a2 < ((σ 46) (a3 + (1 : Int32)).toNatClampNeg) → True) ∧ (¬ a2 < ((σ 46) (a3 + (1 : Int32)).toNatClampNeg) → vp_in (a3 + (3 : Int32)) 4)))))))))
noncomputable def rX9_liesIn_l (σ : zc_N) (a1 : Int32) (a2 : Int32) (a3 : Int32) : Int32 := (if a1 < ((σ 46) a3.toNatClampNeg) then (0 : Int32) else (if ((σ 46) (a3 + (2 : Int32)).toNatClampNeg) < a1 then (0 : Int32) else (if a2 < ((σ 46) (a3 + (1 : Int32)).toNatClampNeg) then (0 : Int32) else (if ((σ 46) (a3 + (3 : Int32)).toNatClampNeg) < a2 then (0 : Int32) else (1 : Int32)))))
set_option maxHeartbeats 1000000 in
theorem ctX9_liesIn_l (P : zp) (σ : zc_N) (a1 : Int32) (a2 : Int32) (a3 : Int32) (W_ : (pX9_liesIn_l σ a1 a2 a3)) : sp mX9_liesIn 0 0 0 [.int a1, .int a2, .ref 46, .int a3] (hh P σ) (fun r_ h_ => r_ = some (.int (rX9_liesIn_l σ a1 a2 a3)) ∧ h_ = hh P σ) := by
  refine sp_of (lv := [some (.int a1), some (.int a2), some (.ref 46), some (.int a3)]) (by decide) (zcats_ok _ rfl) (Nat.le_of_ble_eq_true rfl) (zlv_ok _ 0 rfl) (fun G => ?_)
  generalize hQ_ : (fun (r_ : Option Value) (h_ : zc_H) => r_ = some (.int (rX9_liesIn_l σ a1 a2 a3)) ∧ h_ = hh P σ) = Q_
  unfold pX9_liesIn_l at W_
  refine z_iload_n dX9_liesIn_0 rfl ?_
  refine z_aloadr_n dX9_liesIn_1 rfl ?_
  refine z_iload_n dX9_liesIn_2 rfl ?_
  refine z_iald (v := ((σ 46) a3.toNatClampNeg)) dX9_liesIn_3 (zN rfl) rfl W_.1 rfl ?_
  have K_1 : zz G mX9_liesIn 0 0 0 Q_ 39 [none, none, none, none] [.int (if a1 < ((σ 46) a3.toNatClampNeg) then (0 : Int32) else (if ((σ 46) (a3 + (2 : Int32)).toNatClampNeg) < a1 then (0 : Int32) else (if a2 < ((σ 46) (a3 + (1 : Int32)).toNatClampNeg) then (0 : Int32) else (if ((σ 46) (a3 + (3 : Int32)).toNatClampNeg) < a2 then (0 : Int32) else (1 : Int32)))))] (hh P σ) 0 0 := by
    exact z_ireturn dX9_liesIn_39 rfl (by (repeat' split) <;> rfl) (Nat.le_of_ble_eq_true rfl) (Nat.le_of_ble_eq_true rfl) (by rw [← hQ_]; exact ⟨(by rw [rX9_liesIn_l]), rfl⟩)
  refine z_icmp_lt (tgt := 38) dX9_liesIn_4 (by decide) (fun c_1 => ?_) (fun c_1 => ?_)
  · refine z_iconst dX9_liesIn_38 k_iconst_0 ?_
    refine zz_sub (lv' := [none, none, none, none]) trivial ?_
    rw [show (if a1 < ((σ 46) a3.toNatClampNeg) then (0 : Int32) else (if ((σ 46) (a3 + (2 : Int32)).toNatClampNeg) < a1 then (0 : Int32) else (if a2 < ((σ 46) (a3 + (1 : Int32)).toNatClampNeg) then (0 : Int32) else (if ((σ 46) (a3 + (3 : Int32)).toNatClampNeg) < a2 then (0 : Int32) else (1 : Int32))))) = (0 : Int32) from (if_pos c_1)] at K_1
    exact K_1
  · refine z_iload_n dX9_liesIn_7 rfl ?_
    refine z_aloadr_n dX9_liesIn_8 rfl ?_
    refine z_iload_n dX9_liesIn_9 rfl ?_
    refine z_iconst dX9_liesIn_10 k_iconst_2 ?_
    refine z_iadd (v := (a3 + (2 : Int32))) dX9_liesIn_11 rfl ?_
    refine z_iald (v := ((σ 46) (a3 + (2 : Int32)).toNatClampNeg)) dX9_liesIn_12 (zN rfl) rfl ((W_.2.2 c_1).1) rfl ?_
    refine z_icmp_gt (tgt := 38) dX9_liesIn_13 (by decide) (fun c_2 => ?_) (fun c_2 => ?_)
    · refine z_iconst dX9_liesIn_38 k_iconst_0 ?_
      refine zz_sub (lv' := [none, none, none, none]) trivial ?_
      rw [show (if a1 < ((σ 46) a3.toNatClampNeg) then (0 : Int32) else (if ((σ 46) (a3 + (2 : Int32)).toNatClampNeg) < a1 then (0 : Int32) else (if a2 < ((σ 46) (a3 + (1 : Int32)).toNatClampNeg) then (0 : Int32) else (if ((σ 46) (a3 + (3 : Int32)).toNatClampNeg) < a2 then (0 : Int32) else (1 : Int32))))) = (0 : Int32) from ((if_neg c_1).trans (if_pos c_2))] at K_1
      exact K_1
    · refine z_iload_n dX9_liesIn_16 rfl ?_
      refine z_aloadr_n dX9_liesIn_17 rfl ?_
      refine z_iload_n dX9_liesIn_18 rfl ?_
      refine z_iconst dX9_liesIn_19 k_iconst_1 ?_
      refine z_iadd (v := (a3 + (1 : Int32))) dX9_liesIn_20 rfl ?_
      refine z_iald (v := ((σ 46) (a3 + (1 : Int32)).toNatClampNeg)) dX9_liesIn_21 (zN rfl) rfl (((W_.2.2 c_1).2.2 c_2).1) rfl ?_
      refine z_icmp_lt (tgt := 38) dX9_liesIn_22 (by decide) (fun c_3 => ?_) (fun c_3 => ?_)
      · refine z_iconst dX9_liesIn_38 k_iconst_0 ?_
        refine zz_sub (lv' := [none, none, none, none]) trivial ?_
        rw [show (if a1 < ((σ 46) a3.toNatClampNeg) then (0 : Int32) else (if ((σ 46) (a3 + (2 : Int32)).toNatClampNeg) < a1 then (0 : Int32) else (if a2 < ((σ 46) (a3 + (1 : Int32)).toNatClampNeg) then (0 : Int32) else (if ((σ 46) (a3 + (3 : Int32)).toNatClampNeg) < a2 then (0 : Int32) else (1 : Int32))))) = (0 : Int32) from ((if_neg c_1).trans ((if_neg c_2).trans (if_pos c_3)))] at K_1
        exact K_1
      · refine z_iload_n dX9_liesIn_25 rfl ?_
        refine z_aloadr_n dX9_liesIn_26 rfl ?_
        refine z_iload_n dX9_liesIn_27 rfl ?_
        refine z_iconst dX9_liesIn_28 k_iconst_3 ?_
        refine z_iadd (v := (a3 + (3 : Int32))) dX9_liesIn_29 rfl ?_
        refine z_iald (v := ((σ 46) (a3 + (3 : Int32)).toNatClampNeg)) dX9_liesIn_30 (zN rfl) rfl (((W_.2.2 c_1).2.2 c_2).2.2 c_3) rfl ?_
        refine z_icmp_gt (tgt := 38) dX9_liesIn_31 (by decide) (fun c_4 => ?_) (fun c_4 => ?_)
        · refine z_iconst dX9_liesIn_38 k_iconst_0 ?_
          refine zz_sub (lv' := [none, none, none, none]) trivial ?_
          rw [show (if a1 < ((σ 46) a3.toNatClampNeg) then (0 : Int32) else (if ((σ 46) (a3 + (2 : Int32)).toNatClampNeg) < a1 then (0 : Int32) else (if a2 < ((σ 46) (a3 + (1 : Int32)).toNatClampNeg) then (0 : Int32) else (if ((σ 46) (a3 + (3 : Int32)).toNatClampNeg) < a2 then (0 : Int32) else (1 : Int32))))) = (0 : Int32) from ((if_neg c_1).trans ((if_neg c_2).trans ((if_neg c_3).trans (if_pos c_4))))] at K_1
          exact K_1
        · refine z_iconst dX9_liesIn_34 k_iconst_1 ?_
          refine z_goto (tgt := 39) dX9_liesIn_35 (by decide) ?_
          refine zz_sub (lv' := [none, none, none, none]) trivial ?_
          rw [show (if a1 < ((σ 46) a3.toNatClampNeg) then (0 : Int32) else (if ((σ 46) (a3 + (2 : Int32)).toNatClampNeg) < a1 then (0 : Int32) else (if a2 < ((σ 46) (a3 + (1 : Int32)).toNatClampNeg) then (0 : Int32) else (if ((σ 46) (a3 + (3 : Int32)).toNatClampNeg) < a2 then (0 : Int32) else (1 : Int32))))) = (1 : Int32) from ((if_neg c_1).trans ((if_neg c_2).trans ((if_neg c_3).trans (if_neg c_4))))] at K_1
          exact K_1

theorem dX9_told_0 : decode cX9_told 0 = .ok (.aload_n 0, 1) := by decide +kernel
theorem dX9_told_1 : decode cX9_told 1 = .ok (.getfield 78, 3) := by decide +kernel
theorem dX9_told_4 : decode cX9_told 4 = .ok (.ifCond .lt 22, 3) := by decide +kernel
theorem dX9_told_7 : decode cX9_told 7 = .ok (.iload_n 1, 1) := by decide +kernel
theorem dX9_told_8 : decode cX9_told 8 = .ok (.iconst 0, 1) := by decide +kernel
theorem dX9_told_9 : decode cX9_told 9 = .ok (.bipush 6, 2) := by decide +kernel
theorem dX9_told_11 : decode cX9_told 11 = .ok (.invokestatic 96, 3) := by decide +kernel
theorem dX9_told_14 : decode cX9_told 14 = .ok (.ifCond .eq 12, 3) := by decide +kernel
theorem dX9_told_17 : decode cX9_told 17 = .ok (.aload_n 0, 1) := by decide +kernel
theorem dX9_told_18 : decode cX9_told 18 = .ok (.getfield 72, 3) := by decide +kernel
theorem dX9_told_21 : decode cX9_told 21 = .ok (.iload_n 1, 1) := by decide +kernel
theorem dX9_told_22 : decode cX9_told 22 = .ok (.iaload, 1) := by decide +kernel
theorem dX9_told_23 : decode cX9_told 23 = .ok (.goto 6, 3) := by decide +kernel
theorem dX9_told_26 : decode cX9_told 26 = .ok (.sipush (-1000), 3) := by decide +kernel
theorem dX9_told_29 : decode cX9_told 29 = .ok (.ireturn, 1) := by decide +kernel
def pX9_told (σ : zc_N) (a1 : Int32) : Prop := ((((σ 32) 30) < (0 : Int32) → True) ∧ (¬ ((σ 32) 30) < (0 : Int32) → (((rX9_within a1 (0 : Int32) (6 : Int32)) = (0 : Int32) → True) ∧ (¬ (rX9_within a1 (0 : Int32) (6 : Int32)) = (0 : Int32) → vp_in a1 7))))
noncomputable def rX9_told (σ : zc_N) (a1 : Int32) : Int32 := (if ((σ 32) 30) < (0 : Int32) then (-1000 : Int32) else (if (rX9_within a1 (0 : Int32) (6 : Int32)) = (0 : Int32) then (-1000 : Int32) else ((σ 52) a1.toNatClampNeg)))
set_option maxHeartbeats 1000000 in
theorem ctX9_told (P : zp) (σ : zc_N) (a1 : Int32) (W_ : (pX9_told σ a1)) : sp mX9_told 1 0 0 [.ref 32, .int a1] (hh P σ) (fun r_ h_ => r_ = some (.int (rX9_told σ a1)) ∧ h_ = hh P σ) := by
  refine sp_of (lv := [some (.ref 32), some (.int a1)]) (by decide) (zcats_ok _ rfl) (Nat.le_of_ble_eq_true rfl) (zlv_ok _ 0 rfl) (fun G => ?_)
  generalize hQ_ : (fun (r_ : Option Value) (h_ : zc_H) => r_ = some (.int (rX9_told σ a1)) ∧ h_ = hh P σ) = Q_
  unfold pX9_told at W_
  refine z_aloadr_n dX9_told_0 rfl ?_
  refine z_get (ci := 9) (r := (RX9, TX9, 38)) (j := 30) (v := .int ((σ 32) 30)) dX9_told_1 (Nat.le_of_ble_eq_true rfl) (zN rfl) rfl rfl (Nat.le_of_ble_eq_true rfl) fl_X9_78 rfl ?_
  have K_1 : zz G mX9_told 1 0 0 Q_ 29 [none, none] [.int (if ((σ 32) 30) < (0 : Int32) then (-1000 : Int32) else (if (rX9_within a1 (0 : Int32) (6 : Int32)) = (0 : Int32) then (-1000 : Int32) else ((σ 52) a1.toNatClampNeg)))] (hh P σ) 0 0 := by
    exact z_ireturn dX9_told_29 rfl rfl (Nat.le_of_ble_eq_true rfl) (Nat.le_of_ble_eq_true rfl) (by rw [← hQ_]; exact ⟨(by rw [rX9_told]), rfl⟩)
  refine z_if_lt (tgt := 26) dX9_told_4 (by decide) (fun c_1 => ?_) (fun c_1 => ?_)
  · refine z_sipush dX9_told_26 k_sipush_m1000 ?_
    refine zz_sub (lv' := [none, none]) trivial ?_
    rw [show (if ((σ 32) 30) < (0 : Int32) then (-1000 : Int32) else (if (rX9_within a1 (0 : Int32) (6 : Int32)) = (0 : Int32) then (-1000 : Int32) else ((σ 52) a1.toNatClampNeg))) = (-1000 : Int32) from (if_pos c_1)] at K_1
    exact K_1
  · refine z_iload_n dX9_told_7 rfl ?_
    refine z_iconst dX9_told_8 k_iconst_0 ?_
    refine z_bipush dX9_told_9 k_bipush_6 ?_
    refine z_callS (As := [.int a1, .int (0 : Int32), .int (6 : Int32)]) (rest := []) (ctX9_within P σ a1 (0 : Int32) (6 : Int32)) dX9_told_11 lk_X9_96 ls_X9_within rfl (Nat.le_of_ble_eq_true rfl) (Nat.le_of_ble_eq_true rfl) (Nat.le_of_ble_eq_true rfl) (Nat.le_of_ble_eq_true rfl) (fun r_ h_ e_ => ?_)
    obtain ⟨e1_, e2_⟩ := e_
    subst e1_
    subst e2_
    show zz G mX9_told 1 0 0 Q_ 14 [some (.ref 32), some (.int a1)] [.int (rX9_within a1 (0 : Int32) (6 : Int32))] (hh P σ) 0 0
    refine z_if_eq (tgt := 26) dX9_told_14 (by decide) (fun c_2 => ?_) (fun c_2 => ?_)
    · refine z_sipush dX9_told_26 k_sipush_m1000 ?_
      refine zz_sub (lv' := [none, none]) trivial ?_
      rw [show (if ((σ 32) 30) < (0 : Int32) then (-1000 : Int32) else (if (rX9_within a1 (0 : Int32) (6 : Int32)) = (0 : Int32) then (-1000 : Int32) else ((σ 52) a1.toNatClampNeg))) = (-1000 : Int32) from ((if_neg c_1).trans (if_pos c_2))] at K_1
      exact K_1
    · refine z_aloadr_n dX9_told_17 rfl ?_
      refine z_get (ci := 9) (r := (RX9, TX9, 38)) (j := 28) (v := .ref 52) dX9_told_18 (Nat.le_of_ble_eq_true rfl) (zN rfl) rfl rfl (Nat.le_of_ble_eq_true rfl) fl_X9_72 rfl ?_
      refine z_iload_n dX9_told_21 rfl ?_
      refine z_iald (v := ((σ 52) a1.toNatClampNeg)) dX9_told_22 (zN rfl) rfl ((W_.2 c_1).2 c_2) rfl ?_
      refine z_goto (tgt := 29) dX9_told_23 (by decide) ?_
      refine zz_sub (lv' := [none, none]) trivial ?_
      rw [show (if ((σ 32) 30) < (0 : Int32) then (-1000 : Int32) else (if (rX9_within a1 (0 : Int32) (6 : Int32)) = (0 : Int32) then (-1000 : Int32) else ((σ 52) a1.toNatClampNeg))) = ((σ 52) a1.toNatClampNeg) from ((if_neg c_1).trans (if_neg c_2))] at K_1
      exact K_1

theorem dX9_pair_0 : decode cX9_pair 0 = .ok (.iload_n 1, 1) := by decide +kernel
theorem dX9_pair_1 : decode cX9_pair 1 = .ok (.ifCond .lt 20, 3) := by decide +kernel
theorem dX9_pair_4 : decode cX9_pair 4 = .ok (.iload_n 1, 1) := by decide +kernel
theorem dX9_pair_5 : decode cX9_pair 5 = .ok (.aload_n 0, 1) := by decide +kernel
theorem dX9_pair_6 : decode cX9_pair 6 = .ok (.getfield 78, 3) := by decide +kernel
theorem dX9_pair_9 : decode cX9_pair 9 = .ok (.if_icmp .ge 12, 3) := by decide +kernel
theorem dX9_pair_12 : decode cX9_pair 12 = .ok (.aload_n 0, 1) := by decide +kernel
theorem dX9_pair_13 : decode cX9_pair 13 = .ok (.getfield 75, 3) := by decide +kernel
theorem dX9_pair_16 : decode cX9_pair 16 = .ok (.iload_n 1, 1) := by decide +kernel
theorem dX9_pair_17 : decode cX9_pair 17 = .ok (.iaload, 1) := by decide +kernel
theorem dX9_pair_18 : decode cX9_pair 18 = .ok (.goto 4, 3) := by decide +kernel
theorem dX9_pair_21 : decode cX9_pair 21 = .ok (.iconst (-1), 1) := by decide +kernel
theorem dX9_pair_22 : decode cX9_pair 22 = .ok (.ireturn, 1) := by decide +kernel
def pX9_pair (σ : zc_N) (a1 : Int32) : Prop := ((a1 < (0 : Int32) → True) ∧ (¬ a1 < (0 : Int32) → ((((σ 32) 30) ≤ a1 → True) ∧ (¬ ((σ 32) 30) ≤ a1 → vp_in a1 12))))
noncomputable def rX9_pair (σ : zc_N) (a1 : Int32) : Int32 := (if a1 < (0 : Int32) then (-1 : Int32) else (if ((σ 32) 30) ≤ a1 then (-1 : Int32) else ((σ 53) a1.toNatClampNeg)))
set_option maxHeartbeats 1000000 in
theorem ctX9_pair (P : zp) (σ : zc_N) (a1 : Int32) (W_ : (pX9_pair σ a1)) : sp mX9_pair 0 0 0 [.ref 32, .int a1] (hh P σ) (fun r_ h_ => r_ = some (.int (rX9_pair σ a1)) ∧ h_ = hh P σ) := by
  refine sp_of (lv := [some (.ref 32), some (.int a1)]) (by decide) (zcats_ok _ rfl) (Nat.le_of_ble_eq_true rfl) (zlv_ok _ 0 rfl) (fun G => ?_)
  generalize hQ_ : (fun (r_ : Option Value) (h_ : zc_H) => r_ = some (.int (rX9_pair σ a1)) ∧ h_ = hh P σ) = Q_
  unfold pX9_pair at W_
  refine z_iload_n dX9_pair_0 rfl ?_
  have K_1 : zz G mX9_pair 0 0 0 Q_ 22 [none, none] [.int (if a1 < (0 : Int32) then (-1 : Int32) else (if ((σ 32) 30) ≤ a1 then (-1 : Int32) else ((σ 53) a1.toNatClampNeg)))] (hh P σ) 0 0 := by
    exact z_ireturn dX9_pair_22 rfl rfl (Nat.le_of_ble_eq_true rfl) (Nat.le_of_ble_eq_true rfl) (by rw [← hQ_]; exact ⟨(by rw [rX9_pair]), rfl⟩)
  refine z_if_lt (tgt := 21) dX9_pair_1 (by decide) (fun c_1 => ?_) (fun c_1 => ?_)
  · refine z_iconst dX9_pair_21 k_iconst_m1 ?_
    refine zz_sub (lv' := [none, none]) trivial ?_
    rw [show (if a1 < (0 : Int32) then (-1 : Int32) else (if ((σ 32) 30) ≤ a1 then (-1 : Int32) else ((σ 53) a1.toNatClampNeg))) = (-1 : Int32) from (if_pos c_1)] at K_1
    exact K_1
  · refine z_iload_n dX9_pair_4 rfl ?_
    refine z_aloadr_n dX9_pair_5 rfl ?_
    refine z_get (ci := 9) (r := (RX9, TX9, 38)) (j := 30) (v := .int ((σ 32) 30)) dX9_pair_6 (Nat.le_of_ble_eq_true rfl) (zN rfl) rfl rfl (Nat.le_of_ble_eq_true rfl) fl_X9_78 rfl ?_
    refine z_icmp_ge (tgt := 21) dX9_pair_9 (by decide) (fun c_2 => ?_) (fun c_2 => ?_)
    · refine z_iconst dX9_pair_21 k_iconst_m1 ?_
      refine zz_sub (lv' := [none, none]) trivial ?_
      rw [show (if a1 < (0 : Int32) then (-1 : Int32) else (if ((σ 32) 30) ≤ a1 then (-1 : Int32) else ((σ 53) a1.toNatClampNeg))) = (-1 : Int32) from ((if_neg c_1).trans (if_pos c_2))] at K_1
      exact K_1
    · refine z_aloadr_n dX9_pair_12 rfl ?_
      refine z_get (ci := 9) (r := (RX9, TX9, 38)) (j := 29) (v := .ref 53) dX9_pair_13 (Nat.le_of_ble_eq_true rfl) (zN rfl) rfl rfl (Nat.le_of_ble_eq_true rfl) fl_X9_75 rfl ?_
      refine z_iload_n dX9_pair_16 rfl ?_
      refine z_iald (v := ((σ 53) a1.toNatClampNeg)) dX9_pair_17 (zN rfl) rfl ((W_.2 c_1).2 c_2) rfl ?_
      refine z_goto (tgt := 22) dX9_pair_18 (by decide) ?_
      refine zz_sub (lv' := [none, none]) trivial ?_
      rw [show (if a1 < (0 : Int32) then (-1 : Int32) else (if ((σ 32) 30) ≤ a1 then (-1 : Int32) else ((σ 53) a1.toNatClampNeg))) = ((σ 53) a1.toNatClampNeg) from ((if_neg c_1).trans (if_neg c_2))] at K_1
      exact K_1

theorem dX9_isTool_0 : decode cX9_isTool 0 = .ok (.iload_n 0, 1) := by decide +kernel
theorem dX9_isTool_1 : decode cX9_isTool 1 = .ok (.ifCond .lt 13, 3) := by decide +kernel
theorem dX9_isTool_4 : decode cX9_isTool 4 = .ok (.iload_n 0, 1) := by decide +kernel
theorem dX9_isTool_5 : decode cX9_isTool 5 = .ok (.bipush 10, 2) := by decide +kernel
theorem dX9_isTool_7 : decode cX9_isTool 7 = .ok (.if_icmp .ge 7, 3) := by decide +kernel
theorem dX9_isTool_10 : decode cX9_isTool 10 = .ok (.iconst 1, 1) := by decide +kernel
theorem dX9_isTool_11 : decode cX9_isTool 11 = .ok (.goto 4, 3) := by decide +kernel
theorem dX9_isTool_14 : decode cX9_isTool 14 = .ok (.iconst 0, 1) := by decide +kernel
theorem dX9_isTool_15 : decode cX9_isTool 15 = .ok (.ireturn, 1) := by decide +kernel
noncomputable def rX9_isTool (a1 : Int32) : Int32 := (if a1 < (0 : Int32) then (0 : Int32) else (if (10 : Int32) ≤ a1 then (0 : Int32) else (1 : Int32)))
set_option maxHeartbeats 1000000 in
theorem ctX9_isTool (P : zp) (σ : zc_N) (a1 : Int32) : sp mX9_isTool 0 0 0 [.int a1] (hh P σ) (fun r_ h_ => r_ = some (.int (rX9_isTool a1)) ∧ h_ = hh P σ) := by
  refine sp_of (lv := [some (.int a1)]) (by decide) (zcats_ok _ rfl) (Nat.le_of_ble_eq_true rfl) (zlv_ok _ 0 rfl) (fun G => ?_)
  generalize hQ_ : (fun (r_ : Option Value) (h_ : zc_H) => r_ = some (.int (rX9_isTool a1)) ∧ h_ = hh P σ) = Q_
  refine z_iload_n dX9_isTool_0 rfl ?_
  have K_1 : zz G mX9_isTool 0 0 0 Q_ 15 [none] [.int (if a1 < (0 : Int32) then (0 : Int32) else (if (10 : Int32) ≤ a1 then (0 : Int32) else (1 : Int32)))] (hh P σ) 0 0 := by
    exact z_ireturn dX9_isTool_15 rfl (by (repeat' split) <;> rfl) (Nat.le_of_ble_eq_true rfl) (Nat.le_of_ble_eq_true rfl) (by rw [← hQ_]; exact ⟨(by rw [rX9_isTool]), rfl⟩)
  refine z_if_lt (tgt := 14) dX9_isTool_1 (by decide) (fun c_1 => ?_) (fun c_1 => ?_)
  · refine z_iconst dX9_isTool_14 k_iconst_0 ?_
    refine zz_sub (lv' := [none]) trivial ?_
    rw [show (if a1 < (0 : Int32) then (0 : Int32) else (if (10 : Int32) ≤ a1 then (0 : Int32) else (1 : Int32))) = (0 : Int32) from (if_pos c_1)] at K_1
    exact K_1
  · refine z_iload_n dX9_isTool_4 rfl ?_
    refine z_bipush dX9_isTool_5 k_bipush_10 ?_
    refine z_icmp_ge (tgt := 14) dX9_isTool_7 (by decide) (fun c_2 => ?_) (fun c_2 => ?_)
    · refine z_iconst dX9_isTool_14 k_iconst_0 ?_
      refine zz_sub (lv' := [none]) trivial ?_
      rw [show (if a1 < (0 : Int32) then (0 : Int32) else (if (10 : Int32) ≤ a1 then (0 : Int32) else (1 : Int32))) = (0 : Int32) from ((if_neg c_1).trans (if_pos c_2))] at K_1
      exact K_1
    · refine z_iconst dX9_isTool_10 k_iconst_1 ?_
      refine z_goto (tgt := 15) dX9_isTool_11 (by decide) ?_
      refine zz_sub (lv' := [none]) trivial ?_
      rw [show (if a1 < (0 : Int32) then (0 : Int32) else (if (10 : Int32) ≤ a1 then (0 : Int32) else (1 : Int32))) = (1 : Int32) from ((if_neg c_1).trans (if_neg c_2))] at K_1
      exact K_1

theorem dX9_reach_0 : decode cX9_reach 0 = .ok (.iload_n 1, 1) := by decide +kernel
theorem dX9_reach_1 : decode cX9_reach 1 = .ok (.iconst 0, 1) := by decide +kernel
theorem dX9_reach_2 : decode cX9_reach 2 = .ok (.iconst 3, 1) := by decide +kernel
theorem dX9_reach_3 : decode cX9_reach 3 = .ok (.invokestatic 96, 3) := by decide +kernel
theorem dX9_reach_6 : decode cX9_reach 6 = .ok (.ifCond .ne 5, 3) := by decide +kernel
theorem dX9_reach_9 : decode cX9_reach 9 = .ok (.iconst (-1), 1) := by decide +kernel
theorem dX9_reach_10 : decode cX9_reach 10 = .ok (.ireturn, 1) := by decide +kernel
theorem dX9_reach_11 : decode cX9_reach 11 = .ok (.aload_n 0, 1) := by decide +kernel
theorem dX9_reach_12 : decode cX9_reach 12 = .ok (.getfield 44, 3) := by decide +kernel
theorem dX9_reach_15 : decode cX9_reach 15 = .ok (.istore_n 2, 1) := by decide +kernel
theorem dX9_reach_16 : decode cX9_reach 16 = .ok (.aload_n 0, 1) := by decide +kernel
theorem dX9_reach_17 : decode cX9_reach 17 = .ok (.iload_n 1, 1) := by decide +kernel
theorem dX9_reach_18 : decode cX9_reach 18 = .ok (.putfield 44, 3) := by decide +kernel
theorem dX9_reach_21 : decode cX9_reach 21 = .ok (.iload_n 2, 1) := by decide +kernel
theorem dX9_reach_22 : decode cX9_reach 22 = .ok (.ireturn, 1) := by decide +kernel
noncomputable def rX9_reach (σ : zc_N) (a1 : Int32) : Int32 := (if (rX9_within a1 (0 : Int32) (3 : Int32)) = (0 : Int32) then (-1 : Int32) else ((σ 32) 12))
noncomputable def sX9_reach (σ : zc_N) (a1 : Int32) : zc_N := (if (rX9_within a1 (0 : Int32) (3 : Int32)) = (0 : Int32) then σ else (zu σ 32 (zu (σ 32) 12 a1)))
set_option maxHeartbeats 1000000 in
theorem ctX9_reach (P : zp) (σ : zc_N) (a1 : Int32) : sp mX9_reach 1 0 0 [.ref 32, .int a1] (hh P σ) (fun r_ h_ => r_ = some (.int (rX9_reach σ a1)) ∧ h_ = hh P (sX9_reach σ a1)) := by
  refine sp_of (lv := [some (.ref 32), some (.int a1), none]) (by decide) (zcats_ok _ rfl) (Nat.le_of_ble_eq_true rfl) (zlv_ok _ 1 rfl) (fun G => ?_)
  generalize hQ_ : (fun (r_ : Option Value) (h_ : zc_H) => r_ = some (.int (rX9_reach σ a1)) ∧ h_ = hh P (sX9_reach σ a1)) = Q_
  refine z_iload_n dX9_reach_0 rfl ?_
  refine z_iconst dX9_reach_1 k_iconst_0 ?_
  refine z_iconst dX9_reach_2 k_iconst_3 ?_
  refine z_callS (As := [.int a1, .int (0 : Int32), .int (3 : Int32)]) (rest := []) (ctX9_within P σ a1 (0 : Int32) (3 : Int32)) dX9_reach_3 lk_X9_96 ls_X9_within rfl (Nat.le_of_ble_eq_true rfl) (Nat.le_of_ble_eq_true rfl) (Nat.le_of_ble_eq_true rfl) (Nat.le_of_ble_eq_true rfl) (fun r_ h_ e_ => ?_)
  obtain ⟨e1_, e2_⟩ := e_
  subst e1_
  subst e2_
  show zz G mX9_reach 1 0 0 Q_ 6 [some (.ref 32), some (.int a1), none] [.int (rX9_within a1 (0 : Int32) (3 : Int32))] (hh P σ) 0 0
  refine z_if_ne (tgt := 11) dX9_reach_6 (by decide) (fun c_1 => ?_) (fun c_1 => ?_)
  · refine z_aloadr_n dX9_reach_11 rfl ?_
    refine z_get (ci := 9) (r := (RX9, TX9, 38)) (j := 12) (v := .int ((σ 32) 12)) dX9_reach_12 (Nat.le_of_ble_eq_true rfl) (zN rfl) rfl rfl (Nat.le_of_ble_eq_true rfl) fl_X9_44 rfl ?_
    refine z_istore_n (lv' := [some (.ref 32), some (.int a1), some (.int ((σ 32) 12))]) dX9_reach_15 (Nat.le_of_ble_eq_true rfl) rfl ?_
    refine z_aloadr_n dX9_reach_16 rfl ?_
    refine z_iload_n dX9_reach_17 rfl ?_
    refine z_put (ci := 9) (r := (RX9, TX9, 38)) (j := 12) (σ' := (zu σ 32 (zu (σ 32) 12 a1))) dX9_reach_18 (Nat.le_of_ble_eq_true rfl) (zN rfl) rfl rfl (Nat.le_of_ble_eq_true rfl) fl_X9_44 rfl rfl rfl rfl rfl ?_
    refine z_iload_n dX9_reach_21 rfl ?_
    exact z_ireturn dX9_reach_22 rfl rfl (Nat.le_of_ble_eq_true rfl) (Nat.le_of_ble_eq_true rfl) (by rw [← hQ_]; exact ⟨(by rw [rX9_reach]; try simp only [if_neg c_1]), (by rw [sX9_reach]; try simp only [if_neg c_1])⟩)
  · refine z_iconst dX9_reach_9 k_iconst_m1 ?_
    exact z_ireturn dX9_reach_10 rfl rfl (Nat.le_of_ble_eq_true rfl) (Nat.le_of_ble_eq_true rfl) (by rw [← hQ_]; exact ⟨(by rw [rX9_reach]; try simp only [if_pos c_1]), (by rw [sX9_reach]; try simp only [if_pos c_1])⟩)

theorem dX9_part_0 : decode cX9_part 0 = .ok (.aload_n 0, 1) := by decide +kernel
theorem dX9_part_1 : decode cX9_part 1 = .ok (.iload_n 1, 1) := by decide +kernel
theorem dX9_part_2 : decode cX9_part 2 = .ok (.invokevirtual 137, 3) := by decide +kernel
theorem dX9_part_5 : decode cX9_part 5 = .ok (.ifCond .ne 5, 3) := by decide +kernel
theorem dX9_part_8 : decode cX9_part 8 = .ok (.iconst (-1), 1) := by decide +kernel
theorem dX9_part_9 : decode cX9_part 9 = .ok (.ireturn, 1) := by decide +kernel
theorem dX9_part_10 : decode cX9_part 10 = .ok (.aload_n 0, 1) := by decide +kernel
theorem dX9_part_11 : decode cX9_part 11 = .ok (.getfield 38, 3) := by decide +kernel
theorem dX9_part_14 : decode cX9_part 14 = .ok (.iload_n 1, 1) := by decide +kernel
theorem dX9_part_15 : decode cX9_part 15 = .ok (.iaload, 1) := by decide +kernel
theorem dX9_part_16 : decode cX9_part 16 = .ok (.ifCond .ge 6, 3) := by decide +kernel
theorem dX9_part_19 : decode cX9_part 19 = .ok (.bipush (-4), 2) := by decide +kernel
theorem dX9_part_21 : decode cX9_part 21 = .ok (.ireturn, 1) := by decide +kernel
theorem dX9_part_22 : decode cX9_part 22 = .ok (.aload_n 0, 1) := by decide +kernel
theorem dX9_part_23 : decode cX9_part 23 = .ok (.getfield 38, 3) := by decide +kernel
theorem dX9_part_26 : decode cX9_part 26 = .ok (.iload_n 1, 1) := by decide +kernel
theorem dX9_part_27 : decode cX9_part 27 = .ok (.iconst (-1), 1) := by decide +kernel
theorem dX9_part_28 : decode cX9_part 28 = .ok (.iastore, 1) := by decide +kernel
theorem dX9_part_29 : decode cX9_part 29 = .ok (.aload_n 0, 1) := by decide +kernel
theorem dX9_part_30 : decode cX9_part 30 = .ok (.getfield 41, 3) := by decide +kernel
theorem dX9_part_33 : decode cX9_part 33 = .ok (.iload_n 1, 1) := by decide +kernel
theorem dX9_part_34 : decode cX9_part 34 = .ok (.iconst (-1), 1) := by decide +kernel
theorem dX9_part_35 : decode cX9_part 35 = .ok (.iastore, 1) := by decide +kernel
theorem dX9_part_36 : decode cX9_part 36 = .ok (.iconst 1, 1) := by decide +kernel
theorem dX9_part_37 : decode cX9_part 37 = .ok (.ireturn, 1) := by decide +kernel
def pX9_part (σ : zc_N) (a1 : Int32) : Prop := (((rX9_isPrint σ a1) = (0 : Int32) → True) ∧ (¬ (rX9_isPrint σ a1) = (0 : Int32) → (vp_in a1 24 ∧ (((0 : Int32) ≤ ((σ 42) a1.toNatClampNeg) → (vp_in a1 24 ∧ vp_in a1 24)) ∧ (¬ (0 : Int32) ≤ ((σ 42) a1.toNatClampNeg) → True)))))
noncomputable def rX9_part (σ : zc_N) (a1 : Int32) : Int32 := (if (rX9_isPrint σ a1) = (0 : Int32) then (-1 : Int32) else (if (0 : Int32) ≤ ((σ 42) a1.toNatClampNeg) then (1 : Int32) else (-4 : Int32)))
noncomputable def sX9_part (σ : zc_N) (a1 : Int32) : zc_N := (if (rX9_isPrint σ a1) = (0 : Int32) then σ else (if (0 : Int32) ≤ ((σ 42) a1.toNatClampNeg) then (zu (zu σ 42 (zu (σ 42) a1.toNatClampNeg (-1 : Int32))) 43 (zu (σ 43) a1.toNatClampNeg (-1 : Int32))) else σ))
set_option maxHeartbeats 1000000 in
theorem ctX9_part (P : zp) (σ : zc_N) (a1 : Int32) (W_ : (pX9_part σ a1)) : sp mX9_part 1 0 0 [.ref 32, .int a1] (hh P σ) (fun r_ h_ => r_ = some (.int (rX9_part σ a1)) ∧ h_ = hh P (sX9_part σ a1)) := by
  refine sp_of (lv := [some (.ref 32), some (.int a1)]) (by decide) (zcats_ok _ rfl) (Nat.le_of_ble_eq_true rfl) (zlv_ok _ 0 rfl) (fun G => ?_)
  generalize hQ_ : (fun (r_ : Option Value) (h_ : zc_H) => r_ = some (.int (rX9_part σ a1)) ∧ h_ = hh P (sX9_part σ a1)) = Q_
  unfold pX9_part at W_
  refine z_aloadr_n dX9_part_0 rfl ?_
  refine z_iload_n dX9_part_1 rfl ?_
  refine z_callV (ci := 9) (r := (RX9, TX9, 38)) (b := 32) (As := [.int a1]) (rest := []) (ctX9_isPrint P σ a1) dX9_part_2 lk_X9_137 lv_X9_isPrint (Nat.le_of_ble_eq_true rfl) (zN rfl) rfl rfl rfl rfl (Nat.le_of_ble_eq_true rfl) (Nat.le_of_ble_eq_true rfl) (Nat.le_of_ble_eq_true rfl) (Nat.le_of_ble_eq_true rfl) (fun r_ h_ e_ => ?_)
  obtain ⟨e1_, e2_⟩ := e_
  subst e1_
  subst e2_
  show zz G mX9_part 1 0 0 Q_ 5 [some (.ref 32), some (.int a1)] [.int (rX9_isPrint σ a1)] (hh P σ) 0 0
  refine z_if_ne (tgt := 10) dX9_part_5 (by decide) (fun c_1 => ?_) (fun c_1 => ?_)
  · refine z_aloadr_n dX9_part_10 rfl ?_
    refine z_get (ci := 9) (r := (RX9, TX9, 38)) (j := 9) (v := .ref 42) dX9_part_11 (Nat.le_of_ble_eq_true rfl) (zN rfl) rfl rfl (Nat.le_of_ble_eq_true rfl) fl_X9_38 rfl ?_
    refine z_iload_n dX9_part_14 rfl ?_
    refine z_iald (v := ((σ 42) a1.toNatClampNeg)) dX9_part_15 (zN rfl) rfl ((W_.2 c_1).1) rfl ?_
    refine z_if_ge (tgt := 22) dX9_part_16 (by decide) (fun c_2 => ?_) (fun c_2 => ?_)
    · refine z_aloadr_n dX9_part_22 rfl ?_
      refine z_get (ci := 9) (r := (RX9, TX9, 38)) (j := 9) (v := .ref 42) dX9_part_23 (Nat.le_of_ble_eq_true rfl) (zN rfl) rfl rfl (Nat.le_of_ble_eq_true rfl) fl_X9_38 rfl ?_
      refine z_iload_n dX9_part_26 rfl ?_
      refine z_iconst dX9_part_27 k_iconst_m1 ?_
      refine z_iast (σ' := (zu σ 42 (zu (σ 42) a1.toNatClampNeg (-1 : Int32)))) dX9_part_28 (Nat.le_of_ble_eq_true rfl) (zN rfl) rfl (((W_.2 c_1).2.1 c_2).1) rfl ?_
      refine z_aloadr_n dX9_part_29 rfl ?_
      refine z_get (ci := 9) (r := (RX9, TX9, 38)) (j := 10) (v := .ref 43) dX9_part_30 (Nat.le_of_ble_eq_true rfl) (zN rfl) rfl rfl (Nat.le_of_ble_eq_true rfl) fl_X9_41 rfl ?_
      refine z_iload_n dX9_part_33 rfl ?_
      refine z_iconst dX9_part_34 k_iconst_m1 ?_
      refine z_iast (σ' := (zu (zu σ 42 (zu (σ 42) a1.toNatClampNeg (-1 : Int32))) 43 (zu (σ 43) a1.toNatClampNeg (-1 : Int32)))) dX9_part_35 (Nat.le_of_ble_eq_true rfl) (zN rfl) rfl (((W_.2 c_1).2.1 c_2).2) (congrArg (fun g_ => zu _ _ (zu g_ _ _)) (zu_ne _ _ (by decide))) ?_
      refine z_iconst dX9_part_36 k_iconst_1 ?_
      exact z_ireturn dX9_part_37 rfl rfl (Nat.le_of_ble_eq_true rfl) (Nat.le_of_ble_eq_true rfl) (by rw [← hQ_]; exact ⟨(by rw [rX9_part]; try simp only [if_neg c_1, if_pos c_2]), (by rw [sX9_part]; try simp only [if_neg c_1, if_pos c_2])⟩)
    · refine z_bipush dX9_part_19 k_bipush_m4 ?_
      exact z_ireturn dX9_part_21 rfl rfl (Nat.le_of_ble_eq_true rfl) (Nat.le_of_ble_eq_true rfl) (by rw [← hQ_]; exact ⟨(by rw [rX9_part]; try simp only [if_neg c_1, if_neg c_2]), (by rw [sX9_part]; try simp only [if_neg c_1, if_neg c_2])⟩)
  · refine z_iconst dX9_part_8 k_iconst_m1 ?_
    exact z_ireturn dX9_part_9 rfl rfl (Nat.le_of_ble_eq_true rfl) (Nat.le_of_ble_eq_true rfl) (by rw [← hQ_]; exact ⟨(by rw [rX9_part]; try simp only [if_pos c_1]), (by rw [sX9_part]; try simp only [if_pos c_1])⟩)

theorem dX9_of_0 : decode cX9_of 0 = .ok (.aload_n 0, 1) := by decide +kernel
theorem dX9_of_1 : decode cX9_of 1 = .ok (.iload_n 1, 1) := by decide +kernel
theorem dX9_of_2 : decode cX9_of 2 = .ok (.invokevirtual 137, 3) := by decide +kernel
theorem dX9_of_5 : decode cX9_of 5 = .ok (.ifCond .eq 34, 3) := by decide +kernel
theorem dX9_of_8 : decode cX9_of 8 = .ok (.iload_n 2, 1) := by decide +kernel
theorem dX9_of_9 : decode cX9_of 9 = .ok (.iconst 0, 1) := by decide +kernel
theorem dX9_of_10 : decode cX9_of 10 = .ok (.iconst 1, 1) := by decide +kernel
theorem dX9_of_11 : decode cX9_of 11 = .ok (.invokestatic 96, 3) := by decide +kernel
theorem dX9_of_14 : decode cX9_of 14 = .ok (.ifCond .eq 25, 3) := by decide +kernel
theorem dX9_of_17 : decode cX9_of 17 = .ok (.iload_n 2, 1) := by decide +kernel
theorem dX9_of_18 : decode cX9_of 18 = .ok (.ifCond .ne 12, 3) := by decide +kernel
theorem dX9_of_21 : decode cX9_of 21 = .ok (.aload_n 0, 1) := by decide +kernel
theorem dX9_of_22 : decode cX9_of 22 = .ok (.getfield 38, 3) := by decide +kernel
theorem dX9_of_25 : decode cX9_of 25 = .ok (.iload_n 1, 1) := by decide +kernel
theorem dX9_of_26 : decode cX9_of 26 = .ok (.iaload, 1) := by decide +kernel
theorem dX9_of_27 : decode cX9_of 27 = .ok (.goto 15, 3) := by decide +kernel
theorem dX9_of_30 : decode cX9_of 30 = .ok (.aload_n 0, 1) := by decide +kernel
theorem dX9_of_31 : decode cX9_of 31 = .ok (.getfield 41, 3) := by decide +kernel
theorem dX9_of_34 : decode cX9_of 34 = .ok (.iload_n 1, 1) := by decide +kernel
theorem dX9_of_35 : decode cX9_of 35 = .ok (.iaload, 1) := by decide +kernel
theorem dX9_of_36 : decode cX9_of 36 = .ok (.goto 6, 3) := by decide +kernel
theorem dX9_of_39 : decode cX9_of 39 = .ok (.sipush (-1000), 3) := by decide +kernel
theorem dX9_of_42 : decode cX9_of 42 = .ok (.ireturn, 1) := by decide +kernel
def pX9_of (σ : zc_N) (a1 : Int32) (a2 : Int32) : Prop := (((rX9_isPrint σ a1) = (0 : Int32) → True) ∧ (¬ (rX9_isPrint σ a1) = (0 : Int32) → (((rX9_within a2 (0 : Int32) (1 : Int32)) = (0 : Int32) → True) ∧ (¬ (rX9_within a2 (0 : Int32) (1 : Int32)) = (0 : Int32) → ((a2 = (0 : Int32) → vp_in a1 24) ∧ (¬ a2 = (0 : Int32) → vp_in a1 24))))))
noncomputable def rX9_of (σ : zc_N) (a1 : Int32) (a2 : Int32) : Int32 := (if (rX9_isPrint σ a1) = (0 : Int32) then (-1000 : Int32) else (if (rX9_within a2 (0 : Int32) (1 : Int32)) = (0 : Int32) then (-1000 : Int32) else (if a2 = (0 : Int32) then ((σ 42) a1.toNatClampNeg) else ((σ 43) a1.toNatClampNeg))))
set_option maxHeartbeats 1000000 in
theorem ctX9_of (P : zp) (σ : zc_N) (a1 : Int32) (a2 : Int32) (W_ : (pX9_of σ a1 a2)) : sp mX9_of 1 0 0 [.ref 32, .int a1, .int a2] (hh P σ) (fun r_ h_ => r_ = some (.int (rX9_of σ a1 a2)) ∧ h_ = hh P σ) := by
  refine sp_of (lv := [some (.ref 32), some (.int a1), some (.int a2)]) (by decide) (zcats_ok _ rfl) (Nat.le_of_ble_eq_true rfl) (zlv_ok _ 0 rfl) (fun G => ?_)
  generalize hQ_ : (fun (r_ : Option Value) (h_ : zc_H) => r_ = some (.int (rX9_of σ a1 a2)) ∧ h_ = hh P σ) = Q_
  unfold pX9_of at W_
  refine z_aloadr_n dX9_of_0 rfl ?_
  refine z_iload_n dX9_of_1 rfl ?_
  refine z_callV (ci := 9) (r := (RX9, TX9, 38)) (b := 32) (As := [.int a1]) (rest := []) (ctX9_isPrint P σ a1) dX9_of_2 lk_X9_137 lv_X9_isPrint (Nat.le_of_ble_eq_true rfl) (zN rfl) rfl rfl rfl rfl (Nat.le_of_ble_eq_true rfl) (Nat.le_of_ble_eq_true rfl) (Nat.le_of_ble_eq_true rfl) (Nat.le_of_ble_eq_true rfl) (fun r_ h_ e_ => ?_)
  obtain ⟨e1_, e2_⟩ := e_
  subst e1_
  subst e2_
  show zz G mX9_of 1 0 0 Q_ 5 [some (.ref 32), some (.int a1), some (.int a2)] [.int (rX9_isPrint σ a1)] (hh P σ) 0 0
  have K_1 : zz G mX9_of 1 0 0 Q_ 42 [none, none, none] [.int (if (rX9_isPrint σ a1) = (0 : Int32) then (-1000 : Int32) else (if (rX9_within a2 (0 : Int32) (1 : Int32)) = (0 : Int32) then (-1000 : Int32) else (if a2 = (0 : Int32) then ((σ 42) a1.toNatClampNeg) else ((σ 43) a1.toNatClampNeg))))] (hh P σ) 0 0 := by
    exact z_ireturn dX9_of_42 rfl rfl (Nat.le_of_ble_eq_true rfl) (Nat.le_of_ble_eq_true rfl) (by rw [← hQ_]; exact ⟨(by rw [rX9_of]), rfl⟩)
  refine z_if_eq (tgt := 39) dX9_of_5 (by decide) (fun c_1 => ?_) (fun c_1 => ?_)
  · refine z_sipush dX9_of_39 k_sipush_m1000 ?_
    refine zz_sub (lv' := [none, none, none]) trivial ?_
    rw [show (if (rX9_isPrint σ a1) = (0 : Int32) then (-1000 : Int32) else (if (rX9_within a2 (0 : Int32) (1 : Int32)) = (0 : Int32) then (-1000 : Int32) else (if a2 = (0 : Int32) then ((σ 42) a1.toNatClampNeg) else ((σ 43) a1.toNatClampNeg)))) = (-1000 : Int32) from (if_pos c_1)] at K_1
    exact K_1
  · refine z_iload_n dX9_of_8 rfl ?_
    refine z_iconst dX9_of_9 k_iconst_0 ?_
    refine z_iconst dX9_of_10 k_iconst_1 ?_
    refine z_callS (As := [.int a2, .int (0 : Int32), .int (1 : Int32)]) (rest := []) (ctX9_within P σ a2 (0 : Int32) (1 : Int32)) dX9_of_11 lk_X9_96 ls_X9_within rfl (Nat.le_of_ble_eq_true rfl) (Nat.le_of_ble_eq_true rfl) (Nat.le_of_ble_eq_true rfl) (Nat.le_of_ble_eq_true rfl) (fun r_ h_ e_ => ?_)
    obtain ⟨e1_, e2_⟩ := e_
    subst e1_
    subst e2_
    show zz G mX9_of 1 0 0 Q_ 14 [some (.ref 32), some (.int a1), some (.int a2)] [.int (rX9_within a2 (0 : Int32) (1 : Int32))] (hh P σ) 0 0
    refine z_if_eq (tgt := 39) dX9_of_14 (by decide) (fun c_2 => ?_) (fun c_2 => ?_)
    · refine z_sipush dX9_of_39 k_sipush_m1000 ?_
      refine zz_sub (lv' := [none, none, none]) trivial ?_
      rw [show (if (rX9_isPrint σ a1) = (0 : Int32) then (-1000 : Int32) else (if (rX9_within a2 (0 : Int32) (1 : Int32)) = (0 : Int32) then (-1000 : Int32) else (if a2 = (0 : Int32) then ((σ 42) a1.toNatClampNeg) else ((σ 43) a1.toNatClampNeg)))) = (-1000 : Int32) from ((if_neg c_1).trans (if_pos c_2))] at K_1
      exact K_1
    · refine z_iload_n dX9_of_17 rfl ?_
      refine z_if_ne (tgt := 30) dX9_of_18 (by decide) (fun c_3 => ?_) (fun c_3 => ?_)
      · refine z_aloadr_n dX9_of_30 rfl ?_
        refine z_get (ci := 9) (r := (RX9, TX9, 38)) (j := 10) (v := .ref 43) dX9_of_31 (Nat.le_of_ble_eq_true rfl) (zN rfl) rfl rfl (Nat.le_of_ble_eq_true rfl) fl_X9_41 rfl ?_
        refine z_iload_n dX9_of_34 rfl ?_
        refine z_iald (v := ((σ 43) a1.toNatClampNeg)) dX9_of_35 (zN rfl) rfl (((W_.2 c_1).2 c_2).2 c_3) rfl ?_
        refine z_goto (tgt := 42) dX9_of_36 (by decide) ?_
        refine zz_sub (lv' := [none, none, none]) trivial ?_
        rw [show (if (rX9_isPrint σ a1) = (0 : Int32) then (-1000 : Int32) else (if (rX9_within a2 (0 : Int32) (1 : Int32)) = (0 : Int32) then (-1000 : Int32) else (if a2 = (0 : Int32) then ((σ 42) a1.toNatClampNeg) else ((σ 43) a1.toNatClampNeg)))) = ((σ 43) a1.toNatClampNeg) from ((if_neg c_1).trans ((if_neg c_2).trans (if_neg c_3)))] at K_1
        exact K_1
      · refine z_aloadr_n dX9_of_21 rfl ?_
        refine z_get (ci := 9) (r := (RX9, TX9, 38)) (j := 9) (v := .ref 42) dX9_of_22 (Nat.le_of_ble_eq_true rfl) (zN rfl) rfl rfl (Nat.le_of_ble_eq_true rfl) fl_X9_38 rfl ?_
        refine z_iload_n dX9_of_25 rfl ?_
        refine z_iald (v := ((σ 42) a1.toNatClampNeg)) dX9_of_26 (zN rfl) rfl (((W_.2 c_1).2 c_2).1 c_3) rfl ?_
        refine z_goto (tgt := 42) dX9_of_27 (by decide) ?_
        refine zz_sub (lv' := [none, none, none]) trivial ?_
        rw [show (if (rX9_isPrint σ a1) = (0 : Int32) then (-1000 : Int32) else (if (rX9_within a2 (0 : Int32) (1 : Int32)) = (0 : Int32) then (-1000 : Int32) else (if a2 = (0 : Int32) then ((σ 42) a1.toNatClampNeg) else ((σ 43) a1.toNatClampNeg)))) = ((σ 42) a1.toNatClampNeg) from ((if_neg c_1).trans ((if_neg c_2).trans (if_pos c_3)))] at K_1
        exact K_1

theorem dX9_struck_0 : decode cX9_struck 0 = .ok (.iload_n 1, 1) := by decide +kernel
theorem dX9_struck_1 : decode cX9_struck 1 = .ok (.ifCond .ne 10, 3) := by decide +kernel
theorem dX9_struck_4 : decode cX9_struck 4 = .ok (.aload_n 0, 1) := by decide +kernel
theorem dX9_struck_5 : decode cX9_struck 5 = .ok (.getfield 90, 3) := by decide +kernel
theorem dX9_struck_8 : decode cX9_struck 8 = .ok (.goto 16, 3) := by decide +kernel
theorem dX9_struck_11 : decode cX9_struck 11 = .ok (.iload_n 1, 1) := by decide +kernel
theorem dX9_struck_12 : decode cX9_struck 12 = .ok (.iconst 1, 1) := by decide +kernel
theorem dX9_struck_13 : decode cX9_struck 13 = .ok (.if_icmp .ne 10, 3) := by decide +kernel
theorem dX9_struck_16 : decode cX9_struck 16 = .ok (.aload_n 0, 1) := by decide +kernel
theorem dX9_struck_17 : decode cX9_struck 17 = .ok (.getfield 93, 3) := by decide +kernel
theorem dX9_struck_20 : decode cX9_struck 20 = .ok (.goto 4, 3) := by decide +kernel
theorem dX9_struck_23 : decode cX9_struck 23 = .ok (.iconst (-1), 1) := by decide +kernel
theorem dX9_struck_24 : decode cX9_struck 24 = .ok (.ireturn, 1) := by decide +kernel
noncomputable def rX9_struck (σ : zc_N) (a1 : Int32) : Int32 := (if a1 = (0 : Int32) then ((σ 32) 36) else (if a1 = (1 : Int32) then ((σ 32) 37) else (-1 : Int32)))
set_option maxHeartbeats 1000000 in
theorem ctX9_struck (P : zp) (σ : zc_N) (a1 : Int32) : sp mX9_struck 0 0 0 [.ref 32, .int a1] (hh P σ) (fun r_ h_ => r_ = some (.int (rX9_struck σ a1)) ∧ h_ = hh P σ) := by
  refine sp_of (lv := [some (.ref 32), some (.int a1)]) (by decide) (zcats_ok _ rfl) (Nat.le_of_ble_eq_true rfl) (zlv_ok _ 0 rfl) (fun G => ?_)
  generalize hQ_ : (fun (r_ : Option Value) (h_ : zc_H) => r_ = some (.int (rX9_struck σ a1)) ∧ h_ = hh P σ) = Q_
  refine z_iload_n dX9_struck_0 rfl ?_
  have K_1 : zz G mX9_struck 0 0 0 Q_ 24 [none, none] [.int (if a1 = (0 : Int32) then ((σ 32) 36) else (if a1 = (1 : Int32) then ((σ 32) 37) else (-1 : Int32)))] (hh P σ) 0 0 := by
    exact z_ireturn dX9_struck_24 rfl rfl (Nat.le_of_ble_eq_true rfl) (Nat.le_of_ble_eq_true rfl) (by rw [← hQ_]; exact ⟨(by rw [rX9_struck]), rfl⟩)
  refine z_if_ne (tgt := 11) dX9_struck_1 (by decide) (fun c_1 => ?_) (fun c_1 => ?_)
  · refine z_iload_n dX9_struck_11 rfl ?_
    refine z_iconst dX9_struck_12 k_iconst_1 ?_
    refine z_icmp_ne (tgt := 23) dX9_struck_13 (by decide) (fun c_2 => ?_) (fun c_2 => ?_)
    · refine z_iconst dX9_struck_23 k_iconst_m1 ?_
      refine zz_sub (lv' := [none, none]) trivial ?_
      rw [show (if a1 = (0 : Int32) then ((σ 32) 36) else (if a1 = (1 : Int32) then ((σ 32) 37) else (-1 : Int32))) = (-1 : Int32) from ((if_neg c_1).trans (if_neg c_2))] at K_1
      exact K_1
    · refine z_aloadr_n dX9_struck_16 rfl ?_
      refine z_get (ci := 9) (r := (RX9, TX9, 38)) (j := 37) (v := .int ((σ 32) 37)) dX9_struck_17 (Nat.le_of_ble_eq_true rfl) (zN rfl) rfl rfl (Nat.le_of_ble_eq_true rfl) fl_X9_93 rfl ?_
      refine z_goto (tgt := 24) dX9_struck_20 (by decide) ?_
      refine zz_sub (lv' := [none, none]) trivial ?_
      rw [show (if a1 = (0 : Int32) then ((σ 32) 36) else (if a1 = (1 : Int32) then ((σ 32) 37) else (-1 : Int32))) = ((σ 32) 37) from ((if_neg c_1).trans (if_pos c_2))] at K_1
      exact K_1
  · refine z_aloadr_n dX9_struck_4 rfl ?_
    refine z_get (ci := 9) (r := (RX9, TX9, 38)) (j := 36) (v := .int ((σ 32) 36)) dX9_struck_5 (Nat.le_of_ble_eq_true rfl) (zN rfl) rfl rfl (Nat.le_of_ble_eq_true rfl) fl_X9_90 rfl ?_
    refine z_goto (tgt := 24) dX9_struck_8 (by decide) ?_
    refine zz_sub (lv' := [none, none]) trivial ?_
    rw [show (if a1 = (0 : Int32) then ((σ 32) 36) else (if a1 = (1 : Int32) then ((σ 32) 37) else (-1 : Int32))) = ((σ 32) 36) from (if_pos c_1)] at K_1
    exact K_1

theorem dX9_point_0 : decode cX9_point 0 = .ok (.aload_n 0, 1) := by decide +kernel
theorem dX9_point_1 : decode cX9_point 1 = .ok (.iload_n 1, 1) := by decide +kernel
theorem dX9_point_2 : decode cX9_point 2 = .ok (.invokevirtual 137, 3) := by decide +kernel
theorem dX9_point_5 : decode cX9_point 5 = .ok (.ifCond .eq 20, 3) := by decide +kernel
theorem dX9_point_8 : decode cX9_point 8 = .ok (.iload_n 2, 1) := by decide +kernel
theorem dX9_point_9 : decode cX9_point 9 = .ok (.iconst (-1), 1) := by decide +kernel
theorem dX9_point_10 : decode cX9_point 10 = .ok (.if_icmp .lt 15, 3) := by decide +kernel
theorem dX9_point_13 : decode cX9_point 13 = .ok (.iload_n 2, 1) := by decide +kernel
theorem dX9_point_14 : decode cX9_point 14 = .ok (.iconst 3, 1) := by decide +kernel
theorem dX9_point_15 : decode cX9_point 15 = .ok (.aload_n 0, 1) := by decide +kernel
theorem dX9_point_16 : decode cX9_point 16 = .ok (.getfield 23, 3) := by decide +kernel
theorem dX9_point_19 : decode cX9_point 19 = .ok (.iload_n 1, 1) := by decide +kernel
theorem dX9_point_20 : decode cX9_point 20 = .ok (.iaload, 1) := by decide +kernel
theorem dX9_point_21 : decode cX9_point 21 = .ok (.imul, 1) := by decide +kernel
theorem dX9_point_22 : decode cX9_point 22 = .ok (.if_icmp .lt 5, 3) := by decide +kernel
theorem dX9_point_25 : decode cX9_point 25 = .ok (.iconst (-1), 1) := by decide +kernel
theorem dX9_point_26 : decode cX9_point 26 = .ok (.ireturn, 1) := by decide +kernel
theorem dX9_point_27 : decode cX9_point 27 = .ok (.bipush 12, 2) := by decide +kernel
theorem dX9_point_29 : decode cX9_point 29 = .ok (.iload_n 1, 1) := by decide +kernel
theorem dX9_point_30 : decode cX9_point 30 = .ok (.imul, 1) := by decide +kernel
theorem dX9_point_31 : decode cX9_point 31 = .ok (.iload_n 2, 1) := by decide +kernel
theorem dX9_point_32 : decode cX9_point 32 = .ok (.iconst 3, 1) := by decide +kernel
theorem dX9_point_33 : decode cX9_point 33 = .ok (.idiv, 1) := by decide +kernel
theorem dX9_point_34 : decode cX9_point 34 = .ok (.iadd, 1) := by decide +kernel
theorem dX9_point_35 : decode cX9_point 35 = .ok (.istore_n 3, 1) := by decide +kernel
theorem dX9_point_36 : decode cX9_point 36 = .ok (.iload_n 2, 1) := by decide +kernel
theorem dX9_point_37 : decode cX9_point 37 = .ok (.ifCond .ge 12, 3) := by decide +kernel
theorem dX9_point_40 : decode cX9_point 40 = .ok (.aload_n 0, 1) := by decide +kernel
theorem dX9_point_41 : decode cX9_point 41 = .ok (.getfield 23, 3) := by decide +kernel
theorem dX9_point_44 : decode cX9_point 44 = .ok (.iload_n 1, 1) := by decide +kernel
theorem dX9_point_45 : decode cX9_point 45 = .ok (.iaload, 1) := by decide +kernel
theorem dX9_point_46 : decode cX9_point 46 = .ok (.goto 40, 3) := by decide +kernel
theorem dX9_point_49 : decode cX9_point 49 = .ok (.iload_n 2, 1) := by decide +kernel
theorem dX9_point_50 : decode cX9_point 50 = .ok (.iconst 3, 1) := by decide +kernel
theorem dX9_point_51 : decode cX9_point 51 = .ok (.irem, 1) := by decide +kernel
theorem dX9_point_52 : decode cX9_point 52 = .ok (.ifCond .ne 12, 3) := by decide +kernel
theorem dX9_point_55 : decode cX9_point 55 = .ok (.aload_n 0, 1) := by decide +kernel
theorem dX9_point_56 : decode cX9_point 56 = .ok (.getfield 26, 3) := by decide +kernel
theorem dX9_point_59 : decode cX9_point 59 = .ok (.iload_n 3, 1) := by decide +kernel
theorem dX9_point_60 : decode cX9_point 60 = .ok (.iaload, 1) := by decide +kernel
theorem dX9_point_61 : decode cX9_point 61 = .ok (.goto 25, 3) := by decide +kernel
theorem dX9_point_64 : decode cX9_point 64 = .ok (.iload_n 2, 1) := by decide +kernel
theorem dX9_point_65 : decode cX9_point 65 = .ok (.iconst 3, 1) := by decide +kernel
theorem dX9_point_66 : decode cX9_point 66 = .ok (.irem, 1) := by decide +kernel
theorem dX9_point_67 : decode cX9_point 67 = .ok (.iconst 1, 1) := by decide +kernel
theorem dX9_point_68 : decode cX9_point 68 = .ok (.if_icmp .ne 12, 3) := by decide +kernel
theorem dX9_point_71 : decode cX9_point 71 = .ok (.aload_n 0, 1) := by decide +kernel
theorem dX9_point_72 : decode cX9_point 72 = .ok (.getfield 29, 3) := by decide +kernel
theorem dX9_point_75 : decode cX9_point 75 = .ok (.iload_n 3, 1) := by decide +kernel
theorem dX9_point_76 : decode cX9_point 76 = .ok (.iaload, 1) := by decide +kernel
theorem dX9_point_77 : decode cX9_point 77 = .ok (.goto 9, 3) := by decide +kernel
theorem dX9_point_80 : decode cX9_point 80 = .ok (.aload_n 0, 1) := by decide +kernel
theorem dX9_point_81 : decode cX9_point 81 = .ok (.getfield 32, 3) := by decide +kernel
theorem dX9_point_84 : decode cX9_point 84 = .ok (.iload_n 3, 1) := by decide +kernel
theorem dX9_point_85 : decode cX9_point 85 = .ok (.iaload, 1) := by decide +kernel
theorem dX9_point_86 : decode cX9_point 86 = .ok (.ireturn, 1) := by decide +kernel
def pX9_point (σ : zc_N) (a1 : Int32) (a2 : Int32) : Prop := (((rX9_isPrint σ a1) = (0 : Int32) → True) ∧ (¬ (rX9_isPrint σ a1) = (0 : Int32) → ((a2 < (-1 : Int32) → True) ∧ (¬ a2 < (-1 : Int32) → (vp_in a1 24 ∧ ((a2 < ((3 : Int32) * ((σ 37) a1.toNatClampNeg)) → (((0 : Int32) ≤ a2 → (((a2 - a2 / (3 : Int32) * (3 : Int32)) = (0 : Int32) → vp_in (((12 : Int32) * a1) + (a2 / (3 : Int32))) 288) ∧ (¬ (a2 - a2 / (3 : Int32) * (3 : Int32)) = (0 : Int32) → (((a2 - a2 / (3 : Int32) * (3 : Int32)) = (1 : Int32) → vp_in (((12 : Int32) * a1) + (a2 / (3 : Int32))) 288) ∧ (¬ (a2 - a2 / (3 : Int32) * (3 : Int32)) = (1 : Int32) → vp_in (((12 : Int32) * a1) + (a2 / (3 : Int32))) 288))))) ∧ (¬ (0 : Int32) ≤ a2 → vp_in a1 24))) ∧ (¬ a2 < ((3 : Int32) * ((σ 37) a1.toNatClampNeg)) → True)))))))
noncomputable def rX9_point (σ : zc_N) (a1 : Int32) (a2 : Int32) : Int32 := (if (rX9_isPrint σ a1) = (0 : Int32) then (-1 : Int32) else (if a2 < (-1 : Int32) then (-1 : Int32) else (if a2 < ((3 : Int32) * ((σ 37) a1.toNatClampNeg)) then (if (0 : Int32) ≤ a2 then (if (a2 - a2 / (3 : Int32) * (3 : Int32)) = (0 : Int32) then ((σ 38) (((12 : Int32) * a1) + (a2 / (3 : Int32))).toNatClampNeg) else (if (a2 - a2 / (3 : Int32) * (3 : Int32)) = (1 : Int32) then ((σ 39) (((12 : Int32) * a1) + (a2 / (3 : Int32))).toNatClampNeg) else ((σ 40) (((12 : Int32) * a1) + (a2 / (3 : Int32))).toNatClampNeg))) else ((σ 37) a1.toNatClampNeg)) else (-1 : Int32))))
set_option maxHeartbeats 1000000 in
theorem ctX9_point (P : zp) (σ : zc_N) (a1 : Int32) (a2 : Int32) (W_ : (pX9_point σ a1 a2)) : sp mX9_point 1 0 0 [.ref 32, .int a1, .int a2] (hh P σ) (fun r_ h_ => r_ = some (.int (rX9_point σ a1 a2)) ∧ h_ = hh P σ) := by
  refine sp_of (lv := [some (.ref 32), some (.int a1), some (.int a2), none]) (by decide) (zcats_ok _ rfl) (Nat.le_of_ble_eq_true rfl) (zlv_ok _ 1 rfl) (fun G => ?_)
  generalize hQ_ : (fun (r_ : Option Value) (h_ : zc_H) => r_ = some (.int (rX9_point σ a1 a2)) ∧ h_ = hh P σ) = Q_
  unfold pX9_point at W_
  refine z_aloadr_n dX9_point_0 rfl ?_
  refine z_iload_n dX9_point_1 rfl ?_
  refine z_callV (ci := 9) (r := (RX9, TX9, 38)) (b := 32) (As := [.int a1]) (rest := []) (ctX9_isPrint P σ a1) dX9_point_2 lk_X9_137 lv_X9_isPrint (Nat.le_of_ble_eq_true rfl) (zN rfl) rfl rfl rfl rfl (Nat.le_of_ble_eq_true rfl) (Nat.le_of_ble_eq_true rfl) (Nat.le_of_ble_eq_true rfl) (Nat.le_of_ble_eq_true rfl) (fun r_ h_ e_ => ?_)
  obtain ⟨e1_, e2_⟩ := e_
  subst e1_
  subst e2_
  show zz G mX9_point 1 0 0 Q_ 5 [some (.ref 32), some (.int a1), some (.int a2), none] [.int (rX9_isPrint σ a1)] (hh P σ) 0 0
  refine z_if_eq (tgt := 25) dX9_point_5 (by decide) (fun c_1 => ?_) (fun c_1 => ?_)
  · refine z_iconst dX9_point_25 k_iconst_m1 ?_
    exact z_ireturn dX9_point_26 rfl rfl (Nat.le_of_ble_eq_true rfl) (Nat.le_of_ble_eq_true rfl) (by rw [← hQ_]; exact ⟨(by rw [rX9_point]; try simp only [if_pos c_1]), rfl⟩)
  · refine z_iload_n dX9_point_8 rfl ?_
    refine z_iconst dX9_point_9 k_iconst_m1 ?_
    refine z_icmp_lt (tgt := 25) dX9_point_10 (by decide) (fun c_2 => ?_) (fun c_2 => ?_)
    · refine z_iconst dX9_point_25 k_iconst_m1 ?_
      exact z_ireturn dX9_point_26 rfl rfl (Nat.le_of_ble_eq_true rfl) (Nat.le_of_ble_eq_true rfl) (by rw [← hQ_]; exact ⟨(by rw [rX9_point]; try simp only [if_neg c_1, if_pos c_2]), rfl⟩)
    · refine z_iload_n dX9_point_13 rfl ?_
      refine z_iconst dX9_point_14 k_iconst_3 ?_
      refine z_aloadr_n dX9_point_15 rfl ?_
      refine z_get (ci := 9) (r := (RX9, TX9, 38)) (j := 4) (v := .ref 37) dX9_point_16 (Nat.le_of_ble_eq_true rfl) (zN rfl) rfl rfl (Nat.le_of_ble_eq_true rfl) fl_X9_23 rfl ?_
      refine z_iload_n dX9_point_19 rfl ?_
      refine z_iald (v := ((σ 37) a1.toNatClampNeg)) dX9_point_20 (zN rfl) rfl (((W_.2 c_1).2 c_2).1) rfl ?_
      refine z_imul (v := ((3 : Int32) * ((σ 37) a1.toNatClampNeg))) dX9_point_21 rfl ?_
      refine z_icmp_lt (tgt := 27) dX9_point_22 (by decide) (fun c_3 => ?_) (fun c_3 => ?_)
      · refine z_bipush dX9_point_27 k_bipush_12 ?_
        refine z_iload_n dX9_point_29 rfl ?_
        refine z_imul (v := ((12 : Int32) * a1)) dX9_point_30 rfl ?_
        refine z_iload_n dX9_point_31 rfl ?_
        refine z_iconst dX9_point_32 k_iconst_3 ?_
        refine z_idiv (v := (a2 / (3 : Int32))) dX9_point_33 (by decide) rfl ?_
        refine z_iadd (v := (((12 : Int32) * a1) + (a2 / (3 : Int32)))) dX9_point_34 rfl ?_
        refine z_istore_n (lv' := [some (.ref 32), some (.int a1), some (.int a2), some (.int (((12 : Int32) * a1) + (a2 / (3 : Int32))))]) dX9_point_35 (Nat.le_of_ble_eq_true rfl) rfl ?_
        refine z_iload_n dX9_point_36 rfl ?_
        have K_1 : zz G mX9_point 1 0 0 Q_ 86 [none, none, none, none] [.int (if (0 : Int32) ≤ a2 then (if (a2 - a2 / (3 : Int32) * (3 : Int32)) = (0 : Int32) then ((σ 38) (((12 : Int32) * a1) + (a2 / (3 : Int32))).toNatClampNeg) else (if (a2 - a2 / (3 : Int32) * (3 : Int32)) = (1 : Int32) then ((σ 39) (((12 : Int32) * a1) + (a2 / (3 : Int32))).toNatClampNeg) else ((σ 40) (((12 : Int32) * a1) + (a2 / (3 : Int32))).toNatClampNeg))) else ((σ 37) a1.toNatClampNeg))] (hh P σ) 0 0 := by
          exact z_ireturn dX9_point_86 rfl rfl (Nat.le_of_ble_eq_true rfl) (Nat.le_of_ble_eq_true rfl) (by rw [← hQ_]; exact ⟨(by rw [rX9_point]; try simp only [if_neg c_1, if_neg c_2, if_pos c_3]), rfl⟩)
        refine z_if_ge (tgt := 49) dX9_point_37 (by decide) (fun c_4 => ?_) (fun c_4 => ?_)
        · refine z_iload_n dX9_point_49 rfl ?_
          refine z_iconst dX9_point_50 k_iconst_3 ?_
          refine z_irem (v := (a2 - a2 / (3 : Int32) * (3 : Int32))) dX9_point_51 (by decide) rfl ?_
          refine z_if_ne (tgt := 64) dX9_point_52 (by decide) (fun c_5 => ?_) (fun c_5 => ?_)
          · refine z_iload_n dX9_point_64 rfl ?_
            refine z_iconst dX9_point_65 k_iconst_3 ?_
            refine z_irem (v := (a2 - a2 / (3 : Int32) * (3 : Int32))) dX9_point_66 (by decide) rfl ?_
            refine z_iconst dX9_point_67 k_iconst_1 ?_
            refine z_icmp_ne (tgt := 80) dX9_point_68 (by decide) (fun c_6 => ?_) (fun c_6 => ?_)
            · refine z_aloadr_n dX9_point_80 rfl ?_
              refine z_get (ci := 9) (r := (RX9, TX9, 38)) (j := 7) (v := .ref 40) dX9_point_81 (Nat.le_of_ble_eq_true rfl) (zN rfl) rfl rfl (Nat.le_of_ble_eq_true rfl) fl_X9_32 rfl ?_
              refine z_iload_n dX9_point_84 rfl ?_
              refine z_iald (v := ((σ 40) (((12 : Int32) * a1) + (a2 / (3 : Int32))).toNatClampNeg)) dX9_point_85 (zN rfl) rfl ((((((W_.2 c_1).2 c_2).2.1 c_3).1 c_4).2 c_5).2 c_6) rfl ?_
              refine zz_sub (lv' := [none, none, none, none]) trivial ?_
              rw [show (if (0 : Int32) ≤ a2 then (if (a2 - a2 / (3 : Int32) * (3 : Int32)) = (0 : Int32) then ((σ 38) (((12 : Int32) * a1) + (a2 / (3 : Int32))).toNatClampNeg) else (if (a2 - a2 / (3 : Int32) * (3 : Int32)) = (1 : Int32) then ((σ 39) (((12 : Int32) * a1) + (a2 / (3 : Int32))).toNatClampNeg) else ((σ 40) (((12 : Int32) * a1) + (a2 / (3 : Int32))).toNatClampNeg))) else ((σ 37) a1.toNatClampNeg)) = ((σ 40) (((12 : Int32) * a1) + (a2 / (3 : Int32))).toNatClampNeg) from ((if_pos c_4).trans ((if_neg c_5).trans (if_neg c_6)))] at K_1
              exact K_1
            · refine z_aloadr_n dX9_point_71 rfl ?_
              refine z_get (ci := 9) (r := (RX9, TX9, 38)) (j := 6) (v := .ref 39) dX9_point_72 (Nat.le_of_ble_eq_true rfl) (zN rfl) rfl rfl (Nat.le_of_ble_eq_true rfl) fl_X9_29 rfl ?_
              refine z_iload_n dX9_point_75 rfl ?_
              refine z_iald (v := ((σ 39) (((12 : Int32) * a1) + (a2 / (3 : Int32))).toNatClampNeg)) dX9_point_76 (zN rfl) rfl ((((((W_.2 c_1).2 c_2).2.1 c_3).1 c_4).2 c_5).1 c_6) rfl ?_
              refine z_goto (tgt := 86) dX9_point_77 (by decide) ?_
              refine zz_sub (lv' := [none, none, none, none]) trivial ?_
              rw [show (if (0 : Int32) ≤ a2 then (if (a2 - a2 / (3 : Int32) * (3 : Int32)) = (0 : Int32) then ((σ 38) (((12 : Int32) * a1) + (a2 / (3 : Int32))).toNatClampNeg) else (if (a2 - a2 / (3 : Int32) * (3 : Int32)) = (1 : Int32) then ((σ 39) (((12 : Int32) * a1) + (a2 / (3 : Int32))).toNatClampNeg) else ((σ 40) (((12 : Int32) * a1) + (a2 / (3 : Int32))).toNatClampNeg))) else ((σ 37) a1.toNatClampNeg)) = ((σ 39) (((12 : Int32) * a1) + (a2 / (3 : Int32))).toNatClampNeg) from ((if_pos c_4).trans ((if_neg c_5).trans (if_pos c_6)))] at K_1
              exact K_1
          · refine z_aloadr_n dX9_point_55 rfl ?_
            refine z_get (ci := 9) (r := (RX9, TX9, 38)) (j := 5) (v := .ref 38) dX9_point_56 (Nat.le_of_ble_eq_true rfl) (zN rfl) rfl rfl (Nat.le_of_ble_eq_true rfl) fl_X9_26 rfl ?_
            refine z_iload_n dX9_point_59 rfl ?_
            refine z_iald (v := ((σ 38) (((12 : Int32) * a1) + (a2 / (3 : Int32))).toNatClampNeg)) dX9_point_60 (zN rfl) rfl (((((W_.2 c_1).2 c_2).2.1 c_3).1 c_4).1 c_5) rfl ?_
            refine z_goto (tgt := 86) dX9_point_61 (by decide) ?_
            refine zz_sub (lv' := [none, none, none, none]) trivial ?_
            rw [show (if (0 : Int32) ≤ a2 then (if (a2 - a2 / (3 : Int32) * (3 : Int32)) = (0 : Int32) then ((σ 38) (((12 : Int32) * a1) + (a2 / (3 : Int32))).toNatClampNeg) else (if (a2 - a2 / (3 : Int32) * (3 : Int32)) = (1 : Int32) then ((σ 39) (((12 : Int32) * a1) + (a2 / (3 : Int32))).toNatClampNeg) else ((σ 40) (((12 : Int32) * a1) + (a2 / (3 : Int32))).toNatClampNeg))) else ((σ 37) a1.toNatClampNeg)) = ((σ 38) (((12 : Int32) * a1) + (a2 / (3 : Int32))).toNatClampNeg) from ((if_pos c_4).trans (if_pos c_5))] at K_1
            exact K_1
        · refine z_aloadr_n dX9_point_40 rfl ?_
          refine z_get (ci := 9) (r := (RX9, TX9, 38)) (j := 4) (v := .ref 37) dX9_point_41 (Nat.le_of_ble_eq_true rfl) (zN rfl) rfl rfl (Nat.le_of_ble_eq_true rfl) fl_X9_23 rfl ?_
          refine z_iload_n dX9_point_44 rfl ?_
          refine z_iald (v := ((σ 37) a1.toNatClampNeg)) dX9_point_45 (zN rfl) rfl ((((W_.2 c_1).2 c_2).2.1 c_3).2 c_4) rfl ?_
          refine z_goto (tgt := 86) dX9_point_46 (by decide) ?_
          refine zz_sub (lv' := [none, none, none, none]) trivial ?_
          rw [show (if (0 : Int32) ≤ a2 then (if (a2 - a2 / (3 : Int32) * (3 : Int32)) = (0 : Int32) then ((σ 38) (((12 : Int32) * a1) + (a2 / (3 : Int32))).toNatClampNeg) else (if (a2 - a2 / (3 : Int32) * (3 : Int32)) = (1 : Int32) then ((σ 39) (((12 : Int32) * a1) + (a2 / (3 : Int32))).toNatClampNeg) else ((σ 40) (((12 : Int32) * a1) + (a2 / (3 : Int32))).toNatClampNeg))) else ((σ 37) a1.toNatClampNeg)) = ((σ 37) a1.toNatClampNeg) from (if_neg c_4)] at K_1
          exact K_1
      · refine z_iconst dX9_point_25 k_iconst_m1 ?_
        exact z_ireturn dX9_point_26 rfl rfl (Nat.le_of_ble_eq_true rfl) (Nat.le_of_ble_eq_true rfl) (by rw [← hQ_]; exact ⟨(by rw [rX9_point]; try simp only [if_neg c_1, if_neg c_2, if_neg c_3]), rfl⟩)

theorem dX3_set_0 : decode cX3_set 0 = .ok (.aload_n 0, 1) := by decide +kernel
theorem dX3_set_1 : decode cX3_set 1 = .ok (.iconst 1, 1) := by decide +kernel
theorem dX3_set_2 : decode cX3_set 2 = .ok (.putfield 9, 3) := by decide +kernel
theorem dX3_set_5 : decode cX3_set 5 = .ok (.aload_n 0, 1) := by decide +kernel
theorem dX3_set_6 : decode cX3_set 6 = .ok (.iload_n 1, 1) := by decide +kernel
theorem dX3_set_7 : decode cX3_set 7 = .ok (.putfield 15, 3) := by decide +kernel
theorem dX3_set_10 : decode cX3_set 10 = .ok (.aload_n 0, 1) := by decide +kernel
theorem dX3_set_11 : decode cX3_set 11 = .ok (.iload_n 2, 1) := by decide +kernel
theorem dX3_set_12 : decode cX3_set 12 = .ok (.putfield 19, 3) := by decide +kernel
theorem dX3_set_15 : decode cX3_set 15 = .ok (.aload_n 0, 1) := by decide +kernel
theorem dX3_set_16 : decode cX3_set 16 = .ok (.iload_n 3, 1) := by decide +kernel
theorem dX3_set_17 : decode cX3_set 17 = .ok (.putfield 22, 3) := by decide +kernel
theorem dX3_set_20 : decode cX3_set 20 = .ok (.return_, 1) := by decide +kernel
noncomputable def sX3_set_l (σ : zc_N) (a1 : Int32) (a2 : Int32) (a3 : Int32) : zc_N := (zu σ 23 (zu (zu (zu (zu (σ 23) 0 (1 : Int32)) 1 a1) 2 a2) 3 a3))
set_option maxHeartbeats 1000000 in
theorem ctX3_set_l (P : zp) (σ : zc_N) (a1 : Int32) (a2 : Int32) (a3 : Int32) : sp mX3_set 0 0 0 [.ref 23, .int a1, .int a2, .int a3] (hh P σ) (fun r_ h_ => r_ = none ∧ h_ = hh P (sX3_set_l σ a1 a2 a3)) := by
  refine sp_of (lv := [some (.ref 23), some (.int a1), some (.int a2), some (.int a3)]) (by decide) (zcats_ok _ rfl) (Nat.le_of_ble_eq_true rfl) (zlv_ok _ 0 rfl) (fun G => ?_)
  generalize hQ_ : (fun (r_ : Option Value) (h_ : zc_H) => r_ = none ∧ h_ = hh P (sX3_set_l σ a1 a2 a3)) = Q_
  refine z_aloadr_n dX3_set_0 rfl ?_
  refine z_iconst dX3_set_1 k_iconst_1 ?_
  refine z_put (ci := 3) (r := (RX3, TX3, 10)) (j := 0) (σ' := (zu σ 23 (zu (σ 23) 0 (1 : Int32)))) dX3_set_2 (Nat.le_of_ble_eq_true rfl) (zN rfl) rfl rfl (Nat.le_of_ble_eq_true rfl) fl_X3_9 rfl rfl rfl rfl rfl ?_
  refine z_aloadr_n dX3_set_5 rfl ?_
  refine z_iload_n dX3_set_6 rfl ?_
  refine z_put (ci := 3) (r := (RX3, TX3, 10)) (j := 1) (σ' := (zu σ 23 (zu (zu (σ 23) 0 (1 : Int32)) 1 a1))) dX3_set_7 (Nat.le_of_ble_eq_true rfl) (zN rfl) rfl rfl (Nat.le_of_ble_eq_true rfl) fl_X3_15 rfl rfl rfl rfl ((congrArg (fun g_ => zu _ _ (zu g_ _ _)) (zu_self _ _ _)).trans (zu_zu _ _ _ _)) ?_
  refine z_aloadr_n dX3_set_10 rfl ?_
  refine z_iload_n dX3_set_11 rfl ?_
  refine z_put (ci := 3) (r := (RX3, TX3, 10)) (j := 2) (σ' := (zu σ 23 (zu (zu (zu (σ 23) 0 (1 : Int32)) 1 a1) 2 a2))) dX3_set_12 (Nat.le_of_ble_eq_true rfl) (zN rfl) rfl rfl (Nat.le_of_ble_eq_true rfl) fl_X3_19 rfl rfl rfl rfl ((congrArg (fun g_ => zu _ _ (zu g_ _ _)) (zu_self _ _ _)).trans (zu_zu _ _ _ _)) ?_
  refine z_aloadr_n dX3_set_15 rfl ?_
  refine z_iload_n dX3_set_16 rfl ?_
  refine z_put (ci := 3) (r := (RX3, TX3, 10)) (j := 3) (σ' := (zu σ 23 (zu (zu (zu (zu (σ 23) 0 (1 : Int32)) 1 a1) 2 a2) 3 a3))) dX3_set_17 (Nat.le_of_ble_eq_true rfl) (zN rfl) rfl rfl (Nat.le_of_ble_eq_true rfl) fl_X3_22 rfl rfl rfl rfl ((congrArg (fun g_ => zu _ _ (zu g_ _ _)) (zu_self _ _ _)).trans (zu_zu _ _ _ _)) ?_
  exact z_return dX3_set_20 rfl (Nat.le_of_ble_eq_true rfl) (Nat.le_of_ble_eq_true rfl) (by rw [← hQ_]; exact ⟨rfl, (by rw [sX3_set_l])⟩)


noncomputable def sX3_set_t (σ : zc_N) (a1 : Int32) (a2 : Int32) (a3 : Int32) : zc_N := (zu σ 25 (zu (zu (zu (zu (σ 25) 0 (1 : Int32)) 1 a1) 2 a2) 3 a3))
set_option maxHeartbeats 1000000 in
theorem ctX3_set_t (P : zp) (σ : zc_N) (a1 : Int32) (a2 : Int32) (a3 : Int32) : sp mX3_set 0 0 0 [.ref 25, .int a1, .int a2, .int a3] (hh P σ) (fun r_ h_ => r_ = none ∧ h_ = hh P (sX3_set_t σ a1 a2 a3)) := by
  refine sp_of (lv := [some (.ref 25), some (.int a1), some (.int a2), some (.int a3)]) (by decide) (zcats_ok _ rfl) (Nat.le_of_ble_eq_true rfl) (zlv_ok _ 0 rfl) (fun G => ?_)
  generalize hQ_ : (fun (r_ : Option Value) (h_ : zc_H) => r_ = none ∧ h_ = hh P (sX3_set_t σ a1 a2 a3)) = Q_
  refine z_aloadr_n dX3_set_0 rfl ?_
  refine z_iconst dX3_set_1 k_iconst_1 ?_
  refine z_put (ci := 3) (r := (RX3, TX3, 10)) (j := 0) (σ' := (zu σ 25 (zu (σ 25) 0 (1 : Int32)))) dX3_set_2 (Nat.le_of_ble_eq_true rfl) (zN rfl) rfl rfl (Nat.le_of_ble_eq_true rfl) fl_X3_9 rfl rfl rfl rfl rfl ?_
  refine z_aloadr_n dX3_set_5 rfl ?_
  refine z_iload_n dX3_set_6 rfl ?_
  refine z_put (ci := 3) (r := (RX3, TX3, 10)) (j := 1) (σ' := (zu σ 25 (zu (zu (σ 25) 0 (1 : Int32)) 1 a1))) dX3_set_7 (Nat.le_of_ble_eq_true rfl) (zN rfl) rfl rfl (Nat.le_of_ble_eq_true rfl) fl_X3_15 rfl rfl rfl rfl ((congrArg (fun g_ => zu _ _ (zu g_ _ _)) (zu_self _ _ _)).trans (zu_zu _ _ _ _)) ?_
  refine z_aloadr_n dX3_set_10 rfl ?_
  refine z_iload_n dX3_set_11 rfl ?_
  refine z_put (ci := 3) (r := (RX3, TX3, 10)) (j := 2) (σ' := (zu σ 25 (zu (zu (zu (σ 25) 0 (1 : Int32)) 1 a1) 2 a2))) dX3_set_12 (Nat.le_of_ble_eq_true rfl) (zN rfl) rfl rfl (Nat.le_of_ble_eq_true rfl) fl_X3_19 rfl rfl rfl rfl ((congrArg (fun g_ => zu _ _ (zu g_ _ _)) (zu_self _ _ _)).trans (zu_zu _ _ _ _)) ?_
  refine z_aloadr_n dX3_set_15 rfl ?_
  refine z_iload_n dX3_set_16 rfl ?_
  refine z_put (ci := 3) (r := (RX3, TX3, 10)) (j := 3) (σ' := (zu σ 25 (zu (zu (zu (zu (σ 25) 0 (1 : Int32)) 1 a1) 2 a2) 3 a3))) dX3_set_17 (Nat.le_of_ble_eq_true rfl) (zN rfl) rfl rfl (Nat.le_of_ble_eq_true rfl) fl_X3_22 rfl rfl rfl rfl ((congrArg (fun g_ => zu _ _ (zu g_ _ _)) (zu_self _ _ _)).trans (zu_zu _ _ _ _)) ?_
  exact z_return dX3_set_20 rfl (Nat.le_of_ble_eq_true rfl) (Nat.le_of_ble_eq_true rfl) (by rw [← hQ_]; exact ⟨rfl, (by rw [sX3_set_t])⟩)

theorem dX3_lacking_0 : decode cX3_lacking 0 = .ok (.aload_n 0, 1) := by decide +kernel
theorem dX3_lacking_1 : decode cX3_lacking 1 = .ok (.getfield 37, 3) := by decide +kernel
theorem dX3_lacking_4 : decode cX3_lacking 4 = .ok (.aload_n 0, 1) := by decide +kernel
theorem dX3_lacking_5 : decode cX3_lacking 5 = .ok (.getfield 34, 3) := by decide +kernel
theorem dX3_lacking_8 : decode cX3_lacking 8 = .ok (.iconst (-1), 1) := by decide +kernel
theorem dX3_lacking_9 : decode cX3_lacking 9 = .ok (.ixor, 1) := by decide +kernel
theorem dX3_lacking_10 : decode cX3_lacking 10 = .ok (.iand, 1) := by decide +kernel
theorem dX3_lacking_11 : decode cX3_lacking 11 = .ok (.ireturn, 1) := by decide +kernel
noncomputable def rX3_lacking_l (σ : zc_N) : Int32 := (((σ 23) 8) &&& (((σ 23) 7) ^^^ (-1 : Int32)))
set_option maxHeartbeats 1000000 in
theorem ctX3_lacking_l (P : zp) (σ : zc_N) : sp mX3_lacking 0 0 0 [.ref 23] (hh P σ) (fun r_ h_ => r_ = some (.int (rX3_lacking_l σ)) ∧ h_ = hh P σ) := by
  refine sp_of (lv := [some (.ref 23)]) (by decide) (zcats_ok _ rfl) (Nat.le_of_ble_eq_true rfl) (zlv_ok _ 0 rfl) (fun G => ?_)
  generalize hQ_ : (fun (r_ : Option Value) (h_ : zc_H) => r_ = some (.int (rX3_lacking_l σ)) ∧ h_ = hh P σ) = Q_
  refine z_aloadr_n dX3_lacking_0 rfl ?_
  refine z_get (ci := 3) (r := (RX3, TX3, 10)) (j := 8) (v := .int ((σ 23) 8)) dX3_lacking_1 (Nat.le_of_ble_eq_true rfl) (zN rfl) rfl rfl (Nat.le_of_ble_eq_true rfl) fl_X3_37 rfl ?_
  refine z_aloadr_n dX3_lacking_4 rfl ?_
  refine z_get (ci := 3) (r := (RX3, TX3, 10)) (j := 7) (v := .int ((σ 23) 7)) dX3_lacking_5 (Nat.le_of_ble_eq_true rfl) (zN rfl) rfl rfl (Nat.le_of_ble_eq_true rfl) fl_X3_34 rfl ?_
  refine z_iconst dX3_lacking_8 k_iconst_m1 ?_
  refine z_ixor (v := (((σ 23) 7) ^^^ (-1 : Int32))) dX3_lacking_9 rfl ?_
  refine z_iand (v := (((σ 23) 8) &&& (((σ 23) 7) ^^^ (-1 : Int32)))) dX3_lacking_10 rfl ?_
  exact z_ireturn dX3_lacking_11 rfl rfl (Nat.le_of_ble_eq_true rfl) (Nat.le_of_ble_eq_true rfl) (by rw [← hQ_]; exact ⟨(by rw [rX3_lacking_l]), rfl⟩)


noncomputable def rX3_lacking_t (σ : zc_N) : Int32 := (((σ 25) 8) &&& (((σ 25) 7) ^^^ (-1 : Int32)))
set_option maxHeartbeats 1000000 in
theorem ctX3_lacking_t (P : zp) (σ : zc_N) : sp mX3_lacking 0 0 0 [.ref 25] (hh P σ) (fun r_ h_ => r_ = some (.int (rX3_lacking_t σ)) ∧ h_ = hh P σ) := by
  refine sp_of (lv := [some (.ref 25)]) (by decide) (zcats_ok _ rfl) (Nat.le_of_ble_eq_true rfl) (zlv_ok _ 0 rfl) (fun G => ?_)
  generalize hQ_ : (fun (r_ : Option Value) (h_ : zc_H) => r_ = some (.int (rX3_lacking_t σ)) ∧ h_ = hh P σ) = Q_
  refine z_aloadr_n dX3_lacking_0 rfl ?_
  refine z_get (ci := 3) (r := (RX3, TX3, 10)) (j := 8) (v := .int ((σ 25) 8)) dX3_lacking_1 (Nat.le_of_ble_eq_true rfl) (zN rfl) rfl rfl (Nat.le_of_ble_eq_true rfl) fl_X3_37 rfl ?_
  refine z_aloadr_n dX3_lacking_4 rfl ?_
  refine z_get (ci := 3) (r := (RX3, TX3, 10)) (j := 7) (v := .int ((σ 25) 7)) dX3_lacking_5 (Nat.le_of_ble_eq_true rfl) (zN rfl) rfl rfl (Nat.le_of_ble_eq_true rfl) fl_X3_34 rfl ?_
  refine z_iconst dX3_lacking_8 k_iconst_m1 ?_
  refine z_ixor (v := (((σ 25) 7) ^^^ (-1 : Int32))) dX3_lacking_9 rfl ?_
  refine z_iand (v := (((σ 25) 8) &&& (((σ 25) 7) ^^^ (-1 : Int32)))) dX3_lacking_10 rfl ?_
  exact z_ireturn dX3_lacking_11 rfl rfl (Nat.le_of_ble_eq_true rfl) (Nat.le_of_ble_eq_true rfl) (by rw [← hQ_]; exact ⟨(by rw [rX3_lacking_t]), rfl⟩)

theorem dX5_clear_0 : decode cX5_clear 0 = .ok (.aload_n 0, 1) := by decide +kernel
theorem dX5_clear_1 : decode cX5_clear 1 = .ok (.iconst 0, 1) := by decide +kernel
theorem dX5_clear_2 : decode cX5_clear 2 = .ok (.putfield 15, 3) := by decide +kernel
theorem dX5_clear_5 : decode cX5_clear 5 = .ok (.return_, 1) := by decide +kernel
noncomputable def sX5_clear (σ : zc_N) : zc_N := (zu σ 16 (zu (σ 16) 1 (0 : Int32)))
set_option maxHeartbeats 1000000 in
theorem ctX5_clear (P : zp) (σ : zc_N) : sp mX5_clear 0 0 0 [.ref 16] (hh P σ) (fun r_ h_ => r_ = none ∧ h_ = hh P (sX5_clear σ)) := by
  refine sp_of (lv := [some (.ref 16)]) (by decide) (zcats_ok _ rfl) (Nat.le_of_ble_eq_true rfl) (zlv_ok _ 0 rfl) (fun G => ?_)
  generalize hQ_ : (fun (r_ : Option Value) (h_ : zc_H) => r_ = none ∧ h_ = hh P (sX5_clear σ)) = Q_
  refine z_aloadr_n dX5_clear_0 rfl ?_
  refine z_iconst dX5_clear_1 k_iconst_0 ?_
  refine z_put (ci := 5) (r := (RX5, TX5, 4)) (j := 1) (σ' := (zu σ 16 (zu (σ 16) 1 (0 : Int32)))) dX5_clear_2 (Nat.le_of_ble_eq_true rfl) (zN rfl) rfl rfl (Nat.le_of_ble_eq_true rfl) fl_X5_15 rfl rfl rfl rfl rfl ?_
  exact z_return dX5_clear_5 rfl (Nat.le_of_ble_eq_true rfl) (Nat.le_of_ble_eq_true rfl) (by rw [← hQ_]; exact ⟨rfl, (by rw [sX5_clear])⟩)

theorem dX5_add_0 : decode cX5_add 0 = .ok (.aload_n 0, 1) := by decide +kernel
theorem dX5_add_1 : decode cX5_add 1 = .ok (.getfield 15, 3) := by decide +kernel
theorem dX5_add_4 : decode cX5_add 4 = .ok (.bipush 12, 2) := by decide +kernel
theorem dX5_add_6 : decode cX5_add 6 = .ok (.if_icmp .ge 23, 3) := by decide +kernel
theorem dX5_add_9 : decode cX5_add 9 = .ok (.aload_n 0, 1) := by decide +kernel
theorem dX5_add_10 : decode cX5_add 10 = .ok (.getfield 9, 3) := by decide +kernel
theorem dX5_add_13 : decode cX5_add 13 = .ok (.aload_n 0, 1) := by decide +kernel
theorem dX5_add_14 : decode cX5_add 14 = .ok (.getfield 15, 3) := by decide +kernel
theorem dX5_add_17 : decode cX5_add 17 = .ok (.iload_n 1, 1) := by decide +kernel
theorem dX5_add_18 : decode cX5_add 18 = .ok (.iastore, 1) := by decide +kernel
theorem dX5_add_19 : decode cX5_add 19 = .ok (.aload_n 0, 1) := by decide +kernel
theorem dX5_add_20 : decode cX5_add 20 = .ok (.dup, 1) := by decide +kernel
theorem dX5_add_21 : decode cX5_add 21 = .ok (.getfield 15, 3) := by decide +kernel
theorem dX5_add_24 : decode cX5_add 24 = .ok (.iconst 1, 1) := by decide +kernel
theorem dX5_add_25 : decode cX5_add 25 = .ok (.iadd, 1) := by decide +kernel
theorem dX5_add_26 : decode cX5_add 26 = .ok (.putfield 15, 3) := by decide +kernel
theorem dX5_add_29 : decode cX5_add 29 = .ok (.return_, 1) := by decide +kernel
def pX5_add (σ : zc_N) : Prop := (((12 : Int32) ≤ ((σ 16) 1) → True) ∧ (¬ (12 : Int32) ≤ ((σ 16) 1) → vp_in ((σ 16) 1) 12))
noncomputable def sX5_add (σ : zc_N) (a1 : Int32) : zc_N := (if (12 : Int32) ≤ ((σ 16) 1) then σ else (zu (zu σ 17 (zu (σ 17) ((σ 16) 1).toNatClampNeg a1)) 16 (zu (σ 16) 1 (((σ 16) 1) + (1 : Int32)))))
set_option maxHeartbeats 1000000 in
theorem ctX5_add (P : zp) (σ : zc_N) (a1 : Int32) (W_ : (pX5_add σ)) : sp mX5_add 0 0 0 [.ref 16, .int a1] (hh P σ) (fun r_ h_ => r_ = none ∧ h_ = hh P (sX5_add σ a1)) := by
  refine sp_of (lv := [some (.ref 16), some (.int a1)]) (by decide) (zcats_ok _ rfl) (Nat.le_of_ble_eq_true rfl) (zlv_ok _ 0 rfl) (fun G => ?_)
  generalize hQ_ : (fun (r_ : Option Value) (h_ : zc_H) => r_ = none ∧ h_ = hh P (sX5_add σ a1)) = Q_
  unfold pX5_add at W_
  refine z_aloadr_n dX5_add_0 rfl ?_
  refine z_get (ci := 5) (r := (RX5, TX5, 4)) (j := 1) (v := .int ((σ 16) 1)) dX5_add_1 (Nat.le_of_ble_eq_true rfl) (zN rfl) rfl rfl (Nat.le_of_ble_eq_true rfl) fl_X5_15 rfl ?_
  refine z_bipush dX5_add_4 k_bipush_12 ?_
  refine z_icmp_ge (tgt := 29) dX5_add_6 (by decide) (fun c_1 => ?_) (fun c_1 => ?_)
  · exact z_return dX5_add_29 rfl (Nat.le_of_ble_eq_true rfl) (Nat.le_of_ble_eq_true rfl) (by rw [← hQ_]; exact ⟨rfl, (by rw [sX5_add]; try simp only [if_pos c_1])⟩)
  · refine z_aloadr_n dX5_add_9 rfl ?_
    refine z_get (ci := 5) (r := (RX5, TX5, 4)) (j := 0) (v := .ref 17) dX5_add_10 (Nat.le_of_ble_eq_true rfl) (zN rfl) rfl rfl (Nat.le_of_ble_eq_true rfl) fl_X5_9 rfl ?_
    refine z_aloadr_n dX5_add_13 rfl ?_
    refine z_get (ci := 5) (r := (RX5, TX5, 4)) (j := 1) (v := .int ((σ 16) 1)) dX5_add_14 (Nat.le_of_ble_eq_true rfl) (zN rfl) rfl rfl (Nat.le_of_ble_eq_true rfl) fl_X5_15 rfl ?_
    refine z_iload_n dX5_add_17 rfl ?_
    refine z_iast (σ' := (zu σ 17 (zu (σ 17) ((σ 16) 1).toNatClampNeg a1))) dX5_add_18 (Nat.le_of_ble_eq_true rfl) (zN rfl) rfl (W_.2 c_1) rfl ?_
    refine z_aloadr_n dX5_add_19 rfl ?_
    refine z_dup dX5_add_20 rfl ?_
    refine z_get (ci := 5) (r := (RX5, TX5, 4)) (j := 1) (v := .int ((σ 16) 1)) dX5_add_21 (Nat.le_of_ble_eq_true rfl) (zN rfl) rfl rfl (Nat.le_of_ble_eq_true rfl) fl_X5_15 (congrArg Value.int (congrFun (zu_ne _ _ (by decide)) _)) ?_
    refine z_iconst dX5_add_24 k_iconst_1 ?_
    refine z_iadd (v := (((σ 16) 1) + (1 : Int32))) dX5_add_25 rfl ?_
    refine z_put (ci := 5) (r := (RX5, TX5, 4)) (j := 1) (σ' := (zu (zu σ 17 (zu (σ 17) ((σ 16) 1).toNatClampNeg a1)) 16 (zu (σ 16) 1 (((σ 16) 1) + (1 : Int32))))) dX5_add_26 (Nat.le_of_ble_eq_true rfl) (zN rfl) rfl rfl (Nat.le_of_ble_eq_true rfl) fl_X5_15 rfl rfl rfl rfl (congrArg (fun g_ => zu _ _ (zu g_ _ _)) (zu_ne _ _ (by decide))) ?_
    exact z_return dX5_add_29 rfl (Nat.le_of_ble_eq_true rfl) (Nat.le_of_ble_eq_true rfl) (by rw [← hQ_]; exact ⟨rfl, (by rw [sX5_add]; try simp only [if_neg c_1])⟩)

theorem dX0_near_0 : decode cX0_near 0 = .ok (.iload_n 1, 1) := by decide +kernel
theorem dX0_near_1 : decode cX0_near 1 = .ok (.iconst 3, 1) := by decide +kernel
theorem dX0_near_2 : decode cX0_near 2 = .ok (.iadd, 1) := by decide +kernel
theorem dX0_near_3 : decode cX0_near 3 = .ok (.istore 4, 2) := by decide +kernel
theorem dX0_near_5 : decode cX0_near 5 = .ok (.iload_n 2, 1) := by decide +kernel
theorem dX0_near_6 : decode cX0_near 6 = .ok (.iconst 3, 1) := by decide +kernel
theorem dX0_near_7 : decode cX0_near 7 = .ok (.iadd, 1) := by decide +kernel
theorem dX0_near_8 : decode cX0_near 8 = .ok (.istore 5, 2) := by decide +kernel
theorem dX0_near_10 : decode cX0_near 10 = .ok (.iload 4, 2) := by decide +kernel
theorem dX0_near_12 : decode cX0_near 12 = .ok (.ifCond .lt 28, 3) := by decide +kernel
theorem dX0_near_15 : decode cX0_near 15 = .ok (.iload 4, 2) := by decide +kernel
theorem dX0_near_17 : decode cX0_near 17 = .ok (.aload_n 0, 1) := by decide +kernel
theorem dX0_near_18 : decode cX0_near 18 = .ok (.getfield 9, 3) := by decide +kernel
theorem dX0_near_21 : decode cX0_near 21 = .ok (.arraylength, 1) := by decide +kernel
theorem dX0_near_22 : decode cX0_near 22 = .ok (.if_icmp .ge 18, 3) := by decide +kernel
theorem dX0_near_25 : decode cX0_near 25 = .ok (.iload 5, 2) := by decide +kernel
theorem dX0_near_27 : decode cX0_near 27 = .ok (.ifCond .lt 13, 3) := by decide +kernel
theorem dX0_near_30 : decode cX0_near 30 = .ok (.iload 5, 2) := by decide +kernel
theorem dX0_near_32 : decode cX0_near 32 = .ok (.aload_n 0, 1) := by decide +kernel
theorem dX0_near_33 : decode cX0_near 33 = .ok (.getfield 15, 3) := by decide +kernel
theorem dX0_near_36 : decode cX0_near 36 = .ok (.arraylength, 1) := by decide +kernel
theorem dX0_near_37 : decode cX0_near 37 = .ok (.if_icmp .lt 5, 3) := by decide +kernel
theorem dX0_near_40 : decode cX0_near 40 = .ok (.iconst 0, 1) := by decide +kernel
theorem dX0_near_41 : decode cX0_near 41 = .ok (.ireturn, 1) := by decide +kernel
theorem dX0_near_42 : decode cX0_near 42 = .ok (.aload_n 0, 1) := by decide +kernel
theorem dX0_near_43 : decode cX0_near 43 = .ok (.getfield 9, 3) := by decide +kernel
theorem dX0_near_46 : decode cX0_near 46 = .ok (.iload 4, 2) := by decide +kernel
theorem dX0_near_48 : decode cX0_near 48 = .ok (.iaload, 1) := by decide +kernel
theorem dX0_near_49 : decode cX0_near 49 = .ok (.aload_n 0, 1) := by decide +kernel
theorem dX0_near_50 : decode cX0_near 50 = .ok (.getfield 15, 3) := by decide +kernel
theorem dX0_near_53 : decode cX0_near 53 = .ok (.iload 5, 2) := by decide +kernel
theorem dX0_near_55 : decode cX0_near 55 = .ok (.iaload, 1) := by decide +kernel
theorem dX0_near_56 : decode cX0_near 56 = .ok (.iand, 1) := by decide +kernel
theorem dX0_near_57 : decode cX0_near 57 = .ok (.aload_n 0, 1) := by decide +kernel
theorem dX0_near_58 : decode cX0_near 58 = .ok (.getfield 18, 3) := by decide +kernel
theorem dX0_near_61 : decode cX0_near 61 = .ok (.iload_n 3, 1) := by decide +kernel
theorem dX0_near_62 : decode cX0_near 62 = .ok (.iaload, 1) := by decide +kernel
theorem dX0_near_63 : decode cX0_near 63 = .ok (.iand, 1) := by decide +kernel
theorem dX0_near_64 : decode cX0_near 64 = .ok (.ireturn, 1) := by decide +kernel
def pX0_near (a1 : Int32) (a2 : Int32) (a3 : Int32) : Prop := (((a1 + (3 : Int32)) < (0 : Int32) → True) ∧ (¬ (a1 + (3 : Int32)) < (0 : Int32) → (((22 : Int32) ≤ (a1 + (3 : Int32)) → True) ∧ (¬ (22 : Int32) ≤ (a1 + (3 : Int32)) → (((a2 + (3 : Int32)) < (0 : Int32) → True) ∧ (¬ (a2 + (3 : Int32)) < (0 : Int32) → (((a2 + (3 : Int32)) < (22 : Int32) → (vp_in (a1 + (3 : Int32)) 22 ∧ (vp_in (a2 + (3 : Int32)) 22 ∧ vp_in a3 3))) ∧ (¬ (a2 + (3 : Int32)) < (22 : Int32) → True))))))))
noncomputable def rX0_near (σ : zc_N) (a1 : Int32) (a2 : Int32) (a3 : Int32) : Int32 := (if (a1 + (3 : Int32)) < (0 : Int32) then (0 : Int32) else (if (22 : Int32) ≤ (a1 + (3 : Int32)) then (0 : Int32) else (if (a2 + (3 : Int32)) < (0 : Int32) then (0 : Int32) else (if (a2 + (3 : Int32)) < (22 : Int32) then ((((σ 13) (a1 + (3 : Int32)).toNatClampNeg) &&& ((σ 14) (a2 + (3 : Int32)).toNatClampNeg)) &&& ((σ 15) a3.toNatClampNeg)) else (0 : Int32)))))
set_option maxHeartbeats 1000000 in
theorem ctX0_near (P : zp) (σ : zc_N) (a1 : Int32) (a2 : Int32) (a3 : Int32) (W_ : (pX0_near a1 a2 a3)) : sp mX0_near 0 0 0 [.ref 12, .int a1, .int a2, .int a3] (hh P σ) (fun r_ h_ => r_ = some (.int (rX0_near σ a1 a2 a3)) ∧ h_ = hh P σ) := by
  refine sp_of (lv := [some (.ref 12), some (.int a1), some (.int a2), some (.int a3), none, none]) (by decide) (zcats_ok _ rfl) (Nat.le_of_ble_eq_true rfl) (zlv_ok _ 2 rfl) (fun G => ?_)
  generalize hQ_ : (fun (r_ : Option Value) (h_ : zc_H) => r_ = some (.int (rX0_near σ a1 a2 a3)) ∧ h_ = hh P σ) = Q_
  unfold pX0_near at W_
  refine z_iload_n dX0_near_0 rfl ?_
  refine z_iconst dX0_near_1 k_iconst_3 ?_
  refine z_iadd (v := (a1 + (3 : Int32))) dX0_near_2 rfl ?_
  refine z_istore (lv' := [some (.ref 12), some (.int a1), some (.int a2), some (.int a3), some (.int (a1 + (3 : Int32))), none]) dX0_near_3 (Nat.le_of_ble_eq_true rfl) rfl ?_
  refine z_iload_n dX0_near_5 rfl ?_
  refine z_iconst dX0_near_6 k_iconst_3 ?_
  refine z_iadd (v := (a2 + (3 : Int32))) dX0_near_7 rfl ?_
  refine z_istore (lv' := [some (.ref 12), some (.int a1), some (.int a2), some (.int a3), some (.int (a1 + (3 : Int32))), some (.int (a2 + (3 : Int32)))]) dX0_near_8 (Nat.le_of_ble_eq_true rfl) rfl ?_
  refine z_iload dX0_near_10 rfl ?_
  refine z_if_lt (tgt := 40) dX0_near_12 (by decide) (fun c_1 => ?_) (fun c_1 => ?_)
  · refine z_iconst dX0_near_40 k_iconst_0 ?_
    exact z_ireturn dX0_near_41 rfl rfl (Nat.le_of_ble_eq_true rfl) (Nat.le_of_ble_eq_true rfl) (by rw [← hQ_]; exact ⟨(by rw [rX0_near]; try simp only [if_pos c_1]), rfl⟩)
  · refine z_iload dX0_near_15 rfl ?_
    refine z_aloadr_n dX0_near_17 rfl ?_
    refine z_get (ci := 0) (r := (RX0, TX0, 3)) (j := 0) (v := .ref 13) dX0_near_18 (Nat.le_of_ble_eq_true rfl) (zN rfl) rfl rfl (Nat.le_of_ble_eq_true rfl) fl_X0_9 rfl ?_
    refine z_alen0 (v := (22 : Int32)) dX0_near_21 (zN rfl) rfl rfl ?_
    refine z_icmp_ge (tgt := 40) dX0_near_22 (by decide) (fun c_2 => ?_) (fun c_2 => ?_)
    · refine z_iconst dX0_near_40 k_iconst_0 ?_
      exact z_ireturn dX0_near_41 rfl rfl (Nat.le_of_ble_eq_true rfl) (Nat.le_of_ble_eq_true rfl) (by rw [← hQ_]; exact ⟨(by rw [rX0_near]; try simp only [if_neg c_1, if_pos c_2]), rfl⟩)
    · refine z_iload dX0_near_25 rfl ?_
      refine z_if_lt (tgt := 40) dX0_near_27 (by decide) (fun c_3 => ?_) (fun c_3 => ?_)
      · refine z_iconst dX0_near_40 k_iconst_0 ?_
        exact z_ireturn dX0_near_41 rfl rfl (Nat.le_of_ble_eq_true rfl) (Nat.le_of_ble_eq_true rfl) (by rw [← hQ_]; exact ⟨(by rw [rX0_near]; try simp only [if_neg c_1, if_neg c_2, if_pos c_3]), rfl⟩)
      · refine z_iload dX0_near_30 rfl ?_
        refine z_aloadr_n dX0_near_32 rfl ?_
        refine z_get (ci := 0) (r := (RX0, TX0, 3)) (j := 1) (v := .ref 14) dX0_near_33 (Nat.le_of_ble_eq_true rfl) (zN rfl) rfl rfl (Nat.le_of_ble_eq_true rfl) fl_X0_15 rfl ?_
        refine z_alen0 (v := (22 : Int32)) dX0_near_36 (zN rfl) rfl rfl ?_
        refine z_icmp_lt (tgt := 42) dX0_near_37 (by decide) (fun c_4 => ?_) (fun c_4 => ?_)
        · refine z_aloadr_n dX0_near_42 rfl ?_
          refine z_get (ci := 0) (r := (RX0, TX0, 3)) (j := 0) (v := .ref 13) dX0_near_43 (Nat.le_of_ble_eq_true rfl) (zN rfl) rfl rfl (Nat.le_of_ble_eq_true rfl) fl_X0_9 rfl ?_
          refine z_iload dX0_near_46 rfl ?_
          refine z_iald (v := ((σ 13) (a1 + (3 : Int32)).toNatClampNeg)) dX0_near_48 (zN rfl) rfl (((((W_.2 c_1).2 c_2).2 c_3).1 c_4).1) rfl ?_
          refine z_aloadr_n dX0_near_49 rfl ?_
          refine z_get (ci := 0) (r := (RX0, TX0, 3)) (j := 1) (v := .ref 14) dX0_near_50 (Nat.le_of_ble_eq_true rfl) (zN rfl) rfl rfl (Nat.le_of_ble_eq_true rfl) fl_X0_15 rfl ?_
          refine z_iload dX0_near_53 rfl ?_
          refine z_iald (v := ((σ 14) (a2 + (3 : Int32)).toNatClampNeg)) dX0_near_55 (zN rfl) rfl (((((W_.2 c_1).2 c_2).2 c_3).1 c_4).2.1) rfl ?_
          refine z_iand (v := (((σ 13) (a1 + (3 : Int32)).toNatClampNeg) &&& ((σ 14) (a2 + (3 : Int32)).toNatClampNeg))) dX0_near_56 rfl ?_
          refine z_aloadr_n dX0_near_57 rfl ?_
          refine z_get (ci := 0) (r := (RX0, TX0, 3)) (j := 2) (v := .ref 15) dX0_near_58 (Nat.le_of_ble_eq_true rfl) (zN rfl) rfl rfl (Nat.le_of_ble_eq_true rfl) fl_X0_18 rfl ?_
          refine z_iload_n dX0_near_61 rfl ?_
          refine z_iald (v := ((σ 15) a3.toNatClampNeg)) dX0_near_62 (zN rfl) rfl (((((W_.2 c_1).2 c_2).2 c_3).1 c_4).2.2) rfl ?_
          refine z_iand (v := ((((σ 13) (a1 + (3 : Int32)).toNatClampNeg) &&& ((σ 14) (a2 + (3 : Int32)).toNatClampNeg)) &&& ((σ 15) a3.toNatClampNeg))) dX0_near_63 rfl ?_
          exact z_ireturn dX0_near_64 rfl rfl (Nat.le_of_ble_eq_true rfl) (Nat.le_of_ble_eq_true rfl) (by rw [← hQ_]; exact ⟨(by rw [rX0_near]; try simp only [if_neg c_1, if_neg c_2, if_neg c_3, if_pos c_4]), rfl⟩)
        · refine z_iconst dX0_near_40 k_iconst_0 ?_
          exact z_ireturn dX0_near_41 rfl rfl (Nat.le_of_ble_eq_true rfl) (Nat.le_of_ble_eq_true rfl) (by rw [← hQ_]; exact ⟨(by rw [rX0_near]; try simp only [if_neg c_1, if_neg c_2, if_neg c_3, if_neg c_4]), rfl⟩)

theorem dX6_holds_0 : decode cX6_holds 0 = .ok (.iload_n 1, 1) := by decide +kernel
theorem dX6_holds_1 : decode cX6_holds 1 = .ok (.aload_n 0, 1) := by decide +kernel
theorem dX6_holds_2 : decode cX6_holds 2 = .ok (.getfield 9, 3) := by decide +kernel
theorem dX6_holds_5 : decode cX6_holds 5 = .ok (.if_icmp .lt 31, 3) := by decide +kernel
theorem dX6_holds_8 : decode cX6_holds 8 = .ok (.iload_n 1, 1) := by decide +kernel
theorem dX6_holds_9 : decode cX6_holds 9 = .ok (.aload_n 0, 1) := by decide +kernel
theorem dX6_holds_10 : decode cX6_holds 10 = .ok (.getfield 18, 3) := by decide +kernel
theorem dX6_holds_13 : decode cX6_holds 13 = .ok (.if_icmp .gt 23, 3) := by decide +kernel
theorem dX6_holds_16 : decode cX6_holds 16 = .ok (.iload_n 2, 1) := by decide +kernel
theorem dX6_holds_17 : decode cX6_holds 17 = .ok (.aload_n 0, 1) := by decide +kernel
theorem dX6_holds_18 : decode cX6_holds 18 = .ok (.getfield 15, 3) := by decide +kernel
theorem dX6_holds_21 : decode cX6_holds 21 = .ok (.if_icmp .lt 15, 3) := by decide +kernel
theorem dX6_holds_24 : decode cX6_holds 24 = .ok (.iload_n 2, 1) := by decide +kernel
theorem dX6_holds_25 : decode cX6_holds 25 = .ok (.aload_n 0, 1) := by decide +kernel
theorem dX6_holds_26 : decode cX6_holds 26 = .ok (.getfield 21, 3) := by decide +kernel
theorem dX6_holds_29 : decode cX6_holds 29 = .ok (.if_icmp .gt 7, 3) := by decide +kernel
theorem dX6_holds_32 : decode cX6_holds 32 = .ok (.iconst 1, 1) := by decide +kernel
theorem dX6_holds_33 : decode cX6_holds 33 = .ok (.goto 4, 3) := by decide +kernel
theorem dX6_holds_36 : decode cX6_holds 36 = .ok (.iconst 0, 1) := by decide +kernel
theorem dX6_holds_37 : decode cX6_holds 37 = .ok (.ireturn, 1) := by decide +kernel
noncomputable def rX6_holds_t (σ : zc_N) (a1 : Int32) (a2 : Int32) : Int32 := (if a1 < ((σ 21) 0) then (0 : Int32) else (if ((σ 21) 2) < a1 then (0 : Int32) else (if a2 < ((σ 21) 1) then (0 : Int32) else (if ((σ 21) 3) < a2 then (0 : Int32) else (1 : Int32)))))
set_option maxHeartbeats 1000000 in
theorem ctX6_holds_t (P : zp) (σ : zc_N) (a1 : Int32) (a2 : Int32) : sp mX6_holds 0 0 0 [.ref 21, .int a1, .int a2] (hh P σ) (fun r_ h_ => r_ = some (.int (rX6_holds_t σ a1 a2)) ∧ h_ = hh P σ) := by
  refine sp_of (lv := [some (.ref 21), some (.int a1), some (.int a2)]) (by decide) (zcats_ok _ rfl) (Nat.le_of_ble_eq_true rfl) (zlv_ok _ 0 rfl) (fun G => ?_)
  generalize hQ_ : (fun (r_ : Option Value) (h_ : zc_H) => r_ = some (.int (rX6_holds_t σ a1 a2)) ∧ h_ = hh P σ) = Q_
  refine z_iload_n dX6_holds_0 rfl ?_
  refine z_aloadr_n dX6_holds_1 rfl ?_
  refine z_get (ci := 6) (r := (RX6, TX6, 4)) (j := 0) (v := .int ((σ 21) 0)) dX6_holds_2 (Nat.le_of_ble_eq_true rfl) (zN rfl) rfl rfl (Nat.le_of_ble_eq_true rfl) fl_X6_9 rfl ?_
  have K_1 : zz G mX6_holds 0 0 0 Q_ 37 [none, none, none] [.int (if a1 < ((σ 21) 0) then (0 : Int32) else (if ((σ 21) 2) < a1 then (0 : Int32) else (if a2 < ((σ 21) 1) then (0 : Int32) else (if ((σ 21) 3) < a2 then (0 : Int32) else (1 : Int32)))))] (hh P σ) 0 0 := by
    exact z_ireturn dX6_holds_37 rfl (by (repeat' split) <;> rfl) (Nat.le_of_ble_eq_true rfl) (Nat.le_of_ble_eq_true rfl) (by rw [← hQ_]; exact ⟨(by rw [rX6_holds_t]), rfl⟩)
  refine z_icmp_lt (tgt := 36) dX6_holds_5 (by decide) (fun c_1 => ?_) (fun c_1 => ?_)
  · refine z_iconst dX6_holds_36 k_iconst_0 ?_
    refine zz_sub (lv' := [none, none, none]) trivial ?_
    rw [show (if a1 < ((σ 21) 0) then (0 : Int32) else (if ((σ 21) 2) < a1 then (0 : Int32) else (if a2 < ((σ 21) 1) then (0 : Int32) else (if ((σ 21) 3) < a2 then (0 : Int32) else (1 : Int32))))) = (0 : Int32) from (if_pos c_1)] at K_1
    exact K_1
  · refine z_iload_n dX6_holds_8 rfl ?_
    refine z_aloadr_n dX6_holds_9 rfl ?_
    refine z_get (ci := 6) (r := (RX6, TX6, 4)) (j := 2) (v := .int ((σ 21) 2)) dX6_holds_10 (Nat.le_of_ble_eq_true rfl) (zN rfl) rfl rfl (Nat.le_of_ble_eq_true rfl) fl_X6_18 rfl ?_
    refine z_icmp_gt (tgt := 36) dX6_holds_13 (by decide) (fun c_2 => ?_) (fun c_2 => ?_)
    · refine z_iconst dX6_holds_36 k_iconst_0 ?_
      refine zz_sub (lv' := [none, none, none]) trivial ?_
      rw [show (if a1 < ((σ 21) 0) then (0 : Int32) else (if ((σ 21) 2) < a1 then (0 : Int32) else (if a2 < ((σ 21) 1) then (0 : Int32) else (if ((σ 21) 3) < a2 then (0 : Int32) else (1 : Int32))))) = (0 : Int32) from ((if_neg c_1).trans (if_pos c_2))] at K_1
      exact K_1
    · refine z_iload_n dX6_holds_16 rfl ?_
      refine z_aloadr_n dX6_holds_17 rfl ?_
      refine z_get (ci := 6) (r := (RX6, TX6, 4)) (j := 1) (v := .int ((σ 21) 1)) dX6_holds_18 (Nat.le_of_ble_eq_true rfl) (zN rfl) rfl rfl (Nat.le_of_ble_eq_true rfl) fl_X6_15 rfl ?_
      refine z_icmp_lt (tgt := 36) dX6_holds_21 (by decide) (fun c_3 => ?_) (fun c_3 => ?_)
      · refine z_iconst dX6_holds_36 k_iconst_0 ?_
        refine zz_sub (lv' := [none, none, none]) trivial ?_
        rw [show (if a1 < ((σ 21) 0) then (0 : Int32) else (if ((σ 21) 2) < a1 then (0 : Int32) else (if a2 < ((σ 21) 1) then (0 : Int32) else (if ((σ 21) 3) < a2 then (0 : Int32) else (1 : Int32))))) = (0 : Int32) from ((if_neg c_1).trans ((if_neg c_2).trans (if_pos c_3)))] at K_1
        exact K_1
      · refine z_iload_n dX6_holds_24 rfl ?_
        refine z_aloadr_n dX6_holds_25 rfl ?_
        refine z_get (ci := 6) (r := (RX6, TX6, 4)) (j := 3) (v := .int ((σ 21) 3)) dX6_holds_26 (Nat.le_of_ble_eq_true rfl) (zN rfl) rfl rfl (Nat.le_of_ble_eq_true rfl) fl_X6_21 rfl ?_
        refine z_icmp_gt (tgt := 36) dX6_holds_29 (by decide) (fun c_4 => ?_) (fun c_4 => ?_)
        · refine z_iconst dX6_holds_36 k_iconst_0 ?_
          refine zz_sub (lv' := [none, none, none]) trivial ?_
          rw [show (if a1 < ((σ 21) 0) then (0 : Int32) else (if ((σ 21) 2) < a1 then (0 : Int32) else (if a2 < ((σ 21) 1) then (0 : Int32) else (if ((σ 21) 3) < a2 then (0 : Int32) else (1 : Int32))))) = (0 : Int32) from ((if_neg c_1).trans ((if_neg c_2).trans ((if_neg c_3).trans (if_pos c_4))))] at K_1
          exact K_1
        · refine z_iconst dX6_holds_32 k_iconst_1 ?_
          refine z_goto (tgt := 37) dX6_holds_33 (by decide) ?_
          refine zz_sub (lv' := [none, none, none]) trivial ?_
          rw [show (if a1 < ((σ 21) 0) then (0 : Int32) else (if ((σ 21) 2) < a1 then (0 : Int32) else (if a2 < ((σ 21) 1) then (0 : Int32) else (if ((σ 21) 3) < a2 then (0 : Int32) else (1 : Int32))))) = (1 : Int32) from ((if_neg c_1).trans ((if_neg c_2).trans ((if_neg c_3).trans (if_neg c_4))))] at K_1
          exact K_1


noncomputable def rX6_holds_p (σ : zc_N) (i1 : Nat) (a2 : Int32) (a3 : Int32) : Int32 := (if a2 < ((σ (pT i1)) 0) then (0 : Int32) else (if ((σ (pT i1)) 2) < a2 then (0 : Int32) else (if a3 < ((σ (pT i1)) 1) then (0 : Int32) else (if ((σ (pT i1)) 3) < a3 then (0 : Int32) else (1 : Int32)))))
set_option maxHeartbeats 1000000 in
theorem ctX6_holds_p (P : zp) (σ : zc_N) (i1 : Nat) (h1 : i1 < P.2.1) (a2 : Int32) (a3 : Int32) : sp mX6_holds 0 0 0 [.ref (pT i1), .int a2, .int a3] (hh P σ) (fun r_ h_ => r_ = some (.int (rX6_holds_p σ i1 a2 a3)) ∧ h_ = hh P σ) := by
  refine sp_of (lv := [some (.ref (pT i1)), some (.int a2), some (.int a3)]) (by decide) (zcats_ok _ rfl) (Nat.le_of_ble_eq_true rfl) (zlv_ok _ 0 rfl) (fun G => ?_)
  generalize hQ_ : (fun (r_ : Option Value) (h_ : zc_H) => r_ = some (.int (rX6_holds_p σ i1 a2 a3)) ∧ h_ = hh P σ) = Q_
  refine z_iload_n dX6_holds_0 rfl ?_
  refine z_aloadr_n dX6_holds_1 rfl ?_
  refine z_get (ci := 6) (r := (RX6, TX6, 4)) (j := 0) (v := .int ((σ (pT i1)) 0)) dX6_holds_2 (z3T i1) (zNT h1) (SH_pT P i1) rfl (Nat.le_of_ble_eq_true rfl) fl_X6_9 rfl ?_
  have K_1 : zz G mX6_holds 0 0 0 Q_ 37 [none, none, none] [.int (if a2 < ((σ (pT i1)) 0) then (0 : Int32) else (if ((σ (pT i1)) 2) < a2 then (0 : Int32) else (if a3 < ((σ (pT i1)) 1) then (0 : Int32) else (if ((σ (pT i1)) 3) < a3 then (0 : Int32) else (1 : Int32)))))] (hh P σ) 0 0 := by
    exact z_ireturn dX6_holds_37 rfl (by (repeat' split) <;> rfl) (Nat.le_of_ble_eq_true rfl) (Nat.le_of_ble_eq_true rfl) (by rw [← hQ_]; exact ⟨(by rw [rX6_holds_p]), rfl⟩)
  refine z_icmp_lt (tgt := 36) dX6_holds_5 (by decide) (fun c_1 => ?_) (fun c_1 => ?_)
  · refine z_iconst dX6_holds_36 k_iconst_0 ?_
    refine zz_sub (lv' := [none, none, none]) trivial ?_
    rw [show (if a2 < ((σ (pT i1)) 0) then (0 : Int32) else (if ((σ (pT i1)) 2) < a2 then (0 : Int32) else (if a3 < ((σ (pT i1)) 1) then (0 : Int32) else (if ((σ (pT i1)) 3) < a3 then (0 : Int32) else (1 : Int32))))) = (0 : Int32) from (if_pos c_1)] at K_1
    exact K_1
  · refine z_iload_n dX6_holds_8 rfl ?_
    refine z_aloadr_n dX6_holds_9 rfl ?_
    refine z_get (ci := 6) (r := (RX6, TX6, 4)) (j := 2) (v := .int ((σ (pT i1)) 2)) dX6_holds_10 (z3T i1) (zNT h1) (SH_pT P i1) rfl (Nat.le_of_ble_eq_true rfl) fl_X6_18 rfl ?_
    refine z_icmp_gt (tgt := 36) dX6_holds_13 (by decide) (fun c_2 => ?_) (fun c_2 => ?_)
    · refine z_iconst dX6_holds_36 k_iconst_0 ?_
      refine zz_sub (lv' := [none, none, none]) trivial ?_
      rw [show (if a2 < ((σ (pT i1)) 0) then (0 : Int32) else (if ((σ (pT i1)) 2) < a2 then (0 : Int32) else (if a3 < ((σ (pT i1)) 1) then (0 : Int32) else (if ((σ (pT i1)) 3) < a3 then (0 : Int32) else (1 : Int32))))) = (0 : Int32) from ((if_neg c_1).trans (if_pos c_2))] at K_1
      exact K_1
    · refine z_iload_n dX6_holds_16 rfl ?_
      refine z_aloadr_n dX6_holds_17 rfl ?_
      refine z_get (ci := 6) (r := (RX6, TX6, 4)) (j := 1) (v := .int ((σ (pT i1)) 1)) dX6_holds_18 (z3T i1) (zNT h1) (SH_pT P i1) rfl (Nat.le_of_ble_eq_true rfl) fl_X6_15 rfl ?_
      refine z_icmp_lt (tgt := 36) dX6_holds_21 (by decide) (fun c_3 => ?_) (fun c_3 => ?_)
      · refine z_iconst dX6_holds_36 k_iconst_0 ?_
        refine zz_sub (lv' := [none, none, none]) trivial ?_
        rw [show (if a2 < ((σ (pT i1)) 0) then (0 : Int32) else (if ((σ (pT i1)) 2) < a2 then (0 : Int32) else (if a3 < ((σ (pT i1)) 1) then (0 : Int32) else (if ((σ (pT i1)) 3) < a3 then (0 : Int32) else (1 : Int32))))) = (0 : Int32) from ((if_neg c_1).trans ((if_neg c_2).trans (if_pos c_3)))] at K_1
        exact K_1
      · refine z_iload_n dX6_holds_24 rfl ?_
        refine z_aloadr_n dX6_holds_25 rfl ?_
        refine z_get (ci := 6) (r := (RX6, TX6, 4)) (j := 3) (v := .int ((σ (pT i1)) 3)) dX6_holds_26 (z3T i1) (zNT h1) (SH_pT P i1) rfl (Nat.le_of_ble_eq_true rfl) fl_X6_21 rfl ?_
        refine z_icmp_gt (tgt := 36) dX6_holds_29 (by decide) (fun c_4 => ?_) (fun c_4 => ?_)
        · refine z_iconst dX6_holds_36 k_iconst_0 ?_
          refine zz_sub (lv' := [none, none, none]) trivial ?_
          rw [show (if a2 < ((σ (pT i1)) 0) then (0 : Int32) else (if ((σ (pT i1)) 2) < a2 then (0 : Int32) else (if a3 < ((σ (pT i1)) 1) then (0 : Int32) else (if ((σ (pT i1)) 3) < a3 then (0 : Int32) else (1 : Int32))))) = (0 : Int32) from ((if_neg c_1).trans ((if_neg c_2).trans ((if_neg c_3).trans (if_pos c_4))))] at K_1
          exact K_1
        · refine z_iconst dX6_holds_32 k_iconst_1 ?_
          refine z_goto (tgt := 37) dX6_holds_33 (by decide) ?_
          refine zz_sub (lv' := [none, none, none]) trivial ?_
          rw [show (if a2 < ((σ (pT i1)) 0) then (0 : Int32) else (if ((σ (pT i1)) 2) < a2 then (0 : Int32) else (if a3 < ((σ (pT i1)) 1) then (0 : Int32) else (if ((σ (pT i1)) 3) < a3 then (0 : Int32) else (1 : Int32))))) = (1 : Int32) from ((if_neg c_1).trans ((if_neg c_2).trans ((if_neg c_3).trans (if_neg c_4))))] at K_1
          exact K_1

theorem dX6_becomeTurned_0 : decode cX6_becomeTurned 0 = .ok (.aload_n 1, 1) := by decide +kernel
theorem dX6_becomeTurned_1 : decode cX6_becomeTurned 1 = .ok (.getfield 9, 3) := by decide +kernel
theorem dX6_becomeTurned_4 : decode cX6_becomeTurned 4 = .ok (.aload_n 1, 1) := by decide +kernel
theorem dX6_becomeTurned_5 : decode cX6_becomeTurned 5 = .ok (.getfield 15, 3) := by decide +kernel
theorem dX6_becomeTurned_8 : decode cX6_becomeTurned 8 = .ok (.iload_n 2, 1) := by decide +kernel
theorem dX6_becomeTurned_9 : decode cX6_becomeTurned 9 = .ok (.invokestatic 24, 3) := by decide +kernel
theorem dX6_becomeTurned_12 : decode cX6_becomeTurned 12 = .ok (.istore_n 3, 1) := by decide +kernel
theorem dX6_becomeTurned_13 : decode cX6_becomeTurned 13 = .ok (.aload_n 1, 1) := by decide +kernel
theorem dX6_becomeTurned_14 : decode cX6_becomeTurned 14 = .ok (.getfield 18, 3) := by decide +kernel
theorem dX6_becomeTurned_17 : decode cX6_becomeTurned 17 = .ok (.aload_n 1, 1) := by decide +kernel
theorem dX6_becomeTurned_18 : decode cX6_becomeTurned 18 = .ok (.getfield 21, 3) := by decide +kernel
theorem dX6_becomeTurned_21 : decode cX6_becomeTurned 21 = .ok (.iload_n 2, 1) := by decide +kernel
theorem dX6_becomeTurned_22 : decode cX6_becomeTurned 22 = .ok (.invokestatic 24, 3) := by decide +kernel
theorem dX6_becomeTurned_25 : decode cX6_becomeTurned 25 = .ok (.istore 4, 2) := by decide +kernel
theorem dX6_becomeTurned_27 : decode cX6_becomeTurned 27 = .ok (.aload_n 1, 1) := by decide +kernel
theorem dX6_becomeTurned_28 : decode cX6_becomeTurned 28 = .ok (.getfield 9, 3) := by decide +kernel
theorem dX6_becomeTurned_31 : decode cX6_becomeTurned 31 = .ok (.aload_n 1, 1) := by decide +kernel
theorem dX6_becomeTurned_32 : decode cX6_becomeTurned 32 = .ok (.getfield 15, 3) := by decide +kernel
theorem dX6_becomeTurned_35 : decode cX6_becomeTurned 35 = .ok (.iload_n 2, 1) := by decide +kernel
theorem dX6_becomeTurned_36 : decode cX6_becomeTurned 36 = .ok (.invokestatic 28, 3) := by decide +kernel
theorem dX6_becomeTurned_39 : decode cX6_becomeTurned 39 = .ok (.istore 5, 2) := by decide +kernel
theorem dX6_becomeTurned_41 : decode cX6_becomeTurned 41 = .ok (.aload_n 1, 1) := by decide +kernel
theorem dX6_becomeTurned_42 : decode cX6_becomeTurned 42 = .ok (.getfield 18, 3) := by decide +kernel
theorem dX6_becomeTurned_45 : decode cX6_becomeTurned 45 = .ok (.aload_n 1, 1) := by decide +kernel
theorem dX6_becomeTurned_46 : decode cX6_becomeTurned 46 = .ok (.getfield 21, 3) := by decide +kernel
theorem dX6_becomeTurned_49 : decode cX6_becomeTurned 49 = .ok (.iload_n 2, 1) := by decide +kernel
theorem dX6_becomeTurned_50 : decode cX6_becomeTurned 50 = .ok (.invokestatic 28, 3) := by decide +kernel
theorem dX6_becomeTurned_53 : decode cX6_becomeTurned 53 = .ok (.istore 6, 2) := by decide +kernel
theorem dX6_becomeTurned_55 : decode cX6_becomeTurned 55 = .ok (.aload_n 0, 1) := by decide +kernel
theorem dX6_becomeTurned_56 : decode cX6_becomeTurned 56 = .ok (.iload_n 3, 1) := by decide +kernel
theorem dX6_becomeTurned_57 : decode cX6_becomeTurned 57 = .ok (.iload 4, 2) := by decide +kernel
theorem dX6_becomeTurned_59 : decode cX6_becomeTurned 59 = .ok (.invokestatic 31, 3) := by decide +kernel
theorem dX6_becomeTurned_62 : decode cX6_becomeTurned 62 = .ok (.putfield 9, 3) := by decide +kernel
theorem dX6_becomeTurned_65 : decode cX6_becomeTurned 65 = .ok (.aload_n 0, 1) := by decide +kernel
theorem dX6_becomeTurned_66 : decode cX6_becomeTurned 66 = .ok (.iload_n 3, 1) := by decide +kernel
theorem dX6_becomeTurned_67 : decode cX6_becomeTurned 67 = .ok (.iload 4, 2) := by decide +kernel
theorem dX6_becomeTurned_69 : decode cX6_becomeTurned 69 = .ok (.invokestatic 37, 3) := by decide +kernel
theorem dX6_becomeTurned_72 : decode cX6_becomeTurned 72 = .ok (.putfield 18, 3) := by decide +kernel
theorem dX6_becomeTurned_75 : decode cX6_becomeTurned 75 = .ok (.aload_n 0, 1) := by decide +kernel
theorem dX6_becomeTurned_76 : decode cX6_becomeTurned 76 = .ok (.iload 5, 2) := by decide +kernel
theorem dX6_becomeTurned_78 : decode cX6_becomeTurned 78 = .ok (.iload 6, 2) := by decide +kernel
theorem dX6_becomeTurned_80 : decode cX6_becomeTurned 80 = .ok (.invokestatic 31, 3) := by decide +kernel
theorem dX6_becomeTurned_83 : decode cX6_becomeTurned 83 = .ok (.putfield 15, 3) := by decide +kernel
theorem dX6_becomeTurned_86 : decode cX6_becomeTurned 86 = .ok (.aload_n 0, 1) := by decide +kernel
theorem dX6_becomeTurned_87 : decode cX6_becomeTurned 87 = .ok (.iload 5, 2) := by decide +kernel
theorem dX6_becomeTurned_89 : decode cX6_becomeTurned 89 = .ok (.iload 6, 2) := by decide +kernel
theorem dX6_becomeTurned_91 : decode cX6_becomeTurned 91 = .ok (.invokestatic 37, 3) := by decide +kernel
theorem dX6_becomeTurned_94 : decode cX6_becomeTurned 94 = .ok (.putfield 21, 3) := by decide +kernel
theorem dX6_becomeTurned_97 : decode cX6_becomeTurned 97 = .ok (.return_, 1) := by decide +kernel
noncomputable def vX6_becomeTurned_1 (a2 : Int32) (i1 : Nat) (σ : zc_N) : zc_N := (zu σ 21 (zu (zu (zu (σ 21) 0 (if (rX6_turnedColumn ((σ (pT i1)) 2) ((σ (pT i1)) 3) a2) < (rX6_turnedColumn ((σ (pT i1)) 0) ((σ (pT i1)) 1) a2) then (rX6_turnedColumn ((σ (pT i1)) 2) ((σ (pT i1)) 3) a2) else (rX6_turnedColumn ((σ (pT i1)) 0) ((σ (pT i1)) 1) a2))) 2 (if (rX6_turnedColumn ((σ (pT i1)) 0) ((σ (pT i1)) 1) a2) < (rX6_turnedColumn ((σ (pT i1)) 2) ((σ (pT i1)) 3) a2) then (rX6_turnedColumn ((σ (pT i1)) 2) ((σ (pT i1)) 3) a2) else (rX6_turnedColumn ((σ (pT i1)) 0) ((σ (pT i1)) 1) a2))) 1 (if (rX6_turnedRow ((σ (pT i1)) 2) ((σ (pT i1)) 3) a2) < (rX6_turnedRow ((σ (pT i1)) 0) ((σ (pT i1)) 1) a2) then (rX6_turnedRow ((σ (pT i1)) 2) ((σ (pT i1)) 3) a2) else (rX6_turnedRow ((σ (pT i1)) 0) ((σ (pT i1)) 1) a2))))
noncomputable def sX6_becomeTurned (σ : zc_N) (i1 : Nat) (a2 : Int32) : zc_N := (zu (vX6_becomeTurned_1 a2 i1 σ) 21 (zu ((vX6_becomeTurned_1 a2 i1 σ) 21) 3 (if (rX6_turnedRow ((σ (pT i1)) 0) ((σ (pT i1)) 1) a2) < (rX6_turnedRow ((σ (pT i1)) 2) ((σ (pT i1)) 3) a2) then (rX6_turnedRow ((σ (pT i1)) 2) ((σ (pT i1)) 3) a2) else (rX6_turnedRow ((σ (pT i1)) 0) ((σ (pT i1)) 1) a2))))
set_option maxHeartbeats 1000000 in
theorem ctX6_becomeTurned (P : zp) (σ : zc_N) (i1 : Nat) (h1 : i1 < P.2.1) (a2 : Int32) : sp mX6_becomeTurned 1 0 0 [.ref 21, .ref (pT i1), .int a2] (hh P σ) (fun r_ h_ => r_ = none ∧ h_ = hh P (sX6_becomeTurned σ i1 a2)) := by
  refine sp_of (lv := [some (.ref 21), some (.ref (pT i1)), some (.int a2), none, none, none, none]) (by decide) (zcats_ok _ rfl) (Nat.le_of_ble_eq_true rfl) (zlv_ok _ 4 rfl) (fun G => ?_)
  generalize hQ_ : (fun (r_ : Option Value) (h_ : zc_H) => r_ = none ∧ h_ = hh P (sX6_becomeTurned σ i1 a2)) = Q_
  refine z_aloadr_n dX6_becomeTurned_0 rfl ?_
  refine z_get (ci := 6) (r := (RX6, TX6, 4)) (j := 0) (v := .int ((σ (pT i1)) 0)) dX6_becomeTurned_1 (z3T i1) (zNT h1) (SH_pT P i1) rfl (Nat.le_of_ble_eq_true rfl) fl_X6_9 rfl ?_
  refine z_aloadr_n dX6_becomeTurned_4 rfl ?_
  refine z_get (ci := 6) (r := (RX6, TX6, 4)) (j := 1) (v := .int ((σ (pT i1)) 1)) dX6_becomeTurned_5 (z3T i1) (zNT h1) (SH_pT P i1) rfl (Nat.le_of_ble_eq_true rfl) fl_X6_15 rfl ?_
  refine z_iload_n dX6_becomeTurned_8 rfl ?_
  refine z_callS (As := [.int ((σ (pT i1)) 0), .int ((σ (pT i1)) 1), .int a2]) (rest := []) (ctX6_turnedColumn P σ ((σ (pT i1)) 0) ((σ (pT i1)) 1) a2) dX6_becomeTurned_9 lk_X6_24 ls_X6_turnedColumn rfl (Nat.le_of_ble_eq_true rfl) (Nat.le_of_ble_eq_true rfl) (Nat.le_of_ble_eq_true rfl) (Nat.le_of_ble_eq_true rfl) (fun r_ h_ e_ => ?_)
  obtain ⟨e1_, e2_⟩ := e_
  subst e1_
  subst e2_
  show zz G mX6_becomeTurned 1 0 0 Q_ 12 [some (.ref 21), some (.ref (pT i1)), some (.int a2), none, none, none, none] [.int (rX6_turnedColumn ((σ (pT i1)) 0) ((σ (pT i1)) 1) a2)] (hh P σ) 0 0
  refine z_istore_n (lv' := [some (.ref 21), some (.ref (pT i1)), some (.int a2), some (.int (rX6_turnedColumn ((σ (pT i1)) 0) ((σ (pT i1)) 1) a2)), none, none, none]) dX6_becomeTurned_12 (Nat.le_of_ble_eq_true rfl) rfl ?_
  refine z_aloadr_n dX6_becomeTurned_13 rfl ?_
  refine z_get (ci := 6) (r := (RX6, TX6, 4)) (j := 2) (v := .int ((σ (pT i1)) 2)) dX6_becomeTurned_14 (z3T i1) (zNT h1) (SH_pT P i1) rfl (Nat.le_of_ble_eq_true rfl) fl_X6_18 rfl ?_
  refine z_aloadr_n dX6_becomeTurned_17 rfl ?_
  refine z_get (ci := 6) (r := (RX6, TX6, 4)) (j := 3) (v := .int ((σ (pT i1)) 3)) dX6_becomeTurned_18 (z3T i1) (zNT h1) (SH_pT P i1) rfl (Nat.le_of_ble_eq_true rfl) fl_X6_21 rfl ?_
  refine z_iload_n dX6_becomeTurned_21 rfl ?_
  refine z_callS (As := [.int ((σ (pT i1)) 2), .int ((σ (pT i1)) 3), .int a2]) (rest := []) (ctX6_turnedColumn P σ ((σ (pT i1)) 2) ((σ (pT i1)) 3) a2) dX6_becomeTurned_22 lk_X6_24 ls_X6_turnedColumn rfl (Nat.le_of_ble_eq_true rfl) (Nat.le_of_ble_eq_true rfl) (Nat.le_of_ble_eq_true rfl) (Nat.le_of_ble_eq_true rfl) (fun r_ h_ e_ => ?_)
  obtain ⟨e1_, e2_⟩ := e_
  subst e1_
  subst e2_
  show zz G mX6_becomeTurned 1 0 0 Q_ 25 [some (.ref 21), some (.ref (pT i1)), some (.int a2), some (.int (rX6_turnedColumn ((σ (pT i1)) 0) ((σ (pT i1)) 1) a2)), none, none, none] [.int (rX6_turnedColumn ((σ (pT i1)) 2) ((σ (pT i1)) 3) a2)] (hh P σ) 0 0
  refine z_istore (lv' := [some (.ref 21), some (.ref (pT i1)), some (.int a2), some (.int (rX6_turnedColumn ((σ (pT i1)) 0) ((σ (pT i1)) 1) a2)), some (.int (rX6_turnedColumn ((σ (pT i1)) 2) ((σ (pT i1)) 3) a2)), none, none]) dX6_becomeTurned_25 (Nat.le_of_ble_eq_true rfl) rfl ?_
  refine z_aloadr_n dX6_becomeTurned_27 rfl ?_
  refine z_get (ci := 6) (r := (RX6, TX6, 4)) (j := 0) (v := .int ((σ (pT i1)) 0)) dX6_becomeTurned_28 (z3T i1) (zNT h1) (SH_pT P i1) rfl (Nat.le_of_ble_eq_true rfl) fl_X6_9 rfl ?_
  refine z_aloadr_n dX6_becomeTurned_31 rfl ?_
  refine z_get (ci := 6) (r := (RX6, TX6, 4)) (j := 1) (v := .int ((σ (pT i1)) 1)) dX6_becomeTurned_32 (z3T i1) (zNT h1) (SH_pT P i1) rfl (Nat.le_of_ble_eq_true rfl) fl_X6_15 rfl ?_
  refine z_iload_n dX6_becomeTurned_35 rfl ?_
  refine z_callS (As := [.int ((σ (pT i1)) 0), .int ((σ (pT i1)) 1), .int a2]) (rest := []) (ctX6_turnedRow P σ ((σ (pT i1)) 0) ((σ (pT i1)) 1) a2) dX6_becomeTurned_36 lk_X6_28 ls_X6_turnedRow rfl (Nat.le_of_ble_eq_true rfl) (Nat.le_of_ble_eq_true rfl) (Nat.le_of_ble_eq_true rfl) (Nat.le_of_ble_eq_true rfl) (fun r_ h_ e_ => ?_)
  obtain ⟨e1_, e2_⟩ := e_
  subst e1_
  subst e2_
  show zz G mX6_becomeTurned 1 0 0 Q_ 39 [some (.ref 21), some (.ref (pT i1)), some (.int a2), some (.int (rX6_turnedColumn ((σ (pT i1)) 0) ((σ (pT i1)) 1) a2)), some (.int (rX6_turnedColumn ((σ (pT i1)) 2) ((σ (pT i1)) 3) a2)), none, none] [.int (rX6_turnedRow ((σ (pT i1)) 0) ((σ (pT i1)) 1) a2)] (hh P σ) 0 0
  refine z_istore (lv' := [some (.ref 21), some (.ref (pT i1)), some (.int a2), some (.int (rX6_turnedColumn ((σ (pT i1)) 0) ((σ (pT i1)) 1) a2)), some (.int (rX6_turnedColumn ((σ (pT i1)) 2) ((σ (pT i1)) 3) a2)), some (.int (rX6_turnedRow ((σ (pT i1)) 0) ((σ (pT i1)) 1) a2)), none]) dX6_becomeTurned_39 (Nat.le_of_ble_eq_true rfl) rfl ?_
  refine z_aloadr_n dX6_becomeTurned_41 rfl ?_
  refine z_get (ci := 6) (r := (RX6, TX6, 4)) (j := 2) (v := .int ((σ (pT i1)) 2)) dX6_becomeTurned_42 (z3T i1) (zNT h1) (SH_pT P i1) rfl (Nat.le_of_ble_eq_true rfl) fl_X6_18 rfl ?_
  refine z_aloadr_n dX6_becomeTurned_45 rfl ?_
  refine z_get (ci := 6) (r := (RX6, TX6, 4)) (j := 3) (v := .int ((σ (pT i1)) 3)) dX6_becomeTurned_46 (z3T i1) (zNT h1) (SH_pT P i1) rfl (Nat.le_of_ble_eq_true rfl) fl_X6_21 rfl ?_
  refine z_iload_n dX6_becomeTurned_49 rfl ?_
  refine z_callS (As := [.int ((σ (pT i1)) 2), .int ((σ (pT i1)) 3), .int a2]) (rest := []) (ctX6_turnedRow P σ ((σ (pT i1)) 2) ((σ (pT i1)) 3) a2) dX6_becomeTurned_50 lk_X6_28 ls_X6_turnedRow rfl (Nat.le_of_ble_eq_true rfl) (Nat.le_of_ble_eq_true rfl) (Nat.le_of_ble_eq_true rfl) (Nat.le_of_ble_eq_true rfl) (fun r_ h_ e_ => ?_)
  obtain ⟨e1_, e2_⟩ := e_
  subst e1_
  subst e2_
  show zz G mX6_becomeTurned 1 0 0 Q_ 53 [some (.ref 21), some (.ref (pT i1)), some (.int a2), some (.int (rX6_turnedColumn ((σ (pT i1)) 0) ((σ (pT i1)) 1) a2)), some (.int (rX6_turnedColumn ((σ (pT i1)) 2) ((σ (pT i1)) 3) a2)), some (.int (rX6_turnedRow ((σ (pT i1)) 0) ((σ (pT i1)) 1) a2)), none] [.int (rX6_turnedRow ((σ (pT i1)) 2) ((σ (pT i1)) 3) a2)] (hh P σ) 0 0
  refine z_istore (lv' := [some (.ref 21), some (.ref (pT i1)), some (.int a2), some (.int (rX6_turnedColumn ((σ (pT i1)) 0) ((σ (pT i1)) 1) a2)), some (.int (rX6_turnedColumn ((σ (pT i1)) 2) ((σ (pT i1)) 3) a2)), some (.int (rX6_turnedRow ((σ (pT i1)) 0) ((σ (pT i1)) 1) a2)), some (.int (rX6_turnedRow ((σ (pT i1)) 2) ((σ (pT i1)) 3) a2))]) dX6_becomeTurned_53 (Nat.le_of_ble_eq_true rfl) rfl ?_
  refine z_aloadr_n dX6_becomeTurned_55 rfl ?_
  refine z_iload_n dX6_becomeTurned_56 rfl ?_
  refine z_iload dX6_becomeTurned_57 rfl ?_
  refine z_mmin dX6_becomeTurned_59 lk_X6_31 (Nat.le_of_ble_eq_true rfl) (Nat.le_of_ble_eq_true rfl) (Nat.le_of_ble_eq_true rfl) (Nat.le_of_ble_eq_true rfl) ?_
  refine z_put (ci := 6) (r := (RX6, TX6, 4)) (j := 0) (σ' := (zu σ 21 (zu (σ 21) 0 (if (rX6_turnedColumn ((σ (pT i1)) 2) ((σ (pT i1)) 3) a2) < (rX6_turnedColumn ((σ (pT i1)) 0) ((σ (pT i1)) 1) a2) then (rX6_turnedColumn ((σ (pT i1)) 2) ((σ (pT i1)) 3) a2) else (rX6_turnedColumn ((σ (pT i1)) 0) ((σ (pT i1)) 1) a2))))) dX6_becomeTurned_62 (Nat.le_of_ble_eq_true rfl) (zN rfl) rfl rfl (Nat.le_of_ble_eq_true rfl) fl_X6_9 rfl rfl rfl rfl rfl ?_
  refine z_aloadr_n dX6_becomeTurned_65 rfl ?_
  refine z_iload_n dX6_becomeTurned_66 rfl ?_
  refine z_iload dX6_becomeTurned_67 rfl ?_
  refine z_mmax dX6_becomeTurned_69 lk_X6_37 (Nat.le_of_ble_eq_true rfl) (Nat.le_of_ble_eq_true rfl) (Nat.le_of_ble_eq_true rfl) (Nat.le_of_ble_eq_true rfl) ?_
  refine z_put (ci := 6) (r := (RX6, TX6, 4)) (j := 2) (σ' := (zu σ 21 (zu (zu (σ 21) 0 (if (rX6_turnedColumn ((σ (pT i1)) 2) ((σ (pT i1)) 3) a2) < (rX6_turnedColumn ((σ (pT i1)) 0) ((σ (pT i1)) 1) a2) then (rX6_turnedColumn ((σ (pT i1)) 2) ((σ (pT i1)) 3) a2) else (rX6_turnedColumn ((σ (pT i1)) 0) ((σ (pT i1)) 1) a2))) 2 (if (rX6_turnedColumn ((σ (pT i1)) 0) ((σ (pT i1)) 1) a2) < (rX6_turnedColumn ((σ (pT i1)) 2) ((σ (pT i1)) 3) a2) then (rX6_turnedColumn ((σ (pT i1)) 2) ((σ (pT i1)) 3) a2) else (rX6_turnedColumn ((σ (pT i1)) 0) ((σ (pT i1)) 1) a2))))) dX6_becomeTurned_72 (Nat.le_of_ble_eq_true rfl) (zN rfl) rfl rfl (Nat.le_of_ble_eq_true rfl) fl_X6_18 rfl rfl rfl rfl ((congrArg (fun g_ => zu _ _ (zu g_ _ _)) (zu_self _ _ _)).trans (zu_zu _ _ _ _)) ?_
  refine z_aloadr_n dX6_becomeTurned_75 rfl ?_
  refine z_iload dX6_becomeTurned_76 rfl ?_
  refine z_iload dX6_becomeTurned_78 rfl ?_
  refine z_mmin dX6_becomeTurned_80 lk_X6_31 (Nat.le_of_ble_eq_true rfl) (Nat.le_of_ble_eq_true rfl) (Nat.le_of_ble_eq_true rfl) (Nat.le_of_ble_eq_true rfl) ?_
  refine z_put (ci := 6) (r := (RX6, TX6, 4)) (j := 1) (σ' := (zu σ 21 (zu (zu (zu (σ 21) 0 (if (rX6_turnedColumn ((σ (pT i1)) 2) ((σ (pT i1)) 3) a2) < (rX6_turnedColumn ((σ (pT i1)) 0) ((σ (pT i1)) 1) a2) then (rX6_turnedColumn ((σ (pT i1)) 2) ((σ (pT i1)) 3) a2) else (rX6_turnedColumn ((σ (pT i1)) 0) ((σ (pT i1)) 1) a2))) 2 (if (rX6_turnedColumn ((σ (pT i1)) 0) ((σ (pT i1)) 1) a2) < (rX6_turnedColumn ((σ (pT i1)) 2) ((σ (pT i1)) 3) a2) then (rX6_turnedColumn ((σ (pT i1)) 2) ((σ (pT i1)) 3) a2) else (rX6_turnedColumn ((σ (pT i1)) 0) ((σ (pT i1)) 1) a2))) 1 (if (rX6_turnedRow ((σ (pT i1)) 2) ((σ (pT i1)) 3) a2) < (rX6_turnedRow ((σ (pT i1)) 0) ((σ (pT i1)) 1) a2) then (rX6_turnedRow ((σ (pT i1)) 2) ((σ (pT i1)) 3) a2) else (rX6_turnedRow ((σ (pT i1)) 0) ((σ (pT i1)) 1) a2))))) dX6_becomeTurned_83 (Nat.le_of_ble_eq_true rfl) (zN rfl) rfl rfl (Nat.le_of_ble_eq_true rfl) fl_X6_15 rfl rfl rfl rfl ((congrArg (fun g_ => zu _ _ (zu g_ _ _)) (zu_self _ _ _)).trans (zu_zu _ _ _ _)) ?_
  show zz G mX6_becomeTurned 1 0 0 Q_ 86 [some (.ref 21), some (.ref (pT i1)), some (.int a2), some (.int (rX6_turnedColumn ((σ (pT i1)) 0) ((σ (pT i1)) 1) a2)), some (.int (rX6_turnedColumn ((σ (pT i1)) 2) ((σ (pT i1)) 3) a2)), some (.int (rX6_turnedRow ((σ (pT i1)) 0) ((σ (pT i1)) 1) a2)), some (.int (rX6_turnedRow ((σ (pT i1)) 2) ((σ (pT i1)) 3) a2))] [] (hh P (vX6_becomeTurned_1 a2 i1 σ)) 0 0
  refine z_aloadr_n dX6_becomeTurned_86 rfl ?_
  refine z_iload dX6_becomeTurned_87 rfl ?_
  refine z_iload dX6_becomeTurned_89 rfl ?_
  refine z_mmax dX6_becomeTurned_91 lk_X6_37 (Nat.le_of_ble_eq_true rfl) (Nat.le_of_ble_eq_true rfl) (Nat.le_of_ble_eq_true rfl) (Nat.le_of_ble_eq_true rfl) ?_
  refine z_put (ci := 6) (r := (RX6, TX6, 4)) (j := 3) (σ' := (zu (vX6_becomeTurned_1 a2 i1 σ) 21 (zu ((vX6_becomeTurned_1 a2 i1 σ) 21) 3 (if (rX6_turnedRow ((σ (pT i1)) 0) ((σ (pT i1)) 1) a2) < (rX6_turnedRow ((σ (pT i1)) 2) ((σ (pT i1)) 3) a2) then (rX6_turnedRow ((σ (pT i1)) 2) ((σ (pT i1)) 3) a2) else (rX6_turnedRow ((σ (pT i1)) 0) ((σ (pT i1)) 1) a2))))) dX6_becomeTurned_94 (Nat.le_of_ble_eq_true rfl) (zN rfl) rfl rfl (Nat.le_of_ble_eq_true rfl) fl_X6_21 rfl rfl rfl rfl rfl ?_
  exact z_return dX6_becomeTurned_97 rfl (Nat.le_of_ble_eq_true rfl) (Nat.le_of_ble_eq_true rfl) (by rw [← hQ_]; exact ⟨rfl, (by rw [sX6_becomeTurned])⟩)

theorem dX7_size_0 : decode cX7_size 0 = .ok (.aload_n 0, 1) := by decide +kernel
theorem dX7_size_1 : decode cX7_size 1 = .ok (.getfield 21, 3) := by decide +kernel
theorem dX7_size_4 : decode cX7_size 4 = .ok (.arraylength, 1) := by decide +kernel
theorem dX7_size_5 : decode cX7_size 5 = .ok (.ireturn, 1) := by decide +kernel
noncomputable def rX7_size (P : zp) (i1 : Nat) : Int32 := (Int32.ofNat (P.2.2 i1))
set_option maxHeartbeats 1000000 in
theorem ctX7_size (P : zp) (σ : zc_N) (i1 : Nat) (h1 : i1 < P.2.1) : sp mX7_size 0 0 0 [.ref (pO i1)] (hh P σ) (fun r_ h_ => r_ = some (.int (rX7_size P i1)) ∧ h_ = hh P σ) := by
  refine sp_of (lv := [some (.ref (pO i1))]) (by decide) (zcats_ok _ rfl) (Nat.le_of_ble_eq_true rfl) (zlv_ok _ 0 rfl) (fun G => ?_)
  generalize hQ_ : (fun (r_ : Option Value) (h_ : zc_H) => r_ = some (.int (rX7_size P i1)) ∧ h_ = hh P σ) = Q_
  refine z_aloadr_n dX7_size_0 rfl ?_
  refine z_get (ci := 7) (r := (RX7, TX7, 5)) (j := 1) (v := .ref (pP i1)) dX7_size_1 (z3O i1) (zNO h1) (SH_pO P i1) rfl (Nat.le_of_ble_eq_true rfl) fl_X7_21 rfl ?_
  refine z_alen0 (v := (Int32.ofNat (P.2.2 i1))) dX7_size_4 (zNP h1) (SH_pP P i1) rfl ?_
  exact z_ireturn dX7_size_5 rfl rfl (Nat.le_of_ble_eq_true rfl) (Nat.le_of_ble_eq_true rfl) (by rw [← hQ_]; exact ⟨(by rw [rX7_size]), rfl⟩)

theorem dX7_columnOf_0 : decode cX7_columnOf 0 = .ok (.aload_n 0, 1) := by decide +kernel
theorem dX7_columnOf_1 : decode cX7_columnOf 1 = .ok (.getfield 21, 3) := by decide +kernel
theorem dX7_columnOf_4 : decode cX7_columnOf 4 = .ok (.iload_n 1, 1) := by decide +kernel
theorem dX7_columnOf_5 : decode cX7_columnOf 5 = .ok (.iaload, 1) := by decide +kernel
theorem dX7_columnOf_6 : decode cX7_columnOf 6 = .ok (.bipush 15, 2) := by decide +kernel
theorem dX7_columnOf_8 : decode cX7_columnOf 8 = .ok (.iand, 1) := by decide +kernel
theorem dX7_columnOf_9 : decode cX7_columnOf 9 = .ok (.ireturn, 1) := by decide +kernel
def pX7_columnOf (P : zp) (i1 : Nat) (a2 : Int32) : Prop := vp_in a2 (P.2.2 i1)
noncomputable def rX7_columnOf (σ : zc_N) (i1 : Nat) (a2 : Int32) : Int32 := (((σ (pP i1)) a2.toNatClampNeg) &&& (15 : Int32))
set_option maxHeartbeats 1000000 in
theorem ctX7_columnOf (P : zp) (σ : zc_N) (i1 : Nat) (h1 : i1 < P.2.1) (a2 : Int32) (W_ : (pX7_columnOf P i1 a2)) : sp mX7_columnOf 0 0 0 [.ref (pO i1), .int a2] (hh P σ) (fun r_ h_ => r_ = some (.int (rX7_columnOf σ i1 a2)) ∧ h_ = hh P σ) := by
  refine sp_of (lv := [some (.ref (pO i1)), some (.int a2)]) (by decide) (zcats_ok _ rfl) (Nat.le_of_ble_eq_true rfl) (zlv_ok _ 0 rfl) (fun G => ?_)
  generalize hQ_ : (fun (r_ : Option Value) (h_ : zc_H) => r_ = some (.int (rX7_columnOf σ i1 a2)) ∧ h_ = hh P σ) = Q_
  unfold pX7_columnOf at W_
  refine z_aloadr_n dX7_columnOf_0 rfl ?_
  refine z_get (ci := 7) (r := (RX7, TX7, 5)) (j := 1) (v := .ref (pP i1)) dX7_columnOf_1 (z3O i1) (zNO h1) (SH_pO P i1) rfl (Nat.le_of_ble_eq_true rfl) fl_X7_21 rfl ?_
  refine z_iload_n dX7_columnOf_4 rfl ?_
  refine z_iald (v := ((σ (pP i1)) a2.toNatClampNeg)) dX7_columnOf_5 (zNP h1) (SH_pP P i1) W_ rfl ?_
  refine z_bipush dX7_columnOf_6 k_bipush_15 ?_
  refine z_iand (v := (((σ (pP i1)) a2.toNatClampNeg) &&& (15 : Int32))) dX7_columnOf_8 rfl ?_
  exact z_ireturn dX7_columnOf_9 rfl rfl (Nat.le_of_ble_eq_true rfl) (Nat.le_of_ble_eq_true rfl) (by rw [← hQ_]; exact ⟨(by rw [rX7_columnOf]), rfl⟩)

theorem dX7_rowOf_0 : decode cX7_rowOf 0 = .ok (.aload_n 0, 1) := by decide +kernel
theorem dX7_rowOf_1 : decode cX7_rowOf 1 = .ok (.getfield 21, 3) := by decide +kernel
theorem dX7_rowOf_4 : decode cX7_rowOf 4 = .ok (.iload_n 1, 1) := by decide +kernel
theorem dX7_rowOf_5 : decode cX7_rowOf 5 = .ok (.iaload, 1) := by decide +kernel
theorem dX7_rowOf_6 : decode cX7_rowOf 6 = .ok (.iconst 4, 1) := by decide +kernel
theorem dX7_rowOf_7 : decode cX7_rowOf 7 = .ok (.ishr, 1) := by decide +kernel
theorem dX7_rowOf_8 : decode cX7_rowOf 8 = .ok (.bipush 15, 2) := by decide +kernel
theorem dX7_rowOf_10 : decode cX7_rowOf 10 = .ok (.iand, 1) := by decide +kernel
theorem dX7_rowOf_11 : decode cX7_rowOf 11 = .ok (.ireturn, 1) := by decide +kernel
def pX7_rowOf (P : zp) (i1 : Nat) (a2 : Int32) : Prop := vp_in a2 (P.2.2 i1)
noncomputable def rX7_rowOf (σ : zc_N) (i1 : Nat) (a2 : Int32) : Int32 := ((zshr ((σ (pP i1)) a2.toNatClampNeg) (4 : Int32)) &&& (15 : Int32))
set_option maxHeartbeats 1000000 in
theorem ctX7_rowOf (P : zp) (σ : zc_N) (i1 : Nat) (h1 : i1 < P.2.1) (a2 : Int32) (W_ : (pX7_rowOf P i1 a2)) : sp mX7_rowOf 0 0 0 [.ref (pO i1), .int a2] (hh P σ) (fun r_ h_ => r_ = some (.int (rX7_rowOf σ i1 a2)) ∧ h_ = hh P σ) := by
  refine sp_of (lv := [some (.ref (pO i1)), some (.int a2)]) (by decide) (zcats_ok _ rfl) (Nat.le_of_ble_eq_true rfl) (zlv_ok _ 0 rfl) (fun G => ?_)
  generalize hQ_ : (fun (r_ : Option Value) (h_ : zc_H) => r_ = some (.int (rX7_rowOf σ i1 a2)) ∧ h_ = hh P σ) = Q_
  unfold pX7_rowOf at W_
  refine z_aloadr_n dX7_rowOf_0 rfl ?_
  refine z_get (ci := 7) (r := (RX7, TX7, 5)) (j := 1) (v := .ref (pP i1)) dX7_rowOf_1 (z3O i1) (zNO h1) (SH_pO P i1) rfl (Nat.le_of_ble_eq_true rfl) fl_X7_21 rfl ?_
  refine z_iload_n dX7_rowOf_4 rfl ?_
  refine z_iald (v := ((σ (pP i1)) a2.toNatClampNeg)) dX7_rowOf_5 (zNP h1) (SH_pP P i1) W_ rfl ?_
  refine z_iconst dX7_rowOf_6 k_iconst_4 ?_
  refine z_ishr (v := (zshr ((σ (pP i1)) a2.toNatClampNeg) (4 : Int32))) dX7_rowOf_7 rfl ?_
  refine z_bipush dX7_rowOf_8 k_bipush_15 ?_
  refine z_iand (v := ((zshr ((σ (pP i1)) a2.toNatClampNeg) (4 : Int32)) &&& (15 : Int32))) dX7_rowOf_10 rfl ?_
  exact z_ireturn dX7_rowOf_11 rfl rfl (Nat.le_of_ble_eq_true rfl) (Nat.le_of_ble_eq_true rfl) (by rw [← hQ_]; exact ⟨(by rw [rX7_rowOf]), rfl⟩)

theorem dX7_kindOf_0 : decode cX7_kindOf 0 = .ok (.aload_n 0, 1) := by decide +kernel
theorem dX7_kindOf_1 : decode cX7_kindOf 1 = .ok (.getfield 21, 3) := by decide +kernel
theorem dX7_kindOf_4 : decode cX7_kindOf 4 = .ok (.iload_n 1, 1) := by decide +kernel
theorem dX7_kindOf_5 : decode cX7_kindOf 5 = .ok (.iaload, 1) := by decide +kernel
theorem dX7_kindOf_6 : decode cX7_kindOf 6 = .ok (.bipush 8, 2) := by decide +kernel
theorem dX7_kindOf_8 : decode cX7_kindOf 8 = .ok (.ishr, 1) := by decide +kernel
theorem dX7_kindOf_9 : decode cX7_kindOf 9 = .ok (.ireturn, 1) := by decide +kernel
def pX7_kindOf (P : zp) (i1 : Nat) (a2 : Int32) : Prop := vp_in a2 (P.2.2 i1)
noncomputable def rX7_kindOf (σ : zc_N) (i1 : Nat) (a2 : Int32) : Int32 := (zshr ((σ (pP i1)) a2.toNatClampNeg) (8 : Int32))
set_option maxHeartbeats 1000000 in
theorem ctX7_kindOf (P : zp) (σ : zc_N) (i1 : Nat) (h1 : i1 < P.2.1) (a2 : Int32) (W_ : (pX7_kindOf P i1 a2)) : sp mX7_kindOf 0 0 0 [.ref (pO i1), .int a2] (hh P σ) (fun r_ h_ => r_ = some (.int (rX7_kindOf σ i1 a2)) ∧ h_ = hh P σ) := by
  refine sp_of (lv := [some (.ref (pO i1)), some (.int a2)]) (by decide) (zcats_ok _ rfl) (Nat.le_of_ble_eq_true rfl) (zlv_ok _ 0 rfl) (fun G => ?_)
  generalize hQ_ : (fun (r_ : Option Value) (h_ : zc_H) => r_ = some (.int (rX7_kindOf σ i1 a2)) ∧ h_ = hh P σ) = Q_
  unfold pX7_kindOf at W_
  refine z_aloadr_n dX7_kindOf_0 rfl ?_
  refine z_get (ci := 7) (r := (RX7, TX7, 5)) (j := 1) (v := .ref (pP i1)) dX7_kindOf_1 (z3O i1) (zNO h1) (SH_pO P i1) rfl (Nat.le_of_ble_eq_true rfl) fl_X7_21 rfl ?_
  refine z_iload_n dX7_kindOf_4 rfl ?_
  refine z_iald (v := ((σ (pP i1)) a2.toNatClampNeg)) dX7_kindOf_5 (zNP h1) (SH_pP P i1) W_ rfl ?_
  refine z_bipush dX7_kindOf_6 k_bipush_8 ?_
  refine z_ishr (v := (zshr ((σ (pP i1)) a2.toNatClampNeg) (8 : Int32))) dX7_kindOf_8 rfl ?_
  exact z_ireturn dX7_kindOf_9 rfl rfl (Nat.le_of_ble_eq_true rfl) (Nat.le_of_ble_eq_true rfl) (by rw [← hQ_]; exact ⟨(by rw [rX7_kindOf]), rfl⟩)

theorem dX4_bareWith_0 : decode cX4_bareWith 0 = .ok (.iconst 0, 1) := by decide +kernel
theorem dX4_bareWith_1 : decode cX4_bareWith 1 = .ok (.aload_n 0, 1) := by decide +kernel
theorem dX4_bareWith_2 : decode cX4_bareWith 2 = .ok (.getfield 54, 3) := by decide +kernel
theorem dX4_bareWith_5 : decode cX4_bareWith 5 = .ok (.iconst 2, 1) := by decide +kernel
theorem dX4_bareWith_6 : decode cX4_bareWith 6 = .ok (.iload_n 1, 1) := by decide +kernel
theorem dX4_bareWith_7 : decode cX4_bareWith 7 = .ok (.imul, 1) := by decide +kernel
theorem dX4_bareWith_8 : decode cX4_bareWith 8 = .ok (.isub, 1) := by decide +kernel
theorem dX4_bareWith_9 : decode cX4_bareWith 9 = .ok (.invokestatic 208, 3) := by decide +kernel
theorem dX4_bareWith_12 : decode cX4_bareWith 12 = .ok (.ireturn, 1) := by decide +kernel
noncomputable def rX4_bareWith (σ : zc_N) (a1 : Int32) : Int32 := (if (0 : Int32) < (((σ 10) 9) - ((2 : Int32) * a1)) then (((σ 10) 9) - ((2 : Int32) * a1)) else (0 : Int32))
set_option maxHeartbeats 1000000 in
theorem ctX4_bareWith (P : zp) (σ : zc_N) (a1 : Int32) : sp mX4_bareWith 1 0 0 [.ref 10, .int a1] (hh P σ) (fun r_ h_ => r_ = some (.int (rX4_bareWith σ a1)) ∧ h_ = hh P σ) := by
  refine sp_of (lv := [some (.ref 10), some (.int a1)]) (by decide) (zcats_ok _ rfl) (Nat.le_of_ble_eq_true rfl) (zlv_ok _ 0 rfl) (fun G => ?_)
  generalize hQ_ : (fun (r_ : Option Value) (h_ : zc_H) => r_ = some (.int (rX4_bareWith σ a1)) ∧ h_ = hh P σ) = Q_
  refine z_iconst dX4_bareWith_0 k_iconst_0 ?_
  refine z_aloadr_n dX4_bareWith_1 rfl ?_
  refine z_get (ci := 4) (r := (RX4, TX4, 10)) (j := 9) (v := .int ((σ 10) 9)) dX4_bareWith_2 (Nat.le_of_ble_eq_true rfl) (zN rfl) rfl rfl (Nat.le_of_ble_eq_true rfl) fl_X4_54 rfl ?_
  refine z_iconst dX4_bareWith_5 k_iconst_2 ?_
  refine z_iload_n dX4_bareWith_6 rfl ?_
  refine z_imul (v := ((2 : Int32) * a1)) dX4_bareWith_7 rfl ?_
  refine z_isub (v := (((σ 10) 9) - ((2 : Int32) * a1))) dX4_bareWith_8 rfl ?_
  refine z_mmax dX4_bareWith_9 lk_X4_208 (Nat.le_of_ble_eq_true rfl) (Nat.le_of_ble_eq_true rfl) (Nat.le_of_ble_eq_true rfl) (Nat.le_of_ble_eq_true rfl) ?_
  exact z_ireturn dX4_bareWith_12 rfl rfl (Nat.le_of_ble_eq_true rfl) (Nat.le_of_ble_eq_true rfl) (by rw [← hQ_]; exact ⟨(by rw [rX4_bareWith]), rfl⟩)

theorem dX4_scoreWith_0 : decode cX4_scoreWith 0 = .ok (.bipush 10, 2) := by decide +kernel
theorem dX4_scoreWith_2 : decode cX4_scoreWith 2 = .ok (.iload_n 1, 1) := by decide +kernel
theorem dX4_scoreWith_3 : decode cX4_scoreWith 3 = .ok (.imul, 1) := by decide +kernel
theorem dX4_scoreWith_4 : decode cX4_scoreWith 4 = .ok (.iconst 3, 1) := by decide +kernel
theorem dX4_scoreWith_5 : decode cX4_scoreWith 5 = .ok (.aload_n 0, 1) := by decide +kernel
theorem dX4_scoreWith_6 : decode cX4_scoreWith 6 = .ok (.iload_n 1, 1) := by decide +kernel
theorem dX4_scoreWith_7 : decode cX4_scoreWith 7 = .ok (.invokevirtual 114, 3) := by decide +kernel
theorem dX4_scoreWith_10 : decode cX4_scoreWith 10 = .ok (.imul, 1) := by decide +kernel
theorem dX4_scoreWith_11 : decode cX4_scoreWith 11 = .ok (.isub, 1) := by decide +kernel
theorem dX4_scoreWith_12 : decode cX4_scoreWith 12 = .ok (.ireturn, 1) := by decide +kernel
noncomputable def rX4_scoreWith (σ : zc_N) (a1 : Int32) : Int32 := (((10 : Int32) * a1) - ((3 : Int32) * (rX4_bareWith σ a1)))
set_option maxHeartbeats 1000000 in
theorem ctX4_scoreWith (P : zp) (σ : zc_N) (a1 : Int32) : sp mX4_scoreWith 2 0 0 [.ref 10, .int a1] (hh P σ) (fun r_ h_ => r_ = some (.int (rX4_scoreWith σ a1)) ∧ h_ = hh P σ) := by
  refine sp_of (lv := [some (.ref 10), some (.int a1)]) (by decide) (zcats_ok _ rfl) (Nat.le_of_ble_eq_true rfl) (zlv_ok _ 0 rfl) (fun G => ?_)
  generalize hQ_ : (fun (r_ : Option Value) (h_ : zc_H) => r_ = some (.int (rX4_scoreWith σ a1)) ∧ h_ = hh P σ) = Q_
  refine z_bipush dX4_scoreWith_0 k_bipush_10 ?_
  refine z_iload_n dX4_scoreWith_2 rfl ?_
  refine z_imul (v := ((10 : Int32) * a1)) dX4_scoreWith_3 rfl ?_
  refine z_iconst dX4_scoreWith_4 k_iconst_3 ?_
  refine z_aloadr_n dX4_scoreWith_5 rfl ?_
  refine z_iload_n dX4_scoreWith_6 rfl ?_
  refine z_callV (ci := 4) (r := (RX4, TX4, 10)) (b := 10) (As := [.int a1]) (rest := [.int (3 : Int32), .int ((10 : Int32) * a1)]) (ctX4_bareWith P σ a1) dX4_scoreWith_7 lk_X4_114 lv_X4_bareWith (Nat.le_of_ble_eq_true rfl) (zN rfl) rfl rfl rfl rfl (Nat.le_of_ble_eq_true rfl) (Nat.le_of_ble_eq_true rfl) (Nat.le_of_ble_eq_true rfl) (Nat.le_of_ble_eq_true rfl) (fun r_ h_ e_ => ?_)
  obtain ⟨e1_, e2_⟩ := e_
  subst e1_
  subst e2_
  show zz G mX4_scoreWith 2 0 0 Q_ 10 [some (.ref 10), some (.int a1)] [.int (rX4_bareWith σ a1), .int (3 : Int32), .int ((10 : Int32) * a1)] (hh P σ) 0 0
  refine z_imul (v := ((3 : Int32) * (rX4_bareWith σ a1))) dX4_scoreWith_10 rfl ?_
  refine z_isub (v := (((10 : Int32) * a1) - ((3 : Int32) * (rX4_bareWith σ a1)))) dX4_scoreWith_11 rfl ?_
  exact z_ireturn dX4_scoreWith_12 rfl rfl (Nat.le_of_ble_eq_true rfl) (Nat.le_of_ble_eq_true rfl) (by rw [← hQ_]; exact ⟨(by rw [rX4_scoreWith]), rfl⟩)

theorem dX4_pack_0 : decode cX4_pack 0 = .ok (.iload_n 0, 1) := by decide +kernel
theorem dX4_pack_1 : decode cX4_pack 1 = .ok (.sipush (-1000), 3) := by decide +kernel
theorem dX4_pack_4 : decode cX4_pack 4 = .ok (.isub, 1) := by decide +kernel
theorem dX4_pack_5 : decode cX4_pack 5 = .ok (.iconst 4, 1) := by decide +kernel
theorem dX4_pack_6 : decode cX4_pack 6 = .ok (.imul, 1) := by decide +kernel
theorem dX4_pack_7 : decode cX4_pack 7 = .ok (.iload_n 1, 1) := by decide +kernel
theorem dX4_pack_8 : decode cX4_pack 8 = .ok (.iadd, 1) := by decide +kernel
theorem dX4_pack_9 : decode cX4_pack 9 = .ok (.bipush 31, 2) := by decide +kernel
theorem dX4_pack_11 : decode cX4_pack 11 = .ok (.imul, 1) := by decide +kernel
theorem dX4_pack_12 : decode cX4_pack 12 = .ok (.iload_n 2, 1) := by decide +kernel
theorem dX4_pack_13 : decode cX4_pack 13 = .ok (.iadd, 1) := by decide +kernel
theorem dX4_pack_14 : decode cX4_pack 14 = .ok (.bipush 31, 2) := by decide +kernel
theorem dX4_pack_16 : decode cX4_pack 16 = .ok (.imul, 1) := by decide +kernel
theorem dX4_pack_17 : decode cX4_pack 17 = .ok (.iload_n 3, 1) := by decide +kernel
theorem dX4_pack_18 : decode cX4_pack 18 = .ok (.iadd, 1) := by decide +kernel
theorem dX4_pack_19 : decode cX4_pack 19 = .ok (.ireturn, 1) := by decide +kernel
noncomputable def rX4_pack (a1 : Int32) (a2 : Int32) (a3 : Int32) (a4 : Int32) : Int32 := (((((((a1 - (-1000 : Int32)) * (4 : Int32)) + a2) * (31 : Int32)) + a3) * (31 : Int32)) + a4)
set_option maxHeartbeats 1000000 in
theorem ctX4_pack (P : zp) (σ : zc_N) (a1 : Int32) (a2 : Int32) (a3 : Int32) (a4 : Int32) : sp mX4_pack 0 0 0 [.int a1, .int a2, .int a3, .int a4] (hh P σ) (fun r_ h_ => r_ = some (.int (rX4_pack a1 a2 a3 a4)) ∧ h_ = hh P σ) := by
  refine sp_of (lv := [some (.int a1), some (.int a2), some (.int a3), some (.int a4)]) (by decide) (zcats_ok _ rfl) (Nat.le_of_ble_eq_true rfl) (zlv_ok _ 0 rfl) (fun G => ?_)
  generalize hQ_ : (fun (r_ : Option Value) (h_ : zc_H) => r_ = some (.int (rX4_pack a1 a2 a3 a4)) ∧ h_ = hh P σ) = Q_
  refine z_iload_n dX4_pack_0 rfl ?_
  refine z_sipush dX4_pack_1 k_sipush_m1000 ?_
  refine z_isub (v := (a1 - (-1000 : Int32))) dX4_pack_4 rfl ?_
  refine z_iconst dX4_pack_5 k_iconst_4 ?_
  refine z_imul (v := ((a1 - (-1000 : Int32)) * (4 : Int32))) dX4_pack_6 rfl ?_
  refine z_iload_n dX4_pack_7 rfl ?_
  refine z_iadd (v := (((a1 - (-1000 : Int32)) * (4 : Int32)) + a2)) dX4_pack_8 rfl ?_
  refine z_bipush dX4_pack_9 k_bipush_31 ?_
  refine z_imul (v := ((((a1 - (-1000 : Int32)) * (4 : Int32)) + a2) * (31 : Int32))) dX4_pack_11 rfl ?_
  refine z_iload_n dX4_pack_12 rfl ?_
  refine z_iadd (v := (((((a1 - (-1000 : Int32)) * (4 : Int32)) + a2) * (31 : Int32)) + a3)) dX4_pack_13 rfl ?_
  refine z_bipush dX4_pack_14 k_bipush_31 ?_
  refine z_imul (v := ((((((a1 - (-1000 : Int32)) * (4 : Int32)) + a2) * (31 : Int32)) + a3) * (31 : Int32))) dX4_pack_16 rfl ?_
  refine z_iload_n dX4_pack_17 rfl ?_
  refine z_iadd (v := (((((((a1 - (-1000 : Int32)) * (4 : Int32)) + a2) * (31 : Int32)) + a3) * (31 : Int32)) + a4)) dX4_pack_18 rfl ?_
  exact z_ireturn dX4_pack_19 rfl rfl (Nat.le_of_ble_eq_true rfl) (Nat.le_of_ble_eq_true rfl) (by rw [← hQ_]; exact ⟨(by rw [rX4_pack]), rfl⟩)

theorem dX4_unpackScore_0 : decode cX4_unpackScore 0 = .ok (.iload_n 0, 1) := by decide +kernel
theorem dX4_unpackScore_1 : decode cX4_unpackScore 1 = .ok (.sipush 3844, 3) := by decide +kernel
theorem dX4_unpackScore_4 : decode cX4_unpackScore 4 = .ok (.idiv, 1) := by decide +kernel
theorem dX4_unpackScore_5 : decode cX4_unpackScore 5 = .ok (.sipush (-1000), 3) := by decide +kernel
theorem dX4_unpackScore_8 : decode cX4_unpackScore 8 = .ok (.iadd, 1) := by decide +kernel
theorem dX4_unpackScore_9 : decode cX4_unpackScore 9 = .ok (.ireturn, 1) := by decide +kernel
noncomputable def rX4_unpackScore (a1 : Int32) : Int32 := ((a1 / (3844 : Int32)) + (-1000 : Int32))
set_option maxHeartbeats 1000000 in
theorem ctX4_unpackScore (P : zp) (σ : zc_N) (a1 : Int32) : sp mX4_unpackScore 0 0 0 [.int a1] (hh P σ) (fun r_ h_ => r_ = some (.int (rX4_unpackScore a1)) ∧ h_ = hh P σ) := by
  refine sp_of (lv := [some (.int a1)]) (by decide) (zcats_ok _ rfl) (Nat.le_of_ble_eq_true rfl) (zlv_ok _ 0 rfl) (fun G => ?_)
  generalize hQ_ : (fun (r_ : Option Value) (h_ : zc_H) => r_ = some (.int (rX4_unpackScore a1)) ∧ h_ = hh P σ) = Q_
  refine z_iload_n dX4_unpackScore_0 rfl ?_
  refine z_sipush dX4_unpackScore_1 k_sipush_3844 ?_
  refine z_idiv (v := (a1 / (3844 : Int32))) dX4_unpackScore_4 (by decide) rfl ?_
  refine z_sipush dX4_unpackScore_5 k_sipush_m1000 ?_
  refine z_iadd (v := ((a1 / (3844 : Int32)) + (-1000 : Int32))) dX4_unpackScore_8 rfl ?_
  exact z_ireturn dX4_unpackScore_9 rfl rfl (Nat.le_of_ble_eq_true rfl) (Nat.le_of_ble_eq_true rfl) (by rw [← hQ_]; exact ⟨(by rw [rX4_unpackScore]), rfl⟩)

theorem dX4_unpackTurn_0 : decode cX4_unpackTurn 0 = .ok (.iload_n 0, 1) := by decide +kernel
theorem dX4_unpackTurn_1 : decode cX4_unpackTurn 1 = .ok (.sipush 961, 3) := by decide +kernel
theorem dX4_unpackTurn_4 : decode cX4_unpackTurn 4 = .ok (.idiv, 1) := by decide +kernel
theorem dX4_unpackTurn_5 : decode cX4_unpackTurn 5 = .ok (.iconst 4, 1) := by decide +kernel
theorem dX4_unpackTurn_6 : decode cX4_unpackTurn 6 = .ok (.irem, 1) := by decide +kernel
theorem dX4_unpackTurn_7 : decode cX4_unpackTurn 7 = .ok (.ireturn, 1) := by decide +kernel
noncomputable def rX4_unpackTurn (a1 : Int32) : Int32 := ((a1 / (961 : Int32)) - (a1 / (961 : Int32)) / (4 : Int32) * (4 : Int32))
set_option maxHeartbeats 1000000 in
theorem ctX4_unpackTurn (P : zp) (σ : zc_N) (a1 : Int32) : sp mX4_unpackTurn 0 0 0 [.int a1] (hh P σ) (fun r_ h_ => r_ = some (.int (rX4_unpackTurn a1)) ∧ h_ = hh P σ) := by
  refine sp_of (lv := [some (.int a1)]) (by decide) (zcats_ok _ rfl) (Nat.le_of_ble_eq_true rfl) (zlv_ok _ 0 rfl) (fun G => ?_)
  generalize hQ_ : (fun (r_ : Option Value) (h_ : zc_H) => r_ = some (.int (rX4_unpackTurn a1)) ∧ h_ = hh P σ) = Q_
  refine z_iload_n dX4_unpackTurn_0 rfl ?_
  refine z_sipush dX4_unpackTurn_1 k_sipush_961 ?_
  refine z_idiv (v := (a1 / (961 : Int32))) dX4_unpackTurn_4 (by decide) rfl ?_
  refine z_iconst dX4_unpackTurn_5 k_iconst_4 ?_
  refine z_irem (v := ((a1 / (961 : Int32)) - (a1 / (961 : Int32)) / (4 : Int32) * (4 : Int32))) dX4_unpackTurn_6 (by decide) rfl ?_
  exact z_ireturn dX4_unpackTurn_7 rfl rfl (Nat.le_of_ble_eq_true rfl) (Nat.le_of_ble_eq_true rfl) (by rw [← hQ_]; exact ⟨(by rw [rX4_unpackTurn]), rfl⟩)

theorem dX4_unpackRow_0 : decode cX4_unpackRow 0 = .ok (.iload_n 0, 1) := by decide +kernel
theorem dX4_unpackRow_1 : decode cX4_unpackRow 1 = .ok (.bipush 31, 2) := by decide +kernel
theorem dX4_unpackRow_3 : decode cX4_unpackRow 3 = .ok (.idiv, 1) := by decide +kernel
theorem dX4_unpackRow_4 : decode cX4_unpackRow 4 = .ok (.bipush 31, 2) := by decide +kernel
theorem dX4_unpackRow_6 : decode cX4_unpackRow 6 = .ok (.irem, 1) := by decide +kernel
theorem dX4_unpackRow_7 : decode cX4_unpackRow 7 = .ok (.bipush 16, 2) := by decide +kernel
theorem dX4_unpackRow_9 : decode cX4_unpackRow 9 = .ok (.isub, 1) := by decide +kernel
theorem dX4_unpackRow_10 : decode cX4_unpackRow 10 = .ok (.iconst 1, 1) := by decide +kernel
theorem dX4_unpackRow_11 : decode cX4_unpackRow 11 = .ok (.iadd, 1) := by decide +kernel
theorem dX4_unpackRow_12 : decode cX4_unpackRow 12 = .ok (.ireturn, 1) := by decide +kernel
noncomputable def rX4_unpackRow (a1 : Int32) : Int32 := ((((a1 / (31 : Int32)) - (a1 / (31 : Int32)) / (31 : Int32) * (31 : Int32)) - (16 : Int32)) + (1 : Int32))
set_option maxHeartbeats 1000000 in
theorem ctX4_unpackRow (P : zp) (σ : zc_N) (a1 : Int32) : sp mX4_unpackRow 0 0 0 [.int a1] (hh P σ) (fun r_ h_ => r_ = some (.int (rX4_unpackRow a1)) ∧ h_ = hh P σ) := by
  refine sp_of (lv := [some (.int a1)]) (by decide) (zcats_ok _ rfl) (Nat.le_of_ble_eq_true rfl) (zlv_ok _ 0 rfl) (fun G => ?_)
  generalize hQ_ : (fun (r_ : Option Value) (h_ : zc_H) => r_ = some (.int (rX4_unpackRow a1)) ∧ h_ = hh P σ) = Q_
  refine z_iload_n dX4_unpackRow_0 rfl ?_
  refine z_bipush dX4_unpackRow_1 k_bipush_31 ?_
  refine z_idiv (v := (a1 / (31 : Int32))) dX4_unpackRow_3 (by decide) rfl ?_
  refine z_bipush dX4_unpackRow_4 k_bipush_31 ?_
  refine z_irem (v := ((a1 / (31 : Int32)) - (a1 / (31 : Int32)) / (31 : Int32) * (31 : Int32))) dX4_unpackRow_6 (by decide) rfl ?_
  refine z_bipush dX4_unpackRow_7 k_bipush_16 ?_
  refine z_isub (v := (((a1 / (31 : Int32)) - (a1 / (31 : Int32)) / (31 : Int32) * (31 : Int32)) - (16 : Int32))) dX4_unpackRow_9 rfl ?_
  refine z_iconst dX4_unpackRow_10 k_iconst_1 ?_
  refine z_iadd (v := ((((a1 / (31 : Int32)) - (a1 / (31 : Int32)) / (31 : Int32) * (31 : Int32)) - (16 : Int32)) + (1 : Int32))) dX4_unpackRow_11 rfl ?_
  exact z_ireturn dX4_unpackRow_12 rfl rfl (Nat.le_of_ble_eq_true rfl) (Nat.le_of_ble_eq_true rfl) (by rw [← hQ_]; exact ⟨(by rw [rX4_unpackRow]), rfl⟩)

theorem dX4_unpackColumn_0 : decode cX4_unpackColumn 0 = .ok (.iload_n 0, 1) := by decide +kernel
theorem dX4_unpackColumn_1 : decode cX4_unpackColumn 1 = .ok (.bipush 31, 2) := by decide +kernel
theorem dX4_unpackColumn_3 : decode cX4_unpackColumn 3 = .ok (.irem, 1) := by decide +kernel
theorem dX4_unpackColumn_4 : decode cX4_unpackColumn 4 = .ok (.bipush 16, 2) := by decide +kernel
theorem dX4_unpackColumn_6 : decode cX4_unpackColumn 6 = .ok (.isub, 1) := by decide +kernel
theorem dX4_unpackColumn_7 : decode cX4_unpackColumn 7 = .ok (.iconst 1, 1) := by decide +kernel
theorem dX4_unpackColumn_8 : decode cX4_unpackColumn 8 = .ok (.iadd, 1) := by decide +kernel
theorem dX4_unpackColumn_9 : decode cX4_unpackColumn 9 = .ok (.ireturn, 1) := by decide +kernel
noncomputable def rX4_unpackColumn (a1 : Int32) : Int32 := (((a1 - a1 / (31 : Int32) * (31 : Int32)) - (16 : Int32)) + (1 : Int32))
set_option maxHeartbeats 1000000 in
theorem ctX4_unpackColumn (P : zp) (σ : zc_N) (a1 : Int32) : sp mX4_unpackColumn 0 0 0 [.int a1] (hh P σ) (fun r_ h_ => r_ = some (.int (rX4_unpackColumn a1)) ∧ h_ = hh P σ) := by
  refine sp_of (lv := [some (.int a1)]) (by decide) (zcats_ok _ rfl) (Nat.le_of_ble_eq_true rfl) (zlv_ok _ 0 rfl) (fun G => ?_)
  generalize hQ_ : (fun (r_ : Option Value) (h_ : zc_H) => r_ = some (.int (rX4_unpackColumn a1)) ∧ h_ = hh P σ) = Q_
  refine z_iload_n dX4_unpackColumn_0 rfl ?_
  refine z_bipush dX4_unpackColumn_1 k_bipush_31 ?_
  refine z_irem (v := (a1 - a1 / (31 : Int32) * (31 : Int32))) dX4_unpackColumn_3 (by decide) rfl ?_
  refine z_bipush dX4_unpackColumn_4 k_bipush_16 ?_
  refine z_isub (v := ((a1 - a1 / (31 : Int32) * (31 : Int32)) - (16 : Int32))) dX4_unpackColumn_6 rfl ?_
  refine z_iconst dX4_unpackColumn_7 k_iconst_1 ?_
  refine z_iadd (v := (((a1 - a1 / (31 : Int32) * (31 : Int32)) - (16 : Int32)) + (1 : Int32))) dX4_unpackColumn_8 rfl ?_
  exact z_ireturn dX4_unpackColumn_9 rfl rfl (Nat.le_of_ble_eq_true rfl) (Nat.le_of_ble_eq_true rfl) (by rw [← hQ_]; exact ⟨(by rw [rX4_unpackColumn]), rfl⟩)

theorem dX8_isTool_0 : decode cX8_isTool 0 = .ok (.iload_n 0, 1) := by decide +kernel
theorem dX8_isTool_1 : decode cX8_isTool 1 = .ok (.iconst 0, 1) := by decide +kernel
theorem dX8_isTool_2 : decode cX8_isTool 2 = .ok (.bipush 9, 2) := by decide +kernel
theorem dX8_isTool_4 : decode cX8_isTool 4 = .ok (.invokestatic 67, 3) := by decide +kernel
theorem dX8_isTool_7 : decode cX8_isTool 7 = .ok (.ireturn, 1) := by decide +kernel
def pX8_isTool (a1 : Int32) : Prop := narrow .boolean (.int (rX8_isWithin a1 (0 : Int32) (9 : Int32))) = .int (rX8_isWithin a1 (0 : Int32) (9 : Int32))
noncomputable def rX8_isTool (a1 : Int32) : Int32 := (rX8_isWithin a1 (0 : Int32) (9 : Int32))
set_option maxHeartbeats 1000000 in
theorem ctX8_isTool (P : zp) (σ : zc_N) (a1 : Int32) (W_ : (pX8_isTool a1)) : sp mX8_isTool 1 0 0 [.int a1] (hh P σ) (fun r_ h_ => r_ = some (.int (rX8_isTool a1)) ∧ h_ = hh P σ) := by
  refine sp_of (lv := [some (.int a1)]) (by decide) (zcats_ok _ rfl) (Nat.le_of_ble_eq_true rfl) (zlv_ok _ 0 rfl) (fun G => ?_)
  generalize hQ_ : (fun (r_ : Option Value) (h_ : zc_H) => r_ = some (.int (rX8_isTool a1)) ∧ h_ = hh P σ) = Q_
  unfold pX8_isTool at W_
  refine z_iload_n dX8_isTool_0 rfl ?_
  refine z_iconst dX8_isTool_1 k_iconst_0 ?_
  refine z_bipush dX8_isTool_2 k_bipush_9 ?_
  refine z_callS (As := [.int a1, .int (0 : Int32), .int (9 : Int32)]) (rest := []) (ctX8_isWithin P σ a1 (0 : Int32) (9 : Int32)) dX8_isTool_4 lk_X8_67 ls_X8_isWithin rfl (Nat.le_of_ble_eq_true rfl) (Nat.le_of_ble_eq_true rfl) (Nat.le_of_ble_eq_true rfl) (Nat.le_of_ble_eq_true rfl) (fun r_ h_ e_ => ?_)
  obtain ⟨e1_, e2_⟩ := e_
  subst e1_
  subst e2_
  show zz G mX8_isTool 1 0 0 Q_ 7 [some (.int a1)] [.int (rX8_isWithin a1 (0 : Int32) (9 : Int32))] (hh P σ) 0 0
  exact z_ireturn dX8_isTool_7 rfl W_ (Nat.le_of_ble_eq_true rfl) (Nat.le_of_ble_eq_true rfl) (by rw [← hQ_]; exact ⟨(by rw [rX8_isTool]), rfl⟩)

theorem dX8_areStrangers_0 : decode cX8_areStrangers 0 = .ok (.aload_n 0, 1) := by decide +kernel
theorem dX8_areStrangers_1 : decode cX8_areStrangers 1 = .ok (.getfield 175, 3) := by decide +kernel
theorem dX8_areStrangers_4 : decode cX8_areStrangers 4 = .ok (.iconst (-1), 1) := by decide +kernel
theorem dX8_areStrangers_5 : decode cX8_areStrangers 5 = .ok (.if_icmp .eq 26, 3) := by decide +kernel
theorem dX8_areStrangers_8 : decode cX8_areStrangers 8 = .ok (.aload_n 1, 1) := by decide +kernel
theorem dX8_areStrangers_9 : decode cX8_areStrangers 9 = .ok (.getfield 175, 3) := by decide +kernel
theorem dX8_areStrangers_12 : decode cX8_areStrangers 12 = .ok (.iconst (-1), 1) := by decide +kernel
theorem dX8_areStrangers_13 : decode cX8_areStrangers 13 = .ok (.if_icmp .eq 18, 3) := by decide +kernel
theorem dX8_areStrangers_16 : decode cX8_areStrangers 16 = .ok (.aload_n 0, 1) := by decide +kernel
theorem dX8_areStrangers_17 : decode cX8_areStrangers 17 = .ok (.getfield 175, 3) := by decide +kernel
theorem dX8_areStrangers_20 : decode cX8_areStrangers 20 = .ok (.aload_n 1, 1) := by decide +kernel
theorem dX8_areStrangers_21 : decode cX8_areStrangers 21 = .ok (.getfield 175, 3) := by decide +kernel
theorem dX8_areStrangers_24 : decode cX8_areStrangers 24 = .ok (.if_icmp .eq 7, 3) := by decide +kernel
theorem dX8_areStrangers_27 : decode cX8_areStrangers 27 = .ok (.iconst 1, 1) := by decide +kernel
theorem dX8_areStrangers_28 : decode cX8_areStrangers 28 = .ok (.goto 4, 3) := by decide +kernel
theorem dX8_areStrangers_31 : decode cX8_areStrangers 31 = .ok (.iconst 0, 1) := by decide +kernel
theorem dX8_areStrangers_32 : decode cX8_areStrangers 32 = .ok (.ireturn, 1) := by decide +kernel
noncomputable def rX8_areStrangers (σ : zc_N) (i1 : Nat) (i2 : Nat) : Int32 := (if ((σ (pO i1)) 3) = (-1 : Int32) then (0 : Int32) else (if ((σ (pO i2)) 3) = (-1 : Int32) then (0 : Int32) else (if ((σ (pO i1)) 3) = ((σ (pO i2)) 3) then (0 : Int32) else (1 : Int32))))
set_option maxHeartbeats 1000000 in
theorem ctX8_areStrangers (P : zp) (σ : zc_N) (i1 : Nat) (h1 : i1 < P.2.1) (i2 : Nat) (h2 : i2 < P.2.1) : sp mX8_areStrangers 0 0 0 [.ref (pO i1), .ref (pO i2)] (hh P σ) (fun r_ h_ => r_ = some (.int (rX8_areStrangers σ i1 i2)) ∧ h_ = hh P σ) := by
  refine sp_of (lv := [some (.ref (pO i1)), some (.ref (pO i2))]) (by decide) (zcats_ok _ rfl) (Nat.le_of_ble_eq_true rfl) (zlv_ok _ 0 rfl) (fun G => ?_)
  generalize hQ_ : (fun (r_ : Option Value) (h_ : zc_H) => r_ = some (.int (rX8_areStrangers σ i1 i2)) ∧ h_ = hh P σ) = Q_
  refine z_aloadr_n dX8_areStrangers_0 rfl ?_
  refine z_get (ci := 7) (r := (RX7, TX7, 5)) (j := 3) (v := .int ((σ (pO i1)) 3)) dX8_areStrangers_1 (z3O i1) (zNO h1) (SH_pO P i1) rfl (Nat.le_of_ble_eq_true rfl) fl_X8_175 rfl ?_
  refine z_iconst dX8_areStrangers_4 k_iconst_m1 ?_
  have K_1 : zz G mX8_areStrangers 0 0 0 Q_ 32 [none, none] [.int (if ((σ (pO i1)) 3) = (-1 : Int32) then (0 : Int32) else (if ((σ (pO i2)) 3) = (-1 : Int32) then (0 : Int32) else (if ((σ (pO i1)) 3) = ((σ (pO i2)) 3) then (0 : Int32) else (1 : Int32))))] (hh P σ) 0 0 := by
    exact z_ireturn dX8_areStrangers_32 rfl (by (repeat' split) <;> rfl) (Nat.le_of_ble_eq_true rfl) (Nat.le_of_ble_eq_true rfl) (by rw [← hQ_]; exact ⟨(by rw [rX8_areStrangers]), rfl⟩)
  refine z_icmp_eq (tgt := 31) dX8_areStrangers_5 (by decide) (fun c_1 => ?_) (fun c_1 => ?_)
  · refine z_iconst dX8_areStrangers_31 k_iconst_0 ?_
    refine zz_sub (lv' := [none, none]) trivial ?_
    rw [show (if ((σ (pO i1)) 3) = (-1 : Int32) then (0 : Int32) else (if ((σ (pO i2)) 3) = (-1 : Int32) then (0 : Int32) else (if ((σ (pO i1)) 3) = ((σ (pO i2)) 3) then (0 : Int32) else (1 : Int32)))) = (0 : Int32) from (if_pos c_1)] at K_1
    exact K_1
  · refine z_aloadr_n dX8_areStrangers_8 rfl ?_
    refine z_get (ci := 7) (r := (RX7, TX7, 5)) (j := 3) (v := .int ((σ (pO i2)) 3)) dX8_areStrangers_9 (z3O i2) (zNO h2) (SH_pO P i2) rfl (Nat.le_of_ble_eq_true rfl) fl_X8_175 rfl ?_
    refine z_iconst dX8_areStrangers_12 k_iconst_m1 ?_
    refine z_icmp_eq (tgt := 31) dX8_areStrangers_13 (by decide) (fun c_2 => ?_) (fun c_2 => ?_)
    · refine z_iconst dX8_areStrangers_31 k_iconst_0 ?_
      refine zz_sub (lv' := [none, none]) trivial ?_
      rw [show (if ((σ (pO i1)) 3) = (-1 : Int32) then (0 : Int32) else (if ((σ (pO i2)) 3) = (-1 : Int32) then (0 : Int32) else (if ((σ (pO i1)) 3) = ((σ (pO i2)) 3) then (0 : Int32) else (1 : Int32)))) = (0 : Int32) from ((if_neg c_1).trans (if_pos c_2))] at K_1
      exact K_1
    · refine z_aloadr_n dX8_areStrangers_16 rfl ?_
      refine z_get (ci := 7) (r := (RX7, TX7, 5)) (j := 3) (v := .int ((σ (pO i1)) 3)) dX8_areStrangers_17 (z3O i1) (zNO h1) (SH_pO P i1) rfl (Nat.le_of_ble_eq_true rfl) fl_X8_175 rfl ?_
      refine z_aloadr_n dX8_areStrangers_20 rfl ?_
      refine z_get (ci := 7) (r := (RX7, TX7, 5)) (j := 3) (v := .int ((σ (pO i2)) 3)) dX8_areStrangers_21 (z3O i2) (zNO h2) (SH_pO P i2) rfl (Nat.le_of_ble_eq_true rfl) fl_X8_175 rfl ?_
      refine z_icmp_eq (tgt := 31) dX8_areStrangers_24 (by decide) (fun c_3 => ?_) (fun c_3 => ?_)
      · refine z_iconst dX8_areStrangers_31 k_iconst_0 ?_
        refine zz_sub (lv' := [none, none]) trivial ?_
        rw [show (if ((σ (pO i1)) 3) = (-1 : Int32) then (0 : Int32) else (if ((σ (pO i2)) 3) = (-1 : Int32) then (0 : Int32) else (if ((σ (pO i1)) 3) = ((σ (pO i2)) 3) then (0 : Int32) else (1 : Int32)))) = (0 : Int32) from ((if_neg c_1).trans ((if_neg c_2).trans (if_pos c_3)))] at K_1
        exact K_1
      · refine z_iconst dX8_areStrangers_27 k_iconst_1 ?_
        refine z_goto (tgt := 32) dX8_areStrangers_28 (by decide) ?_
        refine zz_sub (lv' := [none, none]) trivial ?_
        rw [show (if ((σ (pO i1)) 3) = (-1 : Int32) then (0 : Int32) else (if ((σ (pO i2)) 3) = (-1 : Int32) then (0 : Int32) else (if ((σ (pO i1)) 3) = ((σ (pO i2)) 3) then (0 : Int32) else (1 : Int32)))) = (1 : Int32) from ((if_neg c_1).trans ((if_neg c_2).trans (if_neg c_3)))] at K_1
        exact K_1
