/-! ===== printed by wip/whole/p10.py: methods without loops ===== -/
def zshl (x y : Int32) : Int32 := x <<< (y &&& 31)
def zshr (x y : Int32) : Int32 := x >>> (y &&& 31)
def zushr (x y : Int32) : Int32 := (x.toUInt32 >>> (y.toUInt32 &&& Int32.toUInt32 31)).toInt32
def zcat1 : List Value → Bool
  | [] => true
  | .int _ :: t => zcat1 t
  | .ref _ :: t => zcat1 t
  | .null :: t => zcat1 t
  | _ => false
theorem zcats_ok : ∀ (As : List Value), zcat1 As = true → ∀ w ∈ As, w.category = 1
  | [], _, w, h => by simp at h
  | .int x :: t, hc, w, h => by
    rcases List.mem_cons.mp h with rfl | h
    · rfl
    · exact zcats_ok t hc w h
  | .ref x :: t, hc, w, h => by
    rcases List.mem_cons.mp h with rfl | h
    · rfl
    · exact zcats_ok t hc w h
  | .null :: t, hc, w, h => by
    rcases List.mem_cons.mp h with rfl | h
    · rfl
    · exact zcats_ok t hc w h
  | .long _ :: _, hc, _, _ => by cases hc
  | .float _ :: _, hc, _, _ => by cases hc
  | .double _ :: _, hc, _, _ => by cases hc
  | .retAddr _ :: _, hc, _, _ => by cases hc
def zpad (As : List Value) (n : Nat) : List (Option Value) := As.map some ++ List.replicate n none
theorem zlv_ok (As : List Value) (n : Nat) {lv : List (Option Value)} (h : zpad As n = lv) : ∀ (i : Nat) (v : Value), lv[i]? = some (some v) → As[i]? = some v := by
  intro i v hi
  subst h
  unfold zpad at hi
  by_cases hl : i < As.length
  · rw [List.getElem?_append_left (by simpa using hl), List.getElem?_map] at hi
    cases hx : As[i]? with
    | none => rw [hx] at hi; cases hi
    | some w => rw [hx] at hi; cases hi; rfl
  · rw [List.getElem?_append_right (by simpa using hl), List.getElem?_replicate] at hi
    split at hi <;> cases hi
section ZSW
variable {G : zc_G} {mi : zc_M} {d mc ms : Nat} {Q : Option Value → zc_H → Prop} {pc : Nat} {lv : List (Option Value)} {st : List Value} {h : zc_H} {ka na : Nat}
theorem z_tin {dflt lo hi : Int} {offs : Array Int} {len : Nat} {x : Int32} {off : Int} {tgt : Nat} (hd : decode mi.2.1 pc = .ok (.tableswitch dflt lo hi offs, len)) (h1 : ¬ x.toInt < lo) (h2 : ¬ hi < x.toInt) (ho : offs[(x.toInt - lo).toNat]? = some off) (ht : (pc : Int) + off = (tgt : Int)) (k : zz G mi d mc ms Q tgt lv st h ka na) : zz G mi d mc ms Q pc lv (.int x :: st) h ka na :=
  fun p l e R s m args below meth c Qw C H locs ls hR hS hl => lv_tableIn C.1.1 C.1.2.1 hd h1 h2 ho ht (k p l e R s m args below meth c Qw C H locs ls hR hS hl)
theorem z_tout {dflt lo hi : Int} {offs : Array Int} {len : Nat} {x : Int32} {tgt : Nat} (hd : decode mi.2.1 pc = .ok (.tableswitch dflt lo hi offs, len)) (h1 : x.toInt < lo ∨ hi < x.toInt) (ht : (pc : Int) + dflt = (tgt : Int)) (k : zz G mi d mc ms Q tgt lv st h ka na) : zz G mi d mc ms Q pc lv (.int x :: st) h ka na :=
  fun p l e R s m args below meth c Qw C H locs ls hR hS hl => lv_tableOut C.1.1 C.1.2.1 hd h1 ht (k p l e R s m args below meth c Qw C H locs ls hR hS hl)
end ZSW
theorem z_nz {x : Int32} {k : Int32} (h : ¬ x = k) : x.toInt ≠ k.toInt := fun e => h (Int32.toInt_inj.mp e)
theorem z_tab3 {x : Int32} (h0 : ¬ x = 0) (h1 : ¬ x = 1) (h2 : ¬ x = 2) : x.toInt < 0 ∨ 2 < x.toInt := by
  have e0 : x.toInt ≠ 0 := z_nz h0
  have e1 : x.toInt ≠ 1 := z_nz h1
  have e2 : x.toInt ≠ 2 := z_nz h2
  omega

theorem dX8_isWithin_0 : decode cX8_isWithin 0 = .ok (.iload_n 0, 1) := by decide +kernel
theorem dX8_isWithin_1 : decode cX8_isWithin 1 = .ok (.iload_n 1, 1) := by decide +kernel
theorem dX8_isWithin_2 : decode cX8_isWithin 2 = .ok (.if_icmp .lt 12, 3) := by decide +kernel
theorem dX8_isWithin_5 : decode cX8_isWithin 5 = .ok (.iload_n 0, 1) := by decide +kernel
theorem dX8_isWithin_6 : decode cX8_isWithin 6 = .ok (.iload_n 2, 1) := by decide +kernel
theorem dX8_isWithin_7 : decode cX8_isWithin 7 = .ok (.if_icmp .gt 7, 3) := by decide +kernel
theorem dX8_isWithin_10 : decode cX8_isWithin 10 = .ok (.iconst 1, 1) := by decide +kernel
theorem dX8_isWithin_11 : decode cX8_isWithin 11 = .ok (.goto 4, 3) := by decide +kernel
theorem dX8_isWithin_14 : decode cX8_isWithin 14 = .ok (.iconst 0, 1) := by decide +kernel
theorem dX8_isWithin_15 : decode cX8_isWithin 15 = .ok (.ireturn, 1) := by decide +kernel
def rX8_isWithin (a1 : Int32) (a2 : Int32) (a3 : Int32) : Int32 := (if a1 < a2 then (0 : Int32) else (if a3 < a1 then (0 : Int32) else (1 : Int32)))
set_option maxHeartbeats 1000000 in
theorem ctX8_isWithin (P : zp) (σ : zc_N) (a1 : Int32) (a2 : Int32) (a3 : Int32) : sp mX8_isWithin 0 0 0 [.int a1, .int a2, .int a3] (hh P σ) (fun r_ h_ => r_ = some (.int (rX8_isWithin a1 a2 a3)) ∧ h_ = hh P σ) := by
  refine sp_of (lv := [some (.int a1), some (.int a2), some (.int a3)]) (by decide) (zcats_ok _ rfl) (Nat.le_of_ble_eq_true rfl) (zlv_ok _ 0 rfl) (fun G => ?_)
  generalize hQ_ : (fun (r_ : Option Value) (h_ : zc_H) => r_ = some (.int (rX8_isWithin a1 a2 a3)) ∧ h_ = hh P σ) = Q_
  refine z_iload_n dX8_isWithin_0 rfl ?_
  refine z_iload_n dX8_isWithin_1 rfl ?_
  have K_1 : zz G mX8_isWithin 0 0 0 Q_ 15 [none, none, none] [.int (if a1 < a2 then (0 : Int32) else (if a3 < a1 then (0 : Int32) else (1 : Int32)))] (hh P σ) 0 0 := by
    exact z_ireturn dX8_isWithin_15 rfl (by (repeat' split) <;> rfl) (Nat.le_of_ble_eq_true rfl) (Nat.le_of_ble_eq_true rfl) (by rw [← hQ_]; exact ⟨(by rw [rX8_isWithin]), rfl⟩)
  refine z_icmp_lt (tgt := 14) dX8_isWithin_2 (by decide) (fun c_1 => ?_) (fun c_1 => ?_)
  · refine z_iconst dX8_isWithin_14 k_iconst_0 ?_
    refine zz_sub (lv' := [none, none, none]) trivial ?_
    first | exact K_1 | simpa only [if_pos c_1] using K_1
  · refine z_iload_n dX8_isWithin_5 rfl ?_
    refine z_iload_n dX8_isWithin_6 rfl ?_
    refine z_icmp_gt (tgt := 14) dX8_isWithin_7 (by decide) (fun c_2 => ?_) (fun c_2 => ?_)
    · refine z_iconst dX8_isWithin_14 k_iconst_0 ?_
      refine zz_sub (lv' := [none, none, none]) trivial ?_
      first | exact K_1 | simpa only [if_neg c_1, if_pos c_2] using K_1
    · refine z_iconst dX8_isWithin_10 k_iconst_1 ?_
      refine z_goto (tgt := 15) dX8_isWithin_11 (by decide) ?_
      refine zz_sub (lv' := [none, none, none]) trivial ?_
      first | exact K_1 | simpa only [if_neg c_1, if_neg c_2] using K_1

theorem dX1_setRow_0 : decode cX1_setRow 0 = .ok (.aload_n 0, 1) := by decide +kernel
theorem dX1_setRow_1 : decode cX1_setRow 1 = .ok (.getfield 11, 3) := by decide +kernel
theorem dX1_setRow_4 : decode cX1_setRow 4 = .ok (.iload_n 1, 1) := by decide +kernel
theorem dX1_setRow_5 : decode cX1_setRow 5 = .ok (.iconst 1, 1) := by decide +kernel
theorem dX1_setRow_6 : decode cX1_setRow 6 = .ok (.iadd, 1) := by decide +kernel
theorem dX1_setRow_7 : decode cX1_setRow 7 = .ok (.iload_n 2, 1) := by decide +kernel
theorem dX1_setRow_8 : decode cX1_setRow 8 = .ok (.iconst 1, 1) := by decide +kernel
theorem dX1_setRow_9 : decode cX1_setRow 9 = .ok (.ishl, 1) := by decide +kernel
theorem dX1_setRow_10 : decode cX1_setRow 10 = .ok (.iastore, 1) := by decide +kernel
theorem dX1_setRow_11 : decode cX1_setRow 11 = .ok (.return_, 1) := by decide +kernel
def sX1_setRow (σ : zc_N) (a1 : Int32) (a2 : Int32) : zc_N := (zu σ 5 (zu (σ 5) (a1 + (1 : Int32)).toNatClampNeg (zshl a2 (1 : Int32))))
set_option maxHeartbeats 1000000 in
theorem ctX1_setRow (P : zp) (σ : zc_N) (a1 : Int32) (a2 : Int32) (W_ : vp_in (a1 + (1 : Int32)) 18) : sp mX1_setRow 0 0 0 [.ref 4, .int a1, .int a2] (hh P σ) (fun r_ h_ => r_ = none ∧ h_ = hh P (sX1_setRow σ a1 a2)) := by
  refine sp_of (lv := [some (.ref 4), some (.int a1), some (.int a2)]) (by decide) (zcats_ok _ rfl) (Nat.le_of_ble_eq_true rfl) (zlv_ok _ 0 rfl) (fun G => ?_)
  generalize hQ_ : (fun (r_ : Option Value) (h_ : zc_H) => r_ = none ∧ h_ = hh P (sX1_setRow σ a1 a2)) = Q_
  refine z_aloadr_n dX1_setRow_0 rfl ?_
  refine z_get (ci := 1) (r := (RX1, TX1, 3)) (j := 0) (v := .ref 5) dX1_setRow_1 (Nat.le_of_ble_eq_true rfl) (zN rfl) rfl rfl (Nat.le_of_ble_eq_true rfl) fl_X1_11 rfl ?_
  refine z_iload_n dX1_setRow_4 rfl ?_
  refine z_iconst dX1_setRow_5 k_iconst_1 ?_
  refine z_iadd (v := (a1 + (1 : Int32))) dX1_setRow_6 rfl ?_
  refine z_iload_n dX1_setRow_7 rfl ?_
  refine z_iconst dX1_setRow_8 k_iconst_1 ?_
  refine z_ishl (v := (zshl a2 (1 : Int32))) dX1_setRow_9 rfl ?_
  refine z_iast (σ' := (zu σ 5 (zu (σ 5) (a1 + (1 : Int32)).toNatClampNeg (zshl a2 (1 : Int32))))) dX1_setRow_10 (Nat.le_of_ble_eq_true rfl) (zN rfl) rfl W_ rfl ?_
  exact z_return dX1_setRow_11 rfl (Nat.le_of_ble_eq_true rfl) (Nat.le_of_ble_eq_true rfl) (by rw [← hQ_]; exact ⟨rfl, (by rw [sX1_setRow])⟩)

theorem dX1_bitsOf_0 : decode cX1_bitsOf 0 = .ok (.aload_n 0, 1) := by decide +kernel
theorem dX1_bitsOf_1 : decode cX1_bitsOf 1 = .ok (.getfield 11, 3) := by decide +kernel
theorem dX1_bitsOf_4 : decode cX1_bitsOf 4 = .ok (.iload_n 1, 1) := by decide +kernel
theorem dX1_bitsOf_5 : decode cX1_bitsOf 5 = .ok (.iconst 1, 1) := by decide +kernel
theorem dX1_bitsOf_6 : decode cX1_bitsOf 6 = .ok (.iadd, 1) := by decide +kernel
theorem dX1_bitsOf_7 : decode cX1_bitsOf 7 = .ok (.iaload, 1) := by decide +kernel
theorem dX1_bitsOf_8 : decode cX1_bitsOf 8 = .ok (.iconst 1, 1) := by decide +kernel
theorem dX1_bitsOf_9 : decode cX1_bitsOf 9 = .ok (.ishr, 1) := by decide +kernel
theorem dX1_bitsOf_10 : decode cX1_bitsOf 10 = .ok (.ireturn, 1) := by decide +kernel
def rX1_bitsOf (σ : zc_N) (a1 : Int32) : Int32 := (zshr ((σ 5) (a1 + (1 : Int32)).toNatClampNeg) (1 : Int32))
set_option maxHeartbeats 1000000 in
theorem ctX1_bitsOf (P : zp) (σ : zc_N) (a1 : Int32) (W_ : vp_in (a1 + (1 : Int32)) 18) : sp mX1_bitsOf 0 0 0 [.ref 4, .int a1] (hh P σ) (fun r_ h_ => r_ = some (.int (rX1_bitsOf σ a1)) ∧ h_ = hh P σ) := by
  refine sp_of (lv := [some (.ref 4), some (.int a1)]) (by decide) (zcats_ok _ rfl) (Nat.le_of_ble_eq_true rfl) (zlv_ok _ 0 rfl) (fun G => ?_)
  generalize hQ_ : (fun (r_ : Option Value) (h_ : zc_H) => r_ = some (.int (rX1_bitsOf σ a1)) ∧ h_ = hh P σ) = Q_
  refine z_aloadr_n dX1_bitsOf_0 rfl ?_
  refine z_get (ci := 1) (r := (RX1, TX1, 3)) (j := 0) (v := .ref 5) dX1_bitsOf_1 (Nat.le_of_ble_eq_true rfl) (zN rfl) rfl rfl (Nat.le_of_ble_eq_true rfl) fl_X1_11 rfl ?_
  refine z_iload_n dX1_bitsOf_4 rfl ?_
  refine z_iconst dX1_bitsOf_5 k_iconst_1 ?_
  refine z_iadd (v := (a1 + (1 : Int32))) dX1_bitsOf_6 rfl ?_
  refine z_iald (v := ((σ 5) (a1 + (1 : Int32)).toNatClampNeg)) dX1_bitsOf_7 (zN rfl) rfl W_ rfl ?_
  refine z_iconst dX1_bitsOf_8 k_iconst_1 ?_
  refine z_ishr (v := (zshr ((σ 5) (a1 + (1 : Int32)).toNatClampNeg) (1 : Int32))) dX1_bitsOf_9 rfl ?_
  exact z_ireturn dX1_bitsOf_10 rfl rfl (Nat.le_of_ble_eq_true rfl) (Nat.le_of_ble_eq_true rfl) (by rw [← hQ_]; exact ⟨(by rw [rX1_bitsOf]), rfl⟩)

theorem dX1_threeAt_0 : decode cX1_threeAt 0 = .ok (.iload_n 0, 1) := by decide +kernel
theorem dX1_threeAt_1 : decode cX1_threeAt 1 = .ok (.bipush 15, 2) := by decide +kernel
theorem dX1_threeAt_3 : decode cX1_threeAt 3 = .ok (.iload_n 1, 1) := by decide +kernel
theorem dX1_threeAt_4 : decode cX1_threeAt 4 = .ok (.isub, 1) := by decide +kernel
theorem dX1_threeAt_5 : decode cX1_threeAt 5 = .ok (.ishr, 1) := by decide +kernel
theorem dX1_threeAt_6 : decode cX1_threeAt 6 = .ok (.bipush 7, 2) := by decide +kernel
theorem dX1_threeAt_8 : decode cX1_threeAt 8 = .ok (.iand, 1) := by decide +kernel
theorem dX1_threeAt_9 : decode cX1_threeAt 9 = .ok (.ireturn, 1) := by decide +kernel
def rX1_threeAt (a1 : Int32) (a2 : Int32) : Int32 := ((zshr a1 ((15 : Int32) - a2)) &&& (7 : Int32))
set_option maxHeartbeats 1000000 in
theorem ctX1_threeAt (P : zp) (σ : zc_N) (a1 : Int32) (a2 : Int32) : sp mX1_threeAt 0 0 0 [.int a1, .int a2] (hh P σ) (fun r_ h_ => r_ = some (.int (rX1_threeAt a1 a2)) ∧ h_ = hh P σ) := by
  refine sp_of (lv := [some (.int a1), some (.int a2)]) (by decide) (zcats_ok _ rfl) (Nat.le_of_ble_eq_true rfl) (zlv_ok _ 0 rfl) (fun G => ?_)
  generalize hQ_ : (fun (r_ : Option Value) (h_ : zc_H) => r_ = some (.int (rX1_threeAt a1 a2)) ∧ h_ = hh P σ) = Q_
  refine z_iload_n dX1_threeAt_0 rfl ?_
  refine z_bipush dX1_threeAt_1 k_bipush_15 ?_
  refine z_iload_n dX1_threeAt_3 rfl ?_
  refine z_isub (v := ((15 : Int32) - a2)) dX1_threeAt_4 rfl ?_
  refine z_ishr (v := (zshr a1 ((15 : Int32) - a2))) dX1_threeAt_5 rfl ?_
  refine z_bipush dX1_threeAt_6 k_bipush_7 ?_
  refine z_iand (v := ((zshr a1 ((15 : Int32) - a2)) &&& (7 : Int32))) dX1_threeAt_8 rfl ?_
  exact z_ireturn dX1_threeAt_9 rfl rfl (Nat.le_of_ble_eq_true rfl) (Nat.le_of_ble_eq_true rfl) (by rw [← hQ_]; exact ⟨(by rw [rX1_threeAt]), rfl⟩)

theorem dX1_isDark_0 : decode cX1_isDark 0 = .ok (.aload_n 0, 1) := by decide +kernel
theorem dX1_isDark_1 : decode cX1_isDark 1 = .ok (.getfield 11, 3) := by decide +kernel
theorem dX1_isDark_4 : decode cX1_isDark 4 = .ok (.iload_n 2, 1) := by decide +kernel
theorem dX1_isDark_5 : decode cX1_isDark 5 = .ok (.iconst 1, 1) := by decide +kernel
theorem dX1_isDark_6 : decode cX1_isDark 6 = .ok (.iadd, 1) := by decide +kernel
theorem dX1_isDark_7 : decode cX1_isDark 7 = .ok (.iaload, 1) := by decide +kernel
theorem dX1_isDark_8 : decode cX1_isDark 8 = .ok (.bipush 16, 2) := by decide +kernel
theorem dX1_isDark_10 : decode cX1_isDark 10 = .ok (.iload_n 1, 1) := by decide +kernel
theorem dX1_isDark_11 : decode cX1_isDark 11 = .ok (.isub, 1) := by decide +kernel
theorem dX1_isDark_12 : decode cX1_isDark 12 = .ok (.ishr, 1) := by decide +kernel
theorem dX1_isDark_13 : decode cX1_isDark 13 = .ok (.iconst 1, 1) := by decide +kernel
theorem dX1_isDark_14 : decode cX1_isDark 14 = .ok (.iand, 1) := by decide +kernel
theorem dX1_isDark_15 : decode cX1_isDark 15 = .ok (.ifCond .eq 7, 3) := by decide +kernel
theorem dX1_isDark_18 : decode cX1_isDark 18 = .ok (.iconst 1, 1) := by decide +kernel
theorem dX1_isDark_19 : decode cX1_isDark 19 = .ok (.goto 4, 3) := by decide +kernel
theorem dX1_isDark_22 : decode cX1_isDark 22 = .ok (.iconst 0, 1) := by decide +kernel
theorem dX1_isDark_23 : decode cX1_isDark 23 = .ok (.ireturn, 1) := by decide +kernel
def rX1_isDark (σ : zc_N) (a1 : Int32) (a2 : Int32) : Int32 := (if ((zshr ((σ 5) (a2 + (1 : Int32)).toNatClampNeg) ((16 : Int32) - a1)) &&& (1 : Int32)) = (0 : Int32) then (0 : Int32) else (1 : Int32))
set_option maxHeartbeats 1000000 in
theorem ctX1_isDark (P : zp) (σ : zc_N) (a1 : Int32) (a2 : Int32) (W_ : vp_in (a2 + (1 : Int32)) 18) : sp mX1_isDark 0 0 0 [.ref 4, .int a1, .int a2] (hh P σ) (fun r_ h_ => r_ = some (.int (rX1_isDark σ a1 a2)) ∧ h_ = hh P σ) := by
  refine sp_of (lv := [some (.ref 4), some (.int a1), some (.int a2)]) (by decide) (zcats_ok _ rfl) (Nat.le_of_ble_eq_true rfl) (zlv_ok _ 0 rfl) (fun G => ?_)
  generalize hQ_ : (fun (r_ : Option Value) (h_ : zc_H) => r_ = some (.int (rX1_isDark σ a1 a2)) ∧ h_ = hh P σ) = Q_
  refine z_aloadr_n dX1_isDark_0 rfl ?_
  refine z_get (ci := 1) (r := (RX1, TX1, 3)) (j := 0) (v := .ref 5) dX1_isDark_1 (Nat.le_of_ble_eq_true rfl) (zN rfl) rfl rfl (Nat.le_of_ble_eq_true rfl) fl_X1_11 rfl ?_
  refine z_iload_n dX1_isDark_4 rfl ?_
  refine z_iconst dX1_isDark_5 k_iconst_1 ?_
  refine z_iadd (v := (a2 + (1 : Int32))) dX1_isDark_6 rfl ?_
  refine z_iald (v := ((σ 5) (a2 + (1 : Int32)).toNatClampNeg)) dX1_isDark_7 (zN rfl) rfl W_ rfl ?_
  refine z_bipush dX1_isDark_8 k_bipush_16 ?_
  refine z_iload_n dX1_isDark_10 rfl ?_
  refine z_isub (v := ((16 : Int32) - a1)) dX1_isDark_11 rfl ?_
  refine z_ishr (v := (zshr ((σ 5) (a2 + (1 : Int32)).toNatClampNeg) ((16 : Int32) - a1))) dX1_isDark_12 rfl ?_
  refine z_iconst dX1_isDark_13 k_iconst_1 ?_
  refine z_iand (v := ((zshr ((σ 5) (a2 + (1 : Int32)).toNatClampNeg) ((16 : Int32) - a1)) &&& (1 : Int32))) dX1_isDark_14 rfl ?_
  have K_1 : zz G mX1_isDark 0 0 0 Q_ 23 [none, none, none] [.int (if ((zshr ((σ 5) (a2 + (1 : Int32)).toNatClampNeg) ((16 : Int32) - a1)) &&& (1 : Int32)) = (0 : Int32) then (0 : Int32) else (1 : Int32))] (hh P σ) 0 0 := by
    exact z_ireturn dX1_isDark_23 rfl (by (repeat' split) <;> rfl) (Nat.le_of_ble_eq_true rfl) (Nat.le_of_ble_eq_true rfl) (by rw [← hQ_]; exact ⟨(by rw [rX1_isDark]), rfl⟩)
  refine z_if_eq (tgt := 22) dX1_isDark_15 (by decide) (fun c_1 => ?_) (fun c_1 => ?_)
  · refine z_iconst dX1_isDark_22 k_iconst_0 ?_
    refine zz_sub (lv' := [none, none, none]) trivial ?_
    first | exact K_1 | simpa only [if_pos c_1] using K_1
  · refine z_iconst dX1_isDark_18 k_iconst_1 ?_
    refine z_goto (tgt := 23) dX1_isDark_19 (by decide) ?_
    refine zz_sub (lv' := [none, none, none]) trivial ?_
    first | exact K_1 | simpa only [if_neg c_1] using K_1

theorem dX1_ringAt_0 : decode cX1_ringAt 0 = .ok (.aload_n 0, 1) := by decide +kernel
theorem dX1_ringAt_1 : decode cX1_ringAt 1 = .ok (.getfield 11, 3) := by decide +kernel
theorem dX1_ringAt_4 : decode cX1_ringAt 4 = .ok (.iload_n 2, 1) := by decide +kernel
theorem dX1_ringAt_5 : decode cX1_ringAt 5 = .ok (.iaload, 1) := by decide +kernel
theorem dX1_ringAt_6 : decode cX1_ringAt 6 = .ok (.iload_n 1, 1) := by decide +kernel
theorem dX1_ringAt_7 : decode cX1_ringAt 7 = .ok (.invokestatic 46, 3) := by decide +kernel
theorem dX1_ringAt_10 : decode cX1_ringAt 10 = .ok (.istore_n 3, 1) := by decide +kernel
theorem dX1_ringAt_11 : decode cX1_ringAt 11 = .ok (.aload_n 0, 1) := by decide +kernel
theorem dX1_ringAt_12 : decode cX1_ringAt 12 = .ok (.getfield 11, 3) := by decide +kernel
theorem dX1_ringAt_15 : decode cX1_ringAt 15 = .ok (.iload_n 2, 1) := by decide +kernel
theorem dX1_ringAt_16 : decode cX1_ringAt 16 = .ok (.iconst 1, 1) := by decide +kernel
theorem dX1_ringAt_17 : decode cX1_ringAt 17 = .ok (.iadd, 1) := by decide +kernel
theorem dX1_ringAt_18 : decode cX1_ringAt 18 = .ok (.iaload, 1) := by decide +kernel
theorem dX1_ringAt_19 : decode cX1_ringAt 19 = .ok (.iload_n 1, 1) := by decide +kernel
theorem dX1_ringAt_20 : decode cX1_ringAt 20 = .ok (.invokestatic 46, 3) := by decide +kernel
theorem dX1_ringAt_23 : decode cX1_ringAt 23 = .ok (.istore 4, 2) := by decide +kernel
theorem dX1_ringAt_25 : decode cX1_ringAt 25 = .ok (.aload_n 0, 1) := by decide +kernel
theorem dX1_ringAt_26 : decode cX1_ringAt 26 = .ok (.getfield 11, 3) := by decide +kernel
theorem dX1_ringAt_29 : decode cX1_ringAt 29 = .ok (.iload_n 2, 1) := by decide +kernel
theorem dX1_ringAt_30 : decode cX1_ringAt 30 = .ok (.iconst 2, 1) := by decide +kernel
theorem dX1_ringAt_31 : decode cX1_ringAt 31 = .ok (.iadd, 1) := by decide +kernel
theorem dX1_ringAt_32 : decode cX1_ringAt 32 = .ok (.iaload, 1) := by decide +kernel
theorem dX1_ringAt_33 : decode cX1_ringAt 33 = .ok (.iload_n 1, 1) := by decide +kernel
theorem dX1_ringAt_34 : decode cX1_ringAt 34 = .ok (.invokestatic 46, 3) := by decide +kernel
theorem dX1_ringAt_37 : decode cX1_ringAt 37 = .ok (.istore 5, 2) := by decide +kernel
theorem dX1_ringAt_39 : decode cX1_ringAt 39 = .ok (.iload 4, 2) := by decide +kernel
theorem dX1_ringAt_41 : decode cX1_ringAt 41 = .ok (.iconst 1, 1) := by decide +kernel
theorem dX1_ringAt_42 : decode cX1_ringAt 42 = .ok (.iand, 1) := by decide +kernel
theorem dX1_ringAt_43 : decode cX1_ringAt 43 = .ok (.istore 6, 2) := by decide +kernel
theorem dX1_ringAt_45 : decode cX1_ringAt 45 = .ok (.iload 5, 2) := by decide +kernel
theorem dX1_ringAt_47 : decode cX1_ringAt 47 = .ok (.iconst 1, 1) := by decide +kernel
theorem dX1_ringAt_48 : decode cX1_ringAt 48 = .ok (.iand, 1) := by decide +kernel
theorem dX1_ringAt_49 : decode cX1_ringAt 49 = .ok (.iconst 2, 1) := by decide +kernel
theorem dX1_ringAt_50 : decode cX1_ringAt 50 = .ok (.ishl, 1) := by decide +kernel
theorem dX1_ringAt_51 : decode cX1_ringAt 51 = .ok (.iload 5, 2) := by decide +kernel
theorem dX1_ringAt_53 : decode cX1_ringAt 53 = .ok (.iconst 2, 1) := by decide +kernel
theorem dX1_ringAt_54 : decode cX1_ringAt 54 = .ok (.iand, 1) := by decide +kernel
theorem dX1_ringAt_55 : decode cX1_ringAt 55 = .ok (.ior, 1) := by decide +kernel
theorem dX1_ringAt_56 : decode cX1_ringAt 56 = .ok (.iload 5, 2) := by decide +kernel
theorem dX1_ringAt_58 : decode cX1_ringAt 58 = .ok (.iconst 2, 1) := by decide +kernel
theorem dX1_ringAt_59 : decode cX1_ringAt 59 = .ok (.ishr, 1) := by decide +kernel
theorem dX1_ringAt_60 : decode cX1_ringAt 60 = .ok (.ior, 1) := by decide +kernel
theorem dX1_ringAt_61 : decode cX1_ringAt 61 = .ok (.istore 7, 2) := by decide +kernel
theorem dX1_ringAt_63 : decode cX1_ringAt 63 = .ok (.iload_n 3, 1) := by decide +kernel
theorem dX1_ringAt_64 : decode cX1_ringAt 64 = .ok (.iconst 5, 1) := by decide +kernel
theorem dX1_ringAt_65 : decode cX1_ringAt 65 = .ok (.ishl, 1) := by decide +kernel
theorem dX1_ringAt_66 : decode cX1_ringAt 66 = .ok (.iload 6, 2) := by decide +kernel
theorem dX1_ringAt_68 : decode cX1_ringAt 68 = .ok (.iconst 4, 1) := by decide +kernel
theorem dX1_ringAt_69 : decode cX1_ringAt 69 = .ok (.ishl, 1) := by decide +kernel
theorem dX1_ringAt_70 : decode cX1_ringAt 70 = .ok (.ior, 1) := by decide +kernel
theorem dX1_ringAt_71 : decode cX1_ringAt 71 = .ok (.iload 7, 2) := by decide +kernel
theorem dX1_ringAt_73 : decode cX1_ringAt 73 = .ok (.iconst 1, 1) := by decide +kernel
theorem dX1_ringAt_74 : decode cX1_ringAt 74 = .ok (.ishl, 1) := by decide +kernel
theorem dX1_ringAt_75 : decode cX1_ringAt 75 = .ok (.ior, 1) := by decide +kernel
theorem dX1_ringAt_76 : decode cX1_ringAt 76 = .ok (.iload 4, 2) := by decide +kernel
theorem dX1_ringAt_78 : decode cX1_ringAt 78 = .ok (.iconst 2, 1) := by decide +kernel
theorem dX1_ringAt_79 : decode cX1_ringAt 79 = .ok (.ishr, 1) := by decide +kernel
theorem dX1_ringAt_80 : decode cX1_ringAt 80 = .ok (.ior, 1) := by decide +kernel
theorem dX1_ringAt_81 : decode cX1_ringAt 81 = .ok (.ireturn, 1) := by decide +kernel
def rX1_ringAt (σ : zc_N) (a1 : Int32) (a2 : Int32) : Int32 := ((((zshl (rX1_threeAt ((σ 5) a2.toNatClampNeg) a1) (5 : Int32)) ||| (zshl ((rX1_threeAt ((σ 5) (a2 + (1 : Int32)).toNatClampNeg) a1) &&& (1 : Int32)) (4 : Int32))) ||| (zshl (((zshl ((rX1_threeAt ((σ 5) (a2 + (2 : Int32)).toNatClampNeg) a1) &&& (1 : Int32)) (2 : Int32)) ||| ((rX1_threeAt ((σ 5) (a2 + (2 : Int32)).toNatClampNeg) a1) &&& (2 : Int32))) ||| (zshr (rX1_threeAt ((σ 5) (a2 + (2 : Int32)).toNatClampNeg) a1) (2 : Int32))) (1 : Int32))) ||| (zshr (rX1_threeAt ((σ 5) (a2 + (1 : Int32)).toNatClampNeg) a1) (2 : Int32)))
set_option maxHeartbeats 1000000 in
theorem ctX1_ringAt (P : zp) (σ : zc_N) (a1 : Int32) (a2 : Int32) (W_ : (vp_in a2 18 ∧ (vp_in (a2 + (1 : Int32)) 18 ∧ vp_in (a2 + (2 : Int32)) 18))) : sp mX1_ringAt 1 0 0 [.ref 4, .int a1, .int a2] (hh P σ) (fun r_ h_ => r_ = some (.int (rX1_ringAt σ a1 a2)) ∧ h_ = hh P σ) := by
  refine sp_of (lv := [some (.ref 4), some (.int a1), some (.int a2), none, none, none, none, none]) (by decide) (zcats_ok _ rfl) (Nat.le_of_ble_eq_true rfl) (zlv_ok _ 5 rfl) (fun G => ?_)
  generalize hQ_ : (fun (r_ : Option Value) (h_ : zc_H) => r_ = some (.int (rX1_ringAt σ a1 a2)) ∧ h_ = hh P σ) = Q_
  refine z_aloadr_n dX1_ringAt_0 rfl ?_
  refine z_get (ci := 1) (r := (RX1, TX1, 3)) (j := 0) (v := .ref 5) dX1_ringAt_1 (Nat.le_of_ble_eq_true rfl) (zN rfl) rfl rfl (Nat.le_of_ble_eq_true rfl) fl_X1_11 rfl ?_
  refine z_iload_n dX1_ringAt_4 rfl ?_
  refine z_iald (v := ((σ 5) a2.toNatClampNeg)) dX1_ringAt_5 (zN rfl) rfl W_.1 rfl ?_
  refine z_iload_n dX1_ringAt_6 rfl ?_
  refine z_callS (As := [.int ((σ 5) a2.toNatClampNeg), .int a1]) (rest := []) (ctX1_threeAt P σ ((σ 5) a2.toNatClampNeg) a1) dX1_ringAt_7 lk_X1_46 ls_X1_threeAt rfl (Nat.le_of_ble_eq_true rfl) (Nat.le_of_ble_eq_true rfl) (Nat.le_of_ble_eq_true rfl) (Nat.le_of_ble_eq_true rfl) (fun r_ h_ e_ => ?_)
  obtain ⟨e1_, e2_⟩ := e_
  subst e1_
  subst e2_
  show zz G mX1_ringAt 1 0 0 Q_ 10 [some (.ref 4), some (.int a1), some (.int a2), none, none, none, none, none] [.int (rX1_threeAt ((σ 5) a2.toNatClampNeg) a1)] (hh P σ) 0 0
  refine z_istore_n (lv' := [some (.ref 4), some (.int a1), some (.int a2), some (.int (rX1_threeAt ((σ 5) a2.toNatClampNeg) a1)), none, none, none, none]) dX1_ringAt_10 (Nat.le_of_ble_eq_true rfl) rfl ?_
  refine z_aloadr_n dX1_ringAt_11 rfl ?_
  refine z_get (ci := 1) (r := (RX1, TX1, 3)) (j := 0) (v := .ref 5) dX1_ringAt_12 (Nat.le_of_ble_eq_true rfl) (zN rfl) rfl rfl (Nat.le_of_ble_eq_true rfl) fl_X1_11 rfl ?_
  refine z_iload_n dX1_ringAt_15 rfl ?_
  refine z_iconst dX1_ringAt_16 k_iconst_1 ?_
  refine z_iadd (v := (a2 + (1 : Int32))) dX1_ringAt_17 rfl ?_
  refine z_iald (v := ((σ 5) (a2 + (1 : Int32)).toNatClampNeg)) dX1_ringAt_18 (zN rfl) rfl W_.2.1 rfl ?_
  refine z_iload_n dX1_ringAt_19 rfl ?_
  refine z_callS (As := [.int ((σ 5) (a2 + (1 : Int32)).toNatClampNeg), .int a1]) (rest := []) (ctX1_threeAt P σ ((σ 5) (a2 + (1 : Int32)).toNatClampNeg) a1) dX1_ringAt_20 lk_X1_46 ls_X1_threeAt rfl (Nat.le_of_ble_eq_true rfl) (Nat.le_of_ble_eq_true rfl) (Nat.le_of_ble_eq_true rfl) (Nat.le_of_ble_eq_true rfl) (fun r_ h_ e_ => ?_)
  obtain ⟨e1_, e2_⟩ := e_
  subst e1_
  subst e2_
  show zz G mX1_ringAt 1 0 0 Q_ 23 [some (.ref 4), some (.int a1), some (.int a2), some (.int (rX1_threeAt ((σ 5) a2.toNatClampNeg) a1)), none, none, none, none] [.int (rX1_threeAt ((σ 5) (a2 + (1 : Int32)).toNatClampNeg) a1)] (hh P σ) 0 0
  refine z_istore (lv' := [some (.ref 4), some (.int a1), some (.int a2), some (.int (rX1_threeAt ((σ 5) a2.toNatClampNeg) a1)), some (.int (rX1_threeAt ((σ 5) (a2 + (1 : Int32)).toNatClampNeg) a1)), none, none, none]) dX1_ringAt_23 (Nat.le_of_ble_eq_true rfl) rfl ?_
  refine z_aloadr_n dX1_ringAt_25 rfl ?_
  refine z_get (ci := 1) (r := (RX1, TX1, 3)) (j := 0) (v := .ref 5) dX1_ringAt_26 (Nat.le_of_ble_eq_true rfl) (zN rfl) rfl rfl (Nat.le_of_ble_eq_true rfl) fl_X1_11 rfl ?_
  refine z_iload_n dX1_ringAt_29 rfl ?_
  refine z_iconst dX1_ringAt_30 k_iconst_2 ?_
  refine z_iadd (v := (a2 + (2 : Int32))) dX1_ringAt_31 rfl ?_
  refine z_iald (v := ((σ 5) (a2 + (2 : Int32)).toNatClampNeg)) dX1_ringAt_32 (zN rfl) rfl W_.2.2 rfl ?_
  refine z_iload_n dX1_ringAt_33 rfl ?_
  refine z_callS (As := [.int ((σ 5) (a2 + (2 : Int32)).toNatClampNeg), .int a1]) (rest := []) (ctX1_threeAt P σ ((σ 5) (a2 + (2 : Int32)).toNatClampNeg) a1) dX1_ringAt_34 lk_X1_46 ls_X1_threeAt rfl (Nat.le_of_ble_eq_true rfl) (Nat.le_of_ble_eq_true rfl) (Nat.le_of_ble_eq_true rfl) (Nat.le_of_ble_eq_true rfl) (fun r_ h_ e_ => ?_)
  obtain ⟨e1_, e2_⟩ := e_
  subst e1_
  subst e2_
  show zz G mX1_ringAt 1 0 0 Q_ 37 [some (.ref 4), some (.int a1), some (.int a2), some (.int (rX1_threeAt ((σ 5) a2.toNatClampNeg) a1)), some (.int (rX1_threeAt ((σ 5) (a2 + (1 : Int32)).toNatClampNeg) a1)), none, none, none] [.int (rX1_threeAt ((σ 5) (a2 + (2 : Int32)).toNatClampNeg) a1)] (hh P σ) 0 0
  refine z_istore (lv' := [some (.ref 4), some (.int a1), some (.int a2), some (.int (rX1_threeAt ((σ 5) a2.toNatClampNeg) a1)), some (.int (rX1_threeAt ((σ 5) (a2 + (1 : Int32)).toNatClampNeg) a1)), some (.int (rX1_threeAt ((σ 5) (a2 + (2 : Int32)).toNatClampNeg) a1)), none, none]) dX1_ringAt_37 (Nat.le_of_ble_eq_true rfl) rfl ?_
  refine z_iload dX1_ringAt_39 rfl ?_
  refine z_iconst dX1_ringAt_41 k_iconst_1 ?_
  refine z_iand (v := ((rX1_threeAt ((σ 5) (a2 + (1 : Int32)).toNatClampNeg) a1) &&& (1 : Int32))) dX1_ringAt_42 rfl ?_
  refine z_istore (lv' := [some (.ref 4), some (.int a1), some (.int a2), some (.int (rX1_threeAt ((σ 5) a2.toNatClampNeg) a1)), some (.int (rX1_threeAt ((σ 5) (a2 + (1 : Int32)).toNatClampNeg) a1)), some (.int (rX1_threeAt ((σ 5) (a2 + (2 : Int32)).toNatClampNeg) a1)), some (.int ((rX1_threeAt ((σ 5) (a2 + (1 : Int32)).toNatClampNeg) a1) &&& (1 : Int32))), none]) dX1_ringAt_43 (Nat.le_of_ble_eq_true rfl) rfl ?_
  refine z_iload dX1_ringAt_45 rfl ?_
  refine z_iconst dX1_ringAt_47 k_iconst_1 ?_
  refine z_iand (v := ((rX1_threeAt ((σ 5) (a2 + (2 : Int32)).toNatClampNeg) a1) &&& (1 : Int32))) dX1_ringAt_48 rfl ?_
  refine z_iconst dX1_ringAt_49 k_iconst_2 ?_
  refine z_ishl (v := (zshl ((rX1_threeAt ((σ 5) (a2 + (2 : Int32)).toNatClampNeg) a1) &&& (1 : Int32)) (2 : Int32))) dX1_ringAt_50 rfl ?_
  refine z_iload dX1_ringAt_51 rfl ?_
  refine z_iconst dX1_ringAt_53 k_iconst_2 ?_
  refine z_iand (v := ((rX1_threeAt ((σ 5) (a2 + (2 : Int32)).toNatClampNeg) a1) &&& (2 : Int32))) dX1_ringAt_54 rfl ?_
  refine z_ior (v := ((zshl ((rX1_threeAt ((σ 5) (a2 + (2 : Int32)).toNatClampNeg) a1) &&& (1 : Int32)) (2 : Int32)) ||| ((rX1_threeAt ((σ 5) (a2 + (2 : Int32)).toNatClampNeg) a1) &&& (2 : Int32)))) dX1_ringAt_55 rfl ?_
  refine z_iload dX1_ringAt_56 rfl ?_
  refine z_iconst dX1_ringAt_58 k_iconst_2 ?_
  refine z_ishr (v := (zshr (rX1_threeAt ((σ 5) (a2 + (2 : Int32)).toNatClampNeg) a1) (2 : Int32))) dX1_ringAt_59 rfl ?_
  refine z_ior (v := (((zshl ((rX1_threeAt ((σ 5) (a2 + (2 : Int32)).toNatClampNeg) a1) &&& (1 : Int32)) (2 : Int32)) ||| ((rX1_threeAt ((σ 5) (a2 + (2 : Int32)).toNatClampNeg) a1) &&& (2 : Int32))) ||| (zshr (rX1_threeAt ((σ 5) (a2 + (2 : Int32)).toNatClampNeg) a1) (2 : Int32)))) dX1_ringAt_60 rfl ?_
  refine z_istore (lv' := [some (.ref 4), some (.int a1), some (.int a2), some (.int (rX1_threeAt ((σ 5) a2.toNatClampNeg) a1)), some (.int (rX1_threeAt ((σ 5) (a2 + (1 : Int32)).toNatClampNeg) a1)), some (.int (rX1_threeAt ((σ 5) (a2 + (2 : Int32)).toNatClampNeg) a1)), some (.int ((rX1_threeAt ((σ 5) (a2 + (1 : Int32)).toNatClampNeg) a1) &&& (1 : Int32))), some (.int (((zshl ((rX1_threeAt ((σ 5) (a2 + (2 : Int32)).toNatClampNeg) a1) &&& (1 : Int32)) (2 : Int32)) ||| ((rX1_threeAt ((σ 5) (a2 + (2 : Int32)).toNatClampNeg) a1) &&& (2 : Int32))) ||| (zshr (rX1_threeAt ((σ 5) (a2 + (2 : Int32)).toNatClampNeg) a1) (2 : Int32))))]) dX1_ringAt_61 (Nat.le_of_ble_eq_true rfl) rfl ?_
  refine z_iload_n dX1_ringAt_63 rfl ?_
  refine z_iconst dX1_ringAt_64 k_iconst_5 ?_
  refine z_ishl (v := (zshl (rX1_threeAt ((σ 5) a2.toNatClampNeg) a1) (5 : Int32))) dX1_ringAt_65 rfl ?_
  refine z_iload dX1_ringAt_66 rfl ?_
  refine z_iconst dX1_ringAt_68 k_iconst_4 ?_
  refine z_ishl (v := (zshl ((rX1_threeAt ((σ 5) (a2 + (1 : Int32)).toNatClampNeg) a1) &&& (1 : Int32)) (4 : Int32))) dX1_ringAt_69 rfl ?_
  refine z_ior (v := ((zshl (rX1_threeAt ((σ 5) a2.toNatClampNeg) a1) (5 : Int32)) ||| (zshl ((rX1_threeAt ((σ 5) (a2 + (1 : Int32)).toNatClampNeg) a1) &&& (1 : Int32)) (4 : Int32)))) dX1_ringAt_70 rfl ?_
  refine z_iload dX1_ringAt_71 rfl ?_
  refine z_iconst dX1_ringAt_73 k_iconst_1 ?_
  refine z_ishl (v := (zshl (((zshl ((rX1_threeAt ((σ 5) (a2 + (2 : Int32)).toNatClampNeg) a1) &&& (1 : Int32)) (2 : Int32)) ||| ((rX1_threeAt ((σ 5) (a2 + (2 : Int32)).toNatClampNeg) a1) &&& (2 : Int32))) ||| (zshr (rX1_threeAt ((σ 5) (a2 + (2 : Int32)).toNatClampNeg) a1) (2 : Int32))) (1 : Int32))) dX1_ringAt_74 rfl ?_
  refine z_ior (v := (((zshl (rX1_threeAt ((σ 5) a2.toNatClampNeg) a1) (5 : Int32)) ||| (zshl ((rX1_threeAt ((σ 5) (a2 + (1 : Int32)).toNatClampNeg) a1) &&& (1 : Int32)) (4 : Int32))) ||| (zshl (((zshl ((rX1_threeAt ((σ 5) (a2 + (2 : Int32)).toNatClampNeg) a1) &&& (1 : Int32)) (2 : Int32)) ||| ((rX1_threeAt ((σ 5) (a2 + (2 : Int32)).toNatClampNeg) a1) &&& (2 : Int32))) ||| (zshr (rX1_threeAt ((σ 5) (a2 + (2 : Int32)).toNatClampNeg) a1) (2 : Int32))) (1 : Int32)))) dX1_ringAt_75 rfl ?_
  refine z_iload dX1_ringAt_76 rfl ?_
  refine z_iconst dX1_ringAt_78 k_iconst_2 ?_
  refine z_ishr (v := (zshr (rX1_threeAt ((σ 5) (a2 + (1 : Int32)).toNatClampNeg) a1) (2 : Int32))) dX1_ringAt_79 rfl ?_
  refine z_ior (v := ((((zshl (rX1_threeAt ((σ 5) a2.toNatClampNeg) a1) (5 : Int32)) ||| (zshl ((rX1_threeAt ((σ 5) (a2 + (1 : Int32)).toNatClampNeg) a1) &&& (1 : Int32)) (4 : Int32))) ||| (zshl (((zshl ((rX1_threeAt ((σ 5) (a2 + (2 : Int32)).toNatClampNeg) a1) &&& (1 : Int32)) (2 : Int32)) ||| ((rX1_threeAt ((σ 5) (a2 + (2 : Int32)).toNatClampNeg) a1) &&& (2 : Int32))) ||| (zshr (rX1_threeAt ((σ 5) (a2 + (2 : Int32)).toNatClampNeg) a1) (2 : Int32))) (1 : Int32))) ||| (zshr (rX1_threeAt ((σ 5) (a2 + (1 : Int32)).toNatClampNeg) a1) (2 : Int32)))) dX1_ringAt_80 rfl ?_
  exact z_ireturn dX1_ringAt_81 rfl rfl (Nat.le_of_ble_eq_true rfl) (Nat.le_of_ble_eq_true rfl) (by rw [← hQ_]; exact ⟨(by rw [rX1_ringAt]), rfl⟩)

theorem dJ6_bitCount_0f7a4_0 : decode cJ6_bitCount_0f7a4 0 = .ok (.iload_n 0, 1) := by decide +kernel
theorem dJ6_bitCount_0f7a4_1 : decode cJ6_bitCount_0f7a4 1 = .ok (.iload_n 0, 1) := by decide +kernel
theorem dJ6_bitCount_0f7a4_2 : decode cJ6_bitCount_0f7a4 2 = .ok (.iconst 1, 1) := by decide +kernel
theorem dJ6_bitCount_0f7a4_3 : decode cJ6_bitCount_0f7a4 3 = .ok (.iushr, 1) := by decide +kernel
theorem dJ6_bitCount_0f7a4_4 : decode cJ6_bitCount_0f7a4 4 = .ok (.ldc_w 265, 3) := by decide +kernel
theorem dJ6_bitCount_0f7a4_7 : decode cJ6_bitCount_0f7a4 7 = .ok (.iand, 1) := by decide +kernel
theorem dJ6_bitCount_0f7a4_8 : decode cJ6_bitCount_0f7a4 8 = .ok (.isub, 1) := by decide +kernel
theorem dJ6_bitCount_0f7a4_9 : decode cJ6_bitCount_0f7a4 9 = .ok (.istore_n 0, 1) := by decide +kernel
theorem dJ6_bitCount_0f7a4_10 : decode cJ6_bitCount_0f7a4 10 = .ok (.iload_n 0, 1) := by decide +kernel
theorem dJ6_bitCount_0f7a4_11 : decode cJ6_bitCount_0f7a4 11 = .ok (.ldc_w 266, 3) := by decide +kernel
theorem dJ6_bitCount_0f7a4_14 : decode cJ6_bitCount_0f7a4 14 = .ok (.iand, 1) := by decide +kernel
theorem dJ6_bitCount_0f7a4_15 : decode cJ6_bitCount_0f7a4 15 = .ok (.iload_n 0, 1) := by decide +kernel
theorem dJ6_bitCount_0f7a4_16 : decode cJ6_bitCount_0f7a4 16 = .ok (.iconst 2, 1) := by decide +kernel
theorem dJ6_bitCount_0f7a4_17 : decode cJ6_bitCount_0f7a4 17 = .ok (.iushr, 1) := by decide +kernel
theorem dJ6_bitCount_0f7a4_18 : decode cJ6_bitCount_0f7a4 18 = .ok (.ldc_w 266, 3) := by decide +kernel
theorem dJ6_bitCount_0f7a4_21 : decode cJ6_bitCount_0f7a4 21 = .ok (.iand, 1) := by decide +kernel
theorem dJ6_bitCount_0f7a4_22 : decode cJ6_bitCount_0f7a4 22 = .ok (.iadd, 1) := by decide +kernel
theorem dJ6_bitCount_0f7a4_23 : decode cJ6_bitCount_0f7a4 23 = .ok (.istore_n 0, 1) := by decide +kernel
theorem dJ6_bitCount_0f7a4_24 : decode cJ6_bitCount_0f7a4 24 = .ok (.iload_n 0, 1) := by decide +kernel
theorem dJ6_bitCount_0f7a4_25 : decode cJ6_bitCount_0f7a4 25 = .ok (.iload_n 0, 1) := by decide +kernel
theorem dJ6_bitCount_0f7a4_26 : decode cJ6_bitCount_0f7a4 26 = .ok (.iconst 4, 1) := by decide +kernel
theorem dJ6_bitCount_0f7a4_27 : decode cJ6_bitCount_0f7a4 27 = .ok (.iushr, 1) := by decide +kernel
theorem dJ6_bitCount_0f7a4_28 : decode cJ6_bitCount_0f7a4 28 = .ok (.iadd, 1) := by decide +kernel
theorem dJ6_bitCount_0f7a4_29 : decode cJ6_bitCount_0f7a4 29 = .ok (.ldc_w 267, 3) := by decide +kernel
theorem dJ6_bitCount_0f7a4_32 : decode cJ6_bitCount_0f7a4 32 = .ok (.iand, 1) := by decide +kernel
theorem dJ6_bitCount_0f7a4_33 : decode cJ6_bitCount_0f7a4 33 = .ok (.istore_n 0, 1) := by decide +kernel
theorem dJ6_bitCount_0f7a4_34 : decode cJ6_bitCount_0f7a4 34 = .ok (.iload_n 0, 1) := by decide +kernel
theorem dJ6_bitCount_0f7a4_35 : decode cJ6_bitCount_0f7a4 35 = .ok (.iload_n 0, 1) := by decide +kernel
theorem dJ6_bitCount_0f7a4_36 : decode cJ6_bitCount_0f7a4 36 = .ok (.bipush 8, 2) := by decide +kernel
theorem dJ6_bitCount_0f7a4_38 : decode cJ6_bitCount_0f7a4 38 = .ok (.iushr, 1) := by decide +kernel
theorem dJ6_bitCount_0f7a4_39 : decode cJ6_bitCount_0f7a4 39 = .ok (.iadd, 1) := by decide +kernel
theorem dJ6_bitCount_0f7a4_40 : decode cJ6_bitCount_0f7a4 40 = .ok (.istore_n 0, 1) := by decide +kernel
theorem dJ6_bitCount_0f7a4_41 : decode cJ6_bitCount_0f7a4 41 = .ok (.iload_n 0, 1) := by decide +kernel
theorem dJ6_bitCount_0f7a4_42 : decode cJ6_bitCount_0f7a4 42 = .ok (.iload_n 0, 1) := by decide +kernel
theorem dJ6_bitCount_0f7a4_43 : decode cJ6_bitCount_0f7a4 43 = .ok (.bipush 16, 2) := by decide +kernel
theorem dJ6_bitCount_0f7a4_45 : decode cJ6_bitCount_0f7a4 45 = .ok (.iushr, 1) := by decide +kernel
theorem dJ6_bitCount_0f7a4_46 : decode cJ6_bitCount_0f7a4 46 = .ok (.iadd, 1) := by decide +kernel
theorem dJ6_bitCount_0f7a4_47 : decode cJ6_bitCount_0f7a4 47 = .ok (.istore_n 0, 1) := by decide +kernel
theorem dJ6_bitCount_0f7a4_48 : decode cJ6_bitCount_0f7a4 48 = .ok (.iload_n 0, 1) := by decide +kernel
theorem dJ6_bitCount_0f7a4_49 : decode cJ6_bitCount_0f7a4 49 = .ok (.bipush 63, 2) := by decide +kernel
theorem dJ6_bitCount_0f7a4_51 : decode cJ6_bitCount_0f7a4 51 = .ok (.iand, 1) := by decide +kernel
theorem dJ6_bitCount_0f7a4_52 : decode cJ6_bitCount_0f7a4 52 = .ok (.ireturn, 1) := by decide +kernel
def rJ6_bitCount_0f7a4 (a1 : Int32) : Int32 := ((((((((a1 - ((zushr a1 (1 : Int32)) &&& (1431655765 : Int32))) &&& (858993459 : Int32)) + ((zushr (a1 - ((zushr a1 (1 : Int32)) &&& (1431655765 : Int32))) (2 : Int32)) &&& (858993459 : Int32))) + (zushr (((a1 - ((zushr a1 (1 : Int32)) &&& (1431655765 : Int32))) &&& (858993459 : Int32)) + ((zushr (a1 - ((zushr a1 (1 : Int32)) &&& (1431655765 : Int32))) (2 : Int32)) &&& (858993459 : Int32))) (4 : Int32))) &&& (252645135 : Int32)) + (zushr (((((a1 - ((zushr a1 (1 : Int32)) &&& (1431655765 : Int32))) &&& (858993459 : Int32)) + ((zushr (a1 - ((zushr a1 (1 : Int32)) &&& (1431655765 : Int32))) (2 : Int32)) &&& (858993459 : Int32))) + (zushr (((a1 - ((zushr a1 (1 : Int32)) &&& (1431655765 : Int32))) &&& (858993459 : Int32)) + ((zushr (a1 - ((zushr a1 (1 : Int32)) &&& (1431655765 : Int32))) (2 : Int32)) &&& (858993459 : Int32))) (4 : Int32))) &&& (252645135 : Int32)) (8 : Int32))) + (zushr ((((((a1 - ((zushr a1 (1 : Int32)) &&& (1431655765 : Int32))) &&& (858993459 : Int32)) + ((zushr (a1 - ((zushr a1 (1 : Int32)) &&& (1431655765 : Int32))) (2 : Int32)) &&& (858993459 : Int32))) + (zushr (((a1 - ((zushr a1 (1 : Int32)) &&& (1431655765 : Int32))) &&& (858993459 : Int32)) + ((zushr (a1 - ((zushr a1 (1 : Int32)) &&& (1431655765 : Int32))) (2 : Int32)) &&& (858993459 : Int32))) (4 : Int32))) &&& (252645135 : Int32)) + (zushr (((((a1 - ((zushr a1 (1 : Int32)) &&& (1431655765 : Int32))) &&& (858993459 : Int32)) + ((zushr (a1 - ((zushr a1 (1 : Int32)) &&& (1431655765 : Int32))) (2 : Int32)) &&& (858993459 : Int32))) + (zushr (((a1 - ((zushr a1 (1 : Int32)) &&& (1431655765 : Int32))) &&& (858993459 : Int32)) + ((zushr (a1 - ((zushr a1 (1 : Int32)) &&& (1431655765 : Int32))) (2 : Int32)) &&& (858993459 : Int32))) (4 : Int32))) &&& (252645135 : Int32)) (8 : Int32))) (16 : Int32))) &&& (63 : Int32))
set_option maxHeartbeats 1000000 in
theorem ctJ6_bitCount_0f7a4 (P : zp) (σ : zc_N) (a1 : Int32) : sp mJ6_bitCount_0f7a4 0 0 0 [.int a1] (hh P σ) (fun r_ h_ => r_ = some (.int (rJ6_bitCount_0f7a4 a1)) ∧ h_ = hh P σ) := by
  refine sp_of (lv := [some (.int a1)]) (by decide) (zcats_ok _ rfl) (Nat.le_of_ble_eq_true rfl) (zlv_ok _ 0 rfl) (fun G => ?_)
  generalize hQ_ : (fun (r_ : Option Value) (h_ : zc_H) => r_ = some (.int (rJ6_bitCount_0f7a4 a1)) ∧ h_ = hh P σ) = Q_
  refine z_iload_n dJ6_bitCount_0f7a4_0 rfl ?_
  refine z_iload_n dJ6_bitCount_0f7a4_1 rfl ?_
  refine z_iconst dJ6_bitCount_0f7a4_2 k_iconst_1 ?_
  refine z_iushr (v := (zushr a1 (1 : Int32))) dJ6_bitCount_0f7a4_3 rfl ?_
  refine z_ldcw dJ6_bitCount_0f7a4_4 ck_J6_265 ?_
  refine z_iand (v := ((zushr a1 (1 : Int32)) &&& (1431655765 : Int32))) dJ6_bitCount_0f7a4_7 rfl ?_
  refine z_isub (v := (a1 - ((zushr a1 (1 : Int32)) &&& (1431655765 : Int32)))) dJ6_bitCount_0f7a4_8 rfl ?_
  refine z_istore_n (lv' := [some (.int (a1 - ((zushr a1 (1 : Int32)) &&& (1431655765 : Int32))))]) dJ6_bitCount_0f7a4_9 (Nat.le_of_ble_eq_true rfl) rfl ?_
  refine z_iload_n dJ6_bitCount_0f7a4_10 rfl ?_
  refine z_ldcw dJ6_bitCount_0f7a4_11 ck_J6_266 ?_
  refine z_iand (v := ((a1 - ((zushr a1 (1 : Int32)) &&& (1431655765 : Int32))) &&& (858993459 : Int32))) dJ6_bitCount_0f7a4_14 rfl ?_
  refine z_iload_n dJ6_bitCount_0f7a4_15 rfl ?_
  refine z_iconst dJ6_bitCount_0f7a4_16 k_iconst_2 ?_
  refine z_iushr (v := (zushr (a1 - ((zushr a1 (1 : Int32)) &&& (1431655765 : Int32))) (2 : Int32))) dJ6_bitCount_0f7a4_17 rfl ?_
  refine z_ldcw dJ6_bitCount_0f7a4_18 ck_J6_266 ?_
  refine z_iand (v := ((zushr (a1 - ((zushr a1 (1 : Int32)) &&& (1431655765 : Int32))) (2 : Int32)) &&& (858993459 : Int32))) dJ6_bitCount_0f7a4_21 rfl ?_
  refine z_iadd (v := (((a1 - ((zushr a1 (1 : Int32)) &&& (1431655765 : Int32))) &&& (858993459 : Int32)) + ((zushr (a1 - ((zushr a1 (1 : Int32)) &&& (1431655765 : Int32))) (2 : Int32)) &&& (858993459 : Int32)))) dJ6_bitCount_0f7a4_22 rfl ?_
  refine z_istore_n (lv' := [some (.int (((a1 - ((zushr a1 (1 : Int32)) &&& (1431655765 : Int32))) &&& (858993459 : Int32)) + ((zushr (a1 - ((zushr a1 (1 : Int32)) &&& (1431655765 : Int32))) (2 : Int32)) &&& (858993459 : Int32))))]) dJ6_bitCount_0f7a4_23 (Nat.le_of_ble_eq_true rfl) rfl ?_
  refine z_iload_n dJ6_bitCount_0f7a4_24 rfl ?_
  refine z_iload_n dJ6_bitCount_0f7a4_25 rfl ?_
  refine z_iconst dJ6_bitCount_0f7a4_26 k_iconst_4 ?_
  refine z_iushr (v := (zushr (((a1 - ((zushr a1 (1 : Int32)) &&& (1431655765 : Int32))) &&& (858993459 : Int32)) + ((zushr (a1 - ((zushr a1 (1 : Int32)) &&& (1431655765 : Int32))) (2 : Int32)) &&& (858993459 : Int32))) (4 : Int32))) dJ6_bitCount_0f7a4_27 rfl ?_
  refine z_iadd (v := ((((a1 - ((zushr a1 (1 : Int32)) &&& (1431655765 : Int32))) &&& (858993459 : Int32)) + ((zushr (a1 - ((zushr a1 (1 : Int32)) &&& (1431655765 : Int32))) (2 : Int32)) &&& (858993459 : Int32))) + (zushr (((a1 - ((zushr a1 (1 : Int32)) &&& (1431655765 : Int32))) &&& (858993459 : Int32)) + ((zushr (a1 - ((zushr a1 (1 : Int32)) &&& (1431655765 : Int32))) (2 : Int32)) &&& (858993459 : Int32))) (4 : Int32)))) dJ6_bitCount_0f7a4_28 rfl ?_
  refine z_ldcw dJ6_bitCount_0f7a4_29 ck_J6_267 ?_
  refine z_iand (v := (((((a1 - ((zushr a1 (1 : Int32)) &&& (1431655765 : Int32))) &&& (858993459 : Int32)) + ((zushr (a1 - ((zushr a1 (1 : Int32)) &&& (1431655765 : Int32))) (2 : Int32)) &&& (858993459 : Int32))) + (zushr (((a1 - ((zushr a1 (1 : Int32)) &&& (1431655765 : Int32))) &&& (858993459 : Int32)) + ((zushr (a1 - ((zushr a1 (1 : Int32)) &&& (1431655765 : Int32))) (2 : Int32)) &&& (858993459 : Int32))) (4 : Int32))) &&& (252645135 : Int32))) dJ6_bitCount_0f7a4_32 rfl ?_
  refine z_istore_n (lv' := [some (.int (((((a1 - ((zushr a1 (1 : Int32)) &&& (1431655765 : Int32))) &&& (858993459 : Int32)) + ((zushr (a1 - ((zushr a1 (1 : Int32)) &&& (1431655765 : Int32))) (2 : Int32)) &&& (858993459 : Int32))) + (zushr (((a1 - ((zushr a1 (1 : Int32)) &&& (1431655765 : Int32))) &&& (858993459 : Int32)) + ((zushr (a1 - ((zushr a1 (1 : Int32)) &&& (1431655765 : Int32))) (2 : Int32)) &&& (858993459 : Int32))) (4 : Int32))) &&& (252645135 : Int32)))]) dJ6_bitCount_0f7a4_33 (Nat.le_of_ble_eq_true rfl) rfl ?_
  refine z_iload_n dJ6_bitCount_0f7a4_34 rfl ?_
  refine z_iload_n dJ6_bitCount_0f7a4_35 rfl ?_
  refine z_bipush dJ6_bitCount_0f7a4_36 k_bipush_8 ?_
  refine z_iushr (v := (zushr (((((a1 - ((zushr a1 (1 : Int32)) &&& (1431655765 : Int32))) &&& (858993459 : Int32)) + ((zushr (a1 - ((zushr a1 (1 : Int32)) &&& (1431655765 : Int32))) (2 : Int32)) &&& (858993459 : Int32))) + (zushr (((a1 - ((zushr a1 (1 : Int32)) &&& (1431655765 : Int32))) &&& (858993459 : Int32)) + ((zushr (a1 - ((zushr a1 (1 : Int32)) &&& (1431655765 : Int32))) (2 : Int32)) &&& (858993459 : Int32))) (4 : Int32))) &&& (252645135 : Int32)) (8 : Int32))) dJ6_bitCount_0f7a4_38 rfl ?_
  refine z_iadd (v := ((((((a1 - ((zushr a1 (1 : Int32)) &&& (1431655765 : Int32))) &&& (858993459 : Int32)) + ((zushr (a1 - ((zushr a1 (1 : Int32)) &&& (1431655765 : Int32))) (2 : Int32)) &&& (858993459 : Int32))) + (zushr (((a1 - ((zushr a1 (1 : Int32)) &&& (1431655765 : Int32))) &&& (858993459 : Int32)) + ((zushr (a1 - ((zushr a1 (1 : Int32)) &&& (1431655765 : Int32))) (2 : Int32)) &&& (858993459 : Int32))) (4 : Int32))) &&& (252645135 : Int32)) + (zushr (((((a1 - ((zushr a1 (1 : Int32)) &&& (1431655765 : Int32))) &&& (858993459 : Int32)) + ((zushr (a1 - ((zushr a1 (1 : Int32)) &&& (1431655765 : Int32))) (2 : Int32)) &&& (858993459 : Int32))) + (zushr (((a1 - ((zushr a1 (1 : Int32)) &&& (1431655765 : Int32))) &&& (858993459 : Int32)) + ((zushr (a1 - ((zushr a1 (1 : Int32)) &&& (1431655765 : Int32))) (2 : Int32)) &&& (858993459 : Int32))) (4 : Int32))) &&& (252645135 : Int32)) (8 : Int32)))) dJ6_bitCount_0f7a4_39 rfl ?_
  refine z_istore_n (lv' := [some (.int ((((((a1 - ((zushr a1 (1 : Int32)) &&& (1431655765 : Int32))) &&& (858993459 : Int32)) + ((zushr (a1 - ((zushr a1 (1 : Int32)) &&& (1431655765 : Int32))) (2 : Int32)) &&& (858993459 : Int32))) + (zushr (((a1 - ((zushr a1 (1 : Int32)) &&& (1431655765 : Int32))) &&& (858993459 : Int32)) + ((zushr (a1 - ((zushr a1 (1 : Int32)) &&& (1431655765 : Int32))) (2 : Int32)) &&& (858993459 : Int32))) (4 : Int32))) &&& (252645135 : Int32)) + (zushr (((((a1 - ((zushr a1 (1 : Int32)) &&& (1431655765 : Int32))) &&& (858993459 : Int32)) + ((zushr (a1 - ((zushr a1 (1 : Int32)) &&& (1431655765 : Int32))) (2 : Int32)) &&& (858993459 : Int32))) + (zushr (((a1 - ((zushr a1 (1 : Int32)) &&& (1431655765 : Int32))) &&& (858993459 : Int32)) + ((zushr (a1 - ((zushr a1 (1 : Int32)) &&& (1431655765 : Int32))) (2 : Int32)) &&& (858993459 : Int32))) (4 : Int32))) &&& (252645135 : Int32)) (8 : Int32))))]) dJ6_bitCount_0f7a4_40 (Nat.le_of_ble_eq_true rfl) rfl ?_
  refine z_iload_n dJ6_bitCount_0f7a4_41 rfl ?_
  refine z_iload_n dJ6_bitCount_0f7a4_42 rfl ?_
  refine z_bipush dJ6_bitCount_0f7a4_43 k_bipush_16 ?_
  refine z_iushr (v := (zushr ((((((a1 - ((zushr a1 (1 : Int32)) &&& (1431655765 : Int32))) &&& (858993459 : Int32)) + ((zushr (a1 - ((zushr a1 (1 : Int32)) &&& (1431655765 : Int32))) (2 : Int32)) &&& (858993459 : Int32))) + (zushr (((a1 - ((zushr a1 (1 : Int32)) &&& (1431655765 : Int32))) &&& (858993459 : Int32)) + ((zushr (a1 - ((zushr a1 (1 : Int32)) &&& (1431655765 : Int32))) (2 : Int32)) &&& (858993459 : Int32))) (4 : Int32))) &&& (252645135 : Int32)) + (zushr (((((a1 - ((zushr a1 (1 : Int32)) &&& (1431655765 : Int32))) &&& (858993459 : Int32)) + ((zushr (a1 - ((zushr a1 (1 : Int32)) &&& (1431655765 : Int32))) (2 : Int32)) &&& (858993459 : Int32))) + (zushr (((a1 - ((zushr a1 (1 : Int32)) &&& (1431655765 : Int32))) &&& (858993459 : Int32)) + ((zushr (a1 - ((zushr a1 (1 : Int32)) &&& (1431655765 : Int32))) (2 : Int32)) &&& (858993459 : Int32))) (4 : Int32))) &&& (252645135 : Int32)) (8 : Int32))) (16 : Int32))) dJ6_bitCount_0f7a4_45 rfl ?_
  refine z_iadd (v := (((((((a1 - ((zushr a1 (1 : Int32)) &&& (1431655765 : Int32))) &&& (858993459 : Int32)) + ((zushr (a1 - ((zushr a1 (1 : Int32)) &&& (1431655765 : Int32))) (2 : Int32)) &&& (858993459 : Int32))) + (zushr (((a1 - ((zushr a1 (1 : Int32)) &&& (1431655765 : Int32))) &&& (858993459 : Int32)) + ((zushr (a1 - ((zushr a1 (1 : Int32)) &&& (1431655765 : Int32))) (2 : Int32)) &&& (858993459 : Int32))) (4 : Int32))) &&& (252645135 : Int32)) + (zushr (((((a1 - ((zushr a1 (1 : Int32)) &&& (1431655765 : Int32))) &&& (858993459 : Int32)) + ((zushr (a1 - ((zushr a1 (1 : Int32)) &&& (1431655765 : Int32))) (2 : Int32)) &&& (858993459 : Int32))) + (zushr (((a1 - ((zushr a1 (1 : Int32)) &&& (1431655765 : Int32))) &&& (858993459 : Int32)) + ((zushr (a1 - ((zushr a1 (1 : Int32)) &&& (1431655765 : Int32))) (2 : Int32)) &&& (858993459 : Int32))) (4 : Int32))) &&& (252645135 : Int32)) (8 : Int32))) + (zushr ((((((a1 - ((zushr a1 (1 : Int32)) &&& (1431655765 : Int32))) &&& (858993459 : Int32)) + ((zushr (a1 - ((zushr a1 (1 : Int32)) &&& (1431655765 : Int32))) (2 : Int32)) &&& (858993459 : Int32))) + (zushr (((a1 - ((zushr a1 (1 : Int32)) &&& (1431655765 : Int32))) &&& (858993459 : Int32)) + ((zushr (a1 - ((zushr a1 (1 : Int32)) &&& (1431655765 : Int32))) (2 : Int32)) &&& (858993459 : Int32))) (4 : Int32))) &&& (252645135 : Int32)) + (zushr (((((a1 - ((zushr a1 (1 : Int32)) &&& (1431655765 : Int32))) &&& (858993459 : Int32)) + ((zushr (a1 - ((zushr a1 (1 : Int32)) &&& (1431655765 : Int32))) (2 : Int32)) &&& (858993459 : Int32))) + (zushr (((a1 - ((zushr a1 (1 : Int32)) &&& (1431655765 : Int32))) &&& (858993459 : Int32)) + ((zushr (a1 - ((zushr a1 (1 : Int32)) &&& (1431655765 : Int32))) (2 : Int32)) &&& (858993459 : Int32))) (4 : Int32))) &&& (252645135 : Int32)) (8 : Int32))) (16 : Int32)))) dJ6_bitCount_0f7a4_46 rfl ?_
  refine z_istore_n (lv' := [some (.int (((((((a1 - ((zushr a1 (1 : Int32)) &&& (1431655765 : Int32))) &&& (858993459 : Int32)) + ((zushr (a1 - ((zushr a1 (1 : Int32)) &&& (1431655765 : Int32))) (2 : Int32)) &&& (858993459 : Int32))) + (zushr (((a1 - ((zushr a1 (1 : Int32)) &&& (1431655765 : Int32))) &&& (858993459 : Int32)) + ((zushr (a1 - ((zushr a1 (1 : Int32)) &&& (1431655765 : Int32))) (2 : Int32)) &&& (858993459 : Int32))) (4 : Int32))) &&& (252645135 : Int32)) + (zushr (((((a1 - ((zushr a1 (1 : Int32)) &&& (1431655765 : Int32))) &&& (858993459 : Int32)) + ((zushr (a1 - ((zushr a1 (1 : Int32)) &&& (1431655765 : Int32))) (2 : Int32)) &&& (858993459 : Int32))) + (zushr (((a1 - ((zushr a1 (1 : Int32)) &&& (1431655765 : Int32))) &&& (858993459 : Int32)) + ((zushr (a1 - ((zushr a1 (1 : Int32)) &&& (1431655765 : Int32))) (2 : Int32)) &&& (858993459 : Int32))) (4 : Int32))) &&& (252645135 : Int32)) (8 : Int32))) + (zushr ((((((a1 - ((zushr a1 (1 : Int32)) &&& (1431655765 : Int32))) &&& (858993459 : Int32)) + ((zushr (a1 - ((zushr a1 (1 : Int32)) &&& (1431655765 : Int32))) (2 : Int32)) &&& (858993459 : Int32))) + (zushr (((a1 - ((zushr a1 (1 : Int32)) &&& (1431655765 : Int32))) &&& (858993459 : Int32)) + ((zushr (a1 - ((zushr a1 (1 : Int32)) &&& (1431655765 : Int32))) (2 : Int32)) &&& (858993459 : Int32))) (4 : Int32))) &&& (252645135 : Int32)) + (zushr (((((a1 - ((zushr a1 (1 : Int32)) &&& (1431655765 : Int32))) &&& (858993459 : Int32)) + ((zushr (a1 - ((zushr a1 (1 : Int32)) &&& (1431655765 : Int32))) (2 : Int32)) &&& (858993459 : Int32))) + (zushr (((a1 - ((zushr a1 (1 : Int32)) &&& (1431655765 : Int32))) &&& (858993459 : Int32)) + ((zushr (a1 - ((zushr a1 (1 : Int32)) &&& (1431655765 : Int32))) (2 : Int32)) &&& (858993459 : Int32))) (4 : Int32))) &&& (252645135 : Int32)) (8 : Int32))) (16 : Int32))))]) dJ6_bitCount_0f7a4_47 (Nat.le_of_ble_eq_true rfl) rfl ?_
  refine z_iload_n dJ6_bitCount_0f7a4_48 rfl ?_
  refine z_bipush dJ6_bitCount_0f7a4_49 k_bipush_63 ?_
  refine z_iand (v := ((((((((a1 - ((zushr a1 (1 : Int32)) &&& (1431655765 : Int32))) &&& (858993459 : Int32)) + ((zushr (a1 - ((zushr a1 (1 : Int32)) &&& (1431655765 : Int32))) (2 : Int32)) &&& (858993459 : Int32))) + (zushr (((a1 - ((zushr a1 (1 : Int32)) &&& (1431655765 : Int32))) &&& (858993459 : Int32)) + ((zushr (a1 - ((zushr a1 (1 : Int32)) &&& (1431655765 : Int32))) (2 : Int32)) &&& (858993459 : Int32))) (4 : Int32))) &&& (252645135 : Int32)) + (zushr (((((a1 - ((zushr a1 (1 : Int32)) &&& (1431655765 : Int32))) &&& (858993459 : Int32)) + ((zushr (a1 - ((zushr a1 (1 : Int32)) &&& (1431655765 : Int32))) (2 : Int32)) &&& (858993459 : Int32))) + (zushr (((a1 - ((zushr a1 (1 : Int32)) &&& (1431655765 : Int32))) &&& (858993459 : Int32)) + ((zushr (a1 - ((zushr a1 (1 : Int32)) &&& (1431655765 : Int32))) (2 : Int32)) &&& (858993459 : Int32))) (4 : Int32))) &&& (252645135 : Int32)) (8 : Int32))) + (zushr ((((((a1 - ((zushr a1 (1 : Int32)) &&& (1431655765 : Int32))) &&& (858993459 : Int32)) + ((zushr (a1 - ((zushr a1 (1 : Int32)) &&& (1431655765 : Int32))) (2 : Int32)) &&& (858993459 : Int32))) + (zushr (((a1 - ((zushr a1 (1 : Int32)) &&& (1431655765 : Int32))) &&& (858993459 : Int32)) + ((zushr (a1 - ((zushr a1 (1 : Int32)) &&& (1431655765 : Int32))) (2 : Int32)) &&& (858993459 : Int32))) (4 : Int32))) &&& (252645135 : Int32)) + (zushr (((((a1 - ((zushr a1 (1 : Int32)) &&& (1431655765 : Int32))) &&& (858993459 : Int32)) + ((zushr (a1 - ((zushr a1 (1 : Int32)) &&& (1431655765 : Int32))) (2 : Int32)) &&& (858993459 : Int32))) + (zushr (((a1 - ((zushr a1 (1 : Int32)) &&& (1431655765 : Int32))) &&& (858993459 : Int32)) + ((zushr (a1 - ((zushr a1 (1 : Int32)) &&& (1431655765 : Int32))) (2 : Int32)) &&& (858993459 : Int32))) (4 : Int32))) &&& (252645135 : Int32)) (8 : Int32))) (16 : Int32))) &&& (63 : Int32))) dJ6_bitCount_0f7a4_51 rfl ?_
  exact z_ireturn dJ6_bitCount_0f7a4_52 rfl rfl (Nat.le_of_ble_eq_true rfl) (Nat.le_of_ble_eq_true rfl) (by rw [← hQ_]; exact ⟨(by rw [rJ6_bitCount_0f7a4]), rfl⟩)

theorem dX1_hangsTogether_0 : decode cX1_hangsTogether 0 = .ok (.iload_n 0, 1) := by decide +kernel
theorem dX1_hangsTogether_1 : decode cX1_hangsTogether 1 = .ok (.bipush 85, 2) := by decide +kernel
theorem dX1_hangsTogether_3 : decode cX1_hangsTogether 3 = .ok (.iand, 1) := by decide +kernel
theorem dX1_hangsTogether_4 : decode cX1_hangsTogether 4 = .ok (.istore_n 1, 1) := by decide +kernel
theorem dX1_hangsTogether_5 : decode cX1_hangsTogether 5 = .ok (.iload_n 0, 1) := by decide +kernel
theorem dX1_hangsTogether_6 : decode cX1_hangsTogether 6 = .ok (.iload_n 1, 1) := by decide +kernel
theorem dX1_hangsTogether_7 : decode cX1_hangsTogether 7 = .ok (.iconst 1, 1) := by decide +kernel
theorem dX1_hangsTogether_8 : decode cX1_hangsTogether 8 = .ok (.ishl, 1) := by decide +kernel
theorem dX1_hangsTogether_9 : decode cX1_hangsTogether 9 = .ok (.iload_n 1, 1) := by decide +kernel
theorem dX1_hangsTogether_10 : decode cX1_hangsTogether 10 = .ok (.iconst 1, 1) := by decide +kernel
theorem dX1_hangsTogether_11 : decode cX1_hangsTogether 11 = .ok (.ishr, 1) := by decide +kernel
theorem dX1_hangsTogether_12 : decode cX1_hangsTogether 12 = .ok (.iload_n 1, 1) := by decide +kernel
theorem dX1_hangsTogether_13 : decode cX1_hangsTogether 13 = .ok (.bipush 7, 2) := by decide +kernel
theorem dX1_hangsTogether_15 : decode cX1_hangsTogether 15 = .ok (.ishl, 1) := by decide +kernel
theorem dX1_hangsTogether_16 : decode cX1_hangsTogether 16 = .ok (.ior, 1) := by decide +kernel
theorem dX1_hangsTogether_17 : decode cX1_hangsTogether 17 = .ok (.iand, 1) := by decide +kernel
theorem dX1_hangsTogether_18 : decode cX1_hangsTogether 18 = .ok (.ior, 1) := by decide +kernel
theorem dX1_hangsTogether_19 : decode cX1_hangsTogether 19 = .ok (.istore_n 2, 1) := by decide +kernel
theorem dX1_hangsTogether_20 : decode cX1_hangsTogether 20 = .ok (.iload_n 2, 1) := by decide +kernel
theorem dX1_hangsTogether_21 : decode cX1_hangsTogether 21 = .ok (.iload_n 2, 1) := by decide +kernel
theorem dX1_hangsTogether_22 : decode cX1_hangsTogether 22 = .ok (.iconst 1, 1) := by decide +kernel
theorem dX1_hangsTogether_23 : decode cX1_hangsTogether 23 = .ok (.ishl, 1) := by decide +kernel
theorem dX1_hangsTogether_24 : decode cX1_hangsTogether 24 = .ok (.iload_n 2, 1) := by decide +kernel
theorem dX1_hangsTogether_25 : decode cX1_hangsTogether 25 = .ok (.bipush 7, 2) := by decide +kernel
theorem dX1_hangsTogether_27 : decode cX1_hangsTogether 27 = .ok (.ishr, 1) := by decide +kernel
theorem dX1_hangsTogether_28 : decode cX1_hangsTogether 28 = .ok (.ior, 1) := by decide +kernel
theorem dX1_hangsTogether_29 : decode cX1_hangsTogether 29 = .ok (.iconst (-1), 1) := by decide +kernel
theorem dX1_hangsTogether_30 : decode cX1_hangsTogether 30 = .ok (.ixor, 1) := by decide +kernel
theorem dX1_hangsTogether_31 : decode cX1_hangsTogether 31 = .ok (.iand, 1) := by decide +kernel
theorem dX1_hangsTogether_32 : decode cX1_hangsTogether 32 = .ok (.istore_n 3, 1) := by decide +kernel
theorem dX1_hangsTogether_33 : decode cX1_hangsTogether 33 = .ok (.iload_n 3, 1) := by decide +kernel
theorem dX1_hangsTogether_34 : decode cX1_hangsTogether 34 = .ok (.invokestatic 21, 3) := by decide +kernel
theorem dX1_hangsTogether_37 : decode cX1_hangsTogether 37 = .ok (.iconst 1, 1) := by decide +kernel
theorem dX1_hangsTogether_38 : decode cX1_hangsTogether 38 = .ok (.if_icmp .gt 7, 3) := by decide +kernel
theorem dX1_hangsTogether_41 : decode cX1_hangsTogether 41 = .ok (.iconst 1, 1) := by decide +kernel
theorem dX1_hangsTogether_42 : decode cX1_hangsTogether 42 = .ok (.goto 4, 3) := by decide +kernel
theorem dX1_hangsTogether_45 : decode cX1_hangsTogether 45 = .ok (.iconst 0, 1) := by decide +kernel
theorem dX1_hangsTogether_46 : decode cX1_hangsTogether 46 = .ok (.ireturn, 1) := by decide +kernel
def rX1_hangsTogether (a1 : Int32) : Int32 := (if (1 : Int32) < (rJ6_bitCount_0f7a4 ((a1 ||| ((zshl (a1 &&& (85 : Int32)) (1 : Int32)) &&& ((zshr (a1 &&& (85 : Int32)) (1 : Int32)) ||| (zshl (a1 &&& (85 : Int32)) (7 : Int32))))) &&& (((zshl (a1 ||| ((zshl (a1 &&& (85 : Int32)) (1 : Int32)) &&& ((zshr (a1 &&& (85 : Int32)) (1 : Int32)) ||| (zshl (a1 &&& (85 : Int32)) (7 : Int32))))) (1 : Int32)) ||| (zshr (a1 ||| ((zshl (a1 &&& (85 : Int32)) (1 : Int32)) &&& ((zshr (a1 &&& (85 : Int32)) (1 : Int32)) ||| (zshl (a1 &&& (85 : Int32)) (7 : Int32))))) (7 : Int32))) ^^^ (-1 : Int32)))) then (0 : Int32) else (1 : Int32))
set_option maxHeartbeats 1000000 in
theorem ctX1_hangsTogether (P : zp) (σ : zc_N) (a1 : Int32) : sp mX1_hangsTogether 1 0 0 [.int a1] (hh P σ) (fun r_ h_ => r_ = some (.int (rX1_hangsTogether a1)) ∧ h_ = hh P σ) := by
  refine sp_of (lv := [some (.int a1), none, none, none]) (by decide) (zcats_ok _ rfl) (Nat.le_of_ble_eq_true rfl) (zlv_ok _ 3 rfl) (fun G => ?_)
  generalize hQ_ : (fun (r_ : Option Value) (h_ : zc_H) => r_ = some (.int (rX1_hangsTogether a1)) ∧ h_ = hh P σ) = Q_
  refine z_iload_n dX1_hangsTogether_0 rfl ?_
  refine z_bipush dX1_hangsTogether_1 k_bipush_85 ?_
  refine z_iand (v := (a1 &&& (85 : Int32))) dX1_hangsTogether_3 rfl ?_
  refine z_istore_n (lv' := [some (.int a1), some (.int (a1 &&& (85 : Int32))), none, none]) dX1_hangsTogether_4 (Nat.le_of_ble_eq_true rfl) rfl ?_
  refine z_iload_n dX1_hangsTogether_5 rfl ?_
  refine z_iload_n dX1_hangsTogether_6 rfl ?_
  refine z_iconst dX1_hangsTogether_7 k_iconst_1 ?_
  refine z_ishl (v := (zshl (a1 &&& (85 : Int32)) (1 : Int32))) dX1_hangsTogether_8 rfl ?_
  refine z_iload_n dX1_hangsTogether_9 rfl ?_
  refine z_iconst dX1_hangsTogether_10 k_iconst_1 ?_
  refine z_ishr (v := (zshr (a1 &&& (85 : Int32)) (1 : Int32))) dX1_hangsTogether_11 rfl ?_
  refine z_iload_n dX1_hangsTogether_12 rfl ?_
  refine z_bipush dX1_hangsTogether_13 k_bipush_7 ?_
  refine z_ishl (v := (zshl (a1 &&& (85 : Int32)) (7 : Int32))) dX1_hangsTogether_15 rfl ?_
  refine z_ior (v := ((zshr (a1 &&& (85 : Int32)) (1 : Int32)) ||| (zshl (a1 &&& (85 : Int32)) (7 : Int32)))) dX1_hangsTogether_16 rfl ?_
  refine z_iand (v := ((zshl (a1 &&& (85 : Int32)) (1 : Int32)) &&& ((zshr (a1 &&& (85 : Int32)) (1 : Int32)) ||| (zshl (a1 &&& (85 : Int32)) (7 : Int32))))) dX1_hangsTogether_17 rfl ?_
  refine z_ior (v := (a1 ||| ((zshl (a1 &&& (85 : Int32)) (1 : Int32)) &&& ((zshr (a1 &&& (85 : Int32)) (1 : Int32)) ||| (zshl (a1 &&& (85 : Int32)) (7 : Int32)))))) dX1_hangsTogether_18 rfl ?_
  refine z_istore_n (lv' := [some (.int a1), some (.int (a1 &&& (85 : Int32))), some (.int (a1 ||| ((zshl (a1 &&& (85 : Int32)) (1 : Int32)) &&& ((zshr (a1 &&& (85 : Int32)) (1 : Int32)) ||| (zshl (a1 &&& (85 : Int32)) (7 : Int32)))))), none]) dX1_hangsTogether_19 (Nat.le_of_ble_eq_true rfl) rfl ?_
  refine z_iload_n dX1_hangsTogether_20 rfl ?_
  refine z_iload_n dX1_hangsTogether_21 rfl ?_
  refine z_iconst dX1_hangsTogether_22 k_iconst_1 ?_
  refine z_ishl (v := (zshl (a1 ||| ((zshl (a1 &&& (85 : Int32)) (1 : Int32)) &&& ((zshr (a1 &&& (85 : Int32)) (1 : Int32)) ||| (zshl (a1 &&& (85 : Int32)) (7 : Int32))))) (1 : Int32))) dX1_hangsTogether_23 rfl ?_
  refine z_iload_n dX1_hangsTogether_24 rfl ?_
  refine z_bipush dX1_hangsTogether_25 k_bipush_7 ?_
  refine z_ishr (v := (zshr (a1 ||| ((zshl (a1 &&& (85 : Int32)) (1 : Int32)) &&& ((zshr (a1 &&& (85 : Int32)) (1 : Int32)) ||| (zshl (a1 &&& (85 : Int32)) (7 : Int32))))) (7 : Int32))) dX1_hangsTogether_27 rfl ?_
  refine z_ior (v := ((zshl (a1 ||| ((zshl (a1 &&& (85 : Int32)) (1 : Int32)) &&& ((zshr (a1 &&& (85 : Int32)) (1 : Int32)) ||| (zshl (a1 &&& (85 : Int32)) (7 : Int32))))) (1 : Int32)) ||| (zshr (a1 ||| ((zshl (a1 &&& (85 : Int32)) (1 : Int32)) &&& ((zshr (a1 &&& (85 : Int32)) (1 : Int32)) ||| (zshl (a1 &&& (85 : Int32)) (7 : Int32))))) (7 : Int32)))) dX1_hangsTogether_28 rfl ?_
  refine z_iconst dX1_hangsTogether_29 k_iconst_m1 ?_
  refine z_ixor (v := (((zshl (a1 ||| ((zshl (a1 &&& (85 : Int32)) (1 : Int32)) &&& ((zshr (a1 &&& (85 : Int32)) (1 : Int32)) ||| (zshl (a1 &&& (85 : Int32)) (7 : Int32))))) (1 : Int32)) ||| (zshr (a1 ||| ((zshl (a1 &&& (85 : Int32)) (1 : Int32)) &&& ((zshr (a1 &&& (85 : Int32)) (1 : Int32)) ||| (zshl (a1 &&& (85 : Int32)) (7 : Int32))))) (7 : Int32))) ^^^ (-1 : Int32))) dX1_hangsTogether_30 rfl ?_
  refine z_iand (v := ((a1 ||| ((zshl (a1 &&& (85 : Int32)) (1 : Int32)) &&& ((zshr (a1 &&& (85 : Int32)) (1 : Int32)) ||| (zshl (a1 &&& (85 : Int32)) (7 : Int32))))) &&& (((zshl (a1 ||| ((zshl (a1 &&& (85 : Int32)) (1 : Int32)) &&& ((zshr (a1 &&& (85 : Int32)) (1 : Int32)) ||| (zshl (a1 &&& (85 : Int32)) (7 : Int32))))) (1 : Int32)) ||| (zshr (a1 ||| ((zshl (a1 &&& (85 : Int32)) (1 : Int32)) &&& ((zshr (a1 &&& (85 : Int32)) (1 : Int32)) ||| (zshl (a1 &&& (85 : Int32)) (7 : Int32))))) (7 : Int32))) ^^^ (-1 : Int32)))) dX1_hangsTogether_31 rfl ?_
  refine z_istore_n (lv' := [some (.int a1), some (.int (a1 &&& (85 : Int32))), some (.int (a1 ||| ((zshl (a1 &&& (85 : Int32)) (1 : Int32)) &&& ((zshr (a1 &&& (85 : Int32)) (1 : Int32)) ||| (zshl (a1 &&& (85 : Int32)) (7 : Int32)))))), some (.int ((a1 ||| ((zshl (a1 &&& (85 : Int32)) (1 : Int32)) &&& ((zshr (a1 &&& (85 : Int32)) (1 : Int32)) ||| (zshl (a1 &&& (85 : Int32)) (7 : Int32))))) &&& (((zshl (a1 ||| ((zshl (a1 &&& (85 : Int32)) (1 : Int32)) &&& ((zshr (a1 &&& (85 : Int32)) (1 : Int32)) ||| (zshl (a1 &&& (85 : Int32)) (7 : Int32))))) (1 : Int32)) ||| (zshr (a1 ||| ((zshl (a1 &&& (85 : Int32)) (1 : Int32)) &&& ((zshr (a1 &&& (85 : Int32)) (1 : Int32)) ||| (zshl (a1 &&& (85 : Int32)) (7 : Int32))))) (7 : Int32))) ^^^ (-1 : Int32))))]) dX1_hangsTogether_32 (Nat.le_of_ble_eq_true rfl) rfl ?_
  refine z_iload_n dX1_hangsTogether_33 rfl ?_
  refine z_callS (As := [.int ((a1 ||| ((zshl (a1 &&& (85 : Int32)) (1 : Int32)) &&& ((zshr (a1 &&& (85 : Int32)) (1 : Int32)) ||| (zshl (a1 &&& (85 : Int32)) (7 : Int32))))) &&& (((zshl (a1 ||| ((zshl (a1 &&& (85 : Int32)) (1 : Int32)) &&& ((zshr (a1 &&& (85 : Int32)) (1 : Int32)) ||| (zshl (a1 &&& (85 : Int32)) (7 : Int32))))) (1 : Int32)) ||| (zshr (a1 ||| ((zshl (a1 &&& (85 : Int32)) (1 : Int32)) &&& ((zshr (a1 &&& (85 : Int32)) (1 : Int32)) ||| (zshl (a1 &&& (85 : Int32)) (7 : Int32))))) (7 : Int32))) ^^^ (-1 : Int32)))]) (rest := []) (ctJ6_bitCount_0f7a4 P σ ((a1 ||| ((zshl (a1 &&& (85 : Int32)) (1 : Int32)) &&& ((zshr (a1 &&& (85 : Int32)) (1 : Int32)) ||| (zshl (a1 &&& (85 : Int32)) (7 : Int32))))) &&& (((zshl (a1 ||| ((zshl (a1 &&& (85 : Int32)) (1 : Int32)) &&& ((zshr (a1 &&& (85 : Int32)) (1 : Int32)) ||| (zshl (a1 &&& (85 : Int32)) (7 : Int32))))) (1 : Int32)) ||| (zshr (a1 ||| ((zshl (a1 &&& (85 : Int32)) (1 : Int32)) &&& ((zshr (a1 &&& (85 : Int32)) (1 : Int32)) ||| (zshl (a1 &&& (85 : Int32)) (7 : Int32))))) (7 : Int32))) ^^^ (-1 : Int32)))) dX1_hangsTogether_34 lk_X1_21 ls_J6_bitCount_0f7a4 rfl (Nat.le_of_ble_eq_true rfl) (Nat.le_of_ble_eq_true rfl) (Nat.le_of_ble_eq_true rfl) (Nat.le_of_ble_eq_true rfl) (fun r_ h_ e_ => ?_)
  obtain ⟨e1_, e2_⟩ := e_
  subst e1_
  subst e2_
  show zz G mX1_hangsTogether 1 0 0 Q_ 37 [some (.int a1), some (.int (a1 &&& (85 : Int32))), some (.int (a1 ||| ((zshl (a1 &&& (85 : Int32)) (1 : Int32)) &&& ((zshr (a1 &&& (85 : Int32)) (1 : Int32)) ||| (zshl (a1 &&& (85 : Int32)) (7 : Int32)))))), some (.int ((a1 ||| ((zshl (a1 &&& (85 : Int32)) (1 : Int32)) &&& ((zshr (a1 &&& (85 : Int32)) (1 : Int32)) ||| (zshl (a1 &&& (85 : Int32)) (7 : Int32))))) &&& (((zshl (a1 ||| ((zshl (a1 &&& (85 : Int32)) (1 : Int32)) &&& ((zshr (a1 &&& (85 : Int32)) (1 : Int32)) ||| (zshl (a1 &&& (85 : Int32)) (7 : Int32))))) (1 : Int32)) ||| (zshr (a1 ||| ((zshl (a1 &&& (85 : Int32)) (1 : Int32)) &&& ((zshr (a1 &&& (85 : Int32)) (1 : Int32)) ||| (zshl (a1 &&& (85 : Int32)) (7 : Int32))))) (7 : Int32))) ^^^ (-1 : Int32))))] [.int (rJ6_bitCount_0f7a4 ((a1 ||| ((zshl (a1 &&& (85 : Int32)) (1 : Int32)) &&& ((zshr (a1 &&& (85 : Int32)) (1 : Int32)) ||| (zshl (a1 &&& (85 : Int32)) (7 : Int32))))) &&& (((zshl (a1 ||| ((zshl (a1 &&& (85 : Int32)) (1 : Int32)) &&& ((zshr (a1 &&& (85 : Int32)) (1 : Int32)) ||| (zshl (a1 &&& (85 : Int32)) (7 : Int32))))) (1 : Int32)) ||| (zshr (a1 ||| ((zshl (a1 &&& (85 : Int32)) (1 : Int32)) &&& ((zshr (a1 &&& (85 : Int32)) (1 : Int32)) ||| (zshl (a1 &&& (85 : Int32)) (7 : Int32))))) (7 : Int32))) ^^^ (-1 : Int32))))] (hh P σ) 0 0
  refine z_iconst dX1_hangsTogether_37 k_iconst_1 ?_
  have K_1 : zz G mX1_hangsTogether 1 0 0 Q_ 46 [none, none, none, none] [.int (if (1 : Int32) < (rJ6_bitCount_0f7a4 ((a1 ||| ((zshl (a1 &&& (85 : Int32)) (1 : Int32)) &&& ((zshr (a1 &&& (85 : Int32)) (1 : Int32)) ||| (zshl (a1 &&& (85 : Int32)) (7 : Int32))))) &&& (((zshl (a1 ||| ((zshl (a1 &&& (85 : Int32)) (1 : Int32)) &&& ((zshr (a1 &&& (85 : Int32)) (1 : Int32)) ||| (zshl (a1 &&& (85 : Int32)) (7 : Int32))))) (1 : Int32)) ||| (zshr (a1 ||| ((zshl (a1 &&& (85 : Int32)) (1 : Int32)) &&& ((zshr (a1 &&& (85 : Int32)) (1 : Int32)) ||| (zshl (a1 &&& (85 : Int32)) (7 : Int32))))) (7 : Int32))) ^^^ (-1 : Int32)))) then (0 : Int32) else (1 : Int32))] (hh P σ) 0 0 := by
    exact z_ireturn dX1_hangsTogether_46 rfl (by (repeat' split) <;> rfl) (Nat.le_of_ble_eq_true rfl) (Nat.le_of_ble_eq_true rfl) (by rw [← hQ_]; exact ⟨(by rw [rX1_hangsTogether]), rfl⟩)
  refine z_icmp_gt (tgt := 45) dX1_hangsTogether_38 (by decide) (fun c_1 => ?_) (fun c_1 => ?_)
  · refine z_iconst dX1_hangsTogether_45 k_iconst_0 ?_
    refine zz_sub (lv' := [none, none, none, none]) trivial ?_
    first | exact K_1 | simpa only [if_pos c_1] using K_1
  · refine z_iconst dX1_hangsTogether_41 k_iconst_1 ?_
    refine z_goto (tgt := 46) dX1_hangsTogether_42 (by decide) ?_
    refine zz_sub (lv' := [none, none, none, none]) trivial ?_
    first | exact K_1 | simpa only [if_neg c_1] using K_1

theorem dX1_goes_0 : decode cX1_goes 0 = .ok (.iload_n 0, 1) := by decide +kernel
theorem dX1_goes_1 : decode cX1_goes 1 = .ok (.bipush 85, 2) := by decide +kernel
theorem dX1_goes_3 : decode cX1_goes 3 = .ok (.iand, 1) := by decide +kernel
theorem dX1_goes_4 : decode cX1_goes 4 = .ok (.istore_n 1, 1) := by decide +kernel
theorem dX1_goes_5 : decode cX1_goes 5 = .ok (.iload_n 1, 1) := by decide +kernel
theorem dX1_goes_6 : decode cX1_goes 6 = .ok (.bipush 85, 2) := by decide +kernel
theorem dX1_goes_8 : decode cX1_goes 8 = .ok (.if_icmp .eq 22, 3) := by decide +kernel
theorem dX1_goes_11 : decode cX1_goes 11 = .ok (.iload_n 0, 1) := by decide +kernel
theorem dX1_goes_12 : decode cX1_goes 12 = .ok (.invokestatic 21, 3) := by decide +kernel
theorem dX1_goes_15 : decode cX1_goes 15 = .ok (.iconst 2, 1) := by decide +kernel
theorem dX1_goes_16 : decode cX1_goes 16 = .ok (.if_icmp .lt 14, 3) := by decide +kernel
theorem dX1_goes_19 : decode cX1_goes 19 = .ok (.iload_n 0, 1) := by decide +kernel
theorem dX1_goes_20 : decode cX1_goes 20 = .ok (.invokestatic 43, 3) := by decide +kernel
theorem dX1_goes_23 : decode cX1_goes 23 = .ok (.ifCond .eq 7, 3) := by decide +kernel
theorem dX1_goes_26 : decode cX1_goes 26 = .ok (.iconst 1, 1) := by decide +kernel
theorem dX1_goes_27 : decode cX1_goes 27 = .ok (.goto 4, 3) := by decide +kernel
theorem dX1_goes_30 : decode cX1_goes 30 = .ok (.iconst 0, 1) := by decide +kernel
theorem dX1_goes_31 : decode cX1_goes 31 = .ok (.ireturn, 1) := by decide +kernel
def rX1_goes (a1 : Int32) : Int32 := (if (a1 &&& (85 : Int32)) = (85 : Int32) then (0 : Int32) else (if (rJ6_bitCount_0f7a4 a1) < (2 : Int32) then (0 : Int32) else (if (rX1_hangsTogether a1) = (0 : Int32) then (0 : Int32) else (1 : Int32))))
set_option maxHeartbeats 1000000 in
theorem ctX1_goes (P : zp) (σ : zc_N) (a1 : Int32) : sp mX1_goes 2 0 0 [.int a1] (hh P σ) (fun r_ h_ => r_ = some (.int (rX1_goes a1)) ∧ h_ = hh P σ) := by
  refine sp_of (lv := [some (.int a1), none]) (by decide) (zcats_ok _ rfl) (Nat.le_of_ble_eq_true rfl) (zlv_ok _ 1 rfl) (fun G => ?_)
  generalize hQ_ : (fun (r_ : Option Value) (h_ : zc_H) => r_ = some (.int (rX1_goes a1)) ∧ h_ = hh P σ) = Q_
  refine z_iload_n dX1_goes_0 rfl ?_
  refine z_bipush dX1_goes_1 k_bipush_85 ?_
  refine z_iand (v := (a1 &&& (85 : Int32))) dX1_goes_3 rfl ?_
  refine z_istore_n (lv' := [some (.int a1), some (.int (a1 &&& (85 : Int32)))]) dX1_goes_4 (Nat.le_of_ble_eq_true rfl) rfl ?_
  refine z_iload_n dX1_goes_5 rfl ?_
  refine z_bipush dX1_goes_6 k_bipush_85 ?_
  have K_1 : zz G mX1_goes 2 0 0 Q_ 31 [none, none] [.int (if (a1 &&& (85 : Int32)) = (85 : Int32) then (0 : Int32) else (if (rJ6_bitCount_0f7a4 a1) < (2 : Int32) then (0 : Int32) else (if (rX1_hangsTogether a1) = (0 : Int32) then (0 : Int32) else (1 : Int32))))] (hh P σ) 0 0 := by
    exact z_ireturn dX1_goes_31 rfl (by (repeat' split) <;> rfl) (Nat.le_of_ble_eq_true rfl) (Nat.le_of_ble_eq_true rfl) (by rw [← hQ_]; exact ⟨(by rw [rX1_goes]), rfl⟩)
  refine z_icmp_eq (tgt := 30) dX1_goes_8 (by decide) (fun c_1 => ?_) (fun c_1 => ?_)
  · refine z_iconst dX1_goes_30 k_iconst_0 ?_
    refine zz_sub (lv' := [none, none]) trivial ?_
    first | exact K_1 | simpa only [if_pos c_1] using K_1
  · refine z_iload_n dX1_goes_11 rfl ?_
    refine z_callS (As := [.int a1]) (rest := []) (ctJ6_bitCount_0f7a4 P σ a1) dX1_goes_12 lk_X1_21 ls_J6_bitCount_0f7a4 rfl (Nat.le_of_ble_eq_true rfl) (Nat.le_of_ble_eq_true rfl) (Nat.le_of_ble_eq_true rfl) (Nat.le_of_ble_eq_true rfl) (fun r_ h_ e_ => ?_)
    obtain ⟨e1_, e2_⟩ := e_
    subst e1_
    subst e2_
    show zz G mX1_goes 2 0 0 Q_ 15 [some (.int a1), some (.int (a1 &&& (85 : Int32)))] [.int (rJ6_bitCount_0f7a4 a1)] (hh P σ) 0 0
    refine z_iconst dX1_goes_15 k_iconst_2 ?_
    refine z_icmp_lt (tgt := 30) dX1_goes_16 (by decide) (fun c_2 => ?_) (fun c_2 => ?_)
    · refine z_iconst dX1_goes_30 k_iconst_0 ?_
      refine zz_sub (lv' := [none, none]) trivial ?_
      first | exact K_1 | simpa only [if_neg c_1, if_pos c_2] using K_1
    · refine z_iload_n dX1_goes_19 rfl ?_
      refine z_callS (As := [.int a1]) (rest := []) (ctX1_hangsTogether P σ a1) dX1_goes_20 lk_X1_43 ls_X1_hangsTogether rfl (Nat.le_of_ble_eq_true rfl) (Nat.le_of_ble_eq_true rfl) (Nat.le_of_ble_eq_true rfl) (Nat.le_of_ble_eq_true rfl) (fun r_ h_ e_ => ?_)
      obtain ⟨e1_, e2_⟩ := e_
      subst e1_
      subst e2_
      show zz G mX1_goes 2 0 0 Q_ 23 [some (.int a1), some (.int (a1 &&& (85 : Int32)))] [.int (rX1_hangsTogether a1)] (hh P σ) 0 0
      refine z_if_eq (tgt := 30) dX1_goes_23 (by decide) (fun c_3 => ?_) (fun c_3 => ?_)
      · refine z_iconst dX1_goes_30 k_iconst_0 ?_
        refine zz_sub (lv' := [none, none]) trivial ?_
        first | exact K_1 | simpa only [if_neg c_1, if_neg c_2, if_pos c_3] using K_1
      · refine z_iconst dX1_goes_26 k_iconst_1 ?_
        refine z_goto (tgt := 31) dX1_goes_27 (by decide) ?_
        refine zz_sub (lv' := [none, none]) trivial ?_
        first | exact K_1 | simpa only [if_neg c_1, if_neg c_2, if_neg c_3] using K_1

theorem dX1_kindOf_0 : decode cX1_kindOf 0 = .ok (.iload_n 0, 1) := by decide +kernel
theorem dX1_kindOf_1 : decode cX1_kindOf 1 = .ok (.ifCond .ne 5, 3) := by decide +kernel
theorem dX1_kindOf_4 : decode cX1_kindOf 4 = .ok (.iconst 0, 1) := by decide +kernel
theorem dX1_kindOf_5 : decode cX1_kindOf 5 = .ok (.ireturn, 1) := by decide +kernel
theorem dX1_kindOf_6 : decode cX1_kindOf 6 = .ok (.iload_n 0, 1) := by decide +kernel
theorem dX1_kindOf_7 : decode cX1_kindOf 7 = .ok (.iconst 1, 1) := by decide +kernel
theorem dX1_kindOf_8 : decode cX1_kindOf 8 = .ok (.if_icmp .ne 5, 3) := by decide +kernel
theorem dX1_kindOf_11 : decode cX1_kindOf 11 = .ok (.iconst 1, 1) := by decide +kernel
theorem dX1_kindOf_12 : decode cX1_kindOf 12 = .ok (.ireturn, 1) := by decide +kernel
theorem dX1_kindOf_13 : decode cX1_kindOf 13 = .ok (.iload_n 0, 1) := by decide +kernel
theorem dX1_kindOf_14 : decode cX1_kindOf 14 = .ok (.iconst 3, 1) := by decide +kernel
theorem dX1_kindOf_15 : decode cX1_kindOf 15 = .ok (.if_icmp .lt 11, 3) := by decide +kernel
theorem dX1_kindOf_18 : decode cX1_kindOf 18 = .ok (.iload_n 1, 1) := by decide +kernel
theorem dX1_kindOf_19 : decode cX1_kindOf 19 = .ok (.ifCond .ne 7, 3) := by decide +kernel
theorem dX1_kindOf_22 : decode cX1_kindOf 22 = .ok (.iconst 2, 1) := by decide +kernel
theorem dX1_kindOf_23 : decode cX1_kindOf 23 = .ok (.goto 4, 3) := by decide +kernel
theorem dX1_kindOf_26 : decode cX1_kindOf 26 = .ok (.iconst (-1), 1) := by decide +kernel
theorem dX1_kindOf_27 : decode cX1_kindOf 27 = .ok (.ireturn, 1) := by decide +kernel
def rX1_kindOf (a1 : Int32) (a2 : Int32) : Int32 := (if a1 = (0 : Int32) then (0 : Int32) else (if a1 = (1 : Int32) then (1 : Int32) else (if a1 < (3 : Int32) then (-1 : Int32) else (if a2 = (0 : Int32) then (2 : Int32) else (-1 : Int32)))))
set_option maxHeartbeats 1000000 in
theorem ctX1_kindOf (P : zp) (σ : zc_N) (a1 : Int32) (a2 : Int32) : sp mX1_kindOf 0 0 0 [.int a1, .int a2] (hh P σ) (fun r_ h_ => r_ = some (.int (rX1_kindOf a1 a2)) ∧ h_ = hh P σ) := by
  refine sp_of (lv := [some (.int a1), some (.int a2)]) (by decide) (zcats_ok _ rfl) (Nat.le_of_ble_eq_true rfl) (zlv_ok _ 0 rfl) (fun G => ?_)
  generalize hQ_ : (fun (r_ : Option Value) (h_ : zc_H) => r_ = some (.int (rX1_kindOf a1 a2)) ∧ h_ = hh P σ) = Q_
  refine z_iload_n dX1_kindOf_0 rfl ?_
  refine z_if_ne (tgt := 6) dX1_kindOf_1 (by decide) (fun c_1 => ?_) (fun c_1 => ?_)
  · refine z_iload_n dX1_kindOf_6 rfl ?_
    refine z_iconst dX1_kindOf_7 k_iconst_1 ?_
    refine z_icmp_ne (tgt := 13) dX1_kindOf_8 (by decide) (fun c_2 => ?_) (fun c_2 => ?_)
    · refine z_iload_n dX1_kindOf_13 rfl ?_
      refine z_iconst dX1_kindOf_14 k_iconst_3 ?_
      have K_1 : zz G mX1_kindOf 0 0 0 Q_ 27 [none, none] [.int (if a1 < (3 : Int32) then (-1 : Int32) else (if a2 = (0 : Int32) then (2 : Int32) else (-1 : Int32)))] (hh P σ) 0 0 := by
        exact z_ireturn dX1_kindOf_27 rfl rfl (Nat.le_of_ble_eq_true rfl) (Nat.le_of_ble_eq_true rfl) (by rw [← hQ_]; exact ⟨(by rw [rX1_kindOf]; simp only [if_neg c_1, if_neg c_2]), rfl⟩)
      refine z_icmp_lt (tgt := 26) dX1_kindOf_15 (by decide) (fun c_3 => ?_) (fun c_3 => ?_)
      · refine z_iconst dX1_kindOf_26 k_iconst_m1 ?_
        refine zz_sub (lv' := [none, none]) trivial ?_
        first | exact K_1 | simpa only [if_pos c_3] using K_1
      · refine z_iload_n dX1_kindOf_18 rfl ?_
        refine z_if_ne (tgt := 26) dX1_kindOf_19 (by decide) (fun c_4 => ?_) (fun c_4 => ?_)
        · refine z_iconst dX1_kindOf_26 k_iconst_m1 ?_
          refine zz_sub (lv' := [none, none]) trivial ?_
          first | exact K_1 | simpa only [if_neg c_3, if_neg c_4] using K_1
        · refine z_iconst dX1_kindOf_22 k_iconst_2 ?_
          refine z_goto (tgt := 27) dX1_kindOf_23 (by decide) ?_
          refine zz_sub (lv' := [none, none]) trivial ?_
          first | exact K_1 | simpa only [if_neg c_3, if_pos c_4] using K_1
    · refine z_iconst dX1_kindOf_11 k_iconst_1 ?_
      exact z_ireturn dX1_kindOf_12 rfl rfl (Nat.le_of_ble_eq_true rfl) (Nat.le_of_ble_eq_true rfl) (by rw [← hQ_]; exact ⟨(by rw [rX1_kindOf]; simp only [if_neg c_1, if_pos c_2]), rfl⟩)
  · refine z_iconst dX1_kindOf_4 k_iconst_0 ?_
    exact z_ireturn dX1_kindOf_5 rfl rfl (Nat.le_of_ble_eq_true rfl) (Nat.le_of_ble_eq_true rfl) (by rw [← hQ_]; exact ⟨(by rw [rX1_kindOf]; simp only [if_pos c_1]), rfl⟩)

theorem dX1_takes_0 : decode cX1_takes 0 = .ok (.iload_n 1, 1) := by decide +kernel
theorem dX1_takes_1 : decode cX1_takes 1 = .ok (.iconst 0, 1) := by decide +kernel
theorem dX1_takes_2 : decode cX1_takes 2 = .ok (.bipush 17, 2) := by decide +kernel
theorem dX1_takes_4 : decode cX1_takes 4 = .ok (.invokestatic 72, 3) := by decide +kernel
theorem dX1_takes_7 : decode cX1_takes 7 = .ok (.ifCond .eq 13, 3) := by decide +kernel
theorem dX1_takes_10 : decode cX1_takes 10 = .ok (.iload_n 2, 1) := by decide +kernel
theorem dX1_takes_11 : decode cX1_takes 11 = .ok (.iconst 0, 1) := by decide +kernel
theorem dX1_takes_12 : decode cX1_takes 12 = .ok (.bipush 17, 2) := by decide +kernel
theorem dX1_takes_14 : decode cX1_takes 14 = .ok (.invokestatic 72, 3) := by decide +kernel
theorem dX1_takes_17 : decode cX1_takes 17 = .ok (.ifCond .ne 5, 3) := by decide +kernel
theorem dX1_takes_20 : decode cX1_takes 20 = .ok (.iconst 0, 1) := by decide +kernel
theorem dX1_takes_21 : decode cX1_takes 21 = .ok (.ireturn, 1) := by decide +kernel
theorem dX1_takes_22 : decode cX1_takes 22 = .ok (.iconst 1, 1) := by decide +kernel
theorem dX1_takes_23 : decode cX1_takes 23 = .ok (.bipush 17, 2) := by decide +kernel
theorem dX1_takes_25 : decode cX1_takes 25 = .ok (.iload_n 1, 1) := by decide +kernel
theorem dX1_takes_26 : decode cX1_takes 26 = .ok (.isub, 1) := by decide +kernel
theorem dX1_takes_27 : decode cX1_takes 27 = .ok (.ishl, 1) := by decide +kernel
theorem dX1_takes_28 : decode cX1_takes 28 = .ok (.istore_n 3, 1) := by decide +kernel
theorem dX1_takes_29 : decode cX1_takes 29 = .ok (.aload_n 0, 1) := by decide +kernel
theorem dX1_takes_30 : decode cX1_takes 30 = .ok (.getfield 15, 3) := by decide +kernel
theorem dX1_takes_33 : decode cX1_takes 33 = .ok (.iload_n 2, 1) := by decide +kernel
theorem dX1_takes_34 : decode cX1_takes 34 = .ok (.iaload, 1) := by decide +kernel
theorem dX1_takes_35 : decode cX1_takes 35 = .ok (.iload_n 3, 1) := by decide +kernel
theorem dX1_takes_36 : decode cX1_takes 36 = .ok (.iand, 1) := by decide +kernel
theorem dX1_takes_37 : decode cX1_takes 37 = .ok (.ifCond .eq 7, 3) := by decide +kernel
theorem dX1_takes_40 : decode cX1_takes 40 = .ok (.iconst 1, 1) := by decide +kernel
theorem dX1_takes_41 : decode cX1_takes 41 = .ok (.goto 4, 3) := by decide +kernel
theorem dX1_takes_44 : decode cX1_takes 44 = .ok (.iconst 0, 1) := by decide +kernel
theorem dX1_takes_45 : decode cX1_takes 45 = .ok (.istore 4, 2) := by decide +kernel
theorem dX1_takes_47 : decode cX1_takes 47 = .ok (.aload_n 0, 1) := by decide +kernel
theorem dX1_takes_48 : decode cX1_takes 48 = .ok (.getfield 15, 3) := by decide +kernel
theorem dX1_takes_51 : decode cX1_takes 51 = .ok (.iload_n 2, 1) := by decide +kernel
theorem dX1_takes_52 : decode cX1_takes 52 = .ok (.dup2, 1) := by decide +kernel
theorem dX1_takes_53 : decode cX1_takes 53 = .ok (.iaload, 1) := by decide +kernel
theorem dX1_takes_54 : decode cX1_takes 54 = .ok (.iload_n 3, 1) := by decide +kernel
theorem dX1_takes_55 : decode cX1_takes 55 = .ok (.iconst (-1), 1) := by decide +kernel
theorem dX1_takes_56 : decode cX1_takes 56 = .ok (.ixor, 1) := by decide +kernel
theorem dX1_takes_57 : decode cX1_takes 57 = .ok (.iand, 1) := by decide +kernel
theorem dX1_takes_58 : decode cX1_takes 58 = .ok (.iastore, 1) := by decide +kernel
theorem dX1_takes_59 : decode cX1_takes 59 = .ok (.iload 4, 2) := by decide +kernel
theorem dX1_takes_61 : decode cX1_takes 61 = .ok (.ireturn, 1) := by decide +kernel
def rX1_takes (σ : zc_N) (a1 : Int32) (a2 : Int32) : Int32 := (if (rX8_isWithin a1 (0 : Int32) (17 : Int32)) = (0 : Int32) then (0 : Int32) else (if (rX8_isWithin a2 (0 : Int32) (17 : Int32)) = (0 : Int32) then (0 : Int32) else (if (((σ 6) a2.toNatClampNeg) &&& (zshl (1 : Int32) ((17 : Int32) - a1))) = (0 : Int32) then (0 : Int32) else (1 : Int32))))
def sX1_takes (σ : zc_N) (a1 : Int32) (a2 : Int32) : zc_N := (if (rX8_isWithin a1 (0 : Int32) (17 : Int32)) = (0 : Int32) then σ else (if (rX8_isWithin a2 (0 : Int32) (17 : Int32)) = (0 : Int32) then σ else (zu σ 6 (zu (σ 6) a2.toNatClampNeg (((σ 6) a2.toNatClampNeg) &&& ((zshl (1 : Int32) ((17 : Int32) - a1)) ^^^ (-1 : Int32)))))))
set_option maxHeartbeats 1000000 in
theorem ctX1_takes (P : zp) (σ : zc_N) (a1 : Int32) (a2 : Int32) (W_ : (((rX8_isWithin a1 (0 : Int32) (17 : Int32)) = (0 : Int32) → True) ∧ (¬ (rX8_isWithin a1 (0 : Int32) (17 : Int32)) = (0 : Int32) → (((rX8_isWithin a2 (0 : Int32) (17 : Int32)) = (0 : Int32) → True) ∧ (¬ (rX8_isWithin a2 (0 : Int32) (17 : Int32)) = (0 : Int32) → (vp_in a2 18 ∧ (vp_in a2 18 ∧ vp_in a2 18))))))) : sp mX1_takes 1 0 0 [.ref 4, .int a1, .int a2] (hh P σ) (fun r_ h_ => r_ = some (.int (rX1_takes σ a1 a2)) ∧ h_ = hh P (sX1_takes σ a1 a2)) := by
  refine sp_of (lv := [some (.ref 4), some (.int a1), some (.int a2), none, none]) (by decide) (zcats_ok _ rfl) (Nat.le_of_ble_eq_true rfl) (zlv_ok _ 2 rfl) (fun G => ?_)
  generalize hQ_ : (fun (r_ : Option Value) (h_ : zc_H) => r_ = some (.int (rX1_takes σ a1 a2)) ∧ h_ = hh P (sX1_takes σ a1 a2)) = Q_
  refine z_iload_n dX1_takes_0 rfl ?_
  refine z_iconst dX1_takes_1 k_iconst_0 ?_
  refine z_bipush dX1_takes_2 k_bipush_17 ?_
  refine z_callSN (As := [.int a1, .int (0 : Int32), .int (17 : Int32)]) (rest := []) (ctX8_isWithin P σ a1 (0 : Int32) (17 : Int32)) dX1_takes_4 ln_X1_72 ls_X8_isWithin rfl (Nat.le_of_ble_eq_true rfl) (Nat.le_of_ble_eq_true rfl) (Nat.le_of_ble_eq_true rfl) (Nat.le_of_ble_eq_true rfl) (fun r_ h_ e_ => ?_)
  obtain ⟨e1_, e2_⟩ := e_
  subst e1_
  subst e2_
  show zz G mX1_takes 1 0 0 Q_ 7 [some (.ref 4), some (.int a1), some (.int a2), none, none] [.int (rX8_isWithin a1 (0 : Int32) (17 : Int32))] (hh P σ) 0 0
  refine z_if_eq (tgt := 20) dX1_takes_7 (by decide) (fun c_1 => ?_) (fun c_1 => ?_)
  · refine z_iconst dX1_takes_20 k_iconst_0 ?_
    exact z_ireturn dX1_takes_21 rfl rfl (Nat.le_of_ble_eq_true rfl) (Nat.le_of_ble_eq_true rfl) (by rw [← hQ_]; exact ⟨(by rw [rX1_takes]; simp only [if_pos c_1]), (by rw [sX1_takes]; simp only [if_pos c_1])⟩)
  · refine z_iload_n dX1_takes_10 rfl ?_
    refine z_iconst dX1_takes_11 k_iconst_0 ?_
    refine z_bipush dX1_takes_12 k_bipush_17 ?_
    refine z_callSN (As := [.int a2, .int (0 : Int32), .int (17 : Int32)]) (rest := []) (ctX8_isWithin P σ a2 (0 : Int32) (17 : Int32)) dX1_takes_14 ln_X1_72 ls_X8_isWithin rfl (Nat.le_of_ble_eq_true rfl) (Nat.le_of_ble_eq_true rfl) (Nat.le_of_ble_eq_true rfl) (Nat.le_of_ble_eq_true rfl) (fun r_ h_ e_ => ?_)
    obtain ⟨e1_, e2_⟩ := e_
    subst e1_
    subst e2_
    show zz G mX1_takes 1 0 0 Q_ 17 [some (.ref 4), some (.int a1), some (.int a2), none, none] [.int (rX8_isWithin a2 (0 : Int32) (17 : Int32))] (hh P σ) 0 0
    refine z_if_ne (tgt := 22) dX1_takes_17 (by decide) (fun c_2 => ?_) (fun c_2 => ?_)
    · refine z_iconst dX1_takes_22 k_iconst_1 ?_
      refine z_bipush dX1_takes_23 k_bipush_17 ?_
      refine z_iload_n dX1_takes_25 rfl ?_
      refine z_isub (v := ((17 : Int32) - a1)) dX1_takes_26 rfl ?_
      refine z_ishl (v := (zshl (1 : Int32) ((17 : Int32) - a1))) dX1_takes_27 rfl ?_
      refine z_istore_n (lv' := [some (.ref 4), some (.int a1), some (.int a2), some (.int (zshl (1 : Int32) ((17 : Int32) - a1))), none]) dX1_takes_28 (Nat.le_of_ble_eq_true rfl) rfl ?_
      refine z_aloadr_n dX1_takes_29 rfl ?_
      refine z_get (ci := 1) (r := (RX1, TX1, 3)) (j := 1) (v := .ref 6) dX1_takes_30 (Nat.le_of_ble_eq_true rfl) (zN rfl) rfl rfl (Nat.le_of_ble_eq_true rfl) fl_X1_15 rfl ?_
      refine z_iload_n dX1_takes_33 rfl ?_
      refine z_iald (v := ((σ 6) a2.toNatClampNeg)) dX1_takes_34 (zN rfl) rfl (((W_.2 c_1).2 c_2).1) rfl ?_
      refine z_iload_n dX1_takes_35 rfl ?_
      refine z_iand (v := (((σ 6) a2.toNatClampNeg) &&& (zshl (1 : Int32) ((17 : Int32) - a1)))) dX1_takes_36 rfl ?_
      have K_1 : zz G mX1_takes 1 0 0 Q_ 45 [some (.ref 4), none, some (.int a2), some (.int (zshl (1 : Int32) ((17 : Int32) - a1))), none] [.int (if (((σ 6) a2.toNatClampNeg) &&& (zshl (1 : Int32) ((17 : Int32) - a1))) = (0 : Int32) then (0 : Int32) else (1 : Int32))] (hh P σ) 0 0 := by
        refine z_istore (lv' := [some (.ref 4), none, some (.int a2), some (.int (zshl (1 : Int32) ((17 : Int32) - a1))), some (.int (if (((σ 6) a2.toNatClampNeg) &&& (zshl (1 : Int32) ((17 : Int32) - a1))) = (0 : Int32) then (0 : Int32) else (1 : Int32)))]) dX1_takes_45 (Nat.le_of_ble_eq_true rfl) rfl ?_
        refine z_aloadr_n dX1_takes_47 rfl ?_
        refine z_get (ci := 1) (r := (RX1, TX1, 3)) (j := 1) (v := .ref 6) dX1_takes_48 (Nat.le_of_ble_eq_true rfl) (zN rfl) rfl rfl (Nat.le_of_ble_eq_true rfl) fl_X1_15 rfl ?_
        refine z_iload_n dX1_takes_51 rfl ?_
        refine z_dup2 dX1_takes_52 rfl rfl ?_
        refine z_iald (v := ((σ 6) a2.toNatClampNeg)) dX1_takes_53 (zN rfl) rfl (((W_.2 c_1).2 c_2).2.1) rfl ?_
        refine z_iload_n dX1_takes_54 rfl ?_
        refine z_iconst dX1_takes_55 k_iconst_m1 ?_
        refine z_ixor (v := ((zshl (1 : Int32) ((17 : Int32) - a1)) ^^^ (-1 : Int32))) dX1_takes_56 rfl ?_
        refine z_iand (v := (((σ 6) a2.toNatClampNeg) &&& ((zshl (1 : Int32) ((17 : Int32) - a1)) ^^^ (-1 : Int32)))) dX1_takes_57 rfl ?_
        refine z_iast (σ' := (zu σ 6 (zu (σ 6) a2.toNatClampNeg (((σ 6) a2.toNatClampNeg) &&& ((zshl (1 : Int32) ((17 : Int32) - a1)) ^^^ (-1 : Int32)))))) dX1_takes_58 (Nat.le_of_ble_eq_true rfl) (zN rfl) rfl (((W_.2 c_1).2 c_2).2.2) rfl ?_
        refine z_iload dX1_takes_59 rfl ?_
        exact z_ireturn dX1_takes_61 rfl (by (repeat' split) <;> rfl) (Nat.le_of_ble_eq_true rfl) (Nat.le_of_ble_eq_true rfl) (by rw [← hQ_]; exact ⟨(by rw [rX1_takes]; simp only [if_neg c_1, if_neg c_2]), (by rw [sX1_takes]; simp only [if_neg c_1, if_neg c_2])⟩)
      refine z_if_eq (tgt := 44) dX1_takes_37 (by decide) (fun c_3 => ?_) (fun c_3 => ?_)
      · refine z_iconst dX1_takes_44 k_iconst_0 ?_
        refine zz_sub (lv' := [some (.ref 4), none, some (.int a2), some (.int (zshl (1 : Int32) ((17 : Int32) - a1))), none]) ⟨rfl, ⟨rfl, ⟨rfl, trivial⟩⟩⟩ ?_
        first | exact K_1 | simpa only [if_pos c_3] using K_1
      · refine z_iconst dX1_takes_40 k_iconst_1 ?_
        refine z_goto (tgt := 45) dX1_takes_41 (by decide) ?_
        refine zz_sub (lv' := [some (.ref 4), none, some (.int a2), some (.int (zshl (1 : Int32) ((17 : Int32) - a1))), none]) ⟨rfl, ⟨rfl, ⟨rfl, trivial⟩⟩⟩ ?_
        first | exact K_1 | simpa only [if_neg c_3] using K_1
    · refine z_iconst dX1_takes_20 k_iconst_0 ?_
      exact z_ireturn dX1_takes_21 rfl rfl (Nat.le_of_ble_eq_true rfl) (Nat.le_of_ble_eq_true rfl) (by rw [← hQ_]; exact ⟨(by rw [rX1_takes]; simp only [if_neg c_1, if_pos c_2]), (by rw [sX1_takes]; simp only [if_neg c_1, if_pos c_2])⟩)

theorem dX6_turnedColumn_0 : decode cX6_turnedColumn 0 = .ok (.iload_n 2, 1) := by decide +kernel
theorem dX6_turnedColumn_1 : decode cX6_turnedColumn 1 = .ok (.tableswitch 39 0 2 #[27, 29, 34], 27) := by decide +kernel
theorem dX6_turnedColumn_28 : decode cX6_turnedColumn 28 = .ok (.iload_n 0, 1) := by decide +kernel
theorem dX6_turnedColumn_29 : decode cX6_turnedColumn 29 = .ok (.ireturn, 1) := by decide +kernel
theorem dX6_turnedColumn_30 : decode cX6_turnedColumn 30 = .ok (.bipush 15, 2) := by decide +kernel
theorem dX6_turnedColumn_32 : decode cX6_turnedColumn 32 = .ok (.iload_n 1, 1) := by decide +kernel
theorem dX6_turnedColumn_33 : decode cX6_turnedColumn 33 = .ok (.isub, 1) := by decide +kernel
theorem dX6_turnedColumn_34 : decode cX6_turnedColumn 34 = .ok (.ireturn, 1) := by decide +kernel
theorem dX6_turnedColumn_35 : decode cX6_turnedColumn 35 = .ok (.bipush 15, 2) := by decide +kernel
theorem dX6_turnedColumn_37 : decode cX6_turnedColumn 37 = .ok (.iload_n 0, 1) := by decide +kernel
theorem dX6_turnedColumn_38 : decode cX6_turnedColumn 38 = .ok (.isub, 1) := by decide +kernel
theorem dX6_turnedColumn_39 : decode cX6_turnedColumn 39 = .ok (.ireturn, 1) := by decide +kernel
theorem dX6_turnedColumn_40 : decode cX6_turnedColumn 40 = .ok (.iload_n 1, 1) := by decide +kernel
theorem dX6_turnedColumn_41 : decode cX6_turnedColumn 41 = .ok (.ireturn, 1) := by decide +kernel
def rX6_turnedColumn (a1 : Int32) (a2 : Int32) (a3 : Int32) : Int32 := (if a3 = (0 : Int32) then a1 else (if a3 = (1 : Int32) then ((15 : Int32) - a2) else (if a3 = (2 : Int32) then ((15 : Int32) - a1) else a2)))
set_option maxHeartbeats 1000000 in
theorem ctX6_turnedColumn (P : zp) (σ : zc_N) (a1 : Int32) (a2 : Int32) (a3 : Int32) : sp mX6_turnedColumn 0 0 0 [.int a1, .int a2, .int a3] (hh P σ) (fun r_ h_ => r_ = some (.int (rX6_turnedColumn a1 a2 a3)) ∧ h_ = hh P σ) := by
  refine sp_of (lv := [some (.int a1), some (.int a2), some (.int a3)]) (by decide) (zcats_ok _ rfl) (Nat.le_of_ble_eq_true rfl) (zlv_ok _ 0 rfl) (fun G => ?_)
  generalize hQ_ : (fun (r_ : Option Value) (h_ : zc_H) => r_ = some (.int (rX6_turnedColumn a1 a2 a3)) ∧ h_ = hh P σ) = Q_
  refine z_iload_n dX6_turnedColumn_0 rfl ?_
  by_cases c_1 : a3 = (0 : Int32)
  · refine z_tin (off := 27) (tgt := 28) dX6_turnedColumn_1 (by rw [c_1]; decide) (by rw [c_1]; decide) (by rw [c_1]; decide) (by decide) ?_
    refine z_iload_n dX6_turnedColumn_28 rfl ?_
    exact z_ireturn dX6_turnedColumn_29 rfl rfl (Nat.le_of_ble_eq_true rfl) (Nat.le_of_ble_eq_true rfl) (by rw [← hQ_]; exact ⟨(by rw [rX6_turnedColumn]; simp only [if_pos c_1]), rfl⟩)
  ·
    by_cases c_2 : a3 = (1 : Int32)
    · refine z_tin (off := 29) (tgt := 30) dX6_turnedColumn_1 (by rw [c_2]; decide) (by rw [c_2]; decide) (by rw [c_2]; decide) (by decide) ?_
      refine z_bipush dX6_turnedColumn_30 k_bipush_15 ?_
      refine z_iload_n dX6_turnedColumn_32 rfl ?_
      refine z_isub (v := ((15 : Int32) - a2)) dX6_turnedColumn_33 rfl ?_
      exact z_ireturn dX6_turnedColumn_34 rfl rfl (Nat.le_of_ble_eq_true rfl) (Nat.le_of_ble_eq_true rfl) (by rw [← hQ_]; exact ⟨(by rw [rX6_turnedColumn]; simp only [if_neg c_1, if_pos c_2]), rfl⟩)
    ·
      by_cases c_3 : a3 = (2 : Int32)
      · refine z_tin (off := 34) (tgt := 35) dX6_turnedColumn_1 (by rw [c_3]; decide) (by rw [c_3]; decide) (by rw [c_3]; decide) (by decide) ?_
        refine z_bipush dX6_turnedColumn_35 k_bipush_15 ?_
        refine z_iload_n dX6_turnedColumn_37 rfl ?_
        refine z_isub (v := ((15 : Int32) - a1)) dX6_turnedColumn_38 rfl ?_
        exact z_ireturn dX6_turnedColumn_39 rfl rfl (Nat.le_of_ble_eq_true rfl) (Nat.le_of_ble_eq_true rfl) (by rw [← hQ_]; exact ⟨(by rw [rX6_turnedColumn]; simp only [if_neg c_1, if_neg c_2, if_pos c_3]), rfl⟩)
      ·
        refine z_tout (tgt := 40) dX6_turnedColumn_1 (z_tab3 c_1 c_2 c_3) (by decide) ?_
        refine z_iload_n dX6_turnedColumn_40 rfl ?_
        exact z_ireturn dX6_turnedColumn_41 rfl rfl (Nat.le_of_ble_eq_true rfl) (Nat.le_of_ble_eq_true rfl) (by rw [← hQ_]; exact ⟨(by rw [rX6_turnedColumn]; simp only [if_neg c_1, if_neg c_2, if_neg c_3]), rfl⟩)
