/-! ===== wip/whole/p92.py: cloning, making (words), Part and Print made, copies of arrays ===== -/
theorem zw_k1 : Cond.sameMethod "[I" "java/lang/Object" "clone" "()Ljava/lang/Object;" ∈ zc_tb := zc_mem (List.mem_of_getElem? (i := 403) (by decide +kernel)) rfl
theorem zw_k2 : Cond.native ⟨"java/lang/Object", "clone", "()Ljava/lang/Object;"⟩ ∈ zc_tb := zc_mem (List.mem_of_getElem? (i := 404) (by decide +kernel)) rfl
theorem zw_k3 : Cond.instanceMethod ⟨"java/lang/Object", "clone", "()Ljava/lang/Object;"⟩ ∈ zc_tb := zc_mem (List.mem_of_getElem? (i := 405) (by decide +kernel)) rfl
theorem zw_k4 : Cond.selects "[I" ⟨"[I", "clone", "()Ljava/lang/Object;"⟩ ⟨"java/lang/Object", "clone", "()Ljava/lang/Object;"⟩ ∈ zc_tb := zc_mem (List.mem_of_getElem? (i := 406) (by decide +kernel)) rfl
theorem zw_k5 : Cond.castable "[I" "java/lang/Cloneable" ∈ zc_nest := List.mem_filter.mpr ⟨List.mem_of_getElem? (i := 407) (by decide +kernel), rfl⟩
theorem zw_k6 : Cond.methodLink "java/util/Arrays" 316 ⟨"[I", "clone", "()Ljava/lang/Object;"⟩ ∈ zc_tb := zc_mem (List.mem_of_getElem? (i := 402) (by decide +kernel)) rfl
theorem zw_k7 : Cond.classLink "java/util/Arrays" 317 "[I" ∈ zc_tb := zc_mem (List.mem_of_getElem? (i := 408) (by decide +kernel)) rfl
theorem zw_k8 : Cond.methodLink "java/util/Arrays" 150 arraycopyName ∈ zc_tb := zc_mem (List.mem_of_getElem? (i := 410) (by decide +kernel)) rfl
theorem zw_ai : Cond.arrayClass .int ∈ zc_tb := zc_mem (List.mem_of_getElem? (i := 78) (by decide +kernel)) rfl
theorem zw_az : Cond.arrayClass .boolean ∈ zc_tb := zc_mem (List.mem_of_getElem? (i := 844) (by decide +kernel)) rfl
theorem zw_oi2 : Cond.instanceMethod objectInit ∈ zc_tb := zc_mem (List.mem_of_getElem? (i := 60) (by decide +kernel)) rfl
theorem zw_oi3 : Cond.code objectInit ⟨#[0xb1]⟩ 1 none ∈ zc_tb := zc_mem (List.mem_of_getElem? (i := 61) (by decide +kernel)) (by decide +kernel)
theorem oi_X8_3 : Cond.methodLink RX8 3 objectInit ∈ zc_tb := zc_mem (List.mem_of_getElem? (i := 59) (by decide +kernel)) rfl
theorem oi_X0_3 : Cond.methodLink RX0 3 objectInit ∈ zc_tb := zc_mem (List.mem_of_getElem? (i := 92) (by decide +kernel)) rfl
theorem oi_X1_5 : Cond.methodLink RX1 5 objectInit ∈ zc_tb := zc_mem (List.mem_of_getElem? (i := 67) (by decide +kernel)) rfl
theorem oi_X2_3 : Cond.methodLink RX2 3 objectInit ∈ zc_tb := zc_mem (List.mem_of_getElem? (i := 233) (by decide +kernel)) rfl
theorem oi_X3_3 : Cond.methodLink RX3 3 objectInit ∈ zc_tb := zc_mem (List.mem_of_getElem? (i := 178) (by decide +kernel)) rfl
theorem oi_X4_3 : Cond.methodLink RX4 3 objectInit ∈ zc_tb := zc_mem (List.mem_of_getElem? (i := 86) (by decide +kernel)) rfl
theorem oi_X5_3 : Cond.methodLink RX5 3 objectInit ∈ zc_tb := zc_mem (List.mem_of_getElem? (i := 108) (by decide +kernel)) rfl
theorem oi_X6_3 : Cond.methodLink RX6 3 objectInit ∈ zc_tb := zc_mem (List.mem_of_getElem? (i := 127) (by decide +kernel)) rfl
theorem oi_X7_3 : Cond.methodLink RX7 3 objectInit ∈ zc_tb := zc_mem (List.mem_of_getElem? (i := 416) (by decide +kernel)) rfl
theorem oi_X9_1 : Cond.methodLink RX9 1 objectInit ∈ zc_tb := zc_mem (List.mem_of_getElem? (i := 728) (by decide +kernel)) rfl
theorem nw_X0 : Cond.instantiable RX0 3 ∈ zc_tb := zc_mem (List.mem_of_getElem? (i := 88) (by decide +kernel)) rfl
theorem ni_X0 : Cond.initialized RX0 ∈ zc_tb := zc_mem (List.mem_of_getElem? (i := 43) (by decide +kernel)) rfl
theorem nw_X1 : Cond.instantiable RX1 3 ∈ zc_tb := zc_mem (List.mem_of_getElem? (i := 63) (by decide +kernel)) rfl
theorem ni_X1 : Cond.initialized RX1 ∈ zc_tb := zc_mem (List.mem_of_getElem? (i := 41) (by decide +kernel)) rfl
theorem nw_X2 : Cond.instantiable RX2 6 ∈ zc_tb := zc_mem (List.mem_of_getElem? (i := 229) (by decide +kernel)) rfl
theorem ni_X2 : Cond.initialized RX2 ∈ zc_tb := zc_mem (List.mem_of_getElem? (i := 47) (by decide +kernel)) rfl
theorem nw_X3 : Cond.instantiable RX3 10 ∈ zc_tb := zc_mem (List.mem_of_getElem? (i := 174) (by decide +kernel)) rfl
theorem ni_X3 : Cond.initialized RX3 ∈ zc_tb := zc_mem (List.mem_of_getElem? (i := 46) (by decide +kernel)) rfl
theorem nw_X4 : Cond.instantiable RX4 10 ∈ zc_tb := zc_mem (List.mem_of_getElem? (i := 82) (by decide +kernel)) rfl
theorem ni_X4 : Cond.initialized RX4 ∈ zc_tb := zc_mem (List.mem_of_getElem? (i := 42) (by decide +kernel)) rfl
theorem nw_X5 : Cond.instantiable RX5 4 ∈ zc_tb := zc_mem (List.mem_of_getElem? (i := 104) (by decide +kernel)) rfl
theorem ni_X5 : Cond.initialized RX5 ∈ zc_tb := zc_mem (List.mem_of_getElem? (i := 44) (by decide +kernel)) rfl
theorem nw_X6 : Cond.instantiable RX6 4 ∈ zc_tb := zc_mem (List.mem_of_getElem? (i := 123) (by decide +kernel)) rfl
theorem ni_X6 : Cond.initialized RX6 ∈ zc_tb := zc_mem (List.mem_of_getElem? (i := 45) (by decide +kernel)) rfl
theorem nw_X7 : Cond.instantiable RX7 5 ∈ zc_tb := zc_mem (List.mem_of_getElem? (i := 398) (by decide +kernel)) rfl
theorem ni_X7 : Cond.initialized RX7 ∈ zc_tb := zc_mem (List.mem_of_getElem? (i := 52) (by decide +kernel)) rfl
theorem nw_X8 : Cond.instantiable RX8 12 ∈ zc_tb := zc_mem (List.mem_of_getElem? (i := 55) (by decide +kernel)) rfl
theorem ni_X8 : Cond.initialized RX8 ∈ zc_tb := zc_mem (List.mem_of_getElem? (i := 40) (by decide +kernel)) rfl
theorem nw_X9 : Cond.instantiable RX9 38 ∈ zc_tb := zc_mem (List.mem_of_getElem? (i := 724) (by decide +kernel)) rfl
theorem ni_X9 : Cond.initialized RX9 ∈ zc_tb := zc_mem (List.mem_of_getElem? (i := 48) (by decide +kernel)) rfl
theorem cl_X8_9 : Cond.classLink RX8 9 RX1 ∈ zc_tb := zc_mem (List.mem_of_getElem? (i := 62) (by decide +kernel)) rfl
theorem cl_X8_20 : Cond.classLink RX8 20 RX7 ∈ zc_tb := zc_mem (List.mem_of_getElem? (i := 79) (by decide +kernel)) rfl
theorem cl_X8_30 : Cond.classLink RX8 30 RX4 ∈ zc_tb := zc_mem (List.mem_of_getElem? (i := 81) (by decide +kernel)) rfl
theorem cl_X8_37 : Cond.classLink RX8 37 RX3 ∈ zc_tb := zc_mem (List.mem_of_getElem? (i := 173) (by decide +kernel)) rfl
theorem cl_X8_51 : Cond.classLink RX8 51 RX2 ∈ zc_tb := zc_mem (List.mem_of_getElem? (i := 228) (by decide +kernel)) rfl
theorem cl_X8_109 : Cond.classLink RX8 109 RX6 ∈ zc_tb := zc_mem (List.mem_of_getElem? (i := 411) (by decide +kernel)) rfl
theorem cl_X4_19 : Cond.classLink RX4 19 RX0 ∈ zc_tb := zc_mem (List.mem_of_getElem? (i := 87) (by decide +kernel)) rfl
theorem cl_X4_26 : Cond.classLink RX4 26 RX5 ∈ zc_tb := zc_mem (List.mem_of_getElem? (i := 103) (by decide +kernel)) rfl
theorem cl_X4_39 : Cond.classLink RX4 39 RX6 ∈ zc_tb := zc_mem (List.mem_of_getElem? (i := 122) (by decide +kernel)) rfl
theorem cl_L_7 : Cond.classLink RL 7 RX8 ∈ zc_tb := zc_mem (List.mem_of_getElem? (i := 54) (by decide +kernel)) rfl
theorem cl_L_10 : Cond.classLink RL 10 RX9 ∈ zc_tb := zc_mem (List.mem_of_getElem? (i := 723) (by decide +kernel)) rfl
theorem zw_ao : Cond.arrayOver (.object RX7) ∈ zc_nest := List.mem_filter.mpr ⟨List.mem_of_getElem? (i := 80) (by decide +kernel), rfl⟩
theorem dX6_init_0 : decode cX6_init 0 = .ok (.aload_n 0, 1) := by decide +kernel
theorem dX6_init_1 : decode cX6_init 1 = .ok (.invokespecial 3, 3) := by decide +kernel
theorem dX6_init_4 : decode cX6_init 4 = .ok (.aload_n 0, 1) := by decide +kernel
theorem dX6_init_5 : decode cX6_init 5 = .ok (.iload_n 1, 1) := by decide +kernel
theorem dX6_init_6 : decode cX6_init 6 = .ok (.putfield 9, 3) := by decide +kernel
theorem dX6_init_9 : decode cX6_init 9 = .ok (.aload_n 0, 1) := by decide +kernel
theorem dX6_init_10 : decode cX6_init 10 = .ok (.iload_n 2, 1) := by decide +kernel
theorem dX6_init_11 : decode cX6_init 11 = .ok (.putfield 15, 3) := by decide +kernel
theorem dX6_init_14 : decode cX6_init 14 = .ok (.aload_n 0, 1) := by decide +kernel
theorem dX6_init_15 : decode cX6_init 15 = .ok (.iload_n 3, 1) := by decide +kernel
theorem dX6_init_16 : decode cX6_init 16 = .ok (.putfield 18, 3) := by decide +kernel
theorem dX6_init_19 : decode cX6_init 19 = .ok (.aload_n 0, 1) := by decide +kernel
theorem dX6_init_20 : decode cX6_init 20 = .ok (.iload 4, 2) := by decide +kernel
theorem dX6_init_22 : decode cX6_init 22 = .ok (.putfield 21, 3) := by decide +kernel
theorem dX6_init_25 : decode cX6_init 25 = .ok (.return_, 1) := by decide +kernel
theorem dX7_init_0 : decode cX7_init 0 = .ok (.aload_n 0, 1) := by decide +kernel
theorem dX7_init_1 : decode cX7_init 1 = .ok (.invokespecial 3, 3) := by decide +kernel
theorem dX7_init_4 : decode cX7_init 4 = .ok (.aload_n 0, 1) := by decide +kernel
theorem dX7_init_5 : decode cX7_init 5 = .ok (.iconst (-1), 1) := by decide +kernel
theorem dX7_init_6 : decode cX7_init 6 = .ok (.putfield 9, 3) := by decide +kernel
theorem dX7_init_9 : decode cX7_init 9 = .ok (.aload_n 0, 1) := by decide +kernel
theorem dX7_init_10 : decode cX7_init 10 = .ok (.iconst (-1), 1) := by decide +kernel
theorem dX7_init_11 : decode cX7_init 11 = .ok (.putfield 15, 3) := by decide +kernel
theorem dX7_init_14 : decode cX7_init 14 = .ok (.aload_n 0, 1) := by decide +kernel
theorem dX7_init_15 : decode cX7_init 15 = .ok (.iload_n 1, 1) := by decide +kernel
theorem dX7_init_16 : decode cX7_init 16 = .ok (.putfield 18, 3) := by decide +kernel
theorem dX7_init_19 : decode cX7_init 19 = .ok (.aload_n 0, 1) := by decide +kernel
theorem dX7_init_20 : decode cX7_init 20 = .ok (.aload_n 2, 1) := by decide +kernel
theorem dX7_init_21 : decode cX7_init 21 = .ok (.putfield 21, 3) := by decide +kernel
theorem dX7_init_24 : decode cX7_init 24 = .ok (.aload_n 0, 1) := by decide +kernel
theorem dX7_init_25 : decode cX7_init 25 = .ok (.aload_n 3, 1) := by decide +kernel
theorem dX7_init_26 : decode cX7_init 26 = .ok (.putfield 25, 3) := by decide +kernel
theorem dX7_init_29 : decode cX7_init 29 = .ok (.return_, 1) := by decide +kernel
theorem dJ7_copyOf_59c91_0 : decode cJ7_copyOf_59c91 0 = .ok (.iload_n 1, 1) := by decide +kernel
theorem dJ7_copyOf_59c91_1 : decode cJ7_copyOf_59c91 1 = .ok (.aload_n 0, 1) := by decide +kernel
theorem dJ7_copyOf_59c91_2 : decode cJ7_copyOf_59c91 2 = .ok (.arraylength, 1) := by decide +kernel
theorem dJ7_copyOf_59c91_3 : decode cJ7_copyOf_59c91 3 = .ok (.if_icmp .ne 11, 3) := by decide +kernel
theorem dJ7_copyOf_59c91_6 : decode cJ7_copyOf_59c91 6 = .ok (.aload_n 0, 1) := by decide +kernel
theorem dJ7_copyOf_59c91_7 : decode cJ7_copyOf_59c91 7 = .ok (.invokevirtual 316, 3) := by decide +kernel
theorem dJ7_copyOf_59c91_10 : decode cJ7_copyOf_59c91 10 = .ok (.checkcast 317, 3) := by decide +kernel
theorem dJ7_copyOf_59c91_13 : decode cJ7_copyOf_59c91 13 = .ok (.areturn, 1) := by decide +kernel
theorem dJ7_copyOf_59c91_14 : decode cJ7_copyOf_59c91 14 = .ok (.iload_n 1, 1) := by decide +kernel
theorem dJ7_copyOf_59c91_15 : decode cJ7_copyOf_59c91 15 = .ok (.newarray .int, 2) := by decide +kernel
theorem dJ7_copyOf_59c91_17 : decode cJ7_copyOf_59c91 17 = .ok (.astore_n 2, 1) := by decide +kernel
theorem dJ7_copyOf_59c91_18 : decode cJ7_copyOf_59c91 18 = .ok (.aload_n 0, 1) := by decide +kernel
theorem dJ7_copyOf_59c91_19 : decode cJ7_copyOf_59c91 19 = .ok (.iconst 0, 1) := by decide +kernel
theorem dJ7_copyOf_59c91_20 : decode cJ7_copyOf_59c91 20 = .ok (.aload_n 2, 1) := by decide +kernel
theorem dJ7_copyOf_59c91_21 : decode cJ7_copyOf_59c91 21 = .ok (.iconst 0, 1) := by decide +kernel
theorem dJ7_copyOf_59c91_22 : decode cJ7_copyOf_59c91 22 = .ok (.aload_n 0, 1) := by decide +kernel
theorem dJ7_copyOf_59c91_23 : decode cJ7_copyOf_59c91 23 = .ok (.arraylength, 1) := by decide +kernel
theorem dJ7_copyOf_59c91_24 : decode cJ7_copyOf_59c91 24 = .ok (.iload_n 1, 1) := by decide +kernel
theorem dJ7_copyOf_59c91_25 : decode cJ7_copyOf_59c91 25 = .ok (.invokestatic 304, 3) := by decide +kernel
theorem dJ7_copyOf_59c91_28 : decode cJ7_copyOf_59c91 28 = .ok (.invokestatic 150, 3) := by decide +kernel
theorem dJ7_copyOf_59c91_31 : decode cJ7_copyOf_59c91 31 = .ok (.aload_n 2, 1) := by decide +kernel
theorem dJ7_copyOf_59c91_32 : decode cJ7_copyOf_59c91 32 = .ok (.areturn, 1) := by decide +kernel
section ZCLN
variable {G : zc_G} {mi : zc_M} {d mc ms : Nat} {Q : Option Value → zc_H → Prop} {pc : Nat} {lv : List (Option Value)} {st : List Value} {N : Nat} {sh : Nat → zc_S} {σ : zc_N} {ka na : Nat}
/-- an array of numbers is made as another is -/
theorem z_clone {a n idx : Nat} {rf : Nat → Option Nat} (hd : decode mi.2.1 pc = .ok (.invokevirtual idx, 3)) (hw : Cond.methodLink mi.1.cls idx ⟨"[I", "clone", "()Ljava/lang/Object;"⟩ ∈ zc_tb) (ha : 3 ≤ a) (haN : a < N) (hs : sh a = (0, n, rf)) (hdd : 1 ≤ d) (hst : (st.map fun v => v.category).sum ≤ 8) (hka : ka + 1 ≤ mc) (hna : na + n ≤ ms)
    (k : zz G mi d mc ms Q (pc + 3) lv (.ref N :: st) (N + 1, zu sh N (0, n, fun _ => none), zu σ N (σ a)) (ka + 1) (na + n)) : zz G mi d mc ms Q pc lv (.ref a :: st) (N, sh, σ) ka na :=
  fun p l e R s m args below meth c Qw C H locs ls hR hS hl => by
    intro T hT X
    have hc0 : zc_cell G a (sh a) (σ a) H := hR.2.2.2.1 a ha haN
    rw [hs] at hc0
    have hc0 : H[zc_ad G a]? = some (arrV (G.2.2.1 0) n (fun j => .int (σ a j))) := hc0
    have e0 := zc_ad_new hR
    have hnm : s.vm.findClass "[I" = some (G.2.2.1 0) := va_nm_int (C.2.2.2.1.1.2 0 _ rfl).2
    obtain ⟨c0, t0', f1, f2, f3⟩ := Cond.castable_spec (va_Nw.use (A := args) rfl (C.2.2.2.1.2.2.2.2 _ zw_k5))
    cases hnm.symm.trans f1
    obtain ⟨-, kA, hkA, comp, hkind⟩ := State.isArrayOf_alike X.warmed.alike ((C.2.2.2.1.1.2 0 _ rfl).1 0 (fun _ => .null))
    obtain ⟨-, kS, hkS, compS, hkindS⟩ := (C.2.2.2.1.1.2 0 _ rfl).1 0 (fun _ => .null)
    have hsz : (arrV (G.2.2.1 0) n (fun j => .int (σ a j))).slots.size = n := arrV_size _ _ _
    have e9 := zc_cats G st
    have e8 := C.2.2.1.2.1
    have hfr : 1 ≤ R.frames := Nat.le_trans hdd C.2.2.1.1
    obtain ⟨vm', X', step⟩ := X.cloneArray C.1.1 C.1.2.2.2.1 (C.2.1 _ hw) (C.2.1 _ zw_k1) (C.2.1 _ zw_k2) (C.2.1 _ zw_k3) (C.2.1 _ zw_k4) (a := zc_ad G a) (cell := arrV (G.2.2.1 0) n (fun j => .int (σ a j))) (by rw [hT]; exact hc0) (fun k h => by cases h) (fun h => by cases h) hnm f2 f3
      (fun i v hv => by
        have hk' : T.vm.classes[(arrV (G.2.2.1 0) n (fun j => Value.int (σ a j))).cls]? = some kA := hkA
        have h9 : fits .int v = true := va_fit (ty := .int) (fun _ _ => rfl) i v hv
        simpa [State.fitsSlot, State.slotType?, hk', hkind] using h9)
      (g := F0 m pc ls (.ref (zc_ad G a) :: st.map (zc_cv G))) rfl ((zl_size hl).trans C.1.2.2.1.symm) rfl (by rw [C.1.2.1]; exact hd) hfr (by show 2 * 0 + _ + 14 ≤ _; omega) (Nat.le_trans hka C.2.2.1.2.2.1) (by rw [hsz]; exact Nat.le_trans hna C.2.2.1.2.2.2) (hloader := Vm.clonesLoader_of_array hkS hkindS)
    rw [hsz] at X'
    have hcellE : ({ cls := (arrV (G.2.2.1 0) n (fun j => .int (σ a j))).cls, slots := (arrV (G.2.2.1 0) n (fun j => .int (σ a j))).slots } : Cell) = arrV (G.2.2.1 0) n (fun j => .int (σ a j)) := rfl
    rw [hcellE] at X' step
    generalize hH1 : H.push (arrV (G.2.2.1 0) n (fun j => .int (σ a j))) = H1
    have z1 : H1.size = H.size + 1 := by rw [← hH1, Array.size_push]
    have e1 : H1[H.size]? = some (arrV (G.2.2.1 0) n (fun j => .int (σ a j))) := by rw [← hH1, Array.getElem?_push_size]
    have o1 : ∀ q : Nat, q < H.size → H1[q]? = H[q]? := fun q hq => by rw [← hH1, Array.getElem?_push, if_neg (Nat.ne_of_lt hq)]
    have k2 := k p l e R s m args below meth c Qw C H1 locs ls (zc_R.push hR z1 o1 (show H1[zc_ad G N]? = _ by rw [e0]; exact e1)) (zc_S.push hS z1 o1) hl
    rw [List.map_cons] at k2
    have e2 : zc_cv G (.ref N) = .ref H.size := by show Value.ref (zc_ad G N) = _; rw [e0]
    rw [e2] at k2
    obtain ⟨t, b1, b2⟩ := k2 ((T.setVm vm').pushCell (arrV (G.2.2.1 0) n (fun j => .int (σ a j)))) (by rw [← hH1, ← hT]; rfl) X'
    refine ⟨t, step t ?_, b2⟩
    rw [hT]
    exact b1
theorem z_castA {a n idx : Nat} {rf : Nat → Option Nat} (hd : decode mi.2.1 pc = .ok (.checkcast idx, 3)) (hw : Cond.classLink mi.1.cls idx "[I" ∈ zc_tb) (ha : 3 ≤ a) (haN : a < N) (hs : sh a = (0, n, rf))
    (k : zz G mi d mc ms Q (pc + 3) lv (.ref a :: st) (N, sh, σ) ka na) : zz G mi d mc ms Q pc lv (.ref a :: st) (N, sh, σ) ka na :=
  fun p l e R s m args below meth c Qw C H locs ls hR hS hl => by
    have hc0 : zc_cell G a (sh a) (σ a) H := hR.2.2.2.1 a ha haN
    rw [hs] at hc0
    have hc0 : H[zc_ad G a]? = some (arrV (G.2.2.1 0) n (fun j => .int (σ a j))) := hc0
    have hnm : s.vm.findClass "[I" = some (G.2.2.1 0) := va_nm_int (C.2.2.2.1.1.2 0 _ rfl).2
    refine va_castA (D := G.2.1) (cl := zc_cl) (ws := [(zc_ad G a, .inl (G.2.2.1 0, (n, .inl (σ a))))]) C.1.1 C.1.2.1 C.1.2.2.2.1 (C.2.1 _ hw) (fun j q hq => ?_) 0 rfl hnm hd (k p l e R s m args below meth c Qw C H locs ls hR hS hl)
    match j, hq with
    | 0, hq =>
      cases hq
      exact hc0
    | j + 1, hq => cases hq
end ZCLN
theorem zu_put2 {α : Type} (σ : Nat → Nat → α) (a : Nat) (f : Nat → α) (j : Nat) (x : α) : zu (zu σ a f) a (zu ((zu σ a f) a) j x) = zu σ a (zu f j x) := by rw [zu_self, zu_zu]
theorem zu_keep {σ : zc_N} {a j : Nat} {x : Int32} (h : σ a j = x) : zu σ a (zu (σ a) j x) = σ := by
  rw [← h, zu_same, zu_same]
theorem ctX6_init {N a n : Nat} {sh : Nat → zc_S} {σ : zc_N} {rf : Nat → Option Nat} (ha : 3 ≤ a) (haN : a < N) (hs : sh a = (9, n, rf)) (x0 y0 x1 y1 : Int32) : sp mX6_init 1 0 0 [.ref a, .int x0, .int y0, .int x1, .int y1] (N, sh, σ) (fun r_ h_ => r_ = none ∧ h_ = (N, sh, zu σ a (zu (zu (zu (zu (σ a) 0 x0) 1 y0) 2 x1) 3 y1))) := by
  refine sp_of (lv := [some (.ref a), some (.int x0), some (.int y0), some (.int x1), some (.int y1)]) (by decide) (zcats_ok _ rfl) (Nat.le_of_ble_eq_true rfl) (zlv_ok _ 0 rfl) (fun G => ?_)
  refine z_aloadr_n dX6_init_0 rfl ?_
  refine z_objInit dX6_init_1 oi_X6_3 zw_oi2 zw_oi3 (Nat.le_of_ble_eq_true rfl) (Nat.le_of_ble_eq_true rfl) ?_
  refine z_aloadr_n dX6_init_4 rfl ?_
  refine z_iload_n dX6_init_5 rfl ?_
  refine z_put (ci := 6) (r := (RX6, TX6, 4)) (j := 0) dX6_init_6 ha haN hs rfl (Nat.le_of_ble_eq_true rfl) fl_X6_9 rfl rfl rfl rfl rfl ?_
  refine z_aloadr_n dX6_init_9 rfl ?_
  refine z_iload_n dX6_init_10 rfl ?_
  refine z_put (ci := 6) (r := (RX6, TX6, 4)) (j := 1) dX6_init_11 ha haN hs rfl (Nat.le_of_ble_eq_true rfl) fl_X6_15 rfl rfl rfl rfl (zu_put2 σ a _ 1 y0) ?_
  refine z_aloadr_n dX6_init_14 rfl ?_
  refine z_iload_n dX6_init_15 rfl ?_
  refine z_put (ci := 6) (r := (RX6, TX6, 4)) (j := 2) dX6_init_16 ha haN hs rfl (Nat.le_of_ble_eq_true rfl) fl_X6_18 rfl rfl rfl rfl (zu_put2 σ a _ 2 x1) ?_
  refine z_aloadr_n dX6_init_19 rfl ?_
  refine z_iload dX6_init_20 rfl ?_
  refine z_put (ci := 6) (r := (RX6, TX6, 4)) (j := 3) dX6_init_22 ha haN hs rfl (Nat.le_of_ble_eq_true rfl) fl_X6_21 rfl rfl rfl rfl (zu_put2 σ a _ 3 y1) ?_
  exact z_return dX6_init_25 rfl (Nat.le_of_ble_eq_true rfl) (Nat.le_of_ble_eq_true rfl) ⟨rfl, rfl⟩
theorem ctX7_init {N a b c : Nat} {sh : Nat → zc_S} {σ : zc_N} (ha : 3 ≤ a) (haN : a < N) (hs : sh a = (10, 5, fun _ => none)) (x : Int32) : sp mX7_init 1 0 0 [.ref a, .int x, .ref b, .ref c] (N, sh, σ) (fun r_ h_ => r_ = none ∧ h_ = (N, zu sh a (10, 5, zu (zu (fun _ => none) 1 (some b)) 2 (some c)), zu σ a (zu (zu (zu (σ a) 3 (-1)) 4 (-1)) 0 x))) := by
  refine sp_of (lv := [some (.ref a), some (.int x), some (.ref b), some (.ref c)]) (by decide) (zcats_ok _ rfl) (Nat.le_of_ble_eq_true rfl) (zlv_ok _ 0 rfl) (fun G => ?_)
  refine z_aloadr_n dX7_init_0 rfl ?_
  refine z_objInit dX7_init_1 oi_X7_3 zw_oi2 zw_oi3 (Nat.le_of_ble_eq_true rfl) (Nat.le_of_ble_eq_true rfl) ?_
  refine z_aloadr_n dX7_init_4 rfl ?_
  refine z_iconst dX7_init_5 k_iconst_m1 ?_
  refine z_put (ci := 7) (r := (RX7, TX7, 5)) (j := 3) dX7_init_6 ha haN hs rfl (Nat.le_of_ble_eq_true rfl) fl_X7_9 rfl rfl rfl rfl rfl ?_
  refine z_aloadr_n dX7_init_9 rfl ?_
  refine z_iconst dX7_init_10 k_iconst_m1 ?_
  refine z_put (ci := 7) (r := (RX7, TX7, 5)) (j := 4) dX7_init_11 ha haN hs rfl (Nat.le_of_ble_eq_true rfl) fl_X7_15 rfl rfl rfl rfl (zu_put2 σ a _ 4 (-1)) ?_
  refine z_aloadr_n dX7_init_14 rfl ?_
  refine z_iload_n dX7_init_15 rfl ?_
  refine z_putF (ci := 7) (r := (RX7, TX7, 5)) (j := 0) dX7_init_16 ha haN hs rfl (Nat.le_of_ble_eq_true rfl) fl_X7_18 rfl rfl rfl rfl rfl rfl (zu_put2 σ a _ 0 x) ?_
  refine z_aloadr_n dX7_init_19 rfl ?_
  refine z_aloadr_n dX7_init_20 rfl ?_
  refine z_putFr (ci := 7) (r := (RX7, TX7, 5)) (j := 1) dX7_init_21 ha haN hs rfl (Nat.le_of_ble_eq_true rfl) fl_X7_21 rfl rfl rfl rfl (fun _ => rfl) (fun _ => rfl) rfl ?_
  refine z_aloadr_n dX7_init_24 rfl ?_
  refine z_aloadr_n dX7_init_25 rfl ?_
  refine z_putFr (ci := 7) (n := 5) (rf := zu (fun _ => none) 1 (some b)) (r := (RX7, TX7, 5)) (j := 2) dX7_init_26 ha haN (zu_self _ _ _) rfl (Nat.le_of_ble_eq_true rfl) fl_X7_25 rfl rfl rfl rfl (fun _ => rfl) (fun _ => rfl) (zu_zu _ _ _ _) ?_
  exact z_return dX7_init_29 rfl (Nat.le_of_ble_eq_true rfl) (Nat.le_of_ble_eq_true rfl) ⟨rfl, rfl⟩
theorem ctcopy {N n : Nat} {sh : Nat → zc_S} {σ : zc_N} {rf : Nat → Option Nat} (hN : 8 < N) (hs : sh 8 = (0, 12, rf)) (hn : n ≤ 12) : sp mJ7_copyOf_59c91 1 1 12 [.ref 8, .int (nI n)] (N, sh, σ) (fun r_ h_ => r_ = some (.ref N) ∧ ∃ f, h_ = (N + 1, zu sh N (0, n, fun _ => none), zu σ N f) ∧ ∀ j, j < n → f j = σ 8 j) := by
  refine sp_of (lv := [some (.ref 8), some (.int (nI n)), none]) (by decide) (zcats_ok _ rfl) (Nat.le_of_ble_eq_true rfl) (zlv_ok _ 1 rfl) (fun G => ?_)
  generalize hQ_ : (fun (r_ : Option Value) (h_ : zc_H) => r_ = some (Value.ref N) ∧ ∃ f, h_ = (N + 1, zu sh N (0, n, fun _ => none), zu σ N f) ∧ ∀ j, j < n → f j = σ 8 j) = Q_
  refine z_iload_n dJ7_copyOf_59c91_0 rfl ?_
  refine z_aloadr_n dJ7_copyOf_59c91_1 rfl ?_
  refine z_alen0 (v := (12 : Int32)) dJ7_copyOf_59c91_2 hN hs rfl ?_
  refine z_icmp_ne (tgt := 14) dJ7_copyOf_59c91_3 (by decide) (fun c_ => ?_) (fun c_ => ?_)
  · refine z_iload_n dJ7_copyOf_59c91_14 rfl ?_
    refine z_newi (n := n) (v := 0) dJ7_copyOf_59c91_15 (nI_pos (by omega)) (nI_clamp (by omega)) (by omega) zw_ai (Nat.le_of_ble_eq_true rfl) (by omega) ?_
    refine z_astorer_n (lv' := [some (.ref 8), some (.int (nI n)), some (.ref N)]) dJ7_copyOf_59c91_17 (Nat.le_of_ble_eq_true rfl) rfl ?_
    refine z_aloadr_n dJ7_copyOf_59c91_18 rfl ?_
    refine z_iconst dJ7_copyOf_59c91_19 k_iconst_0 ?_
    refine z_aloadr_n dJ7_copyOf_59c91_20 rfl ?_
    refine z_iconst dJ7_copyOf_59c91_21 k_iconst_0 ?_
    refine z_aloadr_n dJ7_copyOf_59c91_22 rfl ?_
    refine z_alen0 (v := (12 : Int32)) dJ7_copyOf_59c91_23 (Nat.lt_succ_of_lt hN) ((zu_ne _ _ (Nat.ne_of_lt hN)).trans hs) rfl ?_
    refine z_iload_n dJ7_copyOf_59c91_24 rfl ?_
    refine z_mmin dJ7_copyOf_59c91_25 lk_J7_304 (Nat.le_of_ble_eq_true rfl) (Nat.le_of_ble_eq_true rfl) (Nat.le_of_ble_eq_true rfl) (by omega) ?_
    have emin : (if nI n < (12 : Int32) then nI n else (12 : Int32)) = nI n := by
      by_cases e : n < 12
      · have l1 : nI n < (12 : Int32) := (nI_lt e (by decide) : nI n < nI 12)
        rw [if_pos l1]
      · rw [show n = 12 by omega]; rfl
    rw [emin]
    refine z_acopy dJ7_copyOf_59c91_28 zw_k8 (Nat.le_of_ble_eq_true rfl) (Nat.lt_succ_of_lt hN) ((zu_ne _ _ (Nat.ne_of_lt hN)).trans hs) (by omega) (Nat.lt_succ_self N) (zu_self _ _ _) (by decide) (by decide) (nI_pos (by omega)) (by rw [nI_clamp (n := n) (by omega)]; show 0 + n ≤ 12; omega) (by rw [nI_clamp (n := n) (by omega)]; show 0 + n ≤ n; omega) (Nat.le_of_ble_eq_true rfl) (Nat.le_of_ble_eq_true rfl) rfl ?_
    refine z_aloadr_n dJ7_copyOf_59c91_31 rfl ?_
    refine z_areturn (q := some N) dJ7_copyOf_59c91_32 rfl (Or.inr ⟨_, rfl⟩) (Nat.le_of_ble_eq_true rfl) (by omega) ?_
    rw [← hQ_]
    refine ⟨rfl, _, by rw [zu_zu], fun j hj => ?_⟩
    rw [zu_ne _ _ (Nat.ne_of_lt hN), zu_self, nI_clamp (n := n) (by omega)]
    unfold va_cpy
    rw [show (0 : Int32).toNatClampNeg = 0 by decide, if_pos (by omega), show 0 + (j - 0) = j by omega]
  · have c2 : nI n = nI 12 := c_
    have e12 : n = 12 := (nI_eq (by omega) (by decide)).mp c2
    subst e12
    refine z_aloadr_n dJ7_copyOf_59c91_6 rfl ?_
    refine z_clone dJ7_copyOf_59c91_7 zw_k6 (Nat.le_of_ble_eq_true rfl) hN hs (Nat.le_of_ble_eq_true rfl) (Nat.le_of_ble_eq_true rfl) (Nat.le_of_ble_eq_true rfl) (Nat.le_of_ble_eq_true rfl) ?_
    refine z_castA dJ7_copyOf_59c91_10 zw_k7 (by omega) (Nat.lt_succ_self N) (zu_self _ _ _) ?_
    exact z_areturn (q := some N) dJ7_copyOf_59c91_13 rfl (Or.inr ⟨_, rfl⟩) (Nat.le_of_ble_eq_true rfl) (Nat.le_of_ble_eq_true rfl) (by rw [← hQ_]; exact ⟨rfl, _, rfl, fun j hj => rfl⟩)
