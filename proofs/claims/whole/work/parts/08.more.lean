/-! ===== rows of some JDK methods: Math.min, Math.max, System.arraycopy ===== -/
section ZJDK
variable {G : zc_G} {mi : zc_M} {d mc ms : Nat} {Q : Option Value → zc_H → Prop} {pc : Nat} {lv : List (Option Value)} {st : List Value} {h : zc_H} {ka na : Nat}
theorem zw_m1 : Cond.static Lib.Math.min.name ∈ zc_tb := zc_mem (by decide +kernel) rfl
theorem zw_m2 : Cond.initialized "java/lang/Math" ∈ zc_tb := zc_mem (by decide +kernel) rfl
theorem zw_m3 : Cond.code Lib.Math.min.name Lib.Math.min.code 2 (some .int) ∈ zc_tb := zc_mem (by decide +kernel) rfl
theorem zw_m4 : Cond.static Lib.Math.max.name ∈ zc_tb := zc_mem (by decide +kernel) rfl
theorem zw_m5 : Cond.code Lib.Math.max.name Lib.Math.max.code 2 (some .int) ∈ zc_tb := zc_mem (by decide +kernel) rfl
theorem z_mmin {idx : Nat} {x y : Int32} (hd : decode mi.2.1 pc = .ok (.invokestatic idx, 3)) (lk : zc_lk mi.1.cls idx mJ9_min_7cf53 2) (hdd : 1 ≤ d) (hst : (st.map fun v => v.category).sum ≤ 8) (hka : ka ≤ mc) (hna : na ≤ ms) (k : zz G mi d mc ms Q (pc + 3) lv (.int (if y < x then y else x) :: st) h ka na) : zz G mi d mc ms Q pc lv (.int y :: .int x :: st) h ka na :=
  fun p l e R s m args below meth c Qw C H locs ls hR hS hl => by
    have e1 := zc_cats G st
    have e2 := C.2.2.1.2.1
    exact va_mmin C.1.1 C.1.2.1 (C.1.2.2.1.trans (zl_size hl).symm) C.1.2.2.2.1 (C.2.1 _ (zc_mem lk.1 lk.2.1)) (C.2.1 _ zw_m1) (C.2.1 _ zw_m2) (C.2.1 _ zw_m3) (Nat.le_trans hdd C.2.2.1.1) (by omega) (Nat.le_trans hka C.2.2.1.2.2.1) (Nat.le_trans hna C.2.2.1.2.2.2) hd (k p l e R s m args below meth c Qw C H locs ls hR hS hl)
theorem z_mmax {idx : Nat} {x y : Int32} (hd : decode mi.2.1 pc = .ok (.invokestatic idx, 3)) (lk : zc_lk mi.1.cls idx mJ9_max_7cf53 2) (hdd : 1 ≤ d) (hst : (st.map fun v => v.category).sum ≤ 8) (hka : ka ≤ mc) (hna : na ≤ ms) (k : zz G mi d mc ms Q (pc + 3) lv (.int (if x < y then y else x) :: st) h ka na) : zz G mi d mc ms Q pc lv (.int y :: .int x :: st) h ka na :=
  fun p l e R s m args below meth c Qw C H locs ls hR hS hl => by
    have e1 := zc_cats G st
    have e2 := C.2.2.1.2.1
    exact va_mmax C.1.1 C.1.2.1 (C.1.2.2.1.trans (zl_size hl).symm) C.1.2.2.2.1 (C.2.1 _ (zc_mem lk.1 lk.2.1)) (C.2.1 _ zw_m4) (C.2.1 _ zw_m2) (C.2.1 _ zw_m5) (Nat.le_trans hdd C.2.2.1.1) (by omega) (Nat.le_trans hka C.2.2.1.2.2.1) (Nat.le_trans hna C.2.2.1.2.2.2) hd (k p l e R s m args below meth c Qw C H locs ls hR hS hl)
end ZJDK
section ZCOPY
variable {G : zc_G} {mi : zc_M} {d mc ms : Nat} {Q : Option Value → zc_H → Prop} {pc : Nat} {lv : List (Option Value)} {st : List Value} {N : Nat} {sh : Nat → zc_S} {σ : zc_N} {ka na : Nat}
theorem zw_c1 : Cond.native arraycopyName ∈ zc_tb := zc_mem (by decide +kernel) rfl
theorem zw_c2 : Cond.static arraycopyName ∈ zc_tb := zc_mem (by decide +kernel) rfl
theorem zw_c3 : Cond.initialized "java/lang/System" ∈ zc_tb := zc_mem (by decide +kernel) rfl
/-- numbers are copied from one array to another -/
theorem z_acopy {idx a b n0 n1 : Nat} {r0 r1 : Nat → Option Nat} {sp dp n : Int32} {σ' : zc_N} (hd : decode mi.2.1 pc = .ok (.invokestatic idx, 3)) (hw : Cond.methodLink mi.1.cls idx arraycopyName ∈ zc_tb) (ha : 3 ≤ a) (haN : a < N) (hsa : sh a = (0, n0, r0)) (hb3 : 3 ≤ b) (hbN : b < N) (hsb : sh b = (0, n1, r1)) (h1 : ¬ sp < 0) (h2 : ¬ dp < 0) (h3 : ¬ n < 0) (h4 : sp.toNatClampNeg + n.toNatClampNeg ≤ n0) (h5 : dp.toNatClampNeg + n.toNatClampNeg ≤ n1) (hdd : 1 ≤ d) (hst : (st.map fun v => v.category).sum ≤ 8)
    (hσ : zu σ b (va_cpy (σ a) (σ b) sp.toNatClampNeg dp.toNatClampNeg n.toNatClampNeg) = σ') (k : zz G mi d mc ms Q (pc + 3) lv st (N, sh, σ') ka na) : zz G mi d mc ms Q pc lv (.int n :: .int dp :: .ref b :: .int sp :: .ref a :: st) (N, sh, σ) ka na :=
  fun p l e R s m args below meth c Qw C H locs ls hR hS hl => by
    have nn : ∀ z : Int32, ¬ z < 0 → z.toInt = (z.toNatClampNeg : Int) := by
      intro z hz
      have hz0 : (0 : Int) ≤ z.toInt := by
        have := Int32.not_lt.mp hz
        simpa using Int32.le_iff_toInt_le.mp this
      show z.toInt = ((z.toInt.toNat : Nat) : Int)
      omega
    intro T hT X
    have hc0 : zc_cell G a (sh a) (σ a) H := hR.2.2.2.1 a ha haN
    rw [hsa] at hc0
    have hc0 : H[zc_ad G a]? = some (arrV (G.2.2.1 0) n0 (fun j => .int (σ a j))) := hc0
    have hc1 : zc_cell G b (sh b) (σ b) H := hR.2.2.2.1 b hb3 hbN
    rw [hsb] at hc1
    have hc1 : H[zc_ad G b]? = some (arrV (G.2.2.1 0) n1 (fun j => .int (σ b j))) := hc1
    obtain ⟨-, k0, hk0, cm0, hkk0⟩ := (C.2.2.2.1.1.2 0 _ rfl).1 n0 (fun j => .int (σ a j))
    obtain ⟨-, k1, hk1, cm1, hkk1⟩ := (C.2.2.2.1.1.2 0 _ rfl).1 n1 (fun j => .int (σ b j))
    have e0 := zc_cats G st
    have e9 := C.2.2.1.2.1
    obtain ⟨vm', X', step⟩ := X.arraycopy C.1.1 C.1.2.2.2.1 (C.2.1 _ hw) (C.2.1 _ zw_c1) (C.2.1 _ zw_c2) (C.2.1 _ zw_c3) (src := zc_ad G a) (dst := zc_ad G b) (cs := arrV (G.2.2.1 0) n0 (fun j => .int (σ a j))) (cd := arrV (G.2.2.1 0) n1 (fun j => .int (σ b j))) (srcPos := sp) (destPos := dp) (n := n) (by rw [hT]; exact hc0) (by rw [hT]; exact hc1)
      (fun _ h => by cases h) (fun _ h => by cases h) (fun h => by cases h) (fun h => by cases h) hk0 hk1 hkk0 hkk1 (by simp [refKind]) h1 h2 h3
      (by rw [nn sp h1, nn n h3, arrV_size]; omega)
      (by rw [nn dp h2, nn n h3, arrV_size]; omega)
      (fun vm₁ _ i hi => by
        have e : (arrV (G.2.2.1 0) n0 (fun j => .int (σ a j))).slots.getD (sp.toNatClampNeg + i) .null = .int (σ a (sp.toNatClampNeg + i)) := by
          rw [Array.getD_eq_getD_getElem?, arrV_read _ _ (by omega)]
          rfl
        refine ⟨?_, ?_⟩
        · rw [e]
          rfl
        · rw [e]
          exact trivial)
      (g := F0 m pc ls (.int n :: .int dp :: .ref (zc_ad G b) :: .int sp :: .ref (zc_ad G a) :: st.map (zc_cv G))) rfl ((zl_size hl).trans C.1.2.2.1.symm) (rest := st.map (zc_cv G)) rfl (by rw [C.1.2.1]; exact hd) (Nat.le_trans hdd C.2.2.1.1) (by
        show 2 * 0 + _ + (nativeFrameWords "java/lang/System" "arraycopy" 5 + 11) ≤ _
        have : nativeFrameWords "java/lang/System" "arraycopy" 5 ≤ 40 := by decide
        omega)
    have e1 : copied (arrV (G.2.2.1 0) n0 (fun j => .int (σ a j))) (arrV (G.2.2.1 0) n1 (fun j => .int (σ b j))) sp dp n = arrV (G.2.2.1 0) n1 (fun j => .int (va_cpy (σ a) (σ b) sp.toNatClampNeg dp.toNatClampNeg n.toNatClampNeg j)) := va_copied (fun z => .int z) _ _ _ _ h4
    rw [e1] at X' step
    have hlt : zc_ad G b < H.size := (Array.getElem?_eq_some_iff.mp hc1).1
    have hheap : ((T.setVm vm').setCell (zc_ad G b) (arrV (G.2.2.1 0) n1 (fun j => .int (va_cpy (σ a) (σ b) sp.toNatClampNeg dp.toNatClampNeg n.toNatClampNeg j)))).heap = H.setIfInBounds (zc_ad G b) (arrV (G.2.2.1 0) n1 (fun j => .int (va_cpy (σ a) (σ b) sp.toNatClampNeg dp.toNatClampNeg n.toNatClampNeg j))) := by rw [← hT]; rfl
    have oq : ∀ q : Nat, q ≠ zc_ad G b → (H.setIfInBounds (zc_ad G b) (arrV (G.2.2.1 0) n1 (fun j => .int (va_cpy (σ a) (σ b) sp.toNatClampNeg dp.toNatClampNeg n.toNatClampNeg j))))[q]? = H[q]? := fun q hq => by simp [Array.getElem?_setIfInBounds, Ne.symm hq]
    have h8 := zc_R.set (c := sh b) (f := va_cpy (σ a) (σ b) sp.toNatClampNeg dp.toNatClampNeg n.toNatClampNeg) hR hb3 hbN (H1 := H.setIfInBounds (zc_ad G b) (arrV (G.2.2.1 0) n1 (fun j => .int (va_cpy (σ a) (σ b) sp.toNatClampNeg dp.toNatClampNeg n.toNatClampNeg j)))) (by simp) oq (by
      rw [hsb]
      show (H.setIfInBounds (zc_ad G b) _)[zc_ad G b]? = some _
      simp [Array.getElem?_setIfInBounds, hlt])
    rw [zu_same, hσ] at h8
    obtain ⟨t, a1, b1⟩ := k p l e R s m args below meth c Qw C _ _ ls h8 ⟨by simp; exact hS.1, fun q g1 g2 => by
        rw [oq q (fun e => g2 (by rw [e, zc_ad_ge G hb3]; exact Nat.le_add_right _ _))]
        exact hS.2.1 q g1 g2, fun q hq => by
        rcases List.mem_append.mp hq with h | h
        · exact hS.2.2 q h
        · obtain ⟨z, -, hz⟩ := List.mem_map.mp h
          rw [← hz]
          show G.1.size ≤ zc_ad G b
          rw [zc_ad_ge G hb3]
          exact Nat.le_add_right _ _⟩ hl _ hheap X'
    exact ⟨t, step t a1, b1⟩
end ZCOPY
