/-! ===== printed by wip/whole/links.py: where each cell lies, and what the instructions link to ===== -/
abbrev zp : Type := Nat × Nat × (Nat → Nat)
/-- the cells: 0 the script, 1 and 2 the two static tables, then the system's, the reference's, then three for each print: itself, its points, its part -/
def SH (P : zp) : Nat → zc_S := fun k => match k with
  | 0 => (0, P.1, fun _ => none)
  | 1 => (0, 8, fun _ => none)
  | 2 => (0, 8, fun _ => none)
  | 3 => (11, 12, fun j => match j with | 0 => some 4 | 1 => some 8 | 2 => some 9 | 4 => some 10 | 5 => some 23 | 7 => some 25 | 8 => some 27 | _ => none)
  | 4 => (4, 3, fun j => match j with | 0 => some 5 | 1 => some 6 | 2 => some 7 | _ => none)
  | 5 => (0, 18, fun _ => none)
  | 6 => (0, 18, fun _ => none)
  | 7 => (0, 324, fun _ => none)
  | 8 => (0, 12, fun _ => none)
  | 9 => (2, 24, fun j => if j < P.2.1 then some (57 + 3 * j) else none)
  | 10 => (7, 10, fun j => match j with | 1 => some 11 | 2 => some 12 | 3 => some 16 | 4 => some 19 | 5 => some 20 | 6 => some 21 | 7 => some 22 | _ => none)
  | 11 => (0, 2304, fun _ => none)
  | 12 => (3, 3, fun j => match j with | 0 => some 13 | 1 => some 14 | 2 => some 15 | _ => none)
  | 13 => (0, 22, fun _ => none)
  | 14 => (0, 22, fun _ => none)
  | 15 => (0, 3, fun _ => none)
  | 16 => (8, 4, fun j => match j with | 0 => some 17 | 2 => some 18 | _ => none)
  | 17 => (0, 12, fun _ => none)
  | 18 => (0, 12, fun _ => none)
  | 19 => (0, 12, fun _ => none)
  | 20 => (0, 12, fun _ => none)
  | 21 => (9, 4, fun _ => none)
  | 22 => (0, 31, fun _ => none)
  | 23 => (6, 10, fun j => match j with | 9 => some 24 | _ => none)
  | 24 => (0, 12, fun _ => none)
  | 25 => (6, 10, fun j => match j with | 9 => some 26 | _ => none)
  | 26 => (0, 12, fun _ => none)
  | 27 => (5, 6, fun j => match j with | 1 => some 28 | 3 => some 29 | 4 => some 30 | 5 => some 31 | _ => none)
  | 28 => (0, 12, fun _ => none)
  | 29 => (0, 24, fun _ => none)
  | 30 => (0, 24, fun _ => none)
  | 31 => (0, 12, fun _ => none)
  | 32 => (12, 38, fun j => match j with | 0 => some 33 | 1 => some 34 | 2 => some 35 | 3 => some 36 | 4 => some 37 | 5 => some 38 | 6 => some 39 | 7 => some 40 | 8 => some 41 | 9 => some 42 | 10 => some 43 | 13 => some 44 | 14 => some 45 | 15 => some 46 | 16 => some 47 | 17 => some 48 | 18 => some 49 | 19 => some 50 | 27 => some 51 | 28 => some 52 | 29 => some 53 | 31 => some 54 | 32 => some 55 | 35 => some 56 | _ => none)
  | 33 => (1, 256, fun _ => none)
  | 34 => (1, 256, fun _ => none)
  | 35 => (1, 256, fun _ => none)
  | 36 => (0, 256, fun _ => none)
  | 37 => (0, 24, fun _ => none)
  | 38 => (0, 288, fun _ => none)
  | 39 => (0, 288, fun _ => none)
  | 40 => (0, 288, fun _ => none)
  | 41 => (0, 96, fun _ => none)
  | 42 => (0, 24, fun _ => none)
  | 43 => (0, 24, fun _ => none)
  | 44 => (0, 12, fun _ => none)
  | 45 => (0, 12, fun _ => none)
  | 46 => (0, 4, fun _ => none)
  | 47 => (1, 144, fun _ => none)
  | 48 => (0, 12, fun _ => none)
  | 49 => (1, 12, fun _ => none)
  | 50 => (0, 12, fun _ => none)
  | 51 => (0, 12, fun _ => none)
  | 52 => (0, 7, fun _ => none)
  | 53 => (0, 12, fun _ => none)
  | 54 => (0, 12, fun _ => none)
  | 55 => (0, 12, fun _ => none)
  | 56 => (0, 288, fun _ => none)
  | q + 57 => if q % 3 = 0 then (10, 5, fun j => match j with | 1 => some (q + 58) | 2 => some (q + 59) | _ => none) else if q % 3 = 1 then (0, P.2.2 (q / 3), fun _ => none) else (9, 4, fun _ => none)
abbrev hh (P : zp) (σ : zc_N) : zc_H := (57 + 3 * P.2.1, SH P, σ)
theorem zN {a n : Nat} (h : Nat.ble (a + 1) 57 = true) : a < 57 + 3 * n := Nat.lt_of_lt_of_le (Nat.le_of_ble_eq_true h) (Nat.le_add_right _ _)
abbrev pO (i : Nat) : Nat := 57 + 3 * i
abbrev pP (i : Nat) : Nat := 58 + 3 * i
abbrev pT (i : Nat) : Nat := 59 + 3 * i
theorem SH_base (P : zp) (q : Nat) : SH P (q + 57) = if q % 3 = 0 then (10, 5, fun j => match j with | 1 => some (q + 58) | 2 => some (q + 59) | _ => none) else if q % 3 = 1 then (0, P.2.2 (q / 3), fun _ => none) else (9, 4, fun _ => none) := rfl
theorem SH_pO (P : zp) (i : Nat) : SH P (pO i) = (10, 5, fun j => match j with | 1 => some (pP i) | 2 => some (pT i) | _ => none) := by
  have e : pO i = 3 * i + 57 := Nat.add_comm _ _
  have e1 : pP i = 3 * i + 58 := Nat.add_comm _ _
  have e2 : pT i = 3 * i + 59 := Nat.add_comm _ _
  rw [e, e1, e2, SH_base, if_pos (by omega)]
theorem SH_pP (P : zp) (i : Nat) : SH P (pP i) = (0, P.2.2 i, fun _ => none) := by
  have e : pP i = (3 * i + 1) + 57 := by show 58 + 3 * i = _; omega
  rw [e, SH_base, if_neg (by omega), if_pos (by omega), show (3 * i + 1) / 3 = i by omega]
theorem SH_pT (P : zp) (i : Nat) : SH P (pT i) = (9, 4, fun _ => none) := by
  have e : pT i = (3 * i + 2) + 57 := by show 59 + 3 * i = _; omega
  rw [e, SH_base, if_neg (by omega), if_neg (by omega)]
theorem zNO {i n : Nat} (h : i < n) : pO i < 57 + 3 * n := by show 57 + 3 * i < _; omega
theorem zNP {i n : Nat} (h : i < n) : pP i < 57 + 3 * n := by show 58 + 3 * i < _; omega
theorem zNT {i n : Nat} (h : i < n) : pT i < 57 + 3 * n := by show 59 + 3 * i < _; omega
theorem z3O (i : Nat) : 3 ≤ pO i := by show 3 ≤ 57 + 3 * i; omega
theorem z3P (i : Nat) : 3 ≤ pP i := by show 3 ≤ 58 + 3 * i; omega
theorem z3T (i : Nat) : 3 ≤ pT i := by show 3 ≤ 59 + 3 * i; omega
section ZMORE
variable {G : zc_G} {mi : zc_M} {d mc ms : Nat} {Q : Option Value → zc_H → Prop} {pc : Nat} {lv : List (Option Value)} {st : List Value} {h : zc_H} {ka na : Nat}
theorem z_aloadr_n {i : Fin 4} {a : Nat} (hd : decode mi.2.1 pc = .ok (.aload_n i, 1)) (hi : lv[(i : Nat)]? = some (some (.ref a))) (k : zz G mi d mc ms Q (pc + 1) lv (.ref a :: st) h ka na) : zz G mi d mc ms Q pc lv st h ka na := z_aload_n (r := some a) hd hi k
theorem z_aloadr {i : Nat} {a : Nat} (hd : decode mi.2.1 pc = .ok (.aload i, 2)) (hi : lv[i]? = some (some (.ref a))) (k : zz G mi d mc ms Q (pc + 2) lv (.ref a :: st) h ka na) : zz G mi d mc ms Q pc lv st h ka na := z_aload (r := some a) hd hi k
theorem z_astorer_n {i : Fin 4} {a : Nat} {lv' : List (Option Value)} (hd : decode mi.2.1 pc = .ok (.astore_n i, 1)) (hn : (i : Nat) < mi.2.2.1) (hl' : lv.set i (some (.ref a)) = lv') (k : zz G mi d mc ms Q (pc + 1) lv' st h ka na) : zz G mi d mc ms Q pc lv (.ref a :: st) h ka na := z_astore_n (r := some a) hd hn hl' k
theorem z_astorer {i : Nat} {a : Nat} {lv' : List (Option Value)} (hd : decode mi.2.1 pc = .ok (.astore i, 2)) (hn : i < mi.2.2.1) (hl' : lv.set i (some (.ref a)) = lv') (k : zz G mi d mc ms Q (pc + 2) lv' st h ka na) : zz G mi d mc ms Q pc lv (.ref a :: st) h ka na := z_astore (r := some a) hd hn hl' k
def lvle : List (Option Value) → List (Option Value) → Prop
  | [], _ => True
  | none :: a, _ :: b => lvle a b
  | some v :: a, some w :: b => v = w ∧ lvle a b
  | none :: a, [] => lvle a []
  | some _ :: _, _ => False
theorem lvle_at : ∀ (a b : List (Option Value)), lvle a b → ∀ (i : Nat) (v : Value), a[i]? = some (some v) → b[i]? = some (some v)
  | [], _, _, i, v, h => by simp at h
  | none :: a, x :: b, hab, 0, v, h => by simp at h
  | none :: a, x :: b, hab, i + 1, v, h => by
    have h2 : a[i]? = some (some v) := by simpa using h
    simpa using lvle_at a b hab i v h2
  | some w :: a, some x :: b, hab, 0, v, h => by
    have h2 : w = v := by simpa using h
    have h3 : w = x := hab.1
    simp [← h2, h3]
  | some w :: a, some x :: b, hab, i + 1, v, h => by
    have h2 : a[i]? = some (some v) := by simpa using h
    simpa using lvle_at a b hab.2 i v h2
  | none :: a, [], hab, 0, v, h => by simp at h
  | none :: a, [], hab, i + 1, v, h => by
    have h2 : a[i]? = some (some v) := by simpa using h
    have h3 := lvle_at a [] hab i v h2
    simp at h3
  | some _ :: _, none :: _, hab, _, _, _ => hab.elim
  | some _ :: _, [], hab, _, _, _ => hab.elim
theorem zz_sub {lv' : List (Option Value)} (hle : lvle lv' lv) (k : zz G mi d mc ms Q pc lv' st h ka na) : zz G mi d mc ms Q pc lv st h ka na :=
  fun p l e R s m args below meth c Qw C H locs ls hR hS hl => k p l e R s m args below meth c Qw C H locs ls hR hS (by
    obtain ⟨as, h1, h2⟩ := hl
    exact ⟨as, h1, fun i v hi => h2 i v (lvle_at _ _ hle i v hi)⟩)
end ZMORE
theorem z01 {c : Prop} (hc : Decidable c) : narrow .boolean (.int (if c then 1 else 0)) = .int (if c then 1 else 0) := by
  by_cases h : c
  · rw [if_pos h]; rfl
  · rw [if_neg h]; rfl
theorem k_bipush_m30 : (Int8.ofInt (-30)).toInt32 = (-30) := by decide +kernel
theorem k_bipush_m4 : (Int8.ofInt (-4)).toInt32 = (-4) := by decide +kernel
theorem k_bipush_m3 : (Int8.ofInt (-3)).toInt32 = (-3) := by decide +kernel
theorem k_bipush_m2 : (Int8.ofInt (-2)).toInt32 = (-2) := by decide +kernel
theorem k_bipush_6 : (Int8.ofInt 6).toInt32 = 6 := by decide +kernel
theorem k_bipush_7 : (Int8.ofInt 7).toInt32 = 7 := by decide +kernel
theorem k_bipush_8 : (Int8.ofInt 8).toInt32 = 8 := by decide +kernel
theorem k_bipush_9 : (Int8.ofInt 9).toInt32 = 9 := by decide +kernel
theorem k_bipush_10 : (Int8.ofInt 10).toInt32 = 10 := by decide +kernel
theorem k_bipush_11 : (Int8.ofInt 11).toInt32 = 11 := by decide +kernel
theorem k_bipush_12 : (Int8.ofInt 12).toInt32 = 12 := by decide +kernel
theorem k_bipush_15 : (Int8.ofInt 15).toInt32 = 15 := by decide +kernel
theorem k_bipush_16 : (Int8.ofInt 16).toInt32 = 16 := by decide +kernel
theorem k_bipush_17 : (Int8.ofInt 17).toInt32 = 17 := by decide +kernel
theorem k_bipush_18 : (Int8.ofInt 18).toInt32 = 18 := by decide +kernel
theorem k_bipush_22 : (Int8.ofInt 22).toInt32 = 22 := by decide +kernel
theorem k_bipush_24 : (Int8.ofInt 24).toInt32 = 24 := by decide +kernel
theorem k_bipush_30 : (Int8.ofInt 30).toInt32 = 30 := by decide +kernel
theorem k_bipush_31 : (Int8.ofInt 31).toInt32 = 31 := by decide +kernel
theorem k_bipush_63 : (Int8.ofInt 63).toInt32 = 63 := by decide +kernel
theorem k_bipush_85 : (Int8.ofInt 85).toInt32 = 85 := by decide +kernel
theorem k_bipush_96 : (Int8.ofInt 96).toInt32 = 96 := by decide +kernel
theorem k_iconst_m1 : Int32.ofInt (-1) = (-1) := by decide +kernel
theorem k_iconst_0 : Int32.ofInt 0 = 0 := by decide +kernel
theorem k_iconst_1 : Int32.ofInt 1 = 1 := by decide +kernel
theorem k_iconst_2 : Int32.ofInt 2 = 2 := by decide +kernel
theorem k_iconst_3 : Int32.ofInt 3 = 3 := by decide +kernel
theorem k_iconst_4 : Int32.ofInt 4 = 4 := by decide +kernel
theorem k_iconst_5 : Int32.ofInt 5 = 5 := by decide +kernel
theorem k_iconst_6 : Int32.ofInt 6 = 6 := by decide +kernel
theorem k_sipush_m1000 : (Int16.ofInt (-1000)).toInt32 = (-1000) := by decide +kernel
theorem k_sipush_144 : (Int16.ofInt 144).toInt32 = 144 := by decide +kernel
theorem k_sipush_256 : (Int16.ofInt 256).toInt32 = 256 := by decide +kernel
theorem k_sipush_288 : (Int16.ofInt 288).toInt32 = 288 := by decide +kernel
theorem k_sipush_324 : (Int16.ofInt 324).toInt32 = 324 := by decide +kernel
theorem k_sipush_961 : (Int16.ofInt 961).toInt32 = 961 := by decide +kernel
theorem k_sipush_2304 : (Int16.ofInt 2304).toInt32 = 2304 := by decide +kernel
theorem k_sipush_3844 : (Int16.ofInt 3844).toInt32 = 3844 := by decide +kernel
theorem k_sipush_4095 : (Int16.ofInt 4095).toInt32 = 4095 := by decide +kernel
theorem k_sipush_9999 : (Int16.ofInt 9999).toInt32 = 9999 := by decide +kernel
theorem k_sipush_10000 : (Int16.ofInt 10000).toInt32 = 10000 := by decide +kernel
