/-! ===== A LIGHTER MACHINE: cells by their number, the numbers of a cell by their places; a row an instruction ===== -/
abbrev zc_S : Type := Nat × Nat × (Nat → Option Nat)
abbrev zc_N : Type := Nat → Nat → Int32
abbrev zc_H : Type := Nat × (Nat → zc_S) × zc_N
abbrev zc_G : Type := Heap × va_G × (Nat → ClassId) × (Nat → Nat) × (Nat → Nat × (Nat → Int32))
abbrev zc_M : Type := MethodName × ByteArray × Nat × Option FieldType
abbrev zc_cl : List vw_C := [(RX0, TX0, 3), (RX1, TX1, 3), (RX2, TX2, 6), (RX3, TX3, 10), (RX4, TX4, 10), (RX5, TX5, 4), (RX6, TX6, 4), (RX7, TX7, 5), (RX8, TX8, 12), (RX9, TX9, 38)]
def zc_ty (ci : Nat) : Nat → FieldType := match ci with
  | 0 => tyX0
  | 1 => tyX1
  | 2 => tyX2
  | 3 => tyX3
  | 4 => tyX4
  | 5 => tyX5
  | 6 => tyX6
  | 7 => tyX7
  | 8 => tyX8
  | _ => tyX9
def zc_tb : List Cond := lw_tbl.filter goodWord
theorem zc_mem {w : Cond} (h : w ∈ lw_tbl) (g : goodWord w = true) : w ∈ zc_tb := List.mem_filter.mpr ⟨h, g⟩
theorem zc_good : GoodIn zc_tb zc_tb := fun w h => ⟨h, good_of_word (List.mem_filter.mp h).2⟩
def zc_nest : List Cond := lw_tbl.filter (fun w => match w with | .methodLinkNest _ _ _ _ => true | .castable _ _ => true | .arrayOver (.object _) => true | _ => false)
def zc_isr : FieldType → Bool
  | .object _ => true
  | .array _ => true
  | _ => false
def zc_ad (G : zc_G) (k : Nat) : Nat := if k < 3 then G.2.2.2.1 k else G.1.size + (k - 3)
def zc_cv (G : zc_G) : Value → Value
  | .ref k => .ref (zc_ad G k)
  | v => v
def zc_rf (G : zc_G) (r : Option Nat) : Option Nat := r.map (zc_ad G)
theorem zc_cv_rf (G : zc_G) (r : Option Nat) : zc_cv G (va_rf r) = va_rf (zc_rf G r) := by cases r <;> rfl
theorem zc_cv_cat (G : zc_G) (v : Value) : (zc_cv G v).category = v.category := by cases v <;> rfl
theorem zc_cats (G : zc_G) (vs : List Value) : ((vs.map (zc_cv G)).map fun v => v.category).sum = (vs.map fun v => v.category).sum := by
  induction vs with
  | nil => rfl
  | cons v t ih => simp only [List.map_cons, List.sum_cons, zc_cv_cat, ih]
theorem zc_ad_ge (G : zc_G) {k : Nat} (h : 3 ≤ k) : zc_ad G k = G.1.size + (k - 3) := by
  unfold zc_ad
  rw [if_neg (by omega)]
theorem zc_ad_inj (G : zc_G) {j k : Nat} (hj : 3 ≤ j) (hk : 3 ≤ k) (h : zc_ad G j = zc_ad G k) : j = k := by
  rw [zc_ad_ge G hj, zc_ad_ge G hk] at h
  omega
/-- what a place of an object holds -/
def zc_V (G : zc_G) (ci : Nat) (rf : Nat → Option Nat) (f : Nat → Int32) (j : Nat) : Value := if zc_isr (zc_ty ci j) then va_rf (zc_rf G (rf j)) else .int (f j)
def zc_cell (G : zc_G) (k : Nat) (c : zc_S) (f : Nat → Int32) (H : Heap) : Prop := match c.1 with
  | 0 => H[zc_ad G k]? = some (arrV (G.2.2.1 0) c.2.1 (fun j => .int (f j)))
  | 1 => H[zc_ad G k]? = some (arrV (G.2.2.1 1) c.2.1 (fun j => .int (f j)))
  | 2 => H[zc_ad G k]? = some (arrV (G.2.2.1 2) c.2.1 (fun j => va_rf (zc_rf G (c.2.2 j))))
  | ci + 3 => ∃ r : vw_C, zc_cl[ci]? = some r ∧ t_OB (zc_ad G k) (G.2.1.1 ci) r.2.2 (G.2.1.2 ci) H (zc_V G ci c.2.2 f)
theorem zc_cell.kept {G : zc_G} {k : Nat} {c : zc_S} {f : Nat → Int32} {H H1 : Heap} (h : zc_cell G k c f H) (hq : H1[zc_ad G k]? = H[zc_ad G k]?) : zc_cell G k c f H1 := by
  obtain ⟨kd, n, rf⟩ := c
  match kd, h with
  | 0, h => exact hq.trans h
  | 1, h => exact hq.trans h
  | 2, h => exact hq.trans h
  | ci + 3, h =>
    obtain ⟨r, h1, h2⟩ := h
    exact ⟨r, h1, h2.kept hq⟩
def zc_R (G : zc_G) (h : zc_H) (H : Heap) : Prop := 3 ≤ h.1 ∧ H.size + 3 = G.1.size + h.1 ∧ (∀ q : Nat, q < G.1.size → H[q]? = G.1[q]?) ∧ (∀ k : Nat, 3 ≤ k → k < h.1 → zc_cell G k (h.2.1 k) (h.2.2 k) H) ∧ ∀ k : Nat, k < 3 → (h.2.1 k).1 = 0 ∧ (h.2.1 k).2.1 = (G.2.2.2.2 k).1 ∧ h.2.2 k = (G.2.2.2.2 k).2
def zc_ro (G : zc_G) (U : State) (k : Nat) : Prop := ∃ cell : Cell, G.1[G.2.2.2.1 k]? = some cell ∧ U.isArrayOf cell .int ∧ cell.vm ≠ .unknown ∧ (G.2.2.2.2 k).1 ≤ cell.slots.size ∧ cell.slots.size.toInt32 = Int32.ofNat (G.2.2.2.2 k).1 ∧ ∀ j : Nat, j < (G.2.2.2.2 k).1 → cell.slots[j]? = some (.int ((G.2.2.2.2 k).2 j))
def zc_A (G : zc_G) : Nat → Prop := fun q => G.1.size ≤ q
def zc_K (G : zc_G) (U : State) : Prop := va_K G.2.1 zc_cl [(G.2.2.1 0, .int), (G.2.2.1 1, .boolean), (G.2.2.1 2, .object RX7)] U ∧ (∀ k : Nat, k < 3 → zc_ro G U k) ∧ va_Z RX1 "WAY_X" "[I" (.ref (G.2.2.2.1 1)) (zc_A G) U G.1 ∧ va_Z RX1 "WAY_Y" "[I" (.ref (G.2.2.2.1 2)) (zc_A G) U G.1 ∧ ∀ w ∈ zc_nest, va_Nw w U
theorem zc_ro.moved {G : zc_G} {u U : State} {k : Nat} (hvm : u.vm.Alike U.vm) (h : zc_ro G u k) : zc_ro G U k := by
  obtain ⟨cell, h1, h2, h3⟩ := h
  exact ⟨cell, h1, State.isArrayOf_alike hvm h2, h3⟩
theorem zc_nest_warm {w : Cond} (hw : w ∈ zc_nest) {s U : State} (hW : s.WarmedH U.vm) (h : va_Nw w s) : va_Nw w U := by
  have h1 := (List.mem_filter.mp hw).2
  cases w <;> first | (exact va_Nw.warmM hW h) | (exact va_Nw.warmC hW h) | (exact absurd h1 Bool.false_ne_true) | skip
  rename_i t
  cases t <;> first | (exact va_AO.moved hW.alike h) | (exact absurd h1 Bool.false_ne_true)
theorem zc_nest_same {w : Cond} (hw : w ∈ zc_nest) {s U : State} (hv : s.vm = U.vm) (h : va_Nw w s) : va_Nw w U := by
  have h1 := (List.mem_filter.mp hw).2
  have ha : s.vm.Alike U.vm := by rw [hv]; exact Vm.Alike.refl U.vm
  cases w <;> first | (exact va_Nw.same rfl hv h) | (exact absurd h1 Bool.false_ne_true) | skip
  rename_i t
  cases t <;> first | (exact va_AO.moved ha h) | (exact absurd h1 Bool.false_ne_true)
theorem zc_K.warm {G : zc_G} {s U : State} (hW : s.WarmedH U.vm) (h : zc_K G s) : zc_K G U := ⟨va_K.moved hW.alike h.1, fun k hk => (h.2.1 k hk).moved hW.alike, va_Z.moved hW.alike h.2.2.1, va_Z.moved hW.alike h.2.2.2.1, fun w hw => zc_nest_warm hw hW (h.2.2.2.2 w hw)⟩
theorem zc_K.same {G : zc_G} {s U : State} (hv : s.vm = U.vm) (h : zc_K G s) : zc_K G U := by
  have ha : s.vm.Alike U.vm := by rw [hv]; exact Vm.Alike.refl U.vm
  exact ⟨va_K.moved ha h.1, fun k hk => (h.2.1 k hk).moved ha, va_Z.moved ha h.2.2.1, va_Z.moved ha h.2.2.2.1, fun w hw => zc_nest_same hw hv (h.2.2.2.2 w hw)⟩
/-- locals by their places -/
def zl (G : zc_G) (ls : Array Slot) (nL : Nat) (lv : List (Option Value)) : Prop := ∃ as : List (Nat × Value), lv_has ls nL as ∧ ∀ (i : Nat) (v : Value), lv[i]? = some (some v) → (i, zc_cv G v) ∈ as ∧ v.category = 1
theorem zl_at {G : zc_G} {ls : Array Slot} {nL : Nat} {lv : List (Option Value)} (h : zl G ls nL lv) {i : Nat} {v : Value} (hi : lv[i]? = some (some v)) : ls[i]? = some (.val (zc_cv G v)) := by
  obtain ⟨as, h1, h2⟩ := h
  exact h1.2.2 _ (h2 i v hi).1
theorem zl_put {G : zc_G} {ls' : Array Slot} {nL : Nat} {lv : List (Option Value)} {as : List (Nat × Value)} (hm : ∀ (i : Nat) (v : Value), lv[i]? = some (some v) → (i, zc_cv G v) ∈ as ∧ v.category = 1) {i : Nat} {v : Value} (hv : v.category = 1)
    (h' : lv_has ls' nL ((i, zc_cv G v) :: as.filter (fun q => !(q.1 == i) && !(q.1 + 1 == i && q.2.category == 2)))) : zl G ls' nL (lv.set i (some v)) := by
  refine ⟨_, h', fun j w hj => ?_⟩
  by_cases hji : j = i
  · subst hji
    have hlt : j < lv.length := by
      have := (List.getElem?_eq_some_iff.mp hj).1
      simpa using this
    rw [List.getElem?_set_self hlt] at hj
    cases hj
    exact ⟨List.mem_cons_self, hv⟩
  · rw [List.getElem?_set_ne (Ne.symm hji)] at hj
    obtain ⟨g1, g2⟩ := hm j w hj
    refine ⟨List.mem_cons_of_mem _ (List.mem_filter.mpr ⟨g1, ?_⟩), g2⟩
    simp [hji, zc_cv_cat, g2]
theorem zl_size {G : zc_G} {ls : Array Slot} {nL : Nat} {lv : List (Option Value)} (h : zl G ls nL lv) : ls.size = nL := by
  obtain ⟨as, h1, -⟩ := h
  exact h1.1
/-- the return instruction that belongs to an answer -/
def zc_rt (mi : zc_M) (pc : Nat) (r : Option Value) : Prop := match r with
  | none => decode mi.2.1 pc = .ok (.return_, 1) ∧ mi.2.2.2 = none
  | some (.int v) => decode mi.2.1 pc = .ok (.ireturn, 1) ∧ ∃ ty, mi.2.2.2 = some ty ∧ narrow ty (.int v) = .int v
  | some v => decode mi.2.1 pc = .ok (.areturn, 1) ∧ (∃ ty, mi.2.2.2 = some ty ∧ ((∃ n, ty = .object n) ∨ ∃ t, ty = .array t)) ∧ (v = .null ∨ ∃ a, v = .ref a)
/-- a method on its way: the machine, the code, the words, the room, the cells' classes, what its ends must meet -/
def zc_C (G : zc_G) (mi : zc_M) (d mc ms : Nat) (Q : Option Value → zc_H → Prop) (p : Program) (l : Launch) (e : Env) (R : Room) (s : State) (m : MethodId) (args : Array Value) (below : List Frame) (meth : Method) (c : Code) (Qw : State → Prop) : Prop :=
  (p.tables.exec = Jvm.exec ∧ c.code = mi.2.1 ∧ c.maxLocals = mi.2.2.1 ∧ s.vm.findClass mi.1.cls = some m.cls ∧ meth.name = mi.1.name) ∧ (∀ w ∈ zc_tb, w.before args s = true) ∧ (d ≤ R.frames ∧ 64 * d ≤ R.locals ∧ mc ≤ R.cells ∧ ms ≤ R.slots) ∧ zc_K G s ∧ G.1.size ≤ s.heap.size ∧
  ∀ (r : Option Value) (h : zc_H) (H : Heap) (locs : List Loc) (pc : Nat) (ls : Array Slot), Q r h → zc_R G h H → va_S (zc_A G) s.heap H locs → zc_rt mi pc r → W p l e R s m args below meth c H locs mc ms Qw (F0 m pc ls (r.toList.map (zc_cv G)))
def zz (G : zc_G) (mi : zc_M) (d mc ms : Nat) (Q : Option Value → zc_H → Prop) (pc : Nat) (lv : List (Option Value)) (st : List Value) (h : zc_H) (k n : Nat) : Prop :=
  ∀ (p : Program) (l : Launch) (e : Env) (R : Room) (s : State) (m : MethodId) (args : Array Value) (below : List Frame) (meth : Method) (c : Code) (Qw : State → Prop), zc_C G mi d mc ms Q p l e R s m args below meth c Qw →
  ∀ (H : Heap) (locs : List Loc) (ls : Array Slot), zc_R G h H → va_S (zc_A G) s.heap H locs → zl G ls mi.2.2.1 lv → W p l e R s m args below meth c H locs k n Qw (F0 m pc ls (st.map (zc_cv G)))
section ZROWS
variable {G : zc_G} {mi : zc_M} {d mc ms : Nat} {Q : Option Value → zc_H → Prop} {pc : Nat} {lv : List (Option Value)} {st : List Value} {h : zc_H} {ka na : Nat}
theorem z_iconst {n : Int} {v : Int32} (hd : decode mi.2.1 pc = .ok (.iconst n, 1)) (hv : Int32.ofInt n = v) (k : zz G mi d mc ms Q (pc + 1) lv (.int v :: st) h ka na) : zz G mi d mc ms Q pc lv st h ka na :=
  fun p l e R s m args below meth c Qw C H locs ls hR hS hl => lv_iconst C.1.1 C.1.2.1 hd hv (k p l e R s m args below meth c Qw C H locs ls hR hS hl)
theorem z_bipush {n : Int} {v : Int32} (hd : decode mi.2.1 pc = .ok (.bipush n, 2)) (hv : (Int8.ofInt n).toInt32 = v) (k : zz G mi d mc ms Q (pc + 2) lv (.int v :: st) h ka na) : zz G mi d mc ms Q pc lv st h ka na :=
  fun p l e R s m args below meth c Qw C H locs ls hR hS hl => lv_bipush C.1.1 C.1.2.1 hd hv (k p l e R s m args below meth c Qw C H locs ls hR hS hl)
theorem z_sipush {n : Int} {v : Int32} (hd : decode mi.2.1 pc = .ok (.sipush n, 3)) (hv : (Int16.ofInt n).toInt32 = v) (k : zz G mi d mc ms Q (pc + 3) lv (.int v :: st) h ka na) : zz G mi d mc ms Q pc lv st h ka na :=
  fun p l e R s m args below meth c Qw C H locs ls hR hS hl => lv_sipush C.1.1 C.1.2.1 hd hv (k p l e R s m args below meth c Qw C H locs ls hR hS hl)
theorem z_ldc {i : Nat} {v : Int32} (hd : decode mi.2.1 pc = .ok (.ldc i, 2)) (hw : Cond.constant mi.1.cls i v ∈ zc_tb) (k : zz G mi d mc ms Q (pc + 2) lv (.int v :: st) h ka na) : zz G mi d mc ms Q pc lv st h ka na :=
  fun p l e R s m args below meth c Qw C H locs ls hR hS hl => lv_ldc C.1.1 C.1.2.1 C.1.2.2.2.1 (C.2.1 _ hw) hd (k p l e R s m args below meth c Qw C H locs ls hR hS hl)
theorem z_ldcw {i : Nat} {v : Int32} (hd : decode mi.2.1 pc = .ok (.ldc_w i, 3)) (hw : Cond.constant mi.1.cls i v ∈ zc_tb) (k : zz G mi d mc ms Q (pc + 3) lv (.int v :: st) h ka na) : zz G mi d mc ms Q pc lv st h ka na :=
  fun p l e R s m args below meth c Qw C H locs ls hR hS hl => lv_ldcw C.1.1 C.1.2.1 C.1.2.2.2.1 (C.2.1 _ hw) hd (k p l e R s m args below meth c Qw C H locs ls hR hS hl)
theorem z_null (hd : decode mi.2.1 pc = .ok (.aconst_null, 1)) (k : zz G mi d mc ms Q (pc + 1) lv (.null :: st) h ka na) : zz G mi d mc ms Q pc lv st h ka na :=
  fun p l e R s m args below meth c Qw C H locs ls hR hS hl => lv_null C.1.1 C.1.2.1 hd (k p l e R s m args below meth c Qw C H locs ls hR hS hl)
theorem z_iload_n {i : Fin 4} {x : Int32} (hd : decode mi.2.1 pc = .ok (.iload_n i, 1)) (hi : lv[(i : Nat)]? = some (some (.int x))) (k : zz G mi d mc ms Q (pc + 1) lv (.int x :: st) h ka na) : zz G mi d mc ms Q pc lv st h ka na :=
  fun p l e R s m args below meth c Qw C H locs ls hR hS hl => lv_iload_n C.1.1 C.1.2.1 hd rfl (zl_at hl hi) (k p l e R s m args below meth c Qw C H locs ls hR hS hl)
theorem z_iload {i : Nat} {x : Int32} (hd : decode mi.2.1 pc = .ok (.iload i, 2)) (hi : lv[i]? = some (some (.int x))) (k : zz G mi d mc ms Q (pc + 2) lv (.int x :: st) h ka na) : zz G mi d mc ms Q pc lv st h ka na :=
  fun p l e R s m args below meth c Qw C H locs ls hR hS hl => lv_iload C.1.1 C.1.2.1 hd (zl_at hl hi) (k p l e R s m args below meth c Qw C H locs ls hR hS hl)
theorem z_aload_n {i : Fin 4} {r : Option Nat} (hd : decode mi.2.1 pc = .ok (.aload_n i, 1)) (hi : lv[(i : Nat)]? = some (some (va_rf r))) (k : zz G mi d mc ms Q (pc + 1) lv (va_rf r :: st) h ka na) : zz G mi d mc ms Q pc lv st h ka na :=
  fun p l e R s m args below meth c Qw C H locs ls hR hS hl => by
    have k2 := k p l e R s m args below meth c Qw C H locs ls hR hS hl
    have h2 := zl_at hl hi
    cases r with
    | none => exact lv_aload_nN C.1.1 C.1.2.1 hd rfl h2 k2
    | some a => exact lv_aload_n C.1.1 C.1.2.1 hd rfl h2 k2
theorem z_aload {i : Nat} {r : Option Nat} (hd : decode mi.2.1 pc = .ok (.aload i, 2)) (hi : lv[i]? = some (some (va_rf r))) (k : zz G mi d mc ms Q (pc + 2) lv (va_rf r :: st) h ka na) : zz G mi d mc ms Q pc lv st h ka na :=
  fun p l e R s m args below meth c Qw C H locs ls hR hS hl => by
    have k2 := k p l e R s m args below meth c Qw C H locs ls hR hS hl
    have h2 := zl_at hl hi
    cases r with
    | none => exact lv_aloadN C.1.1 C.1.2.1 hd h2 k2
    | some a => exact lv_aload C.1.1 C.1.2.1 hd h2 k2
theorem z_istore_n {i : Fin 4} {x : Int32} {lv' : List (Option Value)} (hd : decode mi.2.1 pc = .ok (.istore_n i, 1)) (hn : (i : Nat) < mi.2.2.1) (hl' : lv.set i (some (.int x)) = lv') (k : zz G mi d mc ms Q (pc + 1) lv' st h ka na) : zz G mi d mc ms Q pc lv (.int x :: st) h ka na :=
  fun p l e R s m args below meth c Qw C H locs ls hR hS ⟨as, ha, hm⟩ => lv_istore_n C.1.1 C.1.2.1 hd rfl ha hn rfl (fun ls' h' => k p l e R s m args below meth c Qw C H locs ls' hR hS (hl' ▸ zl_put (v := .int x) hm rfl h'))
theorem z_istore {i : Nat} {x : Int32} {lv' : List (Option Value)} (hd : decode mi.2.1 pc = .ok (.istore i, 2)) (hn : i < mi.2.2.1) (hl' : lv.set i (some (.int x)) = lv') (k : zz G mi d mc ms Q (pc + 2) lv' st h ka na) : zz G mi d mc ms Q pc lv (.int x :: st) h ka na :=
  fun p l e R s m args below meth c Qw C H locs ls hR hS ⟨as, ha, hm⟩ => lv_istore C.1.1 C.1.2.1 hd ha hn rfl (fun ls' h' => k p l e R s m args below meth c Qw C H locs ls' hR hS (hl' ▸ zl_put (v := .int x) hm rfl h'))
theorem z_astore_n {i : Fin 4} {r : Option Nat} {lv' : List (Option Value)} (hd : decode mi.2.1 pc = .ok (.astore_n i, 1)) (hn : (i : Nat) < mi.2.2.1) (hl' : lv.set i (some (va_rf r)) = lv') (k : zz G mi d mc ms Q (pc + 1) lv' st h ka na) : zz G mi d mc ms Q pc lv (va_rf r :: st) h ka na :=
  fun p l e R s m args below meth c Qw C H locs ls hR hS ⟨as, ha, hm⟩ => by
    cases r with
    | none => exact lv_astore_nN C.1.1 C.1.2.1 hd rfl ha hn rfl (fun ls' h' => k p l e R s m args below meth c Qw C H locs ls' hR hS (hl' ▸ zl_put (v := .null) hm rfl h'))
    | some a => exact lv_astore_n C.1.1 C.1.2.1 hd rfl ha hn rfl (fun ls' h' => k p l e R s m args below meth c Qw C H locs ls' hR hS (hl' ▸ zl_put (v := .ref a) hm rfl h'))
theorem z_astore {i : Nat} {r : Option Nat} {lv' : List (Option Value)} (hd : decode mi.2.1 pc = .ok (.astore i, 2)) (hn : i < mi.2.2.1) (hl' : lv.set i (some (va_rf r)) = lv') (k : zz G mi d mc ms Q (pc + 2) lv' st h ka na) : zz G mi d mc ms Q pc lv (va_rf r :: st) h ka na :=
  fun p l e R s m args below meth c Qw C H locs ls hR hS ⟨as, ha, hm⟩ => by
    cases r with
    | none => exact lv_astoreN C.1.1 C.1.2.1 hd ha hn rfl (fun ls' h' => k p l e R s m args below meth c Qw C H locs ls' hR hS (hl' ▸ zl_put (v := .null) hm rfl h'))
    | some a => exact lv_astore C.1.1 C.1.2.1 hd ha hn rfl (fun ls' h' => k p l e R s m args below meth c Qw C H locs ls' hR hS (hl' ▸ zl_put (v := .ref a) hm rfl h'))
theorem z_iinc {i : Nat} {n : Int} {x v : Int32} {lv' : List (Option Value)} (hd : decode mi.2.1 pc = .ok (.iinc i n, 3)) (hn : i < mi.2.2.1) (hi : lv[i]? = some (some (.int x))) (hv : x + Int32.ofInt n = v) (hl' : lv.set i (some (.int v)) = lv') (k : zz G mi d mc ms Q (pc + 3) lv' st h ka na) : zz G mi d mc ms Q pc lv st h ka na :=
  fun p l e R s m args below meth c Qw C H locs ls hR hS ⟨as, ha, hm⟩ => by
    obtain ⟨kk, hkk⟩ := List.getElem?_of_mem (hm i _ hi).1
    exact lv_iinc C.1.1 C.1.2.1 hd ha hkk hv hn rfl (fun ls' h' => k p l e R s m args below meth c Qw C H locs ls' hR hS (hl' ▸ zl_put (v := .int v) hm rfl h'))
theorem z_iadd {x y v : Int32} (hd : decode mi.2.1 pc = .ok (.iadd, 1)) (hv : x + y = v) (k : zz G mi d mc ms Q (pc + 1) lv (.int v :: st) h ka na) : zz G mi d mc ms Q pc lv (.int y :: .int x :: st) h ka na :=
  fun p l e R s m args below meth c Qw C H locs ls hR hS hl => lv_iadd C.1.1 C.1.2.1 hd (by rw [hv]; exact k p l e R s m args below meth c Qw C H locs ls hR hS hl)
theorem z_isub {x y v : Int32} (hd : decode mi.2.1 pc = .ok (.isub, 1)) (hv : x - y = v) (k : zz G mi d mc ms Q (pc + 1) lv (.int v :: st) h ka na) : zz G mi d mc ms Q pc lv (.int y :: .int x :: st) h ka na :=
  fun p l e R s m args below meth c Qw C H locs ls hR hS hl => lv_isub C.1.1 C.1.2.1 hd (by rw [hv]; exact k p l e R s m args below meth c Qw C H locs ls hR hS hl)
theorem z_imul {x y v : Int32} (hd : decode mi.2.1 pc = .ok (.imul, 1)) (hv : x * y = v) (k : zz G mi d mc ms Q (pc + 1) lv (.int v :: st) h ka na) : zz G mi d mc ms Q pc lv (.int y :: .int x :: st) h ka na :=
  fun p l e R s m args below meth c Qw C H locs ls hR hS hl => lv_imul C.1.1 C.1.2.1 hd (by rw [hv]; exact k p l e R s m args below meth c Qw C H locs ls hR hS hl)
theorem z_iand {x y v : Int32} (hd : decode mi.2.1 pc = .ok (.iand, 1)) (hv : x &&& y = v) (k : zz G mi d mc ms Q (pc + 1) lv (.int v :: st) h ka na) : zz G mi d mc ms Q pc lv (.int y :: .int x :: st) h ka na :=
  fun p l e R s m args below meth c Qw C H locs ls hR hS hl => lv_iand C.1.1 C.1.2.1 hd (by rw [hv]; exact k p l e R s m args below meth c Qw C H locs ls hR hS hl)
theorem z_ior {x y v : Int32} (hd : decode mi.2.1 pc = .ok (.ior, 1)) (hv : x ||| y = v) (k : zz G mi d mc ms Q (pc + 1) lv (.int v :: st) h ka na) : zz G mi d mc ms Q pc lv (.int y :: .int x :: st) h ka na :=
  fun p l e R s m args below meth c Qw C H locs ls hR hS hl => lv_ior C.1.1 C.1.2.1 hd (by rw [hv]; exact k p l e R s m args below meth c Qw C H locs ls hR hS hl)
theorem z_ixor {x y v : Int32} (hd : decode mi.2.1 pc = .ok (.ixor, 1)) (hv : x ^^^ y = v) (k : zz G mi d mc ms Q (pc + 1) lv (.int v :: st) h ka na) : zz G mi d mc ms Q pc lv (.int y :: .int x :: st) h ka na :=
  fun p l e R s m args below meth c Qw C H locs ls hR hS hl => lv_ixor C.1.1 C.1.2.1 hd (by rw [hv]; exact k p l e R s m args below meth c Qw C H locs ls hR hS hl)
theorem z_ishl {x y v : Int32} (hd : decode mi.2.1 pc = .ok (.ishl, 1)) (hv : x <<< (y &&& 31) = v) (k : zz G mi d mc ms Q (pc + 1) lv (.int v :: st) h ka na) : zz G mi d mc ms Q pc lv (.int y :: .int x :: st) h ka na :=
  fun p l e R s m args below meth c Qw C H locs ls hR hS hl => lv_ishl C.1.1 C.1.2.1 hd (by rw [hv]; exact k p l e R s m args below meth c Qw C H locs ls hR hS hl)
theorem z_ishr {x y v : Int32} (hd : decode mi.2.1 pc = .ok (.ishr, 1)) (hv : x >>> (y &&& 31) = v) (k : zz G mi d mc ms Q (pc + 1) lv (.int v :: st) h ka na) : zz G mi d mc ms Q pc lv (.int y :: .int x :: st) h ka na :=
  fun p l e R s m args below meth c Qw C H locs ls hR hS hl => lv_ishr C.1.1 C.1.2.1 hd (by rw [hv]; exact k p l e R s m args below meth c Qw C H locs ls hR hS hl)
theorem z_iushr {x y v : Int32} (hd : decode mi.2.1 pc = .ok (.iushr, 1)) (hv : (x.toUInt32 >>> (y.toUInt32 &&& Int32.toUInt32 31)).toInt32 = v) (k : zz G mi d mc ms Q (pc + 1) lv (.int v :: st) h ka na) : zz G mi d mc ms Q pc lv (.int y :: .int x :: st) h ka na :=
  fun p l e R s m args below meth c Qw C H locs ls hR hS hl => lv_iushr C.1.1 C.1.2.1 hd hv (k p l e R s m args below meth c Qw C H locs ls hR hS hl)
theorem z_ineg {x v : Int32} (hd : decode mi.2.1 pc = .ok (.ineg, 1)) (hv : -x = v) (k : zz G mi d mc ms Q (pc + 1) lv (.int v :: st) h ka na) : zz G mi d mc ms Q pc lv (.int x :: st) h ka na :=
  fun p l e R s m args below meth c Qw C H locs ls hR hS hl => lv_ineg C.1.1 C.1.2.1 hd (by rw [hv]; exact k p l e R s m args below meth c Qw C H locs ls hR hS hl)
theorem z_idiv {x y v : Int32} (hd : decode mi.2.1 pc = .ok (.idiv, 1)) (hy : ¬ y = 0) (hv : x / y = v) (k : zz G mi d mc ms Q (pc + 1) lv (.int v :: st) h ka na) : zz G mi d mc ms Q pc lv (.int y :: .int x :: st) h ka na :=
  fun p l e R s m args below meth c Qw C H locs ls hR hS hl => lv_idiv C.1.1 C.1.2.1 hd hy (by rw [hv]; exact k p l e R s m args below meth c Qw C H locs ls hR hS hl)
theorem z_irem {x y v : Int32} (hd : decode mi.2.1 pc = .ok (.irem, 1)) (hy : ¬ y = 0) (hv : x - x / y * y = v) (k : zz G mi d mc ms Q (pc + 1) lv (.int v :: st) h ka na) : zz G mi d mc ms Q pc lv (.int y :: .int x :: st) h ka na :=
  fun p l e R s m args below meth c Qw C H locs ls hR hS hl => lv_irem C.1.1 C.1.2.1 hd hy (by rw [hv]; exact k p l e R s m args below meth c Qw C H locs ls hR hS hl)
theorem z_dup {v : Value} (hd : decode mi.2.1 pc = .ok (.dup, 1)) (hv : v.category = 1) (k : zz G mi d mc ms Q (pc + 1) lv (v :: v :: st) h ka na) : zz G mi d mc ms Q pc lv (v :: st) h ka na :=
  fun p l e R s m args below meth c Qw C H locs ls hR hS hl => lv_dup C.1.1 C.1.2.1 hd ((zc_cv_cat G v).trans hv) (k p l e R s m args below meth c Qw C H locs ls hR hS hl)
theorem z_dup2 {v w : Value} (hd : decode mi.2.1 pc = .ok (.dup2, 1)) (hv : v.category = 1) (hw : w.category = 1) (k : zz G mi d mc ms Q (pc + 1) lv (v :: w :: v :: w :: st) h ka na) : zz G mi d mc ms Q pc lv (v :: w :: st) h ka na :=
  fun p l e R s m args below meth c Qw C H locs ls hR hS hl => lv_dup2_11 C.1.1 C.1.2.1 hd ((zc_cv_cat G v).trans hv) ((zc_cv_cat G w).trans hw) (k p l e R s m args below meth c Qw C H locs ls hR hS hl)
theorem z_dup_x1 {v w : Value} (hd : decode mi.2.1 pc = .ok (.dup_x1, 1)) (hv : v.category = 1) (hw : w.category = 1) (k : zz G mi d mc ms Q (pc + 1) lv (v :: w :: v :: st) h ka na) : zz G mi d mc ms Q pc lv (v :: w :: st) h ka na :=
  fun p l e R s m args below meth c Qw C H locs ls hR hS hl => lv_dup_x1 C.1.1 C.1.2.1 hd ((zc_cv_cat G v).trans hv) ((zc_cv_cat G w).trans hw) (k p l e R s m args below meth c Qw C H locs ls hR hS hl)
theorem z_pop {v : Value} (hd : decode mi.2.1 pc = .ok (.pop, 1)) (hv : v.category = 1) (k : zz G mi d mc ms Q (pc + 1) lv st h ka na) : zz G mi d mc ms Q pc lv (v :: st) h ka na :=
  fun p l e R s m args below meth c Qw C H locs ls hR hS hl => lv_pop C.1.1 C.1.2.1 hd ((zc_cv_cat G v).trans hv) (k p l e R s m args below meth c Qw C H locs ls hR hS hl)
theorem z_goto {off : Int} {tgt : Nat} (hd : decode mi.2.1 pc = .ok (.goto off, 3)) (ht : (pc : Int) + off = (tgt : Int)) (k : zz G mi d mc ms Q tgt lv st h ka na) : zz G mi d mc ms Q pc lv st h ka na :=
  fun p l e R s m args below meth c Qw C H locs ls hR hS hl => lv_goto C.1.1 C.1.2.1 hd ht (k p l e R s m args below meth c Qw C H locs ls hR hS hl)
theorem z_if_eq {x : Int32} {off : Int} {tgt : Nat} (hd : decode mi.2.1 pc = .ok (.ifCond .eq off, 3)) (ht : (pc : Int) + off = (tgt : Int)) (kt : x = 0 → zz G mi d mc ms Q tgt lv st h ka na) (kf : ¬ x = 0 → zz G mi d mc ms Q (pc + 3) lv st h ka na) : zz G mi d mc ms Q pc lv (.int x :: st) h ka na :=
  fun p l e R s m args below meth c Qw C H locs ls hR hS hl => lv_if_eq C.1.1 C.1.2.1 hd ht (fun q => kt q p l e R s m args below meth c Qw C H locs ls hR hS hl) (fun q => kf q p l e R s m args below meth c Qw C H locs ls hR hS hl)
theorem z_if_ne {x : Int32} {off : Int} {tgt : Nat} (hd : decode mi.2.1 pc = .ok (.ifCond .ne off, 3)) (ht : (pc : Int) + off = (tgt : Int)) (kt : ¬ x = 0 → zz G mi d mc ms Q tgt lv st h ka na) (kf : x = 0 → zz G mi d mc ms Q (pc + 3) lv st h ka na) : zz G mi d mc ms Q pc lv (.int x :: st) h ka na :=
  fun p l e R s m args below meth c Qw C H locs ls hR hS hl => lv_if_ne C.1.1 C.1.2.1 hd ht (fun q => kt q p l e R s m args below meth c Qw C H locs ls hR hS hl) (fun q => kf q p l e R s m args below meth c Qw C H locs ls hR hS hl)
theorem z_if_lt {x : Int32} {off : Int} {tgt : Nat} (hd : decode mi.2.1 pc = .ok (.ifCond .lt off, 3)) (ht : (pc : Int) + off = (tgt : Int)) (kt : x < 0 → zz G mi d mc ms Q tgt lv st h ka na) (kf : ¬ x < 0 → zz G mi d mc ms Q (pc + 3) lv st h ka na) : zz G mi d mc ms Q pc lv (.int x :: st) h ka na :=
  fun p l e R s m args below meth c Qw C H locs ls hR hS hl => lv_if_lt C.1.1 C.1.2.1 hd ht (fun q => kt q p l e R s m args below meth c Qw C H locs ls hR hS hl) (fun q => kf q p l e R s m args below meth c Qw C H locs ls hR hS hl)
theorem z_if_ge {x : Int32} {off : Int} {tgt : Nat} (hd : decode mi.2.1 pc = .ok (.ifCond .ge off, 3)) (ht : (pc : Int) + off = (tgt : Int)) (kt : 0 ≤ x → zz G mi d mc ms Q tgt lv st h ka na) (kf : ¬ 0 ≤ x → zz G mi d mc ms Q (pc + 3) lv st h ka na) : zz G mi d mc ms Q pc lv (.int x :: st) h ka na :=
  fun p l e R s m args below meth c Qw C H locs ls hR hS hl => lv_if_ge C.1.1 C.1.2.1 hd ht (fun q => kt q p l e R s m args below meth c Qw C H locs ls hR hS hl) (fun q => kf q p l e R s m args below meth c Qw C H locs ls hR hS hl)
theorem z_if_gt {x : Int32} {off : Int} {tgt : Nat} (hd : decode mi.2.1 pc = .ok (.ifCond .gt off, 3)) (ht : (pc : Int) + off = (tgt : Int)) (kt : 0 < x → zz G mi d mc ms Q tgt lv st h ka na) (kf : ¬ 0 < x → zz G mi d mc ms Q (pc + 3) lv st h ka na) : zz G mi d mc ms Q pc lv (.int x :: st) h ka na :=
  fun p l e R s m args below meth c Qw C H locs ls hR hS hl => lv_if_gt C.1.1 C.1.2.1 hd ht (fun q => kt q p l e R s m args below meth c Qw C H locs ls hR hS hl) (fun q => kf q p l e R s m args below meth c Qw C H locs ls hR hS hl)
theorem z_if_le {x : Int32} {off : Int} {tgt : Nat} (hd : decode mi.2.1 pc = .ok (.ifCond .le off, 3)) (ht : (pc : Int) + off = (tgt : Int)) (kt : x ≤ 0 → zz G mi d mc ms Q tgt lv st h ka na) (kf : ¬ x ≤ 0 → zz G mi d mc ms Q (pc + 3) lv st h ka na) : zz G mi d mc ms Q pc lv (.int x :: st) h ka na :=
  fun p l e R s m args below meth c Qw C H locs ls hR hS hl => lv_if_le C.1.1 C.1.2.1 hd ht (fun q => kt q p l e R s m args below meth c Qw C H locs ls hR hS hl) (fun q => kf q p l e R s m args below meth c Qw C H locs ls hR hS hl)
theorem z_icmp_eq {x y : Int32} {off : Int} {tgt : Nat} (hd : decode mi.2.1 pc = .ok (.if_icmp .eq off, 3)) (ht : (pc : Int) + off = (tgt : Int)) (kt : x = y → zz G mi d mc ms Q tgt lv st h ka na) (kf : ¬ x = y → zz G mi d mc ms Q (pc + 3) lv st h ka na) : zz G mi d mc ms Q pc lv (.int y :: .int x :: st) h ka na :=
  fun p l e R s m args below meth c Qw C H locs ls hR hS hl => lv_icmp_eq C.1.1 C.1.2.1 hd ht (fun q => kt q p l e R s m args below meth c Qw C H locs ls hR hS hl) (fun q => kf q p l e R s m args below meth c Qw C H locs ls hR hS hl)
theorem z_icmp_ne {x y : Int32} {off : Int} {tgt : Nat} (hd : decode mi.2.1 pc = .ok (.if_icmp .ne off, 3)) (ht : (pc : Int) + off = (tgt : Int)) (kt : ¬ x = y → zz G mi d mc ms Q tgt lv st h ka na) (kf : x = y → zz G mi d mc ms Q (pc + 3) lv st h ka na) : zz G mi d mc ms Q pc lv (.int y :: .int x :: st) h ka na :=
  fun p l e R s m args below meth c Qw C H locs ls hR hS hl => lv_icmp_ne C.1.1 C.1.2.1 hd ht (fun q => kt q p l e R s m args below meth c Qw C H locs ls hR hS hl) (fun q => kf q p l e R s m args below meth c Qw C H locs ls hR hS hl)
theorem z_icmp_lt {x y : Int32} {off : Int} {tgt : Nat} (hd : decode mi.2.1 pc = .ok (.if_icmp .lt off, 3)) (ht : (pc : Int) + off = (tgt : Int)) (kt : x < y → zz G mi d mc ms Q tgt lv st h ka na) (kf : ¬ x < y → zz G mi d mc ms Q (pc + 3) lv st h ka na) : zz G mi d mc ms Q pc lv (.int y :: .int x :: st) h ka na :=
  fun p l e R s m args below meth c Qw C H locs ls hR hS hl => lv_icmp_lt C.1.1 C.1.2.1 hd ht (fun q => kt q p l e R s m args below meth c Qw C H locs ls hR hS hl) (fun q => kf q p l e R s m args below meth c Qw C H locs ls hR hS hl)
theorem z_icmp_ge {x y : Int32} {off : Int} {tgt : Nat} (hd : decode mi.2.1 pc = .ok (.if_icmp .ge off, 3)) (ht : (pc : Int) + off = (tgt : Int)) (kt : y ≤ x → zz G mi d mc ms Q tgt lv st h ka na) (kf : ¬ y ≤ x → zz G mi d mc ms Q (pc + 3) lv st h ka na) : zz G mi d mc ms Q pc lv (.int y :: .int x :: st) h ka na :=
  fun p l e R s m args below meth c Qw C H locs ls hR hS hl => lv_icmp_ge C.1.1 C.1.2.1 hd ht (fun q => kt q p l e R s m args below meth c Qw C H locs ls hR hS hl) (fun q => kf q p l e R s m args below meth c Qw C H locs ls hR hS hl)
theorem z_icmp_gt {x y : Int32} {off : Int} {tgt : Nat} (hd : decode mi.2.1 pc = .ok (.if_icmp .gt off, 3)) (ht : (pc : Int) + off = (tgt : Int)) (kt : y < x → zz G mi d mc ms Q tgt lv st h ka na) (kf : ¬ y < x → zz G mi d mc ms Q (pc + 3) lv st h ka na) : zz G mi d mc ms Q pc lv (.int y :: .int x :: st) h ka na :=
  fun p l e R s m args below meth c Qw C H locs ls hR hS hl => lv_icmp_gt C.1.1 C.1.2.1 hd ht (fun q => kt q p l e R s m args below meth c Qw C H locs ls hR hS hl) (fun q => kf q p l e R s m args below meth c Qw C H locs ls hR hS hl)
theorem z_icmp_le {x y : Int32} {off : Int} {tgt : Nat} (hd : decode mi.2.1 pc = .ok (.if_icmp .le off, 3)) (ht : (pc : Int) + off = (tgt : Int)) (kt : x ≤ y → zz G mi d mc ms Q tgt lv st h ka na) (kf : ¬ x ≤ y → zz G mi d mc ms Q (pc + 3) lv st h ka na) : zz G mi d mc ms Q pc lv (.int y :: .int x :: st) h ka na :=
  fun p l e R s m args below meth c Qw C H locs ls hR hS hl => lv_icmp_le C.1.1 C.1.2.1 hd ht (fun q => kt q p l e R s m args below meth c Qw C H locs ls hR hS hl) (fun q => kf q p l e R s m args below meth c Qw C H locs ls hR hS hl)
theorem z_ifnull {r : Option Nat} {off : Int} {tgt : Nat} (hd : decode mi.2.1 pc = .ok (.ifnull off, 3)) (ht : (pc : Int) + off = (tgt : Int)) (kt : r = none → zz G mi d mc ms Q tgt lv st h ka na) (kf : ¬ r = none → zz G mi d mc ms Q (pc + 3) lv st h ka na) : zz G mi d mc ms Q pc lv (va_rf r :: st) h ka na :=
  fun p l e R s m args below meth c Qw C H locs ls hR hS hl => by
    cases r with
    | none => exact lv_ifnullN C.1.1 C.1.2.1 hd ht (kt rfl p l e R s m args below meth c Qw C H locs ls hR hS hl)
    | some a => exact lv_ifnull C.1.1 C.1.2.1 hd (kf (fun q => by cases q) p l e R s m args below meth c Qw C H locs ls hR hS hl)
theorem z_ifnonnull {r : Option Nat} {off : Int} {tgt : Nat} (hd : decode mi.2.1 pc = .ok (.ifnonnull off, 3)) (ht : (pc : Int) + off = (tgt : Int)) (kt : ¬ r = none → zz G mi d mc ms Q tgt lv st h ka na) (kf : r = none → zz G mi d mc ms Q (pc + 3) lv st h ka na) : zz G mi d mc ms Q pc lv (va_rf r :: st) h ka na :=
  fun p l e R s m args below meth c Qw C H locs ls hR hS hl => by
    cases r with
    | none => exact lv_ifnonnullN C.1.1 C.1.2.1 hd (kf rfl p l e R s m args below meth c Qw C H locs ls hR hS hl)
    | some a => exact lv_ifnonnull C.1.1 C.1.2.1 hd ht (kt (fun q => by cases q) p l e R s m args below meth c Qw C H locs ls hR hS hl)
theorem z_acmp_eq {r q : Option Nat} {off : Int} {tgt : Nat} (hd : decode mi.2.1 pc = .ok (.if_acmp .eq off, 3)) (ht : (pc : Int) + off = (tgt : Int)) (hr : ∀ a, r = some a → 3 ≤ a) (hq : ∀ a, q = some a → 3 ≤ a) (kt : r = q → zz G mi d mc ms Q tgt lv st h ka na) (kf : ¬ r = q → zz G mi d mc ms Q (pc + 3) lv st h ka na) : zz G mi d mc ms Q pc lv (va_rf q :: va_rf r :: st) h ka na :=
  fun p l e R s m args below meth c Qw C H locs ls hR hS hl => by
    show W p l e R s m args below meth c H locs ka na Qw (F0 m pc ls (zc_cv G (va_rf q) :: zc_cv G (va_rf r) :: st.map (zc_cv G)))
    rw [zc_cv_rf, zc_cv_rf]
    have inj : zc_rf G r = zc_rf G q → r = q := by
      intro e1
      cases r with
      | none => cases q with
        | none => rfl
        | some b => cases e1
      | some a => cases q with
        | none => cases e1
        | some b => rw [zc_ad_inj G (hr a rfl) (hq b rfl) (Option.some.inj e1)]
    exact lv_acmp_eq C.1.1 C.1.2.1 hd ht (fun e1 => kt (inj e1) p l e R s m args below meth c Qw C H locs ls hR hS hl) (fun e1 => kf (fun e2 => e1 (by rw [e2])) p l e R s m args below meth c Qw C H locs ls hR hS hl)
theorem z_acmp_ne {r q : Option Nat} {off : Int} {tgt : Nat} (hd : decode mi.2.1 pc = .ok (.if_acmp .ne off, 3)) (ht : (pc : Int) + off = (tgt : Int)) (hr : ∀ a, r = some a → 3 ≤ a) (hq : ∀ a, q = some a → 3 ≤ a) (kt : ¬ r = q → zz G mi d mc ms Q tgt lv st h ka na) (kf : r = q → zz G mi d mc ms Q (pc + 3) lv st h ka na) : zz G mi d mc ms Q pc lv (va_rf q :: va_rf r :: st) h ka na :=
  fun p l e R s m args below meth c Qw C H locs ls hR hS hl => by
    show W p l e R s m args below meth c H locs ka na Qw (F0 m pc ls (zc_cv G (va_rf q) :: zc_cv G (va_rf r) :: st.map (zc_cv G)))
    rw [zc_cv_rf, zc_cv_rf]
    have inj : zc_rf G r = zc_rf G q → r = q := by
      intro e1
      cases r with
      | none => cases q with
        | none => rfl
        | some b => cases e1
      | some a => cases q with
        | none => cases e1
        | some b => rw [zc_ad_inj G (hr a rfl) (hq b rfl) (Option.some.inj e1)]
    exact lv_acmp_ne C.1.1 C.1.2.1 hd ht (fun e1 => kt (fun e2 => e1 (by rw [e2])) p l e R s m args below meth c Qw C H locs ls hR hS hl) (fun e1 => kf (inj e1) p l e R s m args below meth c Qw C H locs ls hR hS hl)
/-- a table of targets: the one that the number picks -/
theorem z_table {dflt lo hi : Int} {offs : Array Int} {len : Nat} {x : Int32} (hd : decode mi.2.1 pc = .ok (.tableswitch dflt lo hi offs, len)) {td : Nat} (ht : (pc : Int) + dflt = (td : Int)) {ts : List Nat} (hts : offs.toList.map (fun o => (pc : Int) + o) = ts.map (fun t : Nat => (t : Int)))
    (hlen : hi = lo + (ts.length : Int) - 1)
    (kd : (x.toInt < lo ∨ hi < x.toInt) → zz G mi d mc ms Q td lv st h ka na) (kc : ∀ (i t : Nat), ts[i]? = some t → x.toInt = lo + (i : Int) → zz G mi d mc ms Q t lv st h ka na) : zz G mi d mc ms Q pc lv (.int x :: st) h ka na :=
  fun p l e R s m args below meth c Qw C H locs ls hR hS hl => by
    by_cases h1 : x.toInt < lo ∨ hi < x.toInt
    · exact lv_tableOut C.1.1 C.1.2.1 hd h1 ht (kd h1 p l e R s m args below meth c Qw C H locs ls hR hS hl)
    · have g1 : ¬ x.toInt < lo := fun q => h1 (Or.inl q)
      have g2 : ¬ hi < x.toInt := fun q => h1 (Or.inr q)
      have hi1 : (x.toInt - lo).toNat < ts.length := by omega
      obtain ⟨t, ht1⟩ : ∃ t, ts[(x.toInt - lo).toNat]? = some t := ⟨_, List.getElem?_eq_getElem hi1⟩
      have e1 : (offs.toList.map (fun o => (pc : Int) + o))[(x.toInt - lo).toNat]? = some (t : Int) := by rw [hts, List.getElem?_map, ht1]; rfl
      rw [List.getElem?_map, Option.map_eq_some_iff] at e1
      obtain ⟨off, ho, e2⟩ := e1
      exact lv_tableIn C.1.1 C.1.2.1 hd g1 g2 (by rw [← Array.getElem?_toList]; exact ho) e2 (kc _ t ht1 (by omega) p l e R s m args below meth c Qw C H locs ls hR hS hl)
theorem z_lookup {dflt : Int} {ps : Array (Int × Int)} {len : Nat} {x : Int32} {off : Int} {tgt : Nat} (hd : decode mi.2.1 pc = .ok (.lookupswitch dflt ps, len)) (hp : (ps.toList.zip (ps.toList.drop 1)).all (fun (a, next) => a.1 < next.1) = true) (ho : Op.lookupswitch.offset ps.toList dflt x.toInt = off) (ht : (pc : Int) + off = (tgt : Int)) (k : zz G mi d mc ms Q tgt lv st h ka na) : zz G mi d mc ms Q pc lv (.int x :: st) h ka na :=
  fun p l e R s m args below meth c Qw C H locs ls hR hS hl => lv_lookup C.1.1 C.1.2.1 hd hp ho ht (k p l e R s m args below meth c Qw C H locs ls hR hS hl)
theorem z_ret {r : Option Value} (hq : Q r h) (hd : zc_rt mi pc r) (hka : ka ≤ mc) (hna : na ≤ ms) : zz G mi d mc ms Q pc lv r.toList h ka na :=
  fun p l e R s m args below meth c Qw C H locs ls hR hS _ => W.widen hka hna (C.2.2.2.2.2 r h H locs pc ls hq hR hS hd)
theorem z_ireturn {x : Int32} {ty : FieldType} (hd : decode mi.2.1 pc = .ok (.ireturn, 1)) (hr : mi.2.2.2 = some ty) (hn : narrow ty (.int x) = .int x) (hka : ka ≤ mc) (hna : na ≤ ms) (hq : Q (some (.int x)) h) : zz G mi d mc ms Q pc lv [.int x] h ka na :=
  z_ret (r := some (.int x)) hq ⟨hd, ty, hr, hn⟩ hka hna
theorem z_return (hd : decode mi.2.1 pc = .ok (.return_, 1)) (hr : mi.2.2.2 = none) (hka : ka ≤ mc) (hna : na ≤ ms) (hq : Q none h) : zz G mi d mc ms Q pc lv [] h ka na :=
  z_ret (r := none) hq ⟨hd, hr⟩ hka hna
theorem z_areturn {q : Option Nat} {ty : FieldType} (hd : decode mi.2.1 pc = .ok (.areturn, 1)) (hr : mi.2.2.2 = some ty) (hty : (∃ n, ty = .object n) ∨ ∃ t, ty = .array t) (hka : ka ≤ mc) (hna : na ≤ ms) (hq : Q (some (va_rf q)) h) : zz G mi d mc ms Q pc lv [va_rf q] h ka na := by
  cases q with
  | none => exact z_ret (r := some .null) hq ⟨hd, ⟨ty, hr, hty⟩, Or.inl rfl⟩ hka hna
  | some a => exact z_ret (r := some (.ref a)) hq ⟨hd, ⟨ty, hr, hty⟩, Or.inr ⟨a, rfl⟩⟩ hka hna
end ZROWS
