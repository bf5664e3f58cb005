/-! ===== contracts over the lighter machine, and calls ===== -/
def zc_P (G : zc_G) (As : List Value) (h : zc_H) : Array Value → State → Prop := fun av U => av = (As.map (zc_cv G)).toArray ∧ zc_K G U ∧ zc_R G h U.heap
def zc_Q (G : zc_G) (Q : Option Value → zc_H → Prop) : Array Value → State → Outcome → State → Prop := fun _ u oc t => (∃ (r : Option Value) (h : zc_H), oc = .returned (r.map (zc_cv G)) ∧ Q r h ∧ zc_R G h t.heap) ∧ va_F (zc_A G) u t
/-- a method's contract: called with these values at these cells it returns, with Q of its answer and the cells; mc cells of ms places come new; d frames are enough -/
def sp (mi : zc_M) (d mc ms : Nat) (As : List Value) (h : zc_H) (Q : Option Value → zc_H → Prop) : Prop := ∀ (G : zc_G) (l : Launch), Met l mi.1 (.code mi.1 mi.2.1 mi.2.2.1 mi.2.2.2 :: zc_tb) ({ frames := d, cells := mc, slots := ms, locals := 64 * d }) (zc_P G As h) (zc_Q G Q) mc ms (zc_A G)
theorem zc_R.lt {G : zc_G} {h : zc_H} {H : Heap} (hR : zc_R G h H) : G.1.size ≤ H.size := by
  obtain ⟨h1, h2, -⟩ := hR
  omega
theorem lv_args_mem : ∀ (vs : List Value) (k i : Nat) (v : Value), (∀ w ∈ vs, w.category = 1) → vs[i]? = some v → (k + i, v) ∈ lv_args k vs
  | [], _, i, v, _, h => by simp at h
  | w :: vs, k, 0, v, _, h => by
    simp only [List.getElem?_cons_zero, Option.some.injEq] at h
    subst h
    exact List.mem_cons_self
  | w :: vs, k, i + 1, v, hc, h => by
    have hw : w.category = 1 := hc w List.mem_cons_self
    have e : lv_args k (w :: vs) = (k, w) :: lv_args (k + 1) vs := by
      show (k, w) :: lv_args (if w.category = 2 then k + 2 else k + 1) vs = _
      rw [if_neg (by omega)]
    rw [e]
    refine List.mem_cons_of_mem _ ?_
    have := lv_args_mem vs (k + 1) i v (fun x hx => hc x (List.mem_cons_of_mem _ hx)) (by simpa using h)
    rwa [show k + (i + 1) = k + 1 + i by omega]
theorem lg_sl_len : ∀ (vs : List Value), (∀ w ∈ vs, w.category = 1) → (lg_sl vs).length = vs.length
  | [], _ => rfl
  | w :: vs, hc => by
    have hw : w.category = 1 := hc w List.mem_cons_self
    have ih := lg_sl_len vs (fun x hx => hc x (List.mem_cons_of_mem _ hx))
    show (List.flatMap _ (w :: vs)).length = _
    rw [List.flatMap_cons, List.length_append, if_neg (by omega)]
    show 1 + (lg_sl vs).length = vs.length + 1
    omega
theorem sp_of {mi : zc_M} {d mc ms : Nat} {As : List Value} {h : zc_H} {Q : Option Value → zc_H → Prop} {lv : List (Option Value)} (hy : plainName mi.1.cls = true) (hc : ∀ w ∈ As, w.category = 1) (hn : As.length ≤ mi.2.2.1) (hlv : ∀ (i : Nat) (v : Value), lv[i]? = some (some v) → As[i]? = some v)
    (k : ∀ G : zc_G, zz G mi d mc ms Q 0 lv [] h 0 0) : sp mi d mc ms As h Q := by
  intro G l
  refine Met.ofW (cc := mi.2.1) (maxL := mi.2.2.1) (ret := mi.2.2.2) hy rfl ?_
  intro p e s m args below meth c s₁ B hml hv
  obtain ⟨rfl, hK, hR⟩ := hv
  have hts := atoms_spec (ws := .code mi.1 mi.2.1 mi.2.2.1 mi.2.2.2 :: zc_tb) B.pre
  have hown : s.vm.findClass mi.1.cls = some m.cls := findClass_of_methodNamed B.named
  have hlocks := B.notSynchronized
  have hr := B.returns
  have hname : meth.name = mi.1.name := (name_of_methodNamed B.named B.method).1
  have hcc : ∀ w ∈ As.map (zc_cv G), w.category = 1 := fun w hw => by
    obtain ⟨v, hv, rfl⟩ := List.mem_map.mp hw
    rw [zc_cv_cat]
    exact hc v hv
  have hlen : (lg_sl (As.map (zc_cv G))).length ≤ mi.2.2.1 := by
    rw [lg_sl_len _ hcc, List.length_map]
    exact hn
  have hl := lv_entry (As.map (zc_cv G)) (n := mi.2.2.1) hlen
  rw [lg_entry_eq]
  refine k G p l e _ s m _ below meth c _ ⟨⟨B.exec, B.bytes, hml, hown, hname⟩, fun w hw => hts w (List.mem_cons_of_mem _ hw), ⟨Nat.le_refl _, Nat.le_refl _, Nat.le_refl _, Nat.le_refl _⟩, hK, hR.lt, ?_⟩ s.heap [] _ hR va_S.rf ⟨_, hl, fun i v hi => ?_⟩
  · intro r h' H locs pc ls hq hR' hS hrt
    cases r with
    | none =>
      obtain ⟨hd, hno⟩ := hrt
      exact W.vret B.exec B.bytes (hr.trans hno) (fun t ht hW => ⟨⟨none, h', rfl, hq, by rw [ht]; exact hR'⟩, hS.F ht⟩) hS.2.2 hd
    | some v =>
      cases v with
      | int x =>
        obtain ⟨hd, ty, hty, hnr⟩ := hrt
        exact W.zret B.exec B.bytes (hr.trans hty) hnr (fun t ht hW => ⟨⟨some (.int x), h', rfl, hq, by rw [ht]; exact hR'⟩, hS.F ht⟩) hS.2.2 hd
      | null =>
        obtain ⟨hd, ⟨ty, hty, htt⟩, -⟩ := hrt
        exact W.aret (v := .null) B.exec B.bytes (hr.trans hty) htt (Or.inl rfl) (fun t ht hW => ⟨⟨some .null, h', rfl, hq, by rw [ht]; exact hR'⟩, hS.F ht⟩) hS.2.2 hd
      | ref a =>
        obtain ⟨hd, ⟨ty, hty, htt⟩, -⟩ := hrt
        exact W.aret (v := .ref (zc_ad G a)) B.exec B.bytes (hr.trans hty) htt (Or.inr ⟨_, rfl⟩) (fun t ht hW => ⟨⟨some (.ref a), h', rfl, hq, by rw [ht]; exact hR'⟩, hS.F ht⟩) hS.2.2 hd
      | long x => exact absurd hrt.2.2 (by simp)
      | float x => exact absurd hrt.2.2 (by simp)
      | double x => exact absurd hrt.2.2 (by simp)
      | retAddr x => exact absurd hrt.2.2 (by simp)
  · have h1 := hlv i v hi
    have h2 : (As.map (zc_cv G))[i]? = some (zc_cv G v) := by rw [List.getElem?_map, h1]; rfl
    have h3 := lv_args_mem _ 0 i _ hcc h2
    rw [Nat.zero_add] at h3
    exact ⟨h3, hc v (List.mem_of_getElem? h1)⟩
theorem sp.imp {mi : zc_M} {d mc ms : Nat} {As : List Value} {h : zc_H} {Q Q' : Option Value → zc_H → Prop} (k : sp mi d mc ms As h Q) (hq : ∀ r h', Q r h' → Q' r h') : sp mi d mc ms As h Q' := by
  intro G l p e ha hc hk s m args below hf hfit hpre hkk
  obtain ⟨kk, o, h1, h2, h3, hQ⟩ := k G l p e ha hc hk s m args below hf hfit hpre hkk
  refine ⟨kk, o, h1, h2, h3, ?_⟩
  obtain ⟨⟨⟨r, h', e1, e2, e3⟩, hF⟩, hL⟩ := hQ
  exact ⟨⟨⟨r, h', e1, hq r h' e2, e3⟩, hF⟩, hL⟩
def zc_lk (own : String) (idx : Nat) (mj : zc_M) (n : Nat) : Prop := Cond.methodLink own idx mj.1 ∈ lw_tbl ∧ goodWord (.methodLink own idx mj.1) = true ∧ Cond.initialized mj.1.cls ∈ lw_tbl ∧ goodWord (.initialized mj.1.cls) = true ∧ Cond.code mj.1 mj.2.1 mj.2.2.1 mj.2.2.2 ∈ lw_tbl ∧ goodWord (.code mj.1 mj.2.1 mj.2.2.1 mj.2.2.2) = true ∧ (mj.1.cls ≠ "java/lang/invoke/MethodHandle" ∧ mj.1.cls ≠ "java/lang/invoke/VarHandle" ∧ (parseMethodDescriptor mj.1.desc).map (fun d => d.parameters.length) = some n) ∧ mj.2.2.1 ≤ 45
def zc_ln (own : String) (idx : Nat) (mj : zc_M) (n : Nat) : Prop := Cond.methodLinkNest own idx mj.1 "MarkCabinet" ∈ lw_tbl ∧ Cond.initialized mj.1.cls ∈ lw_tbl ∧ goodWord (.initialized mj.1.cls) = true ∧ Cond.code mj.1 mj.2.1 mj.2.2.1 mj.2.2.2 ∈ lw_tbl ∧ goodWord (.code mj.1 mj.2.1 mj.2.2.1 mj.2.2.2) = true ∧ (mj.1.cls ≠ "java/lang/invoke/MethodHandle" ∧ mj.1.cls ≠ "java/lang/invoke/VarHandle" ∧ (parseMethodDescriptor mj.1.desc).map (fun d => d.parameters.length) = some n) ∧ mj.2.2.1 ≤ 45
def zc_lv (mj : zc_M) : Prop := Cond.instanceMethod mj.1 ∈ lw_tbl ∧ goodWord (.instanceMethod mj.1) = true ∧ Cond.selects mj.1.cls mj.1 mj.1 ∈ lw_tbl ∧ goodWord (.selects mj.1.cls mj.1 mj.1) = true
def zc_ls (mj : zc_M) : Prop := Cond.static mj.1 ∈ lw_tbl ∧ goodWord (.static mj.1) = true
def zc_li (mj : zc_M) : Prop := mj.1.name = "<init>" ∧ Cond.instanceMethod mj.1 ∈ lw_tbl ∧ goodWord (.instanceMethod mj.1) = true
theorem zc_gw {mj : zc_M} (h1 : Cond.code mj.1 mj.2.1 mj.2.2.1 mj.2.2.2 ∈ lw_tbl) (h2 : goodWord (.code mj.1 mj.2.1 mj.2.2.1 mj.2.2.2) = true) : GoodIn zc_tb (.code mj.1 mj.2.1 mj.2.2.1 mj.2.2.2 :: zc_tb) := fun w hw => by
  rcases List.mem_cons.mp hw with rfl | hw
  · exact ⟨zc_mem h1 h2, good_of_word h2⟩
  · exact zc_good w hw
theorem zc_blind (G : zc_G) (As : List Value) (h : zc_H) : FrameBlind (zc_P G As h) := fun a U g mk q => ⟨q.1, zc_K.same (s := U) (U := U.calling g mk a) rfl q.2.1, q.2.2⟩
section ZCALL
variable {G : zc_G} {mi mj : zc_M} {d mc ms : Nat} {Q Qj : Option Value → zc_H → Prop} {pc idx dj mcj msj n : Nat} {lv : List (Option Value)} {rest As : List Value} {h : zc_H} {ka na : Nat}
theorem zc_room {R : Room} {d dj maxL : Nat} (hR : d ≤ R.frames ∧ 64 * d ≤ R.locals) (h1 : dj + 1 ≤ d) (h2 : maxL ≤ 45) : (({ frames := dj, cells := mcj, slots := msj, locals := 64 * dj } : Room).frames + 1 ≤ R.frames ∧ 8 + (maxL + 11) + ({ frames := dj, cells := mcj, slots := msj, locals := 64 * dj } : Room).locals ≤ R.locals) := by
  refine ⟨Nat.le_trans h1 hR.1, ?_⟩
  show 8 + (maxL + 11) + 64 * dj ≤ R.locals
  omega
/-- what comes behind any call -/
theorem zc_behind {p : Program} {l : Launch} {e : Env} {R : Room} {s : State} {m : MethodId} {args : Array Value} {below : List Frame} {meth : Method} {c : Code} {Qw : State → Prop} {H : Heap} {locs : List Loc} {ls : Array Slot} {st0 : List Value} {a : Array Value}
    (C : zc_C G mi d mc ms Q p l e R s m args below meth c Qw) (hS : va_S (zc_A G) s.heap H locs) (hl : zl G ls mi.2.2.1 lv)
    (hr : va_Run p l e R s m args below meth c H locs ka na mcj msj (F0 m pc ls st0) (rest.map (zc_cv G)) (zc_Q G Qj a) (zc_A G))
    (k : ∀ (r : Option Value) (h' : zc_H), Qj r h' → zz G mi d mc ms Q (pc + 3) lv (r.toList ++ rest) h' (ka + mcj) (na + msj)) : W p l e R s m args below meth c H locs ka na Qw (F0 m pc ls st0) := by
  intro T hT X
  obtain ⟨v, st₀, t, T', L, h0, X', hL, e1, e2, ⟨⟨r, h', hv, hq, hR'⟩, hz, hk⟩, st⟩ := hr T hT X
  cases hv
  rw [h0] at hz hk
  obtain ⟨t2, a1, b1⟩ := k r h' hq p l e R s m args below meth c Qw C T'.heap (locs ++ L) ls (by rw [e1]; exact hR') ⟨Nat.le_trans hS.1 (by rw [e1]; exact hz), fun q h1 h2 => by rw [e1, hk q (Nat.lt_of_lt_of_le h1 hS.1) h2]; exact hS.2.1 q h1 h2, fun q hq => by
      rcases List.mem_append.mp hq with h | h
      · exact hS.2.2 q h
      · exact hL q h⟩ hl T' rfl X'
  refine ⟨t2, st t2 ?_, b1⟩
  have e3 : (r.toList ++ rest).map (zc_cv G) = (r.map (zc_cv G)).toList ++ rest.map (zc_cv G) := by cases r <;> simp
  rw [e3] at a1
  exact a1
theorem z_callS (hs : sp mj dj mcj msj As h Qj) (hd : decode mi.2.1 pc = .ok (.invokestatic idx, 3)) (lk : zc_lk mi.1.cls idx mj n) (lz : zc_ls mj) (hn : As.length = n) (hdj : dj + 1 ≤ d) (hrest : (rest.map fun v => v.category).sum ≤ 8) (hka : ka + mcj ≤ mc) (hna : na + msj ≤ ms)
    (k : ∀ (r : Option Value) (h' : zc_H), Qj r h' → zz G mi d mc ms Q (pc + 3) lv (r.toList ++ rest) h' (ka + mcj) (na + msj)) : zz G mi d mc ms Q pc lv (As.reverse ++ rest) h ka na :=
  fun p l e R s m args below meth c Qw C H locs ls hR hS hl => by
    obtain ⟨k1, k2, k3, k4, k5, k6, k7, k8⟩ := lk
    refine zc_behind C hS hl (va_runS (As := As.map (zc_cv G)) ⟨C.1.1, C.1.2.1, C.1.2.2.1, C.1.2.2.2.1, C.2.1⟩ (hs G l) ⟨callB_of n C.2.1 (zc_gw k5 k6) rfl rfl rfl (C.2.1 _ (zc_mem k3 k4)) (C.2.1 _ (zc_mem k1 k2)) k7 (zc_room ⟨C.2.2.1.1, C.2.2.1.2.1⟩ hdj k8), C.2.1 _ (zc_mem lz.1 lz.2)⟩ ⟨zc_blind G As h, fun U hU hW => ⟨rfl, C.2.2.2.1.warm hW, by rw [hU]; exact hR⟩⟩ rfl (by rw [List.length_map]; exact hn) (zl_size hl) (by rw [List.map_append, List.map_reverse]) ?_ hd ⟨Nat.le_trans hka C.2.2.1.2.2.1, Nat.le_trans hna C.2.2.1.2.2.2⟩) k
    have e1 := zc_cats G rest
    show 2 * 0 + _ ≤ 8
    omega
theorem z_callV {b ci nb : Nat} {r : vw_C} {N : Nat} {sh : Nat → zc_S} {σ : zc_N} {rf : Nat → Option Nat} (hs : sp mj dj mcj msj (.ref b :: As) (N, sh, σ) Qj) (hd : decode mi.2.1 pc = .ok (.invokevirtual idx, 3)) (lk : zc_lk mi.1.cls idx mj n) (lz : zc_lv mj) (hb : 3 ≤ b) (hbN : b < N) (hsb : sh b = (ci + 3, nb, rf)) (hr : zc_cl[ci]? = some r) (hcls : r.1 = mj.1.cls) (hn : As.length = n) (hdj : dj + 1 ≤ d) (hrest : (rest.map fun v => v.category).sum ≤ 8) (hka : ka + mcj ≤ mc) (hna : na + msj ≤ ms)
    (k : ∀ (r : Option Value) (h' : zc_H), Qj r h' → zz G mi d mc ms Q (pc + 3) lv (r.toList ++ rest) h' (ka + mcj) (na + msj)) : zz G mi d mc ms Q pc lv (As.reverse ++ .ref b :: rest) (N, sh, σ) ka na :=
  fun p l e R s m args below meth c Qw C H locs ls hR hS hl => by
    obtain ⟨k1, k2, k3, k4, k5, k6, k7, k8⟩ := lk
    obtain ⟨cell, q1, q2, q3, -⟩ := zc_obj (s := s) hR hb hbN hsb hr
    have hfc := (C.2.2.2.1.1.1 ci r hr).2.1
    refine zc_behind C hS hl (va_runV (C := mj.1.cls) (b := zc_ad G b) (As := As.map (zc_cv G)) ⟨C.1.1, C.1.2.1, C.1.2.2.1, C.1.2.2.2.1, C.2.1⟩ (hs G l) ⟨callB_of n C.2.1 (zc_gw k5 k6) rfl rfl rfl (C.2.1 _ (zc_mem k3 k4)) (C.2.1 _ (zc_mem k1 k2)) k7 (zc_room ⟨C.2.2.1.1, C.2.2.1.2.1⟩ hdj k8), C.2.1 _ (zc_mem lz.1 lz.2.1), C.2.1 _ (zc_mem lz.2.2.1 lz.2.2.2)⟩ ⟨zc_blind G (.ref b :: As) (N, sh, σ), ⟨cell, q1, by rw [q3]; rfl, by rw [q2, ← hcls]; exact hfc⟩, fun U hU hW => ⟨rfl, C.2.2.2.1.warm hW, by rw [hU]; exact hR⟩⟩ rfl (by rw [List.length_map]; exact hn) (zl_size hl) (by rw [List.map_append, List.map_reverse]; rfl) ?_ hd ⟨Nat.le_trans hka C.2.2.1.2.2.1, Nat.le_trans hna C.2.2.1.2.2.2⟩) k
    have e1 := zc_cats G rest
    show 2 * 0 + _ ≤ 8
    omega
theorem z_callI {b : Nat} (hret : mj.2.2.2 = none) (hs : sp mj dj mcj msj (.ref b :: As) h Qj) (hd : decode mi.2.1 pc = .ok (.invokespecial idx, 3)) (lk : zc_lk mi.1.cls idx mj n) (lz : zc_li mj) (hn : As.length = n) (hdj : dj + 1 ≤ d) (hrest : (rest.map fun v => v.category).sum ≤ 8) (hka : ka + mcj ≤ mc) (hna : na + msj ≤ ms)
    (k : ∀ (r : Option Value) (h' : zc_H), Qj r h' → zz G mi d mc ms Q (pc + 3) lv (r.toList ++ rest) h' (ka + mcj) (na + msj)) : zz G mi d mc ms Q pc lv (As.reverse ++ .ref b :: rest) h ka na :=
  fun p l e R s m args below meth c Qw C H locs ls hR hS hl => by
    obtain ⟨yj, bj, nj, rj⟩ := mj
    have hret : rj = none := hret
    subst hret
    obtain ⟨k1, k2, k3, k4, k5, k6, k7, k8⟩ := lk
    refine zc_behind C hS hl (va_runI (b := zc_ad G b) (As := As.map (zc_cv G)) ⟨C.1.1, C.1.2.1, C.1.2.2.1, C.1.2.2.2.1, C.2.1⟩ (hs G l) ⟨callB_of n C.2.1 (zc_gw (mj := (yj, bj, nj, none)) k5 k6) rfl rfl rfl (C.2.1 _ (zc_mem k3 k4)) (C.2.1 _ (zc_mem k1 k2)) k7 (zc_room ⟨C.2.2.1.1, C.2.2.1.2.1⟩ hdj k8), lz.1, C.2.1 _ (zc_mem lz.2.1 lz.2.2)⟩ ⟨zc_blind G (.ref b :: As) h, fun U hU hW => ⟨rfl, C.2.2.2.1.warm hW, by rw [hU]; exact hR⟩⟩ rfl (by rw [List.length_map]; exact hn) (zl_size hl) (by rw [List.map_append, List.map_reverse]; rfl) ?_ hd ⟨Nat.le_trans hka C.2.2.1.2.2.1, Nat.le_trans hna C.2.2.1.2.2.2⟩) k
    have e1 := zc_cats G rest
    show 2 * 0 + _ ≤ 8
    omega
theorem zc_nest_in {own : String} {i : Nat} {y : MethodName} {host : String} (h : Cond.methodLinkNest own i y host ∈ lw_tbl) : Cond.methodLinkNest own i y host ∈ zc_nest := List.mem_filter.mpr ⟨h, rfl⟩
theorem z_callIN {b : Nat} (hret : mj.2.2.2 = none) (hs : sp mj dj mcj msj (.ref b :: As) h Qj) (hd : decode mi.2.1 pc = .ok (.invokespecial idx, 3)) (lk : zc_ln mi.1.cls idx mj n) (lz : zc_li mj) (hn : As.length = n) (hdj : dj + 1 ≤ d) (hrest : (rest.map fun v => v.category).sum ≤ 8) (hka : ka + mcj ≤ mc) (hna : na + msj ≤ ms)
    (k : ∀ (r : Option Value) (h' : zc_H), Qj r h' → zz G mi d mc ms Q (pc + 3) lv (r.toList ++ rest) h' (ka + mcj) (na + msj)) : zz G mi d mc ms Q pc lv (As.reverse ++ .ref b :: rest) h ka na :=
  fun p l e R s m args below meth c Qw C H locs ls hR hS hl => by
    obtain ⟨yj, bj, nj, rj⟩ := mj
    have hret : rj = none := hret
    subst hret
    obtain ⟨k1, k3, k4, k5, k6, k7, k8⟩ := lk
    refine zc_behind C hS hl (va_runIN (b := zc_ad G b) (As := As.map (zc_cv G)) ⟨C.1.1, C.1.2.1, C.1.2.2.1, C.1.2.2.2.1, C.2.1⟩ (hs G l) ⟨va_cnB n C.2.1 (zc_gw (mj := (yj, bj, nj, none)) k5 k6) rfl rfl rfl (C.2.2.2.1.2.2.2.2 _ (zc_nest_in k1)) (C.2.1 _ (zc_mem k3 k4)) k7 (zc_room ⟨C.2.2.1.1, C.2.2.1.2.1⟩ hdj k8), lz.1, C.2.1 _ (zc_mem lz.2.1 lz.2.2)⟩ ⟨zc_blind G (.ref b :: As) h, fun U hU hW => ⟨rfl, C.2.2.2.1.warm hW, by rw [hU]; exact hR⟩⟩ rfl (by rw [List.length_map]; exact hn) (zl_size hl) (by rw [List.map_append, List.map_reverse]; rfl) ?_ hd ⟨Nat.le_trans hka C.2.2.1.2.2.1, Nat.le_trans hna C.2.2.1.2.2.2⟩) k
    have e1 := zc_cats G rest
    show 2 * 0 + _ ≤ 8
    omega
theorem z_callSN (hs : sp mj dj mcj msj As h Qj) (hd : decode mi.2.1 pc = .ok (.invokestatic idx, 3)) (lk : zc_ln mi.1.cls idx mj n) (lz : zc_ls mj) (hn : As.length = n) (hdj : dj + 1 ≤ d) (hrest : (rest.map fun v => v.category).sum ≤ 8) (hka : ka + mcj ≤ mc) (hna : na + msj ≤ ms)
    (k : ∀ (r : Option Value) (h' : zc_H), Qj r h' → zz G mi d mc ms Q (pc + 3) lv (r.toList ++ rest) h' (ka + mcj) (na + msj)) : zz G mi d mc ms Q pc lv (As.reverse ++ rest) h ka na :=
  fun p l e R s m args below meth c Qw C H locs ls hR hS hl => by
    obtain ⟨k1, k3, k4, k5, k6, k7, k8⟩ := lk
    refine zc_behind C hS hl (va_runSN (As := As.map (zc_cv G)) ⟨C.1.1, C.1.2.1, C.1.2.2.1, C.1.2.2.2.1, C.2.1⟩ (hs G l) ⟨va_cnB n C.2.1 (zc_gw k5 k6) rfl rfl rfl (C.2.2.2.1.2.2.2.2 _ (zc_nest_in k1)) (C.2.1 _ (zc_mem k3 k4)) k7 (zc_room ⟨C.2.2.1.1, C.2.2.1.2.1⟩ hdj k8), C.2.1 _ (zc_mem lz.1 lz.2), trivial⟩ ⟨zc_blind G As h, fun U hU hW => ⟨rfl, C.2.2.2.1.warm hW, by rw [hU]; exact hR⟩⟩ rfl (by rw [List.length_map]; exact hn) (zl_size hl) (by rw [List.map_append, List.map_reverse]) ?_ hd ⟨Nat.le_trans hka C.2.2.1.2.2.1, Nat.le_trans hna C.2.2.1.2.2.2⟩) k
    have e1 := zc_cats G rest
    show 2 * 0 + _ ≤ 8
    omega
end ZCALL
