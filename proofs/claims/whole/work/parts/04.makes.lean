/-! ===== rows that make cells, put references, copy, read statics; calls and contracts ===== -/
section ZMAKE
variable {G : zc_G} {mi : zc_M} {d mc ms : Nat} {Q : Option Value → zc_H → Prop} {pc : Nat} {lv : List (Option Value)} {st : List Value} {N : Nat} {sh : Nat → zc_S} {σ : zc_N} {ka na : Nat}
/-- a final place, in a constructor: a number -/
theorem z_putF {a ci n j idx : Nat} {rf : Nat → Option Nat} {r : vw_C} {x : Int32} {σ' : zc_N} (hd : decode mi.2.1 pc = .ok (.putfield idx, 3)) (ha : 3 ≤ a) (haN : a < N) (hs : sh a = (ci + 3, n, rf)) (hr : zc_cl[ci]? = some r) (hj : j < r.2.2) (hw : Cond.fieldLink mi.1.cls idx (r.2.1 j).1 (r.2.1 j).2.1 (r.2.1 j).2.2.1 ∈ zc_tb) (hfin : (r.2.1 j).2.2.2 = true) (hin2 : mi.1.name = "<init>") (hdecl : (r.2.1 j).1 = mi.1.cls) (hty : zc_isr (zc_ty ci j) = false) (hn : narrow (zc_ty ci j) (.int x) = .int x) (hfit : fits (zc_ty ci j) (.int x) = true) (hσ : zu σ a (zu (σ a) j x) = σ') (k : zz G mi d mc ms Q (pc + 3) lv st (N, sh, σ') ka na) : zz G mi d mc ms Q pc lv (.int x :: .ref a :: st) (N, sh, σ) ka na :=
  fun p l e R s m args below meth c Qw C H locs ls hR hS hl => by
    have hap := va_apart (own := mi.1.cls) C.2.1 (zc_in ci r hr) (zc_ty ci) (zc_tyok ci r hr) (zc_nm ci r hr) C.2.2.2.1.1 hr
    obtain ⟨cell, q1, q2, q3, q4⟩ := zc_obj (s := s) hR ha haN hs hr
    obtain ⟨hSl, hfc, kC, hkC, hkind⟩ := C.2.2.2.1.1.1 ci r hr
    obtain ⟨cf, kf, fi, f, hi, hsl⟩ := hSl j hj
    have hlay := C.2.1 _ (zc_in ci r hr _ (u_in_lay hj))
    unfold u_lay at hlay
    rw [if_pos hfin] at hlay
    have hst := (u_facts hfc hkC (u_lays C.2.1 (zc_in ci r hr) hj) hi).1
    have hcf : m.cls = cf := by
      obtain ⟨_, _, c', _, _, _, -, -, hf', -, -, -, hown2, -⟩ := Cond.laysFinal_spec hlay
      have e1 : c' = cf := by have := hi.symm.trans hf'; simp at this; exact this.1.symm
      rw [hdecl] at hown2
      rw [← e1]; exact Option.some.inj (C.1.2.2.2.1.symm.trans hown2)
    have h6 := u_fits hfc hkC hkind (Or.inr hlay) hi (zc_tyok ci r hr j hj) hn hfit
    refine W.putFinK C.1.1 C.1.2.1 C.1.2.2.2.1 (C.2.1 _ hw) hi hst hcf (C.1.2.2.2.2.trans hin2) (by rw [q2]; exact h6) q1 q3 (by rw [hsl]; exact k2_hasslot (q4 j hj)) rfl rfl hd fun H' e1 e2 e3 => ?_
    rw [hsl] at e1 ⊢
    refine k p l e R s m args below meth c Qw C H' _ ls ?_ (zc_S_in hS ha e2 e3) hl
    have h2 := zc_R.set (c := sh a) (f := zu (σ a) j x) hR ha haN e2 e3 (by
      rw [hs]
      refine ⟨r, hr, t_OB.to (V := updV (zc_V G ci rf (σ a)) j (.int x)) ⟨_, e1, q2, q3, t_set q4 hap hj _⟩ (fun i _ => ?_)⟩
      by_cases hij : i = j
      · subst hij
        unfold updV zc_V
        rw [if_pos rfl, hty, zu_self]
        rfl
      · unfold updV zc_V
        rw [if_neg hij, zu_ne _ _ hij])
    rw [zu_same, hσ] at h2
    exact h2
/-- a final place, in a constructor: a reference -/
theorem z_putFr {a ci n j idx q : Nat} {rf : Nat → Option Nat} {r : vw_C} {sh' : Nat → zc_S} (hd : decode mi.2.1 pc = .ok (.putfield idx, 3)) (ha : 3 ≤ a) (haN : a < N) (hs : sh a = (ci + 3, n, rf)) (hr : zc_cl[ci]? = some r) (hj : j < r.2.2) (hw : Cond.fieldLink mi.1.cls idx (r.2.1 j).1 (r.2.1 j).2.1 (r.2.1 j).2.2.1 ∈ zc_tb) (hfin : (r.2.1 j).2.2.2 = true) (hin2 : mi.1.name = "<init>") (hdecl : (r.2.1 j).1 = mi.1.cls) (hty : zc_isr (zc_ty ci j) = true) (hn : ∀ x, narrow (zc_ty ci j) (.ref x) = .ref x) (hfit : ∀ x, fits (zc_ty ci j) (.ref x) = true) (hσ : zu sh a (ci + 3, n, zu rf j (some q)) = sh') (k : zz G mi d mc ms Q (pc + 3) lv st (N, sh', σ) ka na) : zz G mi d mc ms Q pc lv (.ref q :: .ref a :: st) (N, sh, σ) ka na :=
  fun p l e R s m args below meth c Qw C H locs ls hR hS hl => by
    have hap := va_apart (own := mi.1.cls) C.2.1 (zc_in ci r hr) (zc_ty ci) (zc_tyok ci r hr) (zc_nm ci r hr) C.2.2.2.1.1 hr
    obtain ⟨cell, q1, q2, q3, q4⟩ := zc_obj (s := s) hR ha haN hs hr
    obtain ⟨hSl, hfc, kC, hkC, hkind⟩ := C.2.2.2.1.1.1 ci r hr
    obtain ⟨cf, kf, fi, f, hi, hsl⟩ := hSl j hj
    have hlay := C.2.1 _ (zc_in ci r hr _ (u_in_lay hj))
    unfold u_lay at hlay
    rw [if_pos hfin] at hlay
    have hst := (u_facts hfc hkC (u_lays C.2.1 (zc_in ci r hr) hj) hi).1
    have hcf : m.cls = cf := by
      obtain ⟨_, _, c', _, _, _, -, -, hf', -, -, -, hown2, -⟩ := Cond.laysFinal_spec hlay
      have e1 : c' = cf := by have := hi.symm.trans hf'; simp at this; exact this.1.symm
      rw [hdecl] at hown2
      rw [← e1]; exact Option.some.inj (C.1.2.2.2.1.symm.trans hown2)
    have h6 := u_fits hfc hkC hkind (Or.inr hlay) hi (zc_tyok ci r hr j hj) (hn (zc_ad G q)) (hfit (zc_ad G q))
    refine W.putFinK C.1.1 C.1.2.1 C.1.2.2.2.1 (C.2.1 _ hw) hi hst hcf (C.1.2.2.2.2.trans hin2) (by rw [q2]; exact h6) q1 q3 (by rw [hsl]; exact k2_hasslot (q4 j hj)) rfl rfl hd fun H' e1 e2 e3 => ?_
    rw [hsl] at e1 ⊢
    refine k p l e R s m args below meth c Qw C H' _ ls ?_ (zc_S_in hS ha e2 e3) hl
    have h2 := zc_R.set (c := (ci + 3, n, zu rf j (some q))) (f := σ a) hR ha haN e2 e3 (by
      refine ⟨r, hr, t_OB.to (V := updV (zc_V G ci rf (σ a)) j (.ref (zc_ad G q))) ⟨_, e1, q2, q3, t_set q4 hap hj _⟩ (fun i _ => ?_)⟩
      by_cases hij : i = j
      · subst hij
        show updV _ i _ i = zc_V G ci (zu rf i (some q)) (σ a) i
        unfold updV zc_V
        rw [if_pos rfl, hty, zu_self]
        rfl
      · show updV _ j _ i = zc_V G ci (zu rf j (some q)) (σ a) i
        unfold updV zc_V
        rw [if_neg hij, zu_ne _ _ hij])
    rw [zu_same, hσ] at h2
    exact h2
/-- one cell is new -/
theorem zc_R.push {H H1 : Heap} {c : zc_S} {f : Nat → Int32} (hR : zc_R G (N, sh, σ) H) (hz : H1.size = H.size + 1) (oq : ∀ q : Nat, q < H.size → H1[q]? = H[q]?) (hc : zc_cell G N c f H1) : zc_R G (N + 1, zu sh N c, zu σ N f) H1 := by
  obtain ⟨h1, h2, h3, h4, h5⟩ := hR
  have h1 : 3 ≤ N := h1
  have h2 : H.size + 3 = G.1.size + N := h2
  refine ⟨Nat.le_succ_of_le h1, by show H1.size + 3 = G.1.size + (N + 1); omega, fun q hq => ?_, fun k hk hkN => ?_, fun k hk => ?_⟩
  · rw [oq q (by omega)]
    exact h3 q hq
  · have hkN : k < N + 1 := hkN
    by_cases hka : k = N
    · subst hka
      show zc_cell G k (zu sh k c k) (zu σ k f k) H1
      rw [zu_self, zu_self]
      exact hc
    · show zc_cell G k (zu sh N c k) (zu σ N f k) H1
      rw [zu_ne _ _ hka, zu_ne _ _ hka]
      exact (h4 k hk (show k < N by omega)).kept (oq _ (by rw [zc_ad_ge G hk]; omega))
  · show (zu sh N c k).1 = 0 ∧ (zu sh N c k).2.1 = _ ∧ zu σ N f k = _
    rw [zu_ne _ _ (show k ≠ N by omega), zu_ne _ _ (show k ≠ N by omega)]
    exact h5 k hk
theorem zc_ad_new {H : Heap} (hR : zc_R G (N, sh, σ) H) : zc_ad G N = H.size := by
  obtain ⟨h1, h2, -⟩ := hR
  have h1 : 3 ≤ N := h1
  have h2 : H.size + 3 = G.1.size + N := h2
  rw [zc_ad_ge G h1]
  omega
theorem zc_S.push {s : State} {H H1 : Heap} {locs : List Loc} (hS : va_S (zc_A G) s.heap H locs) (hz : H1.size = H.size + 1) (oq : ∀ q : Nat, q < H.size → H1[q]? = H[q]?) : va_S (zc_A G) s.heap H1 locs :=
  ⟨Nat.le_trans hS.1 (by omega), fun q g1 g2 => (oq q (Nat.lt_of_lt_of_le g1 hS.1)).trans (hS.2.1 q g1 g2), hS.2.2⟩
theorem z_new {ci idx : Nat} {r : vw_C} (hd : decode mi.2.1 pc = .ok (.new idx, 3)) (hr : zc_cl[ci]? = some r) (hw1 : Cond.classLink mi.1.cls idx r.1 ∈ zc_tb) (hw2 : Cond.instantiable r.1 r.2.2 ∈ zc_tb) (hw3 : Cond.initialized r.1 ∈ zc_tb) (hdf : ∀ j, j < r.2.2 → defaultValue (zc_ty ci j) = if zc_isr (zc_ty ci j) then .null else .int 0) (hka : ka + 1 ≤ mc) (hna : na + r.2.2 ≤ ms)
    (k : zz G mi d mc ms Q (pc + 3) lv (.ref N :: st) (N + 1, zu sh N (ci + 3, r.2.2, fun _ => none), zu σ N (fun _ => 0)) (ka + 1) (na + r.2.2)) : zz G mi d mc ms Q pc lv st (N, sh, σ) ka na :=
  fun p l e R s m args below meth c Qw C H locs ls hR hS hl => by
    have hKn := C.2.2.2.1.1.1 ci r hr
    have e0 := zc_ad_new hR
    refine W.newcK C.1.1 C.1.2.1 C.1.2.2.2.1 (C.2.1 _ hw1) (C.2.1 _ hw2) (C.2.1 _ hw3) rfl hd (Nat.le_trans hka C.2.2.1.2.2.1) (Nat.le_trans hna C.2.2.1.2.2.2) hKn.2.1 e0.symm fun H1 kC hkC e1 z1 o1 => ?_
    refine k p l e R s m args below meth c Qw C H1 _ ls ?_ (zc_S.push hS (by rw [z1, e0]) (fun q hq => o1 q (by rw [e0]; exact hq))) hl
    refine zc_R.push hR (by rw [z1, e0]) (fun q hq => o1 q (by rw [e0]; exact hq)) ?_
    refine ⟨r, hr, (u_born (zc_ty ci) C.2.1 (zc_in ci r hr) hKn hkC e1 (zc_tyok ci r hr)).to (fun j hj => ?_)⟩
    rw [hdf j hj]
    unfold zc_V
    cases zc_isr (zc_ty ci j) <;> rfl
theorem z_newi {n v : Nat} {x : Int32} (hd : decode mi.2.1 pc = .ok (.newarray .int, 2)) (hn : ¬ x < 0) (hx : x.toNatClampNeg = n) (hb : n * 4 ≤ 536870912) (hw : Cond.arrayClass .int ∈ zc_tb) (hka : ka + 1 ≤ mc) (hna : na + n ≤ ms)
    (k : zz G mi d mc ms Q (pc + 2) lv (.ref N :: st) (N + 1, zu sh N (0, n, fun _ => none), zu σ N (fun _ => 0)) (ka + 1) (na + n)) : zz G mi d mc ms Q pc lv (.int x :: st) (N, sh, σ) ka na :=
  fun p l e R s m args below meth c Qw C H locs ls hR hS hl => by
    have e0 := zc_ad_new hR
    refine va_newaK C.1.1 C.1.2.1 (atype := .int) (C.2.1 _ hw) rfl hd rfl hn hx hb (Nat.le_trans hka C.2.2.1.2.2.1) (Nat.le_trans hna C.2.2.1.2.2.2) e0.symm fun H1 cA e1 z1 o1 hAr hNm => ?_
    have hcA : cA = G.2.2.1 0 := Option.some.inj (hNm.symm.trans (C.2.2.2.1.1.2 0 _ rfl).2)
    subst hcA
    refine k p l e R s m args below meth c Qw C H1 _ ls ?_ (zc_S.push hS (by rw [z1, e0]) (fun q hq => o1 q (by rw [e0]; exact hq))) hl
    refine zc_R.push hR (by rw [z1, e0]) (fun q hq => o1 q (by rw [e0]; exact hq)) ?_
    exact e1
theorem z_newz {n v : Nat} {x : Int32} (hd : decode mi.2.1 pc = .ok (.newarray .boolean, 2)) (hn : ¬ x < 0) (hx : x.toNatClampNeg = n) (hb : n * 1 ≤ 536870912) (hw : Cond.arrayClass .boolean ∈ zc_tb) (hka : ka + 1 ≤ mc) (hna : na + n ≤ ms)
    (k : zz G mi d mc ms Q (pc + 2) lv (.ref N :: st) (N + 1, zu sh N (1, n, fun _ => none), zu σ N (fun _ => 0)) (ka + 1) (na + n)) : zz G mi d mc ms Q pc lv (.int x :: st) (N, sh, σ) ka na :=
  fun p l e R s m args below meth c Qw C H locs ls hR hS hl => by
    have e0 := zc_ad_new hR
    refine va_newaK C.1.1 C.1.2.1 (atype := .boolean) (C.2.1 _ hw) rfl hd rfl hn hx hb (Nat.le_trans hka C.2.2.1.2.2.1) (Nat.le_trans hna C.2.2.1.2.2.2) e0.symm fun H1 cA e1 z1 o1 hAr hNm => ?_
    have hcA : cA = G.2.2.1 1 := Option.some.inj (hNm.symm.trans (C.2.2.2.1.1.2 1 _ rfl).2)
    subst hcA
    refine k p l e R s m args below meth c Qw C H1 _ ls ?_ (zc_S.push hS (by rw [z1, e0]) (fun q hq => o1 q (by rw [e0]; exact hq))) hl
    refine zc_R.push hR (by rw [z1, e0]) (fun q hq => o1 q (by rw [e0]; exact hq)) ?_
    exact e1
theorem z_anew {n idx : Nat} {x : Int32} (hd : decode mi.2.1 pc = .ok (.anewarray idx, 3)) (hn : ¬ x < 0) (hx : x.toNatClampNeg = n) (hb : n * 4 ≤ 536870912) (hw1 : Cond.classLink mi.1.cls idx RX7 ∈ zc_tb) (hw2 : Cond.arrayOver (.object RX7) ∈ zc_nest) (hka : ka + 1 ≤ mc) (hna : na + n ≤ ms)
    (k : zz G mi d mc ms Q (pc + 3) lv (.ref N :: st) (N + 1, zu sh N (2, n, fun _ => none), zu σ N (fun _ => 0)) (ka + 1) (na + n)) : zz G mi d mc ms Q pc lv (.int x :: st) (N, sh, σ) ka na :=
  fun p l e R s m args below meth c Qw C H locs ls hR hS hl => by
    have e0 := zc_ad_new hR
    subst hx
    refine W.anew C.1.1 C.1.2.1 C.1.2.2.2.1 (C.2.1 _ hw1) (va_AO.use (C.2.2.2.1.2.2.2.2 _ hw2)) rfl hd rfl hn hb (Nat.le_trans hka C.2.2.1.2.2.1) (Nat.le_trans hna C.2.2.1.2.2.2) fun cA kA comp f1 f2 f3 f4 => ?_
    generalize hH1 : H.push ({ cls := cA, slots := Array.replicate x.toNatClampNeg .null, vm := .none } : Cell) = H1
    have z1 : H1.size = H.size + 1 := by rw [← hH1, Array.size_push]
    have e1 : H1[H.size]? = some (arrV cA x.toNatClampNeg (fun _ => .null)) := by rw [← hH1, Array.getElem?_push_size, ← arrV_new]
    have o1 : ∀ q : Nat, q < H.size → H1[q]? = H[q]? := fun q hq => by rw [← hH1, Array.getElem?_push, if_neg (Nat.ne_of_lt hq)]
    obtain ⟨kB, compB, b1, b2, b3, b4⟩ := (C.2.2.2.1.1.2 2 _ rfl).2
    have hcA : cA = G.2.2.1 2 := Option.some.inj (f1.symm.trans b4)
    subst hcA
    have k2 := k p l e R s m args below meth c Qw C H1 locs ls (zc_R.push hR z1 o1 (show H1[zc_ad G N]? = _ by rw [e0]; exact e1)) (zc_S.push hS z1 o1) hl
    rw [List.map_cons] at k2
    have e2 : zc_cv G (.ref N) = .ref H.size := by show Value.ref (zc_ad G N) = _; rw [e0]
    rw [e2] at k2
    exact k2
/-- a reference is put into an array of references -/
theorem z_aast {a n q qn : Nat} {rf rq : Nat → Option Nat} {i : Int32} {sh' : Nat → zc_S} (hd : decode mi.2.1 pc = .ok (.aastore, 1)) (ha : 3 ≤ a) (haN : a < N) (hs : sh a = (2, n, rf)) (hin : vp_in i n) (hq : 3 ≤ q) (hqN : q < N) (hsq : sh q = (7 + 3, qn, rq)) (hσ : zu sh a (2, n, zu rf i.toNatClampNeg (some q)) = sh') (k : zz G mi d mc ms Q (pc + 1) lv st (N, sh', σ) ka na) : zz G mi d mc ms Q pc lv (.ref q :: .int i :: .ref a :: st) (N, sh, σ) ka na :=
  fun p l e R s m args below meth c Qw C H locs ls hR hS hl => by
    have hc : zc_cell G a (sh a) (σ a) H := hR.2.2.2.1 a ha haN
    rw [hs] at hc
    have hc : H[zc_ad G a]? = some (arrV (G.2.2.1 2) n (fun j => va_rf (zc_rf G (rf j)))) := hc
    have hlt : i.toNatClampNeg < n := Nat.not_le.mp fun q => hin (Or.inr q)
    have h0 : ¬ i < 0 := fun q => hin (Or.inl q)
    obtain ⟨cellV, g1, g2, g3, -⟩ := zc_obj (s := s) hR hq hqN hsq (r := (RX7, TX7, 5)) rfl
    have hcls := (C.2.2.2.1.1.1 7 (RX7, TX7, 5) rfl).2
    obtain ⟨kA, comp, k1, k2, k3, -⟩ := (C.2.2.2.1.1.2 2 _ rfl).2
    have hcomp : comp = G.2.1.1 7 := Option.some.inj (k3.symm.trans hcls.1)
    subst hcomp
    obtain ⟨kC, hkC, -⟩ := hcls.2
    refine W.aast C.1.1 C.1.2.1 hc (fun q h => by cases h) (fun h => by cases h) k1 k2 rfl hkC ⟨h0, by rw [arrV_size]; exact hlt⟩ g1 (fun q h => by rw [g3] at h; cases h) (by rw [g2]; exact hkC) (by rw [g2]; exact va_assign hcls) rfl rfl hd fun H1 e1 z1 o1 => ?_
    refine k p l e R s m args below meth c Qw C H1 _ ls ?_ (zc_S_in hS ha z1 o1) hl
    have h2 := zc_R.set (c := (2, n, zu rf i.toNatClampNeg (some q))) (f := σ a) hR ha haN z1 o1 (by
      show H1[zc_ad G a]? = some (arrV _ _ _)
      rw [e1, arrV_store]
      congr 2
      funext j
      by_cases hj : j = i.toNatClampNeg
      · subst hj
        simp [updV, zu, zc_rf, va_rf]
      · simp [updV, zu, hj])
    rw [zu_same, hσ] at h2
    exact h2
theorem z_way {idx : Nat} {nm : String} {q : Nat} (hd : decode mi.2.1 pc = .ok (.getstatic idx, 3)) (hw : Cond.fieldLink mi.1.cls idx RX1 nm "[I" ∈ zc_tb) (hq : (nm = "WAY_X" ∧ q = 1) ∨ (nm = "WAY_Y" ∧ q = 2)) (k : zz G mi d mc ms Q (pc + 3) lv (.ref q :: st) (N, sh, σ) ka na) : zz G mi d mc ms Q pc lv st (N, sh, σ) ka na :=
  fun p l e R s m args below meth c Qw C H locs ls hR hS hl => by
    have key : ∀ (v : Value), va_Z RX1 nm "[I" v (zc_A G) s G.1 → v = zc_cv G (.ref q) → W p l e R s m args below meth c H locs ka na Qw (F0 m pc ls (st.map (zc_cv G))) := by
      intro v hZ hv
      obtain ⟨cf, kf, fi, f, a, cell, h1, h2, h3, h4, h5, h6, h7, h8⟩ := hZ
      exact W.gets C.1.1 C.1.2.1 C.1.2.2.2.1 (C.2.1 _ hw) h1 h2 h3 h4 (by rw [hR.2.2.1 a (Array.getElem?_eq_some_iff.mp h5).1]; exact h5) (fun e => by rw [e] at h6; cases h6) h7 rfl hd (by rw [hv]; exact k p l e R s m args below meth c Qw C H locs ls hR hS hl)
    rcases hq with ⟨rfl, rfl⟩ | ⟨rfl, rfl⟩
    · exact key _ C.2.2.2.1.2.2.1 rfl
    · exact key _ C.2.2.2.1.2.2.2.1 rfl
theorem z_objInit {idx a : Nat} (hd : decode mi.2.1 pc = .ok (.invokespecial idx, 3)) (hw1 : Cond.methodLink mi.1.cls idx objectInit ∈ zc_tb) (hw2 : Cond.instanceMethod objectInit ∈ zc_tb) (hw3 : Cond.code objectInit ⟨#[0xb1]⟩ 1 none ∈ zc_tb) (hdd : 1 ≤ d) (hst : (st.map fun v => v.category).sum ≤ 8) {h : zc_H} (k : zz G mi d mc ms Q (pc + 3) lv st h ka na) : zz G mi d mc ms Q pc lv (.ref a :: st) h ka na :=
  fun p l e R s m args below meth c Qw C H locs ls hR hS hl => by
    refine W.objInit C.1.1 C.1.2.1 C.1.2.2.2.1 (C.2.1 _ hw1) (C.2.1 _ hw2) (C.2.1 _ hw3) rfl ((zl_size hl).trans C.1.2.2.1.symm) rfl hd (Nat.le_trans hdd C.2.2.1.1) ?_ (k p l e R s m args below meth c Qw C H locs ls hR hS hl)
    have e1 := zc_cats G st
    have e2 := C.2.2.1.2.1
    show 2 * 0 + _ + 12 ≤ _
    omega
end ZMAKE
