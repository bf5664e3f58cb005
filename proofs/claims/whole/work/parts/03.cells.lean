/-! ===== rows of the lighter machine that read and write cells ===== -/
def zu {α : Type} (f : Nat → α) (i : Nat) (v : α) : Nat → α := fun j => if j = i then v else f j
theorem zu_self {α : Type} (f : Nat → α) (i : Nat) (v : α) : zu f i v i = v := if_pos rfl
theorem zu_ne {α : Type} (f : Nat → α) {i j : Nat} (v : α) (hj : j ≠ i) : zu f i v j = f j := if_neg hj
theorem zc_in : ∀ (ci : Nat) (r : vw_C), zc_cl[ci]? = some r → ∀ w ∈ u_ws r.1 r.2.1 r.2.2, w ∈ zc_tb := by
  intro ci r hr
  match ci, hr with
  | 0, hr => cases hr; decide +kernel
  | 1, hr => cases hr; decide +kernel
  | 2, hr => cases hr; decide +kernel
  | 3, hr => cases hr; decide +kernel
  | 4, hr => cases hr; decide +kernel
  | 5, hr => cases hr; decide +kernel
  | 6, hr => cases hr; decide +kernel
  | 7, hr => cases hr; decide +kernel
  | 8, hr => cases hr; decide +kernel
  | 9, hr => cases hr; decide +kernel
  | k + 10, hr => simp [zc_cl] at hr
theorem zc_tyok : ∀ (ci : Nat) (r : vw_C), zc_cl[ci]? = some r → ∀ k, k < r.2.2 → parseFieldDescriptor (r.2.1 k).2.2.1 = some (zc_ty ci k) := by
  intro ci r hr
  match ci, hr with
  | 0, hr => cases hr; exact tyX0_ok
  | 1, hr => cases hr; exact tyX1_ok
  | 2, hr => cases hr; exact tyX2_ok
  | 3, hr => cases hr; exact tyX3_ok
  | 4, hr => cases hr; exact tyX4_ok
  | 5, hr => cases hr; exact tyX5_ok
  | 6, hr => cases hr; exact tyX6_ok
  | 7, hr => cases hr; exact tyX7_ok
  | 8, hr => cases hr; exact tyX8_ok
  | 9, hr => cases hr; exact tyX9_ok
  | k + 10, hr => simp [zc_cl] at hr
theorem zc_nm : ∀ (ci : Nat) (r : vw_C), zc_cl[ci]? = some r → ∀ a, a < r.2.2 → ∀ b, b < r.2.2 → a ≠ b → (r.2.1 a).2.1 ≠ (r.2.1 b).2.1 := by
  intro ci r hr
  match ci, hr with
  | 0, hr => cases hr; exact nmX0
  | 1, hr => cases hr; exact nmX1
  | 2, hr => cases hr; exact nmX2
  | 3, hr => cases hr; exact nmX3
  | 4, hr => cases hr; exact nmX4
  | 5, hr => cases hr; exact nmX5
  | 6, hr => cases hr; exact nmX6
  | 7, hr => cases hr; exact nmX7
  | 8, hr => cases hr; exact nmX8
  | 9, hr => cases hr; exact nmX9
  | k + 10, hr => simp [zc_cl] at hr
theorem zc_rf_cv (G : zc_G) (q : Nat) : va_rf (zc_rf G (some q)) = .ref (zc_ad G q) := rfl
section ZCELL
variable {G : zc_G} {N : Nat} {sh : Nat → zc_S} {σ : zc_N} {H : Heap}
/-- one cell is written: the others stay -/
theorem zc_R.set {H1 : Heap} {a : Nat} {c : zc_S} {f : Nat → Int32} (hR : zc_R G (N, sh, σ) H) (ha : 3 ≤ a) (haN : a < N) (hz : H1.size = H.size) (oq : ∀ q : Nat, q ≠ zc_ad G a → H1[q]? = H[q]?) (hc : zc_cell G a c f H1) : zc_R G (N, zu sh a c, zu σ a f) H1 := by
  obtain ⟨h1, h2, h3, h4, h5⟩ := hR
  have e0 := zc_ad_ge G ha
  refine ⟨h1, by rw [hz]; exact h2, fun q hq => ?_, fun k hk hkN => ?_, fun k hk => ?_⟩
  · rw [oq q (by omega)]
    exact h3 q hq
  · by_cases hka : k = a
    · subst hka
      show zc_cell G k (zu sh k c k) (zu σ k f k) H1
      rw [zu_self, zu_self]
      exact hc
    · show zc_cell G k (zu sh a c k) (zu σ a f k) H1
      rw [zu_ne _ _ hka, zu_ne _ _ hka]
      exact (h4 k hk hkN).kept (oq _ (fun e => hka (zc_ad_inj G hk ha e)))
  · show (zu sh a c k).1 = 0 ∧ (zu sh a c k).2.1 = _ ∧ zu σ a f k = _
    rw [zu_ne _ _ (show k ≠ a by omega), zu_ne _ _ (show k ≠ a by omega)]
    exact h5 k hk
theorem zu_same {α : Type} (f : Nat → α) (i : Nat) : zu f i (f i) = f := by
  funext j
  by_cases hj : j = i
  · subst hj; exact zu_self _ _ _
  · exact zu_ne _ _ hj
theorem zc_S_in {s : State} {H1 : Heap} {locs : List Loc} {a k : Nat} (hS : va_S (zc_A G) s.heap H locs) (ha : 3 ≤ a) (hz : H1.size = H.size) (oq : ∀ q : Nat, q ≠ zc_ad G a → H1[q]? = H[q]?) : va_S (zc_A G) s.heap H1 (locs ++ [⟨zc_ad G a, k⟩]) :=
  hS.put hz oq (by rw [zc_ad_ge G ha]; exact Nat.le_add_right _ _)
/-- the numbers of an array, wherever it lies -/
theorem zc_ints {s : State} {a : Nat} {n : Nat} {rf : Nat → Option Nat} (hK : zc_K G s) (hR : zc_R G (N, sh, σ) H) (haN : a < N) (hs : sh a = (0, n, rf)) : ∃ cell : Cell, H[zc_ad G a]? = some cell ∧ s.isArrayOf cell .int ∧ cell.vm ≠ .unknown ∧ n ≤ cell.slots.size ∧ cell.slots.size.toInt32 = Int32.ofNat n ∧ ∀ j : Nat, j < n → cell.slots[j]? = some (.int (σ a j)) := by
  obtain ⟨h1, h2, h3, h4, h5⟩ := hR
  by_cases ha : a < 3
  · obtain ⟨e1, e2, e3⟩ := h5 a ha
    obtain ⟨cell, g1, g2, g3, g4, g5, g6⟩ := hK.2.1 a ha
    have e2 : (sh a).2.1 = (G.2.2.2.2 a).1 := e2
    have e3 : σ a = (G.2.2.2.2 a).2 := e3
    rw [hs] at e2
    have e2 : n = (G.2.2.2.2 a).1 := e2
    refine ⟨cell, ?_, g2, g3, by rw [e2]; exact g4, by rw [e2]; exact g5, fun j hj => by rw [e3]; exact g6 j (by rw [← e2]; exact hj)⟩
    unfold zc_ad
    rw [if_pos ha, h3 _ (Array.getElem?_eq_some_iff.mp g1).1]
    exact g1
  · have hc := h4 a (by omega) haN
    have hc : zc_cell G a (sh a) (σ a) H := hc
    rw [hs] at hc
    have hc : H[zc_ad G a]? = some (arrV (G.2.2.1 0) n (fun j => .int (σ a j))) := hc
    refine ⟨_, hc, (hK.1.2 0 _ rfl).1 n _, (fun q => by cases q), Nat.le_of_eq (arrV_size _ _ _).symm, congrArg Nat.toInt32 (arrV_size _ _ _), fun j hj => arrV_read _ _ hj⟩
end ZCELL
section ZHEAP
variable {G : zc_G} {mi : zc_M} {d mc ms : Nat} {Q : Option Value → zc_H → Prop} {pc : Nat} {lv : List (Option Value)} {st : List Value} {N : Nat} {sh : Nat → zc_S} {σ : zc_N} {ka na : Nat}
theorem z_iald {a n : Nat} {rf : Nat → Option Nat} {i v : Int32} (hd : decode mi.2.1 pc = .ok (.iaload, 1)) (haN : a < N) (hs : sh a = (0, n, rf)) (hin : vp_in i n) (hv : σ a i.toNatClampNeg = v) (k : zz G mi d mc ms Q (pc + 1) lv (.int v :: st) (N, sh, σ) ka na) : zz G mi d mc ms Q pc lv (.int i :: .ref a :: st) (N, sh, σ) ka na :=
  fun p l e R s m args below meth c Qw C H locs ls hR hS hl => by
    obtain ⟨cell, g1, g2, g3, g4, g5, g6⟩ := zc_ints C.2.2.2.1 hR haN hs
    have hlt : i.toNatClampNeg < n := Nat.not_le.mp fun q => hin (Or.inr q)
    exact W.iald (v := .int v) C.1.1 C.1.2.1 g1 g2 g3 (fun q => hin (q.imp id (fun q => Nat.le_trans g4 q))) (by rw [← hv]; exact g6 _ hlt) rfl rfl hd (k p l e R s m args below meth c Qw C H locs ls hR hS hl)
theorem z_alen0 {a n : Nat} {rf : Nat → Option Nat} {v : Int32} (hd : decode mi.2.1 pc = .ok (.arraylength, 1)) (haN : a < N) (hs : sh a = (0, n, rf)) (hv : Int32.ofNat n = v) (k : zz G mi d mc ms Q (pc + 1) lv (.int v :: st) (N, sh, σ) ka na) : zz G mi d mc ms Q pc lv (.ref a :: st) (N, sh, σ) ka na :=
  fun p l e R s m args below meth c Qw C H locs ls hR hS hl => by
    obtain ⟨cell, g1, g2, g3, g4, g5, g6⟩ := zc_ints C.2.2.2.1 hR haN hs
    exact W.alen (n := v) C.1.1 C.1.2.1 g1 g2 (by rw [← hv]; exact g5) rfl rfl hd (k p l e R s m args below meth c Qw C H locs ls hR hS hl)
theorem z_bald {a n : Nat} {rf : Nat → Option Nat} {i v : Int32} (hd : decode mi.2.1 pc = .ok (.baload, 1)) (ha : 3 ≤ a) (haN : a < N) (hs : sh a = (1, n, rf)) (hin : vp_in i n) (hv : σ a i.toNatClampNeg = v) (k : zz G mi d mc ms Q (pc + 1) lv (.int v :: st) (N, sh, σ) ka na) : zz G mi d mc ms Q pc lv (.int i :: .ref a :: st) (N, sh, σ) ka na :=
  fun p l e R s m args below meth c Qw C H locs ls hR hS hl => by
    have hc : zc_cell G a (sh a) (σ a) H := hR.2.2.2.1 a ha haN
    rw [hs] at hc
    have hc : H[zc_ad G a]? = some (arrV (G.2.2.1 1) n (fun j => .int (σ a j))) := hc
    have hlt : i.toNatClampNeg < n := Nat.not_le.mp fun q => hin (Or.inr q)
    exact W.zald (v := .int v) C.1.1 C.1.2.1 hc ((C.2.2.2.1.1.2 1 _ rfl).1 n _) (fun q => by cases q) (by rw [arrV_size]; exact hin) (by rw [arrV_read _ _ hlt, hv]) rfl rfl hd (k p l e R s m args below meth c Qw C H locs ls hR hS hl)
theorem z_aald {a n : Nat} {rf : Nat → Option Nat} {i : Int32} {r : Option Nat} (hd : decode mi.2.1 pc = .ok (.aaload, 1)) (ha : 3 ≤ a) (haN : a < N) (hs : sh a = (2, n, rf)) (hin : vp_in i n) (hv : rf i.toNatClampNeg = r) (k : zz G mi d mc ms Q (pc + 1) lv (va_rf r :: st) (N, sh, σ) ka na) : zz G mi d mc ms Q pc lv (.int i :: .ref a :: st) (N, sh, σ) ka na :=
  fun p l e R s m args below meth c Qw C H locs ls hR hS hl => by
    have hc : zc_cell G a (sh a) (σ a) H := hR.2.2.2.1 a ha haN
    rw [hs] at hc
    have hc : H[zc_ad G a]? = some (arrV (G.2.2.1 2) n (fun j => va_rf (zc_rf G (rf j)))) := hc
    have hlt : i.toNatClampNeg < n := Nat.not_le.mp fun q => hin (Or.inr q)
    have k2 := k p l e R s m args below meth c Qw C H locs ls hR hS hl
    rw [List.map_cons, zc_cv_rf] at k2
    exact W.aald (v := va_rf (zc_rf G r)) (ty := .object RX7) C.1.1 C.1.2.1 hc ((C.2.2.2.1.1.2 2 _ rfl).1 n _) rfl (fun q => by cases q) (by rw [arrV_size]; exact hin) (by rw [arrV_read _ _ hlt, hv]) rfl rfl hd k2
theorem z_iast {a n : Nat} {rf : Nat → Option Nat} {i x : Int32} {σ' : zc_N} (hd : decode mi.2.1 pc = .ok (.iastore, 1)) (ha : 3 ≤ a) (haN : a < N) (hs : sh a = (0, n, rf)) (hin : vp_in i n) (hσ : zu σ a (zu (σ a) i.toNatClampNeg x) = σ') (k : zz G mi d mc ms Q (pc + 1) lv st (N, sh, σ') ka na) : zz G mi d mc ms Q pc lv (.int x :: .int i :: .ref a :: st) (N, sh, σ) ka na :=
  fun p l e R s m args below meth c Qw C H locs ls hR hS hl => by
    have hc : zc_cell G a (sh a) (σ a) H := hR.2.2.2.1 a ha haN
    rw [hs] at hc
    have hc : H[zc_ad G a]? = some (arrV (G.2.2.1 0) n (fun j => .int (σ a j))) := hc
    refine W.iast C.1.1 C.1.2.1 hc ((C.2.2.2.1.1.2 0 _ rfl).1 n _) (fun q => by cases q) (by rw [arrV_size]; exact hin) rfl rfl hd fun H1 e1 z1 o1 => ?_
    refine k p l e R s m args below meth c Qw C H1 _ ls ?_ (zc_S_in hS ha z1 o1) hl
    have h2 := zc_R.set (c := sh a) (f := zu (σ a) i.toNatClampNeg x) hR ha haN z1 o1 (by
      rw [hs]
      show H1[zc_ad G a]? = some (arrV _ _ _)
      rw [e1, arrV_store]
      congr 2
      funext q
      by_cases hq : q = i.toNatClampNeg
      · subst hq
        simp [updV, zu]
      · simp [updV, zu, hq])
    rw [zu_same, hσ] at h2
    exact h2
theorem z_bast {a n : Nat} {rf : Nat → Option Nat} {i x : Int32} {σ' : zc_N} (hd : decode mi.2.1 pc = .ok (.bastore, 1)) (ha : 3 ≤ a) (haN : a < N) (hs : sh a = (1, n, rf)) (hin : vp_in i n) (hx : narrow .boolean (.int x) = .int x) (hσ : zu σ a (zu (σ a) i.toNatClampNeg x) = σ') (k : zz G mi d mc ms Q (pc + 1) lv st (N, sh, σ') ka na) : zz G mi d mc ms Q pc lv (.int x :: .int i :: .ref a :: st) (N, sh, σ) ka na :=
  fun p l e R s m args below meth c Qw C H locs ls hR hS hl => by
    have hc : zc_cell G a (sh a) (σ a) H := hR.2.2.2.1 a ha haN
    rw [hs] at hc
    have hc : H[zc_ad G a]? = some (arrV (G.2.2.1 1) n (fun j => .int (σ a j))) := hc
    refine W.zast C.1.1 C.1.2.1 hc ((C.2.2.2.1.1.2 1 _ rfl).1 n _) (fun q => by cases q) (by rw [arrV_size]; exact hin) rfl rfl hd fun H1 e1 z1 o1 => ?_
    refine k p l e R s m args below meth c Qw C H1 _ ls ?_ (zc_S_in hS ha z1 o1) hl
    have h2 := zc_R.set (c := sh a) (f := zu (σ a) i.toNatClampNeg x) hR ha haN z1 o1 (by
      rw [hs]
      show H1[zc_ad G a]? = some (arrV _ _ _)
      rw [e1, hx, arrV_store]
      congr 2
      funext q
      by_cases hq : q = i.toNatClampNeg
      · subst hq
        simp [updV, zu]
      · simp [updV, zu, hq])
    rw [zu_same, hσ] at h2
    exact h2
/-- an object's place, its class known -/
theorem zc_obj {s : State} {H : Heap} {a ci n : Nat} {rf : Nat → Option Nat} (hR : zc_R G (N, sh, σ) H) (ha : 3 ≤ a) (haN : a < N) (hs : sh a = (ci + 3, n, rf)) {r : vw_C} (hr : zc_cl[ci]? = some r) : t_OB (zc_ad G a) (G.2.1.1 ci) r.2.2 (G.2.1.2 ci) H (zc_V G ci rf (σ a)) := by
  have hc : zc_cell G a (sh a) (σ a) H := hR.2.2.2.1 a ha haN
  rw [hs] at hc
  obtain ⟨r', h1, h2⟩ := hc
  cases h1.symm.trans hr
  exact h2
theorem z_get {a ci n j idx : Nat} {rf : Nat → Option Nat} {r : vw_C} {v : Value} (hd : decode mi.2.1 pc = .ok (.getfield idx, 3)) (ha : 3 ≤ a) (haN : a < N) (hs : sh a = (ci + 3, n, rf)) (hr : zc_cl[ci]? = some r) (hj : j < r.2.2) (hw : Cond.fieldLink mi.1.cls idx (r.2.1 j).1 (r.2.1 j).2.1 (r.2.1 j).2.2.1 ∈ zc_tb) (hv : (if zc_isr (zc_ty ci j) then va_rf (rf j) else .int (σ a j)) = v) (k : zz G mi d mc ms Q (pc + 3) lv (v :: st) (N, sh, σ) ka na) : zz G mi d mc ms Q pc lv (.ref a :: st) (N, sh, σ) ka na :=
  fun p l e R s m args below meth c Qw C H locs ls hR hS hl => by
    obtain ⟨cell, q1, q2, q3, q4⟩ := zc_obj (s := s) hR ha haN hs hr
    obtain ⟨hSl, hfc, kC, hkC, hkind⟩ := C.2.2.2.1.1.1 ci r hr
    obtain ⟨cf, kf, fi, f, hi, hsl⟩ := hSl j hj
    refine W.getf C.1.1 C.1.2.1 C.1.2.2.2.1 (C.2.1 _ hw) hi (u_facts hfc hkC (u_lays C.2.1 (zc_in ci r hr) hj) hi).1 q1 (by rw [q3]; exact fun h => by cases h) (v := zc_cv G v) ?_ rfl rfl hd (k p l e R s m args below meth c Qw C H locs ls hR hS hl)
    rw [hsl, q4 j hj, ← hv]
    unfold zc_V
    cases zc_isr (zc_ty ci j)
    · rfl
    · rw [if_pos rfl, if_pos rfl, zc_cv_rf]
/-- a number is put into a place that isn't final -/
theorem z_put {a ci n j idx : Nat} {rf : Nat → Option Nat} {r : vw_C} {x : Int32} {σ' : zc_N} (hd : decode mi.2.1 pc = .ok (.putfield idx, 3)) (ha : 3 ≤ a) (haN : a < N) (hs : sh a = (ci + 3, n, rf)) (hr : zc_cl[ci]? = some r) (hj : j < r.2.2) (hw : Cond.fieldLink mi.1.cls idx (r.2.1 j).1 (r.2.1 j).2.1 (r.2.1 j).2.2.1 ∈ zc_tb) (hfin : (r.2.1 j).2.2.2 = false) (hty : zc_isr (zc_ty ci j) = false) (hn : narrow (zc_ty ci j) (.int x) = .int x) (hfit : fits (zc_ty ci j) (.int x) = true) (hσ : zu σ a (zu (σ a) j x) = σ') (k : zz G mi d mc ms Q (pc + 3) lv st (N, sh, σ') ka na) : zz G mi d mc ms Q pc lv (.int x :: .ref a :: st) (N, sh, σ) ka na :=
  fun p l e R s m args below meth c Qw C H locs ls hR hS hl => by
    have hap := va_apart (own := mi.1.cls) C.2.1 (zc_in ci r hr) (zc_ty ci) (zc_tyok ci r hr) (zc_nm ci r hr) C.2.2.2.1.1 hr
    obtain ⟨cell, q1, q2, q3, q4⟩ := zc_obj (s := s) hR ha haN hs hr
    obtain ⟨hSl, hfc, kC, hkC, hkind⟩ := C.2.2.2.1.1.1 ci r hr
    obtain ⟨cf, kf, fi, f, hi, hsl⟩ := hSl j hj
    have hlay := C.2.1 _ (zc_in ci r hr _ (u_in_lay hj))
    unfold u_lay at hlay
    rw [if_neg (by rw [hfin]; decide)] at hlay
    have hst := (u_facts hfc hkC (u_lays C.2.1 (zc_in ci r hr) hj) hi).1
    have h6 := u_store hfc hkC hkind hlay hi (zc_tyok ci r hr j hj) hn hfit
    refine W.putK C.1.1 C.1.2.1 (f := f) ⟨C.1.2.2.2.1, C.2.1 _ hw, ⟨_, _, _, hi⟩, hst⟩ (by rw [q2]; exact h6) q1 q3 (by rw [hsl]; exact k2_hasslot (q4 j hj)) rfl rfl hd fun H' e1 e2 e3 => ?_
    rw [hsl] at e1 ⊢
    refine k p l e R s m args below meth c Qw C H' _ ls ?_ (zc_S_in hS ha e2 e3) hl
    have h2 := zc_R.set (c := sh a) (f := zu (σ a) j x) hR ha haN e2 e3 (by
      rw [hs]
      refine ⟨r, hr, t_OB.to (V := updV (zc_V G ci rf (σ a)) j (.int x)) ⟨_, e1, q2, q3, t_set q4 hap hj _⟩ (fun i _ => ?_)⟩
      by_cases hij : i = j
      · subst hij
        unfold updV zc_V
        rw [if_pos rfl, hty, zu_self]
        rfl
      · unfold updV zc_V
        rw [if_neg hij, zu_ne _ _ hij])
    rw [zu_same, hσ] at h2
    exact h2
end ZHEAP
