/-! ===== pure rows: which pairs, by the reference ===== -/
theorem eFF (l2 l4 : Int32) (a : Int32 × Int32 × zc_N) : eX9_findFirst_23 l2 l4 a ↔ l2 ≤ a.2.1 ∨ 0 ≤ a.1 := by
  unfold eX9_findFirst_23
  simp only [and_true, and_false, or_false]
  by_cases c1 : l2 ≤ a.2.1
  · simp [c1]
  · simp [c1]
theorem ff52 {τ : zc_N} {i j nb : Nat} {F : Nat → Bool} {m : Bool} (hi : i ≤ 12) (hj : j < nb) (hF : fxF τ i nb F) : zfor (fX9_findFirst_52 τ (nI j)) i (b2 m) = b2 (m && F j) := by
  have key := zfor_inv (fun k x => (x = 0 ↔ (m = false ∨ ∃ q, q < k ∧ τ 50 q = nI j)) ∧ (x = 0 ∨ x = 1)) (fX9_findFirst_52 τ (nI j)) i (b2 m) ⟨⟨fun h => Or.inl ((b2_0 m).mp h), fun h => by
      rcases h with h | ⟨q, hq, _⟩
      · rw [h]; rfl
      · exact absurd hq (by omega)⟩, by cases m; exact Or.inl rfl; exact Or.inr rfl⟩ (fun k hk x hx => by
    obtain ⟨h1, h2⟩ := hx
    unfold fX9_findFirst_52
    rw [cl_n (by omega)]
    by_cases c : x = 0
    · rw [if_pos c]
      refine ⟨⟨fun _ => ?_, fun _ => rfl⟩, Or.inl rfl⟩
      rcases h1.mp c with h | ⟨q, hq, e⟩
      · exact Or.inl h
      · exact Or.inr ⟨q, by omega, e⟩
    · rw [if_neg c]
      have hn : ¬ (m = false ∨ ∃ q, q < k ∧ τ 50 q = nI j) := fun h => c (h1.mpr h)
      by_cases c2 : τ 50 k = nI j
      · rw [if_pos c2]
        exact ⟨⟨fun _ => Or.inr ⟨k, by omega, c2⟩, fun _ => rfl⟩, Or.inl rfl⟩
      · rw [if_neg c2]
        refine ⟨⟨fun h => absurd h (by decide), fun h => ?_⟩, Or.inr rfl⟩
        rcases h with h | ⟨q, hq, e⟩
        · exact absurd (Or.inl h) hn
        · by_cases eq : q = k
          · rw [eq] at e; exact absurd e c2
          · exact absurd (Or.inr ⟨q, by omega, e⟩) hn) i (Nat.le_refl _)
  obtain ⟨h1, h2⟩ := key
  have hf := hF j hj
  generalize zfor (fX9_findFirst_52 τ (nI j)) i (b2 m) = x at h1 h2
  cases hm : m
  · rw [h1.mpr (Or.inl hm)]; rfl
  · cases hfj : F j
    · rw [h1.mpr (Or.inr (hf.mp hfj))]; rfl
    · rcases h2 with h | h
      · rcases h1.mp h with g | g
        · rw [hm] at g; cases g
        · rw [hf.mpr g] at hfj; cases hfj
      · exact h
/-- the state while the places of point i are tried -/
def kF (i : Nat) (σ τ : zc_N) : Prop := off [48, 49, 50] σ τ ∧ ∀ q, q ≠ i → τ 50 q = σ 50 q
theorem fxF_cut {τ : zc_N} {i j nb : Nat} {F : Nat → Bool} (hF : fxF τ i nb F) (hnb : nb ≤ 12) (hj : j < nb) : fxF (zu τ 50 (zu (τ 50) i (nI j))) (i + 1) nb (cut F j) := by
  intro q hq
  rw [zu_self]
  have h := hF q hq
  unfold cut
  constructor
  · intro g
    by_cases e : q = j
    · exact ⟨i, by omega, by rw [zu_self, e]⟩
    · have : F q = false := by simpa [e] using g
      obtain ⟨k, hk, e2⟩ := h.mp this
      exact ⟨k, by omega, by rw [zu_ne _ _ (by omega)]; exact e2⟩
  · rintro ⟨k, hk, e2⟩
    by_cases ek : k = i
    · subst ek
      rw [zu_self] at e2
      have : j = q := (nI_eq (by omega) (by omega)).mp e2
      simp [this]
    · rw [zu_ne _ _ ek] at e2
      rw [h.mpr ⟨k, by omega, e2⟩]
      rfl
theorem fxF_kF {σ τ : zc_N} {i nb : Nat} {F : Nat → Bool} (hF : fxF σ i nb F) (hk : kF i σ τ) : fxF τ i nb F := by
  intro q hq
  rw [hF q hq]
  constructor
  · rintro ⟨k, h1, h2⟩; exact ⟨k, h1, by rw [hk.2 k (by omega)]; exact h2⟩
  · rintro ⟨k, h1, h2⟩; exact ⟨k, h1, by rw [hk.2 k (by omega)] at h2; exact h2⟩
theorem ff23 {M : Nat → Nat → Bool} {n nb i due : Nat} {F : Nat → Bool} {σ : zc_N} (hn : n ≤ 12) (hnb : nb ≤ 12) (hi : i < n) (hd : due ≤ 12) (hM0 : ∀ i j, nb ≤ j → M i j = false) (hM : mM M n nb σ) (hF : fxF σ i nb F) :
    (∃ t, eX9_findFirst_23 (nI nb) (nI i) (zit (fX9_findFirst_23 (nI n) (nI nb) (nI due) (nI i)) t ((-1 : Int32), (0 : Int32), σ))) ∧ (∀ t, t ≤ zwn (fun t => eX9_findFirst_23 (nI nb) (nI i) (zit (fX9_findFirst_23 (nI n) (nI nb) (nI due) (nI i)) t ((-1 : Int32), (0 : Int32), σ))) → qX9_findFirst_23 (nI n) (nI nb) (nI i) (zit (fX9_findFirst_23 (nI n) (nI nb) (nI due) (nI i)) t ((-1 : Int32), (0 : Int32), σ))) ∧
    ((wX9_findFirst_23 (nI n) (nI nb) (nI due) (nI i) ((-1 : Int32), (0 : Int32), σ)).1 = hI (ffst (cnd M n i F due)) ∧ kF i σ (wX9_findFirst_23 (nI n) (nI nb) (nI due) (nI i) ((-1 : Int32), (0 : Int32), σ)).2.2) := by
  have hic : (nI i).toNatClampNeg = i := nI_clamp (by omega)
  have hf := ffst_s (cnd M n i F due)
  generalize hfe : ffst (cnd M n i F due) = f at hf
  have hml : ∀ t, mst M (i + 1) n (cut F t) ≤ 12 := fun t => by have := mst_le M (i + 1) n (cut F t); omega
  have hadr : ∀ j, j < nb → (12 * nI i + nI j).toNatClampNeg = 12 * i + j := fun j hj => by
    rw [show (12 : Int32) = nI 12 from rfl, pk_mul, nI_add, nI_clamp (by omega)]
  have hat : ∀ t, t < nb → ∀ υ : zc_N, kF i σ υ → (zfor (fX9_findFirst_52 υ (nI t)) i (υ 47 (12 * i + t)) = b2 (M i t && F t) ∧ pX9_mostPairs (zu υ 50 (zu (υ 50) i (nI t))) (nI i + 1) (nI n) (nI nb) ∧ rX9_mostPairs (zu υ 50 (zu (υ 50) i (nI t))) (nI i + 1) (nI n) (nI nb) = nI (mst M (i + 1) n (cut F t)) ∧ kF i σ (sX9_mostPairs (zu υ 50 (zu (υ 50) i (nI t))) (nI i + 1) (nI n) (nI nb)) ∧ kF i σ (zu υ 50 (zu (υ 50) i (nI t)))) := by
    intro t ht υ hk
    have hFυ := fxF_kF hF hk
    have hMυ : mM M n nb υ := fun p q hp hq => by rw [hk.1 47 (by decide)]; exact hM p q hp hq
    have k1 : kF i σ (zu υ 50 (zu (υ 50) i (nI t))) := ⟨off_zu hk.1 (by simp) _, fun q hq => by rw [zu_self, zu_ne _ _ hq]; exact hk.2 q hq⟩
    rw [nI_1]
    have := most_m (M := M) (n := n) (nb := nb) (first := i + 1) (F := cut F t) (σ := zu υ 50 (zu (υ 50) i (nI t))) hn hnb (by omega) hM0 (fun p q hp hq => by rw [zu_ne _ _ (by decide)]; exact hMυ p q hp hq) (fxF_cut hFυ hnb ht)
    refine ⟨?_, this.1, this.2.1, ⟨off_tr k1.1 (off_sub this.2.2 (by simp)), fun q hq => ?_⟩, k1⟩
    · rw [hMυ i t hi ht]
      exact ff52 (by omega) ht hFυ
    · rw [this.2.2 50 (by decide)]; exact k1.2 q hq
  have key : ∀ t, t ≤ nb → (∀ j, j < t → cnd M n i F due j = false) → ∃ υ, zit (fX9_findFirst_23 (nI n) (nI nb) (nI due) (nI i)) t ((-1 : Int32), (0 : Int32), σ) = ((-1 : Int32), nI t, υ) ∧ kF i σ υ := by
    intro t
    induction t with
    | zero => intro _ _; exact ⟨σ, rfl, off_rf _ _, fun _ _ => rfl⟩
    | succ t ih =>
      intro ht hno
      obtain ⟨υ, e, hk⟩ := ih (by omega) (fun j hj => hno j (by omega))
      obtain ⟨m0, m1, m2, m3, m4⟩ := hat t (by omega) υ hk
      have hc := hno t (by omega)
      unfold cnd at hc
      show ∃ υ', fX9_findFirst_23 (nI n) (nI nb) (nI due) (nI i) (zit (fX9_findFirst_23 (nI n) (nI nb) (nI due) (nI i)) t ((-1 : Int32), (0 : Int32), σ)) = _ ∧ _
      rw [e]
      unfold fX9_findFirst_23
      dsimp only
      rw [hic, hadr t (by omega), m0, m2, nI_1 t]
      cases c1 : (M i t && F t) with
      | false =>
        rw [if_pos (show b2 false = 0 from rfl), if_pos (show b2 false = 0 from rfl)]
        exact ⟨_, rfl, m4⟩
      | true =>
        have c2 : ¬ mst M (i + 1) n (cut F t) + 1 = due := by rw [c1, Bool.true_and] at hc; simpa using hc
        have c2' := fun h => c2 ((due_c (hml t) hd).mp h)
        rw [if_neg (show ¬ b2 true = 0 by decide), if_neg (show ¬ b2 true = 0 by decide), if_neg c2']
        exact ⟨_, rfl, m3⟩
  have hE : ∀ t, t ≤ nb → (∀ j, j < t → cnd M n i F due j = false) → (eX9_findFirst_23 (nI nb) (nI i) (zit (fX9_findFirst_23 (nI n) (nI nb) (nI due) (nI i)) t ((-1 : Int32), (0 : Int32), σ)) ↔ nb ≤ t) := by
    intro t ht hno
    obtain ⟨υ, e, hk⟩ := key t ht hno
    rw [e, eFF]
    dsimp only
    rw [nI_leI (by omega) (by omega)]
    have : ¬ (0 : Int32) ≤ -1 := by decide
    simp [this]
  have v : vp_in (nI i) 12 := vp_in_nI (by omega) (by decide)
  have hq : ∀ t, t ≤ nb → (∀ j, j < t → cnd M n i F due j = false) → qX9_findFirst_23 (nI n) (nI nb) (nI i) (zit (fX9_findFirst_23 (nI n) (nI nb) (nI due) (nI i)) t ((-1 : Int32), (0 : Int32), σ)) := by
    intro t ht hno
    obtain ⟨υ, e, hk⟩ := key t ht hno
    rw [e]
    unfold qX9_findFirst_23
    dsimp only
    refine ⟨fun _ => ⟨v, v⟩, fun c => ⟨fun _ => ⟨v, v⟩, fun _ => ?_⟩⟩
    have ht12 : t < nb := Nat.lt_of_not_le (fun q => c (nI_le q (by omega)))
    rw [hic]
    refine ⟨by rw [show (12 : Int32) = nI 12 from rfl, pk_mul, nI_add]; exact vp_in_nI (by omega) (by decide), ⟨lc_n (by omega), fun k hk2 => ⟨fun _ => trivial, fun _ => vp_in_nI (by omega) (by decide)⟩⟩, v, fun _ => trivial, fun _ => (hat t ht12 υ hk).2.1⟩
  rcases hf with ⟨f1, f2⟩ | ⟨f1, f2, f3⟩
  · have f2' : ∀ j, j < nb → cnd M n i F due j = false := fun j hj => f2 j (by omega)
    obtain ⟨υ, e, hk⟩ := key nb (Nat.le_refl _) f2'
    have hw : zwn (fun t => eX9_findFirst_23 (nI nb) (nI i) (zit (fX9_findFirst_23 (nI n) (nI nb) (nI due) (nI i)) t ((-1 : Int32), (0 : Int32), σ))) = nb := zwn_eq ((hE nb (Nat.le_refl _) f2').mpr (Nat.le_refl _)) (fun j hj g => absurd ((hE j (by omega) (fun q hq => f2' q (by omega))).mp g) (by omega))
    unfold wX9_findFirst_23
    rw [hw, e]
    refine ⟨⟨nb, (hE nb (Nat.le_refl _) f2').mpr (Nat.le_refl _)⟩, fun t ht => hq t ht (fun j hj => f2' j (by omega)), ?_, hk⟩
    rw [f1]; rfl
  · have hM2 : (M i f && F f) = true := by unfold cnd at f2; exact ((Bool.and_eq_true _ _).mp f2).1
    have hD2 : mst M (i + 1) n (cut F f) + 1 = due := by unfold cnd at f2; simpa using ((Bool.and_eq_true _ _).mp f2).2
    have hfn : f < nb := by
      by_cases h : f < nb
      · exact h
      · rw [hM0 i f (by omega)] at hM2; cases hM2
    obtain ⟨υ, e, hk⟩ := key f (by omega) f3
    obtain ⟨m0, m1, m2, m3, m4⟩ := hat f hfn υ hk
    have e1 : zit (fX9_findFirst_23 (nI n) (nI nb) (nI due) (nI i)) (f + 1) ((-1 : Int32), (0 : Int32), σ) = (nI f, nI (f + 1), sX9_mostPairs (zu υ 50 (zu (υ 50) i (nI f))) (nI i + 1) (nI n) (nI nb)) := by
      show fX9_findFirst_23 (nI n) (nI nb) (nI due) (nI i) (zit (fX9_findFirst_23 (nI n) (nI nb) (nI due) (nI i)) f ((-1 : Int32), (0 : Int32), σ)) = _
      rw [e]
      unfold fX9_findFirst_23
      dsimp only
      rw [hic, hadr f hfn, m0, m2, nI_1 f, hM2, if_neg (show ¬ b2 true = 0 by decide), if_neg (show ¬ b2 true = 0 by decide), if_pos ((due_c (hml f) hd).mpr hD2)]
    have hEf : eX9_findFirst_23 (nI nb) (nI i) (zit (fX9_findFirst_23 (nI n) (nI nb) (nI due) (nI i)) (f + 1) ((-1 : Int32), (0 : Int32), σ)) := by
      rw [e1, eFF]
      exact Or.inr (nI_pos' (by omega))
    have hw : zwn (fun t => eX9_findFirst_23 (nI nb) (nI i) (zit (fX9_findFirst_23 (nI n) (nI nb) (nI due) (nI i)) t ((-1 : Int32), (0 : Int32), σ))) = f + 1 := zwn_eq hEf (fun j hj g => absurd ((hE j (by omega) (fun q hq => f3 q (by omega))).mp g) (by omega))
    unfold wX9_findFirst_23
    rw [hw, e1]
    refine ⟨⟨f + 1, hEf⟩, fun t ht => ?_, (hI_lt f1).symm, m3⟩
    by_cases c : t = f + 1
    · rw [c, e1]
      refine ⟨fun _ => ⟨v, v⟩, fun _ => ⟨fun _ => ⟨v, v⟩, fun z => absurd (nI_pos' (by omega)) z⟩⟩
    · exact hq t (by omega) (fun j hj => f3 j (by omega))
def rF (nb : Nat) (σ : zc_N) (k : Nat) (a : Int32 × zc_N) (y : cT) : Prop := a.1 = nI y.2.1 ∧ fxF a.2 k nb y.1 ∧ (∀ q, q < k → a.2 51 q = hI (y.2.2 q)) ∧ off [48, 49, 50, 51] σ a.2 ∧ y.2.1 ≤ 12
theorem ff11 {M : Nat → Nat → Bool} {n nb : Nat} {σ : zc_N} (hn : n ≤ 12) (hnb : nb ≤ 12) (hM0 : ∀ i j, nb ≤ j → M i j = false) (hM : mM M n nb σ) {i : Nat} (hi : i < n) (a : Int32 × zc_N) (y : cT) (h : rF nb σ i a y) : rF nb σ (i + 1) (fX9_findFirst_11 (nI n) (nI nb) i a) (chs M n i y) ∧ qX9_findFirst_11 (nI n) (nI nb) i a := by
  obtain ⟨a1, υ⟩ := a
  obtain ⟨F, due, H⟩ := y
  obtain ⟨h1, h2, h3, h4, h5⟩ := h
  dsimp only at h1 h2 h3 h4 h5
  subst h1
  have hic : (nI i).toNatClampNeg = i := nI_clamp (by omega)
  have hMυ : mM M n nb υ := fun p q hp hq => by rw [h4 47 (by decide)]; exact hM p q hp hq
  obtain ⟨b1, b2, k1, k2⟩ := ff23 (M := M) (n := n) (nb := nb) (i := i) (due := due) (F := F) (σ := υ) hn hnb hi h5 hM0 hMυ h2
  have hqq : qX9_findFirst_11 (nI n) (nI nb) i (nI due, υ) := by
    unfold qX9_findFirst_11 vX9_findFirst_4 vX9_findFirst_3
    dsimp only
    exact ⟨⟨b1, fun t ht => b2 t (by omega)⟩, b2 _ (Nat.le_refl _)⟩
  refine ⟨?_, hqq⟩
  unfold fX9_findFirst_11 vX9_findFirst_1 vX9_findFirst_2
  dsimp only
  rw [ite_self, hic]
  generalize wX9_findFirst_23 (nI n) (nI nb) (nI due) (nI i) ((-1 : Int32), (0 : Int32), υ) = w at k1 k2
  have hfs := ffst_s (cnd M n i F due)
  unfold chs
  dsimp only
  have ho : off [48, 49, 50, 51] σ (zu (zu w.2.2 50 (zu (w.2.2 50) i w.1)) 51 (zu (w.2.2 51) i w.1)) := off_zu (off_zu (off_tr h4 (off_sub k2.1 (by simp))) (by simp) _) (by simp) _
  have h51 : ∀ q, w.2.2 51 q = υ 51 q := fun q => by rw [k2.1 51 (by decide)]
  by_cases c : ffst (cnd M n i F due) < 12
  · rw [if_pos c]
    have hc := hfs.resolve_left (fun z => by omega)
    generalize ffst (cnd M n i F due) = f at c k1 hc
    rw [hI_lt c] at k1
    have hM2 : (M i f && F f) = true := by have := hc.2.1; unfold cnd at this; exact ((Bool.and_eq_true _ _).mp this).1
    have hD2 : mst M (i + 1) n (cut F f) + 1 = due := by have := hc.2.1; unfold cnd at this; simpa using ((Bool.and_eq_true _ _).mp this).2
    have hfn : f < nb := by
      by_cases h : f < nb
      · exact h
      · rw [hM0 i f (by omega)] at hM2; cases hM2
    refine ⟨?_, ?_, fun q hq => ?_, ho, Nat.le_trans (Nat.sub_le _ _) h5⟩
    · show nI due - (if w.1 < 0 then 0 else 1) = nI (due - 1)
      rw [k1, if_neg (nI_pos (by omega)), i1, sub_n (by omega)]
    · show fxF (zu (zu w.2.2 50 (zu (w.2.2 50) i w.1)) 51 (zu (w.2.2 51) i w.1)) (i + 1) nb (cut F f)
      have := fxF_cut (fxF_kF h2 k2) hnb hfn
      rw [k1]
      intro q hq
      rw [zu_ne _ _ (show 50 ≠ 51 by decide)]
      exact this q hq
    · show zu (zu w.2.2 50 (zu (w.2.2 50) i w.1)) 51 (zu (w.2.2 51) i w.1) 51 q = hI (zu H i f q)
      rw [zu_self]
      by_cases e : q = i
      · rw [e, zu_self, zu_self, k1, hI_lt c]
      · rw [zu_ne _ _ e, zu_ne _ _ e, h51]; exact h3 q (by omega)
  · rw [if_neg c]
    rw [hI_ge c] at k1
    refine ⟨?_, ?_, fun q hq => ?_, ho, h5⟩
    · show nI due - (if w.1 < 0 then 0 else 1) = nI due
      rw [k1, if_pos (by decide), Int32.sub_zero]
    · show fxF (zu (zu w.2.2 50 (zu (w.2.2 50) i w.1)) 51 (zu (w.2.2 51) i w.1)) (i + 1) nb F
      intro q hq
      rw [zu_ne _ _ (show 50 ≠ 51 by decide), zu_self, fxF_kF h2 k2 q hq]
      constructor
      · rintro ⟨k, g1, g2⟩; exact ⟨k, by omega, by rw [zu_ne _ _ (by omega)]; exact g2⟩
      · rintro ⟨k, g1, g2⟩
        by_cases e : k = i
        · rw [e, zu_self, k1] at g2
          exact absurd ((hI_m1 q).mp (by rw [hI_lt (by omega)]; exact g2.symm)) (by omega)
        · rw [zu_ne _ _ e] at g2; exact ⟨k, by omega, g2⟩
    · show zu (zu w.2.2 50 (zu (w.2.2 50) i w.1)) 51 (zu (w.2.2 51) i w.1) 51 q = hI (zu H i 99 q)
      rw [zu_self]
      by_cases e : q = i
      · rw [e, zu_self, zu_self, k1]; rfl
      · rw [zu_ne _ _ e, zu_ne _ _ e, h51]; exact h3 q (by omega)
theorem first_m {M : Nat → Nat → Bool} {n nb : Nat} {σ : zc_N} (hn : n ≤ 12) (hnb : nb ≤ 12) (hM0 : ∀ i j, nb ≤ j → M i j = false) (hM : mM M n nb σ) : pX9_findFirst σ (nI n) (nI nb) ∧ (∀ q, q < n → sX9_findFirst σ (nI n) (nI nb) 51 q = hI (chH M n q)) ∧ off [48, 49, 50, 51] σ (sX9_findFirst σ (nI n) (nI nb)) := by
  have m0 := most_m (M := M) (n := n) (nb := nb) (first := 0) (F := fun _ => true) (σ := σ) hn hnb (Nat.zero_le _) hM0 hM (fun j hj => ⟨fun h => absurd h (by simp), fun ⟨k, hk, _⟩ => absurd hk (by omega)⟩)
  have hm0 := mst_le M 0 n (fun _ => true)
  rw [nI_0] at m0
  have ho := off_sub m0.2.2 (T := [48, 49, 50, 51]) (by simp)
  have key : ∀ k, k ≤ n → rF nb σ k (zfor (fX9_findFirst_11 (nI n) (nI nb)) k (rX9_mostPairs σ 0 (nI n) (nI nb), sX9_mostPairs σ 0 (nI n) (nI nb))) (chz M n k) := by
    refine zfor_sim (rF nb σ) (fX9_findFirst_11 (nI n) (nI nb)) (chs M n) n _ (fun _ => true, mst M 0 n (fun _ => true), fun _ => 99) ⟨m0.2.1, fun j hj => ⟨fun h => absurd (show true = false from h) (by decide), fun ⟨k, hk, _⟩ => absurd hk (by omega)⟩, fun q hq => absurd hq (by omega), ho, ?_⟩ (fun i hi a y h => (ff11 hn hnb hM0 hM hi a y h).1)
    show mst M 0 n (fun _ => true) ≤ 12
    omega
  obtain ⟨k1, k2, k3, k4, k5⟩ := key n (Nat.le_refl _)
  unfold pX9_findFirst sX9_findFirst vX9_findFirst_6
  rw [cl_n (by omega)]
  exact ⟨⟨m0.1, lc_n (by omega), fun i hi => (ff11 hn hnb hM0 hM hi _ _ (key i (by omega))).2⟩, k3, k4⟩
