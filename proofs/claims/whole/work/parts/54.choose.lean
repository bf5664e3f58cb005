/-! ===== pure rows: which pairs ===== -/
/-- the first of twelve, or 99 -/
def ffst (c : Nat → Bool) : Nat := zfor (fun j x => if x < 12 then x else if c j then j else x) 12 99
theorem ffst_s (c : Nat → Bool) : (ffst c = 99 ∧ ∀ j, j < 12 → c j = false) ∨ (ffst c < 12 ∧ c (ffst c) = true ∧ ∀ j, j < ffst c → c j = false) := by
  refine zfor_inv (fun k x => (x = 99 ∧ ∀ j, j < k → c j = false) ∨ (x < 12 ∧ c x = true ∧ ∀ j, j < x → c j = false)) (fun j x => if x < 12 then x else if c j then j else x) 12 99 (Or.inl ⟨rfl, fun j hj => absurd hj (by omega)⟩) (fun k hk x hx => ?_) 12 (Nat.le_refl _)
  rcases hx with ⟨h1, h2⟩ | ⟨h1, h2, h3⟩
  · rw [if_neg (by omega)]
    cases hc : c k
    · rw [if_neg (by simp)]
      refine Or.inl ⟨h1, fun j hj => ?_⟩
      by_cases e : j = k
      · rw [e]; exact hc
      · exact h2 j (by omega)
    · rw [if_pos rfl]
      exact Or.inr ⟨hk, hc, h2⟩
  · rw [if_pos h1]
    exact Or.inr ⟨h1, h2, h3⟩
/-- may point i take j -/
def cnd (M : Nat → Nat → Bool) (n i : Nat) (F : Nat → Bool) (due : Nat) (j : Nat) : Bool := M i j && F j && decide (mst M (i + 1) n (cut F j) + 1 = due)
abbrev cT : Type := (Nat → Bool) × Nat × (Nat → Nat)
def chs (M : Nat → Nat → Bool) (n i : Nat) (y : cT) : cT := if ffst (cnd M n i y.1 y.2.1) < 12 then (cut y.1 (ffst (cnd M n i y.1 y.2.1)), y.2.1 - 1, zu y.2.2 i (ffst (cnd M n i y.1 y.2.1))) else (y.1, y.2.1, zu y.2.2 i 99)
def chz (M : Nat → Nat → Bool) (n i : Nat) : cT := zfor (chs M n) i (fun _ => true, mst M 0 n (fun _ => true), fun _ => 99)
/-- the pairs that are chosen -/
def chH (M : Nat → Nat → Bool) (n : Nat) : Nat → Nat := (chz M n n).2.2
theorem chz_due (M : Nat → Nat → Bool) (n : Nat) (hn : n ≤ 12) : ∀ i, (chz M n i).2.1 ≤ 12 := by
  intro i
  refine zfor_inv (fun _ (y : cT) => y.2.1 ≤ 12) (chs M n) i _ (by have := mst_le M 0 n (fun _ => true); show mst M 0 n _ ≤ 12; omega) (fun j hj y hy => ?_) i (Nat.le_refl _)
  unfold chs
  split
  · show y.2.1 - 1 ≤ 12; omega
  · exact hy
theorem msk99 : (0 : Int32) = nI (msk (fun q => decide ((fun _ : Nat => 99) q < 12))) := by decide +kernel
theorem msk_all : (4095 : Int32) = nI (msk (fun _ => true)) := by decide +kernel
theorem xm_n {a b : Nat} : nI a &&& (nI b ^^^ (-1 : Int32)) = nI (a &&& (b ^^^ 4294967295)) := by rw [m1_n, xor_n, and_n]
theorem cnd_c {A F : Nat → Bool} {j : Nat} (hj : j < 12) : (((nI (msk A)) &&& nI (msk F)) &&& ((nI (msk F) &&& ((zshl (1 : Int32) (nI j)) ^^^ (-1 : Int32))) ^^^ (-1 : Int32)) = 0) ↔ (A j && F j) = false := by
  rw [clr_n (by omega), msk_cut, and_n, xm_n, msk_and, ← nI_0, nI_eq (Nat.lt_of_le_of_lt Nat.and_le_left (Nat.lt_of_lt_of_le (msk_lt _) (by decide))) (by decide)]
  constructor
  · intro h
    have := congrArg (fun z => z.testBit j) h
    rw [Nat.testBit_and, Nat.testBit_xor, msk_bit, msk_bit, tb_full, Nat.zero_testBit] at this
    unfold cut at this
    simpa [hj, show j < 32 by omega] using this
  · intro h
    apply Nat.eq_of_testBit_eq
    intro q
    rw [Nat.testBit_and, Nat.testBit_xor, msk_bit, msk_bit, tb_full, Nat.zero_testBit]
    by_cases hq : q < 12
    · unfold cut
      by_cases e : q = j
      · subst e; rw [h]; simp
      · cases A q <;> cases F q <;> simp [hq, e, show q < 32 by omega]
    · simp [hq]
theorem due_c {m due : Nat} (hm : m ≤ 12) (hd : due ≤ 12) : (nI m = nI due - 1) ↔ m + 1 = due := by
  have : ∀ m, m ≤ 12 → ∀ d, d ≤ 12 → ((nI m = nI d - 1) ↔ m + 1 = d) := by decide +kernel
  exact this m hm due hd
theorem m1add {d : Nat} (h : 0 < d) : nI d + (-1 : Int32) = nI (d - 1) := by rw [pm1, i1, sub_n (by omega)]
theorem eCH_l (l6 : Int32) (a : Int32 × Int32 × Int32 × Int32 × zc_N) : eX5_choose_l_30 l6 a ↔ 12 ≤ a.2.2.2.1 ∨ ¬ a.2.2.2.2 24 l6.toNatClampNeg = -1 := by
  unfold eX5_choose_l_30
  simp only [and_true, and_false, or_false, false_or]
  by_cases c1 : (12 : Int32) ≤ a.2.2.2.1
  · simp [c1]
  · simp [c1]
def kC_l (σ τ : zc_N) : Prop := off [16, 18, 24] σ τ ∧ ∀ q, q ≠ 3 → τ 16 q = σ 16 q
theorem ch30_l {M : Nat → Nat → Bool} {n i due : Nat} {F : Nat → Bool} {σ : zc_N} (pd_ : Int32) (hn : n ≤ 12) (hi : i < n) (hd : due ≤ 12) (hM : cM M n σ) (hsz : σ 16 1 = nI n) (h1 : σ 24 i = -1) :
    (∃ t, eX5_choose_l_30 (nI i) (zit (fX5_choose_l_30 (nI i)) t (nI (msk F), nI due, pd_, (0 : Int32), σ))) ∧ (∀ t, t ≤ zwn (fun t => eX5_choose_l_30 (nI i) (zit (fX5_choose_l_30 (nI i)) t (nI (msk F), nI due, pd_, (0 : Int32), σ))) → qX5_choose_l_30 (nI i) (zit (fX5_choose_l_30 (nI i)) t (nI (msk F), nI due, pd_, (0 : Int32), σ))) ∧
    ((ffst (cnd M n i F due) < 12 → (wX5_choose_l_30 (nI i) (nI (msk F), nI due, pd_, (0 : Int32), σ)).1 = nI (msk (cut F (ffst (cnd M n i F due)))) ∧ (wX5_choose_l_30 (nI i) (nI (msk F), nI due, pd_, (0 : Int32), σ)).2.1 = nI (due - 1) ∧ (wX5_choose_l_30 (nI i) (nI (msk F), nI due, pd_, (0 : Int32), σ)).2.2.1 = pd_ ||| nI (2 ^ i) ∧ (∀ q, (wX5_choose_l_30 (nI i) (nI (msk F), nI due, pd_, (0 : Int32), σ)).2.2.2.2 24 q = if q = i then nI (ffst (cnd M n i F due)) else σ 24 q)) ∧
     (¬ ffst (cnd M n i F due) < 12 → (wX5_choose_l_30 (nI i) (nI (msk F), nI due, pd_, (0 : Int32), σ)).1 = nI (msk F) ∧ (wX5_choose_l_30 (nI i) (nI (msk F), nI due, pd_, (0 : Int32), σ)).2.1 = nI due ∧ (wX5_choose_l_30 (nI i) (nI (msk F), nI due, pd_, (0 : Int32), σ)).2.2.1 = pd_ ∧ (∀ q, (wX5_choose_l_30 (nI i) (nI (msk F), nI due, pd_, (0 : Int32), σ)).2.2.2.2 24 q = σ 24 q)) ∧ kC_l σ (wX5_choose_l_30 (nI i) (nI (msk F), nI due, pd_, (0 : Int32), σ)).2.2.2.2) := by
  have hic : (nI i).toNatClampNeg = i := nI_clamp (by omega)
  have hf := ffst_s (cnd M n i F due)
  generalize hfe : ffst (cnd M n i F due) = f at hf
  have hat : ∀ t, t < 12 → ∀ υ : zc_N, k16 σ υ → (pX5_most υ (nI i + 1) (nI (msk F) &&& ((zshl (1 : Int32) (nI t)) ^^^ (-1 : Int32))) ∧ rX5_most υ (nI i + 1) (nI (msk F) &&& ((zshl (1 : Int32) (nI t)) ^^^ (-1 : Int32))) = nI (mst M (i + 1) n (cut F t)) ∧ k16 σ (sX5_most υ (nI i + 1) (nI (msk F) &&& ((zshl (1 : Int32) (nI t)) ^^^ (-1 : Int32))))) := by
    intro t ht υ hk
    rw [clr_n (by omega), msk_cut, nI_1]
    have := most_c (M := M) (n := n) (first := i + 1) (F := cut F t) (σ := υ) hn (by omega) (fun a ha => by rw [hk.1 17 (by decide)]; exact hM a ha) (by rw [hk.2 1 (by decide)]; exact hsz)
    exact ⟨this.1, this.2.1, k16_tr hk this.2.2⟩
  have hml : ∀ t, mst M (i + 1) n (cut F t) ≤ 12 := fun t => by have := mst_le M (i + 1) n (cut F t); omega
  -- while nothing is found
  have key : ∀ t, t ≤ 12 → (∀ j, j < t → cnd M n i F due j = false) → ∃ υ, zit (fX5_choose_l_30 (nI i)) t (nI (msk F), nI due, pd_, (0 : Int32), σ) = (nI (msk F), nI due, pd_, nI t, υ) ∧ k16 σ υ := by
    intro t
    induction t with
    | zero => intro _ _; exact ⟨σ, rfl, k16_rf _⟩
    | succ t ih =>
      intro ht hno
      obtain ⟨υ, e, hk⟩ := ih (by omega) (fun j hj => hno j (by omega))
      obtain ⟨m1, m2, m3⟩ := hat t (by omega) υ hk
      have hc := hno t (by omega)
      unfold cnd at hc
      show ∃ υ', fX5_choose_l_30 (nI i) (zit (fX5_choose_l_30 (nI i)) t (nI (msk F), nI due, pd_, (0 : Int32), σ)) = _ ∧ _
      rw [e]
      unfold fX5_choose_l_30
      dsimp only
      have hu17 : υ 17 i = nI (msk (M i)) := by rw [hk.1 17 (by decide)]; exact hM i hi
      have cc : (((υ 17 i) &&& nI (msk F)) &&& ((nI (msk F) &&& ((zshl (1 : Int32) (nI t)) ^^^ (-1 : Int32))) ^^^ (-1 : Int32)) = 0) ↔ (M i t && F t) = false := by rw [hu17]; exact cnd_c (by omega)
      rw [hic, m2, nI_1]
      by_cases c1 : (M i t && F t) = false
      · have c1' := cc.mpr c1
        rw [if_pos c1', if_pos c1', if_pos c1', if_pos c1']
        exact ⟨υ, rfl, hk⟩
      · have c1t : (M i t && F t) = true := by cases h : (M i t && F t); exact absurd h c1; rfl
        have c1' := fun h => c1 (cc.mp h)
        have c2 : ¬ mst M (i + 1) n (cut F t) + 1 = due := by rw [c1t, Bool.true_and] at hc; simpa using hc
        have c2' := fun h => c2 ((due_c (hml t) hd).mp h)
        rw [if_neg c1', if_neg c1', if_neg c1', if_neg c1', if_neg c2', if_neg c2', if_neg c2', if_neg c2']
        exact ⟨_, rfl, m3⟩
  have hE : ∀ t, t ≤ 12 → (∀ j, j < t → cnd M n i F due j = false) → (eX5_choose_l_30 (nI i) (zit (fX5_choose_l_30 (nI i)) t (nI (msk F), nI due, pd_, (0 : Int32), σ)) ↔ 12 ≤ t) := by
    intro t ht hno
    obtain ⟨υ, e, hk⟩ := key t ht hno
    rw [e, eCH_l]
    dsimp only
    rw [hic, hk.1 24 (by decide), h1, show (12 : Int32) = nI 12 from rfl, nI_leI (by decide) (by omega)]
    simp
  have hq : ∀ t, t ≤ 12 → (∀ j, j < t → cnd M n i F due j = false) → qX5_choose_l_30 (nI i) (zit (fX5_choose_l_30 (nI i)) t (nI (msk F), nI due, pd_, (0 : Int32), σ)) := by
    intro t ht hno
    obtain ⟨υ, e, hk⟩ := key t ht hno
    rw [e]
    have v : vp_in (nI i) 12 := vp_in_nI (by omega) (by decide)
    refine ⟨fun _ => trivial, fun c => ⟨v, fun _ => ⟨v, fun _ => trivial, fun _ => ?_⟩, fun _ => trivial⟩⟩
    dsimp only at c ⊢
    have ht12 : t < 12 := Nat.lt_of_not_le (fun q => c (by rw [show (12 : Int32) = nI 12 from rfl]; exact nI_le q (by omega)))
    exact ⟨(hat t ht12 υ hk).1, fun _ => v, fun _ => trivial⟩
  rcases hf with ⟨f1, f2⟩ | ⟨f1, f2, f3⟩
  · -- nothing
    obtain ⟨υ, e, hk⟩ := key 12 (Nat.le_refl _) f2
    have hw : zwn (fun t => eX5_choose_l_30 (nI i) (zit (fX5_choose_l_30 (nI i)) t (nI (msk F), nI due, pd_, (0 : Int32), σ))) = 12 := zwn_eq ((hE 12 (Nat.le_refl _) f2).mpr (Nat.le_refl _)) (fun j hj g => absurd ((hE j (by omega) (fun q hq => f2 q (by omega))).mp g) (by omega))
    unfold wX5_choose_l_30
    rw [hw, e]
    refine ⟨⟨12, (hE 12 (Nat.le_refl _) f2).mpr (Nat.le_refl _)⟩, fun t ht => hq t ht (fun j hj => f2 j (by omega)), fun h => absurd h (by omega), fun _ => ⟨rfl, rfl, rfl, fun q => congrFun (hk.1 24 (by decide)) q⟩, off_sub hk.1 (by simp), hk.2⟩
  · -- at f
    obtain ⟨υ, e, hk⟩ := key f (by omega) f3
    obtain ⟨m1, m2, m3⟩ := hat f f1 υ hk
    have hM2 : (M i f && F f) = true := by unfold cnd at f2; exact ((Bool.and_eq_true _ _).mp f2).1
    have hD2 : mst M (i + 1) n (cut F f) + 1 = due := by unfold cnd at f2; simpa using ((Bool.and_eq_true _ _).mp f2).2
    have e1 : zit (fX5_choose_l_30 (nI i)) (f + 1) (nI (msk F), nI due, pd_, (0 : Int32), σ) = (nI (msk (cut F f)), nI (due - 1), pd_ ||| nI (2 ^ i), nI (f + 1), zu (sX5_most υ (nI i + 1) (nI (msk F) &&& ((zshl (1 : Int32) (nI f)) ^^^ (-1 : Int32)))) 24 (zu ((sX5_most υ (nI i + 1) (nI (msk F) &&& ((zshl (1 : Int32) (nI f)) ^^^ (-1 : Int32)))) 24) i (nI f))) := by
      show fX5_choose_l_30 (nI i) (zit (fX5_choose_l_30 (nI i)) f (nI (msk F), nI due, pd_, (0 : Int32), σ)) = _
      rw [e]
      unfold fX5_choose_l_30
      dsimp only
      have hu17 : υ 17 i = nI (msk (M i)) := by rw [hk.1 17 (by decide)]; exact hM i hi
      have cc : (((υ 17 i) &&& nI (msk F)) &&& ((nI (msk F) &&& ((zshl (1 : Int32) (nI f)) ^^^ (-1 : Int32))) ^^^ (-1 : Int32)) = 0) ↔ (M i f && F f) = false := by rw [hu17]; exact cnd_c f1
      rw [hic, m2, nI_1 f]
      have c1' := fun h => Bool.false_ne_true ((cc.mp h).symm.trans hM2)
      have c2' := (due_c (hml f) hd).mpr hD2
      rw [if_neg c1', if_neg c1', if_neg c1', if_neg c1', if_pos c2', if_pos c2', if_pos c2', if_pos c2', bitn_n (k := i) (by omega), m1add (by omega)]
      rw [clr_n (by omega), msk_cut]
    have hEf : eX5_choose_l_30 (nI i) (zit (fX5_choose_l_30 (nI i)) (f + 1) (nI (msk F), nI due, pd_, (0 : Int32), σ)) := by
      rw [e1, eCH_l]
      refine Or.inr ?_
      dsimp only
      rw [hic, zu_self, zu_self]
      exact fun z => absurd ((hI_m1 f).mp (by rw [hI_lt f1]; exact z)) (by omega)
    have hw : zwn (fun t => eX5_choose_l_30 (nI i) (zit (fX5_choose_l_30 (nI i)) t (nI (msk F), nI due, pd_, (0 : Int32), σ))) = f + 1 := zwn_eq hEf (fun j hj g => absurd ((hE j (by omega) (fun q hq => f3 q (by omega))).mp g) (by omega))
    have v : vp_in (nI i) 12 := vp_in_nI (by omega) (by decide)
    unfold wX5_choose_l_30
    rw [hw, e1]
    refine ⟨⟨f + 1, hEf⟩, fun t ht => ?_, fun _ => ⟨rfl, rfl, rfl, fun q => ?_⟩, fun h => absurd f1 h, off_zu (off_sub m3.1 (by simp)) (by simp) _, fun q hq => by
      dsimp only
      rw [zu_ne _ _ (by decide)]; exact m3.2 q hq⟩
    · by_cases c : t = f + 1
      · rw [c, e1]
        refine ⟨fun _ => trivial, fun _ => ⟨v, fun z => ?_, fun _ => trivial⟩⟩
        dsimp only at z
        rw [hic, zu_self, zu_self] at z
        exact absurd ((hI_m1 f).mp (by rw [hI_lt f1]; exact z)) (by omega)
      · exact hq t (by omega) (fun j hj => f3 j (by omega))
    · dsimp only
      rw [zu_self]
      by_cases c : q = i
      · rw [c, zu_self, if_pos rfl]
      · rw [zu_ne _ _ c, if_neg c, m3.1 24 (by decide)]
def rC_l (n : Nat) (σ : zc_N) (k : Nat) (a : Int32 × Int32 × Int32 × zc_N) (y : cT) : Prop := a.1 = nI (msk y.1) ∧ a.2.1 = nI y.2.1 ∧ a.2.2.1 = nI (msk (fun q => decide (y.2.2 q < 12))) ∧ (∀ q, q < 12 → a.2.2.2 24 q = hI (y.2.2 q)) ∧ kC_l σ a.2.2.2 ∧ y.2.1 ≤ 12 ∧ (∀ q, k ≤ q → y.2.2 q = 99)
theorem f18_l (i : Nat) (a1 a2 a3 : Int32) (υ : zc_N) : fX5_choose_l_18 i (a1, a2, a3, υ) = ((wX5_choose_l_30 (nI i) (a1, a2, a3, (0 : Int32), υ)).1, (wX5_choose_l_30 (nI i) (a1, a2, a3, (0 : Int32), υ)).2.1, (wX5_choose_l_30 (nI i) (a1, a2, a3, (0 : Int32), υ)).2.2.1, (wX5_choose_l_30 (nI i) (a1, a2, a3, (0 : Int32), υ)).2.2.2.2) := by
  unfold fX5_choose_l_18
  dsimp only
theorem ch18_l {M : Nat → Nat → Bool} {n : Nat} {σ : zc_N} (hn : n ≤ 12) (hM : cM M n σ) (hsz : σ 16 1 = nI n) {i : Nat} (hi : i < n) (a : Int32 × Int32 × Int32 × zc_N) (y : cT) (h : rC_l n σ i a y) : rC_l n σ (i + 1) (fX5_choose_l_18 i a) (chs M n i y) := by
  obtain ⟨a1, a2, a3, υ⟩ := a
  obtain ⟨F, due, H⟩ := y
  obtain ⟨h1, h2, h3, h4, h5, h6, h7⟩ := h
  dsimp only at h1 h2 h3 h4 h5 h6 h7
  subst h1 h2
  have hMυ : cM M n υ := fun q hq => by rw [h5.1 17 (by simp)]; exact hM q hq
  obtain ⟨-, -, k1, k2, k3⟩ := ch30_l (M := M) (n := n) (i := i) (due := due) (F := F) (σ := υ) a3 hn hi h6 hMυ (by rw [h5.2 1 (by decide)]; exact hsz) (by rw [h4 i (by omega), h7 i (Nat.le_refl _)]; rfl)
  rw [f18_l]
  generalize wX5_choose_l_30 (nI i) (nI (msk F), nI due, a3, (0 : Int32), υ) = w at k1 k2 k3
  have k3' : kC_l σ w.2.2.2.2 := ⟨off_tr h5.1 k3.1, fun q hq => (k3.2 q hq).trans (h5.2 q hq)⟩
  unfold chs
  dsimp only
  by_cases c : ffst (cnd M n i F due) < 12
  · obtain ⟨l1, l2, l3, l4⟩ := k1 c
    rw [if_pos c]
    generalize ffst (cnd M n i F due) = f at c l1 l4
    refine ⟨l1, l2, ?_, fun q hq => ?_, k3', Nat.le_trans (Nat.sub_le _ _) h6, fun q hq => ?_⟩
    · show w.2.2.1 = _
      rw [l3, h3, or_n]
      congr 1
      refine msk_of (fun j => ?_)
      rw [Nat.testBit_or, msk_bit, tb_pow]
      show ((decide (j < 12) && decide (H j < 12)) || decide (i = j)) = (decide (j < 12) && decide (zu H i f j < 12))
      by_cases e : j = i
      · subst e; rw [zu_self]; simp [c]; omega
      · rw [zu_ne _ _ e]
        have : ¬ i = j := fun z => e z.symm
        simp [this]
    · show w.2.2.2.2 24 q = hI (zu H i f q)
      rw [l4 q]
      by_cases e : q = i
      · rw [if_pos e, e, zu_self, hI_lt c]
      · rw [if_neg e, zu_ne _ _ e]; exact h4 q hq
    · show zu H i f q = 99
      rw [zu_ne _ _ (by omega)]; exact h7 q (by omega)
  · obtain ⟨l1, l2, l3, l4⟩ := k2 c
    rw [if_neg c]
    have hz : zu H i 99 = H := by
      funext q
      by_cases e : q = i
      · rw [e, zu_self, h7 i (Nat.le_refl _)]
      · rw [zu_ne _ _ e]
    rw [hz]
    exact ⟨l1, l2, l3.trans h3, fun q hq => by show w.2.2.2.2 24 q = _; rw [l4 q]; exact h4 q hq, k3', h6, fun q hq => h7 q (by omega)⟩
theorem choose_l {M : Nat → Nat → Bool} {n : Nat} {σ : zc_N} (hn : n ≤ 12) (hM : cM M n σ) (hsz : σ 16 1 = nI n) : pX5_choose_l σ (nI (mst M 0 n (fun _ => true))) ∧ rX5_choose_l σ (nI (mst M 0 n (fun _ => true))) = nI (msk (fun q => decide (chH M n q < 12))) ∧ (∀ q, q < 12 → sX5_choose_l σ (nI (mst M 0 n (fun _ => true))) 24 q = hI (chH M n q)) ∧ kC_l σ (sX5_choose_l σ (nI (mst M 0 n (fun _ => true)))) := by
  obtain ⟨g1, g2, g3⟩ := fill24 σ (-1)
  have e16 : sJ7_fill_53178_24 σ (-1) 16 1 = nI n := by rw [g3 16 (by decide)]; exact hsz
  have hm0 := mst_le M 0 n (fun _ => true)
  have key : ∀ k, k ≤ n → rC_l n σ k (zfor fX5_choose_l_18 k ((4095 : Int32), nI (mst M 0 n (fun _ => true)), (0 : Int32), sJ7_fill_53178_24 σ (-1))) (chz M n k) := by
    refine zfor_sim (rC_l n σ) fX5_choose_l_18 (chs M n) n ((4095 : Int32), nI (mst M 0 n (fun _ => true)), (0 : Int32), sJ7_fill_53178_24 σ (-1)) (fun _ => true, mst M 0 n (fun _ => true), fun _ => 99) ⟨msk_all, rfl, msk99, fun q hq => g2 q hq, ⟨off_sub g3 (by simp), fun q _ => congrFun (g3 16 (by decide)) q⟩, ?_, fun _ _ => rfl⟩ (fun i hi a y h => ch18_l hn hM hsz hi a y h)
    show mst M 0 n (fun _ => true) ≤ 12
    omega
  unfold pX5_choose_l rX5_choose_l sX5_choose_l vX5_choose_l_3 vX5_choose_l_4
  rw [e16, cl_n (by omega)]
  obtain ⟨k1, k2, k3, k4, k5, k6, k7⟩ := key n (Nat.le_refl _)
  refine ⟨⟨g1, fun i hi => ?_, fun i hi => ?_⟩, k3, k4, k5⟩
  · obtain ⟨l1, l2, l3, l4, l5, l6, l7⟩ := key i hi
    rw [l5.2 1 (by decide), hsz]
    exact nI_leI (by omega) (by omega)
  · obtain ⟨h1, h2, h3, h4, h5, h6, h7⟩ := key i (by omega)
    generalize zfor fX5_choose_l_18 i ((4095 : Int32), nI (mst M 0 n (fun _ => true)), (0 : Int32), sJ7_fill_53178_24 σ (-1)) = a at h1 h2 h3 h4 h5
    generalize chz M n i = y at h1 h2 h3 h4 h6 h7
    obtain ⟨a1, a2, a3, υ⟩ := a
    obtain ⟨F, due, H⟩ := y
    dsimp only at h1 h2 h3 h4 h5 h6 h7
    subst h1 h2
    have hMυ : cM M n υ := fun q hq => by rw [h5.1 17 (by simp)]; exact hM q hq
    obtain ⟨b1, b2, -⟩ := ch30_l (M := M) (n := n) (i := i) (due := due) (F := F) (σ := υ) a3 hn hi h6 hMυ (by rw [h5.2 1 (by decide)]; exact hsz) (by rw [h4 i (by omega), h7 i (Nat.le_refl _)]; rfl)
    unfold qX5_choose_l_18 vX5_choose_l_1
    dsimp only
    exact ⟨⟨b1, fun t ht => b2 t (by omega)⟩, b2 _ (Nat.le_refl _)⟩
theorem eCH_t (l6 : Int32) (a : Int32 × Int32 × Int32 × Int32 × zc_N) : eX5_choose_t_30 l6 a ↔ 12 ≤ a.2.2.2.1 ∨ ¬ a.2.2.2.2 26 l6.toNatClampNeg = -1 := by
  unfold eX5_choose_t_30
  simp only [and_true, and_false, or_false, false_or]
  by_cases c1 : (12 : Int32) ≤ a.2.2.2.1
  · simp [c1]
  · simp [c1]
def kC_t (σ τ : zc_N) : Prop := off [16, 18, 26] σ τ ∧ ∀ q, q ≠ 3 → τ 16 q = σ 16 q
theorem ch30_t {M : Nat → Nat → Bool} {n i due : Nat} {F : Nat → Bool} {σ : zc_N} (pd_ : Int32) (hn : n ≤ 12) (hi : i < n) (hd : due ≤ 12) (hM : cM M n σ) (hsz : σ 16 1 = nI n) (h1 : σ 26 i = -1) :
    (∃ t, eX5_choose_t_30 (nI i) (zit (fX5_choose_t_30 (nI i)) t (nI (msk F), nI due, pd_, (0 : Int32), σ))) ∧ (∀ t, t ≤ zwn (fun t => eX5_choose_t_30 (nI i) (zit (fX5_choose_t_30 (nI i)) t (nI (msk F), nI due, pd_, (0 : Int32), σ))) → qX5_choose_t_30 (nI i) (zit (fX5_choose_t_30 (nI i)) t (nI (msk F), nI due, pd_, (0 : Int32), σ))) ∧
    ((ffst (cnd M n i F due) < 12 → (wX5_choose_t_30 (nI i) (nI (msk F), nI due, pd_, (0 : Int32), σ)).1 = nI (msk (cut F (ffst (cnd M n i F due)))) ∧ (wX5_choose_t_30 (nI i) (nI (msk F), nI due, pd_, (0 : Int32), σ)).2.1 = nI (due - 1) ∧ (wX5_choose_t_30 (nI i) (nI (msk F), nI due, pd_, (0 : Int32), σ)).2.2.1 = pd_ ||| nI (2 ^ i) ∧ (∀ q, (wX5_choose_t_30 (nI i) (nI (msk F), nI due, pd_, (0 : Int32), σ)).2.2.2.2 26 q = if q = i then nI (ffst (cnd M n i F due)) else σ 26 q)) ∧
     (¬ ffst (cnd M n i F due) < 12 → (wX5_choose_t_30 (nI i) (nI (msk F), nI due, pd_, (0 : Int32), σ)).1 = nI (msk F) ∧ (wX5_choose_t_30 (nI i) (nI (msk F), nI due, pd_, (0 : Int32), σ)).2.1 = nI due ∧ (wX5_choose_t_30 (nI i) (nI (msk F), nI due, pd_, (0 : Int32), σ)).2.2.1 = pd_ ∧ (∀ q, (wX5_choose_t_30 (nI i) (nI (msk F), nI due, pd_, (0 : Int32), σ)).2.2.2.2 26 q = σ 26 q)) ∧ kC_t σ (wX5_choose_t_30 (nI i) (nI (msk F), nI due, pd_, (0 : Int32), σ)).2.2.2.2) := by
  have hic : (nI i).toNatClampNeg = i := nI_clamp (by omega)
  have hf := ffst_s (cnd M n i F due)
  generalize hfe : ffst (cnd M n i F due) = f at hf
  have hat : ∀ t, t < 12 → ∀ υ : zc_N, k16 σ υ → (pX5_most υ (nI i + 1) (nI (msk F) &&& ((zshl (1 : Int32) (nI t)) ^^^ (-1 : Int32))) ∧ rX5_most υ (nI i + 1) (nI (msk F) &&& ((zshl (1 : Int32) (nI t)) ^^^ (-1 : Int32))) = nI (mst M (i + 1) n (cut F t)) ∧ k16 σ (sX5_most υ (nI i + 1) (nI (msk F) &&& ((zshl (1 : Int32) (nI t)) ^^^ (-1 : Int32))))) := by
    intro t ht υ hk
    rw [clr_n (by omega), msk_cut, nI_1]
    have := most_c (M := M) (n := n) (first := i + 1) (F := cut F t) (σ := υ) hn (by omega) (fun a ha => by rw [hk.1 17 (by decide)]; exact hM a ha) (by rw [hk.2 1 (by decide)]; exact hsz)
    exact ⟨this.1, this.2.1, k16_tr hk this.2.2⟩
  have hml : ∀ t, mst M (i + 1) n (cut F t) ≤ 12 := fun t => by have := mst_le M (i + 1) n (cut F t); omega
  -- while nothing is found
  have key : ∀ t, t ≤ 12 → (∀ j, j < t → cnd M n i F due j = false) → ∃ υ, zit (fX5_choose_t_30 (nI i)) t (nI (msk F), nI due, pd_, (0 : Int32), σ) = (nI (msk F), nI due, pd_, nI t, υ) ∧ k16 σ υ := by
    intro t
    induction t with
    | zero => intro _ _; exact ⟨σ, rfl, k16_rf _⟩
    | succ t ih =>
      intro ht hno
      obtain ⟨υ, e, hk⟩ := ih (by omega) (fun j hj => hno j (by omega))
      obtain ⟨m1, m2, m3⟩ := hat t (by omega) υ hk
      have hc := hno t (by omega)
      unfold cnd at hc
      show ∃ υ', fX5_choose_t_30 (nI i) (zit (fX5_choose_t_30 (nI i)) t (nI (msk F), nI due, pd_, (0 : Int32), σ)) = _ ∧ _
      rw [e]
      unfold fX5_choose_t_30
      dsimp only
      have hu17 : υ 17 i = nI (msk (M i)) := by rw [hk.1 17 (by decide)]; exact hM i hi
      have cc : (((υ 17 i) &&& nI (msk F)) &&& ((nI (msk F) &&& ((zshl (1 : Int32) (nI t)) ^^^ (-1 : Int32))) ^^^ (-1 : Int32)) = 0) ↔ (M i t && F t) = false := by rw [hu17]; exact cnd_c (by omega)
      rw [hic, m2, nI_1]
      by_cases c1 : (M i t && F t) = false
      · have c1' := cc.mpr c1
        rw [if_pos c1', if_pos c1', if_pos c1', if_pos c1']
        exact ⟨υ, rfl, hk⟩
      · have c1t : (M i t && F t) = true := by cases h : (M i t && F t); exact absurd h c1; rfl
        have c1' := fun h => c1 (cc.mp h)
        have c2 : ¬ mst M (i + 1) n (cut F t) + 1 = due := by rw [c1t, Bool.true_and] at hc; simpa using hc
        have c2' := fun h => c2 ((due_c (hml t) hd).mp h)
        rw [if_neg c1', if_neg c1', if_neg c1', if_neg c1', if_neg c2', if_neg c2', if_neg c2', if_neg c2']
        exact ⟨_, rfl, m3⟩
  have hE : ∀ t, t ≤ 12 → (∀ j, j < t → cnd M n i F due j = false) → (eX5_choose_t_30 (nI i) (zit (fX5_choose_t_30 (nI i)) t (nI (msk F), nI due, pd_, (0 : Int32), σ)) ↔ 12 ≤ t) := by
    intro t ht hno
    obtain ⟨υ, e, hk⟩ := key t ht hno
    rw [e, eCH_t]
    dsimp only
    rw [hic, hk.1 26 (by decide), h1, show (12 : Int32) = nI 12 from rfl, nI_leI (by decide) (by omega)]
    simp
  have hq : ∀ t, t ≤ 12 → (∀ j, j < t → cnd M n i F due j = false) → qX5_choose_t_30 (nI i) (zit (fX5_choose_t_30 (nI i)) t (nI (msk F), nI due, pd_, (0 : Int32), σ)) := by
    intro t ht hno
    obtain ⟨υ, e, hk⟩ := key t ht hno
    rw [e]
    have v : vp_in (nI i) 12 := vp_in_nI (by omega) (by decide)
    refine ⟨fun _ => trivial, fun c => ⟨v, fun _ => ⟨v, fun _ => trivial, fun _ => ?_⟩, fun _ => trivial⟩⟩
    dsimp only at c ⊢
    have ht12 : t < 12 := Nat.lt_of_not_le (fun q => c (by rw [show (12 : Int32) = nI 12 from rfl]; exact nI_le q (by omega)))
    exact ⟨(hat t ht12 υ hk).1, fun _ => v, fun _ => trivial⟩
  rcases hf with ⟨f1, f2⟩ | ⟨f1, f2, f3⟩
  · -- nothing
    obtain ⟨υ, e, hk⟩ := key 12 (Nat.le_refl _) f2
    have hw : zwn (fun t => eX5_choose_t_30 (nI i) (zit (fX5_choose_t_30 (nI i)) t (nI (msk F), nI due, pd_, (0 : Int32), σ))) = 12 := zwn_eq ((hE 12 (Nat.le_refl _) f2).mpr (Nat.le_refl _)) (fun j hj g => absurd ((hE j (by omega) (fun q hq => f2 q (by omega))).mp g) (by omega))
    unfold wX5_choose_t_30
    rw [hw, e]
    refine ⟨⟨12, (hE 12 (Nat.le_refl _) f2).mpr (Nat.le_refl _)⟩, fun t ht => hq t ht (fun j hj => f2 j (by omega)), fun h => absurd h (by omega), fun _ => ⟨rfl, rfl, rfl, fun q => congrFun (hk.1 26 (by decide)) q⟩, off_sub hk.1 (by simp), hk.2⟩
  · -- at f
    obtain ⟨υ, e, hk⟩ := key f (by omega) f3
    obtain ⟨m1, m2, m3⟩ := hat f f1 υ hk
    have hM2 : (M i f && F f) = true := by unfold cnd at f2; exact ((Bool.and_eq_true _ _).mp f2).1
    have hD2 : mst M (i + 1) n (cut F f) + 1 = due := by unfold cnd at f2; simpa using ((Bool.and_eq_true _ _).mp f2).2
    have e1 : zit (fX5_choose_t_30 (nI i)) (f + 1) (nI (msk F), nI due, pd_, (0 : Int32), σ) = (nI (msk (cut F f)), nI (due - 1), pd_ ||| nI (2 ^ i), nI (f + 1), zu (sX5_most υ (nI i + 1) (nI (msk F) &&& ((zshl (1 : Int32) (nI f)) ^^^ (-1 : Int32)))) 26 (zu ((sX5_most υ (nI i + 1) (nI (msk F) &&& ((zshl (1 : Int32) (nI f)) ^^^ (-1 : Int32)))) 26) i (nI f))) := by
      show fX5_choose_t_30 (nI i) (zit (fX5_choose_t_30 (nI i)) f (nI (msk F), nI due, pd_, (0 : Int32), σ)) = _
      rw [e]
      unfold fX5_choose_t_30
      dsimp only
      have hu17 : υ 17 i = nI (msk (M i)) := by rw [hk.1 17 (by decide)]; exact hM i hi
      have cc : (((υ 17 i) &&& nI (msk F)) &&& ((nI (msk F) &&& ((zshl (1 : Int32) (nI f)) ^^^ (-1 : Int32))) ^^^ (-1 : Int32)) = 0) ↔ (M i f && F f) = false := by rw [hu17]; exact cnd_c f1
      rw [hic, m2, nI_1 f]
      have c1' := fun h => Bool.false_ne_true ((cc.mp h).symm.trans hM2)
      have c2' := (due_c (hml f) hd).mpr hD2
      rw [if_neg c1', if_neg c1', if_neg c1', if_neg c1', if_pos c2', if_pos c2', if_pos c2', if_pos c2', bitn_n (k := i) (by omega), m1add (by omega)]
      rw [clr_n (by omega), msk_cut]
    have hEf : eX5_choose_t_30 (nI i) (zit (fX5_choose_t_30 (nI i)) (f + 1) (nI (msk F), nI due, pd_, (0 : Int32), σ)) := by
      rw [e1, eCH_t]
      refine Or.inr ?_
      dsimp only
      rw [hic, zu_self, zu_self]
      exact fun z => absurd ((hI_m1 f).mp (by rw [hI_lt f1]; exact z)) (by omega)
    have hw : zwn (fun t => eX5_choose_t_30 (nI i) (zit (fX5_choose_t_30 (nI i)) t (nI (msk F), nI due, pd_, (0 : Int32), σ))) = f + 1 := zwn_eq hEf (fun j hj g => absurd ((hE j (by omega) (fun q hq => f3 q (by omega))).mp g) (by omega))
    have v : vp_in (nI i) 12 := vp_in_nI (by omega) (by decide)
    unfold wX5_choose_t_30
    rw [hw, e1]
    refine ⟨⟨f + 1, hEf⟩, fun t ht => ?_, fun _ => ⟨rfl, rfl, rfl, fun q => ?_⟩, fun h => absurd f1 h, off_zu (off_sub m3.1 (by simp)) (by simp) _, fun q hq => by
      dsimp only
      rw [zu_ne _ _ (by decide)]; exact m3.2 q hq⟩
    · by_cases c : t = f + 1
      · rw [c, e1]
        refine ⟨fun _ => trivial, fun _ => ⟨v, fun z => ?_, fun _ => trivial⟩⟩
        dsimp only at z
        rw [hic, zu_self, zu_self] at z
        exact absurd ((hI_m1 f).mp (by rw [hI_lt f1]; exact z)) (by omega)
      · exact hq t (by omega) (fun j hj => f3 j (by omega))
    · dsimp only
      rw [zu_self]
      by_cases c : q = i
      · rw [c, zu_self, if_pos rfl]
      · rw [zu_ne _ _ c, if_neg c, m3.1 26 (by decide)]
def rC_t (n : Nat) (σ : zc_N) (k : Nat) (a : Int32 × Int32 × Int32 × zc_N) (y : cT) : Prop := a.1 = nI (msk y.1) ∧ a.2.1 = nI y.2.1 ∧ a.2.2.1 = nI (msk (fun q => decide (y.2.2 q < 12))) ∧ (∀ q, q < 12 → a.2.2.2 26 q = hI (y.2.2 q)) ∧ kC_t σ a.2.2.2 ∧ y.2.1 ≤ 12 ∧ (∀ q, k ≤ q → y.2.2 q = 99)
theorem f18_t (i : Nat) (a1 a2 a3 : Int32) (υ : zc_N) : fX5_choose_t_18 i (a1, a2, a3, υ) = ((wX5_choose_t_30 (nI i) (a1, a2, a3, (0 : Int32), υ)).1, (wX5_choose_t_30 (nI i) (a1, a2, a3, (0 : Int32), υ)).2.1, (wX5_choose_t_30 (nI i) (a1, a2, a3, (0 : Int32), υ)).2.2.1, (wX5_choose_t_30 (nI i) (a1, a2, a3, (0 : Int32), υ)).2.2.2.2) := by
  unfold fX5_choose_t_18
  dsimp only
theorem ch18_t {M : Nat → Nat → Bool} {n : Nat} {σ : zc_N} (hn : n ≤ 12) (hM : cM M n σ) (hsz : σ 16 1 = nI n) {i : Nat} (hi : i < n) (a : Int32 × Int32 × Int32 × zc_N) (y : cT) (h : rC_t n σ i a y) : rC_t n σ (i + 1) (fX5_choose_t_18 i a) (chs M n i y) := by
  obtain ⟨a1, a2, a3, υ⟩ := a
  obtain ⟨F, due, H⟩ := y
  obtain ⟨h1, h2, h3, h4, h5, h6, h7⟩ := h
  dsimp only at h1 h2 h3 h4 h5 h6 h7
  subst h1 h2
  have hMυ : cM M n υ := fun q hq => by rw [h5.1 17 (by simp)]; exact hM q hq
  obtain ⟨-, -, k1, k2, k3⟩ := ch30_t (M := M) (n := n) (i := i) (due := due) (F := F) (σ := υ) a3 hn hi h6 hMυ (by rw [h5.2 1 (by decide)]; exact hsz) (by rw [h4 i (by omega), h7 i (Nat.le_refl _)]; rfl)
  rw [f18_t]
  generalize wX5_choose_t_30 (nI i) (nI (msk F), nI due, a3, (0 : Int32), υ) = w at k1 k2 k3
  have k3' : kC_t σ w.2.2.2.2 := ⟨off_tr h5.1 k3.1, fun q hq => (k3.2 q hq).trans (h5.2 q hq)⟩
  unfold chs
  dsimp only
  by_cases c : ffst (cnd M n i F due) < 12
  · obtain ⟨l1, l2, l3, l4⟩ := k1 c
    rw [if_pos c]
    generalize ffst (cnd M n i F due) = f at c l1 l4
    refine ⟨l1, l2, ?_, fun q hq => ?_, k3', Nat.le_trans (Nat.sub_le _ _) h6, fun q hq => ?_⟩
    · show w.2.2.1 = _
      rw [l3, h3, or_n]
      congr 1
      refine msk_of (fun j => ?_)
      rw [Nat.testBit_or, msk_bit, tb_pow]
      show ((decide (j < 12) && decide (H j < 12)) || decide (i = j)) = (decide (j < 12) && decide (zu H i f j < 12))
      by_cases e : j = i
      · subst e; rw [zu_self]; simp [c]; omega
      · rw [zu_ne _ _ e]
        have : ¬ i = j := fun z => e z.symm
        simp [this]
    · show w.2.2.2.2 26 q = hI (zu H i f q)
      rw [l4 q]
      by_cases e : q = i
      · rw [if_pos e, e, zu_self, hI_lt c]
      · rw [if_neg e, zu_ne _ _ e]; exact h4 q hq
    · show zu H i f q = 99
      rw [zu_ne _ _ (by omega)]; exact h7 q (by omega)
  · obtain ⟨l1, l2, l3, l4⟩ := k2 c
    rw [if_neg c]
    have hz : zu H i 99 = H := by
      funext q
      by_cases e : q = i
      · rw [e, zu_self, h7 i (Nat.le_refl _)]
      · rw [zu_ne _ _ e]
    rw [hz]
    exact ⟨l1, l2, l3.trans h3, fun q hq => by show w.2.2.2.2 26 q = _; rw [l4 q]; exact h4 q hq, k3', h6, fun q hq => h7 q (by omega)⟩
theorem choose_t {M : Nat → Nat → Bool} {n : Nat} {σ : zc_N} (hn : n ≤ 12) (hM : cM M n σ) (hsz : σ 16 1 = nI n) : pX5_choose_t σ (nI (mst M 0 n (fun _ => true))) ∧ rX5_choose_t σ (nI (mst M 0 n (fun _ => true))) = nI (msk (fun q => decide (chH M n q < 12))) ∧ (∀ q, q < 12 → sX5_choose_t σ (nI (mst M 0 n (fun _ => true))) 26 q = hI (chH M n q)) ∧ kC_t σ (sX5_choose_t σ (nI (mst M 0 n (fun _ => true)))) := by
  obtain ⟨g1, g2, g3⟩ := fill26 σ (-1)
  have e16 : sJ7_fill_53178_26 σ (-1) 16 1 = nI n := by rw [g3 16 (by decide)]; exact hsz
  have hm0 := mst_le M 0 n (fun _ => true)
  have key : ∀ k, k ≤ n → rC_t n σ k (zfor fX5_choose_t_18 k ((4095 : Int32), nI (mst M 0 n (fun _ => true)), (0 : Int32), sJ7_fill_53178_26 σ (-1))) (chz M n k) := by
    refine zfor_sim (rC_t n σ) fX5_choose_t_18 (chs M n) n ((4095 : Int32), nI (mst M 0 n (fun _ => true)), (0 : Int32), sJ7_fill_53178_26 σ (-1)) (fun _ => true, mst M 0 n (fun _ => true), fun _ => 99) ⟨msk_all, rfl, msk99, fun q hq => g2 q hq, ⟨off_sub g3 (by simp), fun q _ => congrFun (g3 16 (by decide)) q⟩, ?_, fun _ _ => rfl⟩ (fun i hi a y h => ch18_t hn hM hsz hi a y h)
    show mst M 0 n (fun _ => true) ≤ 12
    omega
  unfold pX5_choose_t rX5_choose_t sX5_choose_t vX5_choose_t_7 vX5_choose_t_8
  rw [e16, cl_n (by omega)]
  obtain ⟨k1, k2, k3, k4, k5, k6, k7⟩ := key n (Nat.le_refl _)
  refine ⟨⟨g1, fun i hi => ?_, fun i hi => ?_⟩, k3, k4, k5⟩
  · obtain ⟨l1, l2, l3, l4, l5, l6, l7⟩ := key i hi
    rw [l5.2 1 (by decide), hsz]
    exact nI_leI (by omega) (by omega)
  · obtain ⟨h1, h2, h3, h4, h5, h6, h7⟩ := key i (by omega)
    generalize zfor fX5_choose_t_18 i ((4095 : Int32), nI (mst M 0 n (fun _ => true)), (0 : Int32), sJ7_fill_53178_26 σ (-1)) = a at h1 h2 h3 h4 h5
    generalize chz M n i = y at h1 h2 h3 h4 h6 h7
    obtain ⟨a1, a2, a3, υ⟩ := a
    obtain ⟨F, due, H⟩ := y
    dsimp only at h1 h2 h3 h4 h5 h6 h7
    subst h1 h2
    have hMυ : cM M n υ := fun q hq => by rw [h5.1 17 (by simp)]; exact hM q hq
    obtain ⟨b1, b2, -⟩ := ch30_t (M := M) (n := n) (i := i) (due := due) (F := F) (σ := υ) a3 hn hi h6 hMυ (by rw [h5.2 1 (by decide)]; exact hsz) (by rw [h4 i (by omega), h7 i (Nat.le_refl _)]; rfl)
    unfold qX5_choose_t_18 vX5_choose_t_5
    dsimp only
    exact ⟨⟨b1, fun t ht => b2 t (by omega)⟩, b2 _ (Nat.le_refl _)⟩
