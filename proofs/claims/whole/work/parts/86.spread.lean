/-! ===== pieces: spreading (the reference) ===== -/
def sn (σ : zc_N) (c : Nat) : Bool := decide (c < 256 ∧ σ 34 c = 1)
def cC (D : Nat → Bool) (l : Bool) (c : Nat) : Prop := c < 256 ∧ D c = l
theorem sn_b {σ : zc_N} (h : ∀ k, k < 256 → σ 34 k = 0 ∨ σ 34 k = 1) : ∀ k, k < 256 → σ 34 k = b2 (sn σ k) := fun k hk => by
  unfold sn
  rcases h k hk with e | e
  · rw [e]; simp [b2]
  · rw [e]; simp [b2, hk]
theorem sn_t {σ : zc_N} {c : Nat} : sn σ c = true ↔ c < 256 ∧ σ 34 c = 1 := decide_eq_true_iff
/-- what a sweep keeps: seen before, or hanging together with k -/
def spJ (D : Nat → Bool) (l : Bool) (σ : zc_N) (k : Nat) (τ : zc_N) : Prop := gM D τ ∧ (∀ c, c < 256 → τ 34 c = 0 ∨ τ 34 c = 1) ∧ (∀ c, sn σ c = true → sn τ c = true) ∧ (∀ c, sn τ c = true → D c = l) ∧ (∀ c, sn τ c = true → sn σ c = true ∨ conn (cC D l) (nbr 16 l) k c) ∧ off [34] σ τ ∧ sn τ k = true
theorem sn_put {τ : zc_N} {k c : Nat} (hk : k < 256) : sn (zu τ 34 (zu (τ 34) k (1 : Int32))) c = true ↔ (sn τ c = true ∨ c = k) := by
  rw [sn_t, sn_t, zu_self]
  by_cases e : c = k
  · rw [e, zu_self]
    exact ⟨fun _ => Or.inr rfl, fun _ => ⟨hk, rfl⟩⟩
  · rw [zu_ne _ _ e]
    exact ⟨fun z => Or.inl z, fun z => z.elim id (fun z => absurd z e)⟩
theorem p01_put {τ : zc_N} {k : Nat} (h : ∀ c, c < 256 → τ 34 c = 0 ∨ τ 34 c = 1) : ∀ c, c < 256 → (zu τ 34 (zu (τ 34) k (1 : Int32))) 34 c = 0 ∨ (zu τ 34 (zu (τ 34) k (1 : Int32))) 34 c = 1 := fun c hc => by
  rw [zu_self]
  by_cases e : c = k
  · rw [e, zu_self]; exact Or.inr rfl
  · rw [zu_ne _ _ e]; exact h c hc
theorem gM_34 {D : Nat → Bool} {τ : zc_N} (h : gM D τ) (v : Nat → Int32) : gM D (zu τ 34 v) := fun k hk => by
  rw [zu_ne _ _ (show (33 : Nat) ≠ 34 by decide)]
  exact h k hk
theorem cnt_put {τ : zc_N} {k : Nat} (hk : k < 256) (h : sn τ k = false) : cnt (sn (zu τ 34 (zu (τ 34) k (1 : Int32)))) 256 = cnt (sn τ) 256 + 1 := by
  have h1 := cnt_clear (sn (zu τ 34 (zu (τ 34) k (1 : Int32)))) k 256 hk ((sn_put hk).mpr (Or.inr rfl))
  have h2 := cnt_congr (f := fun j => sn (zu τ 34 (zu (τ 34) k (1 : Int32))) j && !(decide (j = k))) (g := sn τ) 256 (fun j _ => by
    have q := sn_put (τ := τ) (k := k) (c := j) hk
    generalize sn (zu τ 34 (zu (τ 34) k (1 : Int32))) j = a at q ⊢
    by_cases e : j = k
    · rw [e, h]; simp
    · have e2 : decide (j = k) = false := decide_eq_false e
      rw [e2]
      cases a
      · cases hb : sn τ j
        · rfl
        · rw [hb] at q
          exact absurd (q.mpr (Or.inl rfl)) (by decide)
      · rcases q.mp rfl with z | z
        · rw [z]; rfl
        · exact absurd z e)
  rw [h2] at h1
  omega
/-- no cell of the colour that is beside a seen one is left unseen -/
def spN (D : Nat → Bool) (l : Bool) (τ : zc_N) (i : Nat) : Prop := D i = l → sn τ i = false → ¬ ∃ j, j < 256 ∧ nbr 16 l i j ∧ D j = l ∧ sn τ j = true
theorem sp_step {D : Nat → Bool} {l : Bool} {σ τ : zc_N} {k : Nat} (hcl : ∀ x y, sn σ x = true → cC D l y → nbr 16 l x y → sn σ y = true) (h : spJ D l σ k τ) {i : Nat} (hi : i < 256) (m : Int32) :
    qX9_spread_18 (b2 l) i (m, τ) ∧ ((fX9_spread_18 (b2 l) i (m, τ) = (m, τ) ∧ spN D l τ i) ∨ (∃ υ, fX9_spread_18 (b2 l) i (m, τ) = (1, υ) ∧ spJ D l σ k υ ∧ cnt (sn υ) 256 = cnt (sn τ) 256 + 1)) := by
  obtain ⟨h1, h2, h3, h4, h5, h6, h7⟩ := h
  have hb := sn_b h2
  have e33 := h1 i hi
  have e34 := hb i hi
  have eb : ∀ d : Bool, (b2 d = b2 l ↔ d = l) := by cases l <;> decide
  unfold qX9_spread_18 fX9_spread_18
  dsimp only
  rw [nI_clamp (n := i) (by omega)]
  simp only [e33, e34, eb, b2_0]
  by_cases hd : D i = l
  · by_cases hs : sn τ i = false
    · obtain ⟨p1, p2⟩ := beside_m h1 hb l hi hs
      refine ⟨⟨fun _ => ⟨fun _ => p1, fun _ => trivial⟩, fun _ => trivial⟩, ?_⟩
      simp only [if_pos hd, if_pos hs]
      by_cases hz : rX9_besideSeen τ (nI i) (b2 l) = 0
      · simp only [if_pos hz]
        exact Or.inl ⟨trivial, fun _ _ => p2.mp hz⟩
      · simp only [if_neg hz]
        obtain ⟨j, j1, j2, j3, j4⟩ := Classical.byContradiction (fun q => hz (p2.mpr q))
        refine Or.inr ⟨_, rfl, ⟨gM_34 h1 _, p01_put h2, fun c hc => (sn_put hi).mpr (Or.inl (h3 c hc)), fun c hc => ?_, fun c hc => ?_, off_zu h6 (by simp) _, (sn_put hi).mpr (Or.inl h7)⟩, cnt_put hi hs⟩
        · rcases (sn_put hi).mp hc with z | z
          · exact h4 c z
          · rw [z]; exact hd
        · rcases (sn_put hi).mp hc with z | z
          · exact h5 c z
          · rw [z]
            rcases h5 j j4 with q | q
            · exact Or.inl (hcl j i q ⟨hi, hd⟩ (nbr_sy _ _ j2))
            · exact Or.inr (conn_st q ⟨hi, hd⟩ (nbr_sy _ _ j2))
    · refine ⟨⟨fun _ => ⟨fun z => absurd z hs, fun _ => trivial⟩, fun _ => trivial⟩, ?_⟩
      simp only [if_pos hd, if_neg hs]
      exact Or.inl ⟨trivial, fun _ z => absurd z hs⟩
  · refine ⟨⟨fun z => absurd z hd, fun _ => trivial⟩, ?_⟩
    simp only [if_neg hd]
    exact Or.inl ⟨trivial, fun z => absurd z hd⟩
theorem sp_sweep {D : Nat → Bool} {l : Bool} {σ τ : zc_N} {k : Nat} (hcl : ∀ x y, sn σ x = true → cC D l y → nbr 16 l x y → sn σ y = true) (h : spJ D l σ k τ) : ∀ i, i ≤ 256 → (spJ D l σ k (zfor (fX9_spread_18 (b2 l)) i (0, τ)).2 ∧ ((zfor (fX9_spread_18 (b2 l)) i (0, τ)).1 = 0 → (zfor (fX9_spread_18 (b2 l)) i (0, τ)).2 = τ ∧ ∀ j, j < i → spN D l τ j) ∧ ((zfor (fX9_spread_18 (b2 l)) i (0, τ)).1 = 0 ∨ cnt (sn τ) 256 + 1 ≤ cnt (sn (zfor (fX9_spread_18 (b2 l)) i (0, τ)).2) 256)) := by
  refine zfor_inv (fun i (x : Int32 × zc_N) => spJ D l σ k x.2 ∧ (x.1 = 0 → x.2 = τ ∧ ∀ j, j < i → spN D l τ j) ∧ (x.1 = 0 ∨ cnt (sn τ) 256 + 1 ≤ cnt (sn x.2) 256)) _ 256 (0, τ) ⟨h, fun _ => ⟨rfl, fun j hj => absurd hj (Nat.not_lt_zero j)⟩, Or.inl rfl⟩ (fun i hi x hx => ?_)
  obtain ⟨m, υ⟩ := x
  obtain ⟨x1, x2, x3⟩ := hx
  dsimp only at x1 x2 x3
  rcases (sp_step hcl x1 hi m).2 with ⟨e, en⟩ | ⟨ω, e, eJ, ec⟩
  · rw [e]
    refine ⟨x1, fun z => ?_, x3⟩
    obtain ⟨z1, z2⟩ := x2 z
    refine ⟨z1, fun j hj => ?_⟩
    by_cases q : j = i
    · rw [q, ← z1]; exact en
    · exact z2 j (by omega)
  · rw [e]
    refine ⟨eJ, fun z => absurd (show (1 : Int32) = 0 from z) (by decide), Or.inr ?_⟩
    dsimp only
    rcases x3 with z | z
    · rw [(x2 z).1] at ec; omega
    · omega
theorem e9sp (a : Int32 × zc_N) : eX9_spread_9 a ↔ a.1 = 0 := by
  unfold eX9_spread_9
  constructor
  · rintro (h | h)
    · exact h.1
    · exact h.2.elim
  · intro h
    exact Or.inl ⟨h, trivial⟩
theorem f9sp (l2 : Int32) (a : Int32 × zc_N) : fX9_spread_9 l2 a = zfor (fX9_spread_18 l2) 256 ((0 : Int32), a.2) := by
  unfold fX9_spread_9
  generalize zfor (fX9_spread_18 l2) 256 ((0 : Int32), a.2) = z
  rfl
theorem spread_m {D : Nat → Bool} {l : Bool} {σ : zc_N} (hD : gM D σ) (h01 : ∀ c, c < 256 → σ 34 c = 0 ∨ σ 34 c = 1) (hC : ∀ c, sn σ c = true → D c = l) (hcl : ∀ x y, sn σ x = true → cC D l y → nbr 16 l x y → sn σ y = true) {k : Nat} (hk : cC D l k) :
    pX9_spread σ (nI k) (b2 l) ∧ gM D (sX9_spread σ (nI k) (b2 l)) ∧ off [34] σ (sX9_spread σ (nI k) (b2 l)) ∧ (∀ c, c < 256 → sX9_spread σ (nI k) (b2 l) 34 c = 0 ∨ sX9_spread σ (nI k) (b2 l) 34 c = 1) ∧ (∀ c, sn (sX9_spread σ (nI k) (b2 l)) c = true ↔ (sn σ c = true ∨ conn (cC D l) (nbr 16 l) k c)) := by
  obtain ⟨hk1, hk2⟩ := hk
  have J1 : spJ D l σ k (zu σ 34 (zu (σ 34) k (1 : Int32))) := by
    refine ⟨gM_34 hD _, p01_put h01, fun c hc => (sn_put hk1).mpr (Or.inl hc), fun c hc => ?_, fun c hc => ?_, off_zu (off_rf _ _) (by simp) _, (sn_put hk1).mpr (Or.inr rfl)⟩
    · rcases (sn_put hk1).mp hc with z | z
      · exact hC c z
      · rw [z]; exact hk2
    · rcases (sn_put hk1).mp hc with z | z
      · exact Or.inl z
      · rw [z]; exact Or.inr (conn_rf k)
  unfold pX9_spread sX9_spread wX9_spread_9
  rw [nI_clamp (n := k) (by omega)]
  generalize zu σ 34 (zu (σ 34) k (1 : Int32)) = σ1 at J1 ⊢
  have hJ : ∀ n, spJ D l σ k (zit (fX9_spread_9 (b2 l)) n ((1 : Int32), σ1)).2 := zit_inv (fun _ (x : Int32 × zc_N) => spJ D l σ k x.2) _ _ J1 (fun i x hx => by
    have := sp_sweep hcl hx 256 (Nat.le_refl _)
    rw [f9sp]
    exact this.1)
  have hstep : ∀ n, (zit (fX9_spread_9 (b2 l)) (n + 1) ((1 : Int32), σ1)) = zfor (fX9_spread_18 (b2 l)) 256 (0, (zit (fX9_spread_9 (b2 l)) n ((1 : Int32), σ1)).2) := fun n => f9sp _ _
  have hN : ∃ n, (zit (fX9_spread_9 (b2 l)) n ((1 : Int32), σ1)).1 = 0 := by
    apply Classical.byContradiction
    intro hno
    have key : ∀ n, n ≤ cnt (sn (zit (fX9_spread_9 (b2 l)) n ((1 : Int32), σ1)).2) 256 := by
      intro n
      induction n with
      | zero => exact Nat.zero_le _
      | succ n ih =>
        have h1 := (sp_sweep hcl (hJ n) 256 (Nat.le_refl _)).2.2
        rw [← hstep n] at h1
        rcases h1 with z | z
        · exact absurd ⟨n + 1, z⟩ hno
        · omega
    have h1 := key 257
    have h2 := cnt_le (sn (zit (fX9_spread_9 (b2 l)) 257 ((1 : Int32), σ1)).2) 256
    omega
  have hE : ∃ n, eX9_spread_9 (zit (fX9_spread_9 (b2 l)) n ((1 : Int32), σ1)) := hN.imp (fun n z => (e9sp _).mpr z)
  obtain ⟨w1, w2⟩ := zwn_spec hE
  have w1' := (e9sp _).mp w1
  generalize zwn (fun n_ => eX9_spread_9 (zit (fX9_spread_9 (b2 l)) n_ ((1 : Int32), σ1))) = N at w1 w1' w2 ⊢
  have cl : ∀ x y, sn (zit (fX9_spread_9 (b2 l)) N ((1 : Int32), σ1)).2 x = true → cC D l y → nbr 16 l x y → sn (zit (fX9_spread_9 (b2 l)) N ((1 : Int32), σ1)).2 y = true := by
    cases N with
    | zero => exact absurd (show (1 : Int32) = 0 from w1') (by decide)
    | succ n =>
      have h1 := (sp_sweep hcl (hJ n) 256 (Nat.le_refl _)).2.1
      rw [← hstep n] at h1
      obtain ⟨e1, e2⟩ := h1 w1'
      have hj := hJ n
      rw [e1]
      generalize (zit (fX9_spread_9 (b2 l)) n ((1 : Int32), σ1)).2 = τ at e2 hj
      intro x y hx hy hr
      apply Classical.byContradiction
      intro hn
      have hn2 : sn τ y = false := by cases q : sn τ y; rfl; exact absurd q hn
      exact e2 y hy.1 hy.2 hn2 ⟨x, (sn_t.mp hx).1, nbr_sy _ _ hr, hj.2.2.2.1 x hx, hx⟩
  have hJN := hJ N
  refine ⟨⟨vp_in_nI hk1 (by decide), ⟨hE, fun i _ => ⟨fun _ => trivial, fun _ j hj => ?_⟩⟩, fun _ => trivial, fun z => absurd w1' z⟩, hJN.1, hJN.2.2.2.2.2.1, hJN.2.1, fun c => ?_⟩
  · have h1 := (sp_sweep hcl (hJ i) j (by omega)).1
    exact (sp_step hcl h1 hj _).1
  · exact fills (S := fun c => sn σ c = true) (S' := fun c => sn (zit (fX9_spread_9 (b2 l)) N ((1 : Int32), σ1)).2 c = true) hJN.2.2.1 hJN.2.2.2.2.2.2 hJN.2.2.2.2.1 cl c
