/-! ===== pure rows: thinning ===== -/
def off (S : List Nat) (σ τ : zc_N) : Prop := ∀ k, k ∉ S → τ k = σ k
theorem off_rf (S : List Nat) (σ : zc_N) : off S σ σ := fun _ _ => rfl
theorem off_tr {S : List Nat} {σ τ υ : zc_N} (h1 : off S σ τ) (h2 : off S τ υ) : off S σ υ := fun k hk => (h2 k hk).trans (h1 k hk)
theorem off_zu {S : List Nat} {σ τ : zc_N} (h : off S σ τ) {k : Nat} (hk : k ∈ S) (v : Nat → Int32) : off S σ (zu τ k v) := fun j hj => by
  rw [zu_ne _ _ (fun e => hj (by rw [e]; exact hk))]
  exact h j hj
theorem off_sub {S T : List Nat} {σ τ : zc_N} (h : off S σ τ) (hs : ∀ k, k ∈ S → k ∈ T) : off T σ τ := fun k hk => h k (fun g => hk (hs k g))
def goD (D : Nat → Bool) (k : Nat) : Bool := D k && at8 D (k % 16) (k / 16) goB
def stD (k : Nat) (p : Nat × (Nat → Bool)) : Nat × (Nat → Bool) := if goD p.2 k then (p.1 + 1, cut p.2 k) else p
def swp (D : Nat → Bool) : Nat × (Nat → Bool) := zfor stD 256 (0, D)
theorem swp_def (D : Nat → Bool) : swp D = zfor stD 256 (0, D) := rfl
theorem goes_at (D : Nat → Bool) (c r : Nat) : rX1_goes (nI (at8 D c r r8)) = b2 (at8 D c r goB) := goes8 _ _ _ _ _ _ _ _
theorem sw_c {D : Nat → Bool} {σ : zc_N} (h : gC D σ) {c r : Nat} (hc : c < 16) (hr : r < 16) (t : Int32) : fX1_sweepOnce_12 (nI r) c (t, σ) = if goD D (16 * r + c) then (t + 1, zu σ 5 (zu (σ 5) (nI r + (1 : Int32)).toNatClampNeg (((σ 5) (nI r + (1 : Int32)).toNatClampNeg) &&& ((zshl (1 : Int32) ((16 : Int32) - (nI c))) ^^^ (-1 : Int32))))) else (t, σ) := by
  unfold fX1_sweepOnce_12 goD
  dsimp only
  rw [dark_c h hc hr, ring_c h hc hr, goes_at, pd_in hc hr, show (16 * r + c) % 16 = c by omega, show (16 * r + c) / 16 = r by omega]
  cases D (16 * r + c) <;> cases at8 D c r goB <;> rfl
theorem f4_nest : fX1_sweepOnce_4 = fun i => zfor (fX1_sweepOnce_12 (nI i)) 16 := by
  funext i a
  rfl
theorem sweep_c {D : Nat → Bool} {σ : zc_N} (h : gC D σ) : rX1_sweepOnce σ = nI (swp D).1 ∧ gC (swp D).2 (sX1_sweepOnce σ) ∧ off [5] σ (sX1_sweepOnce σ) := by
  unfold rX1_sweepOnce sX1_sweepOnce
  rw [f4_nest, zfor_nest (fun i => fX1_sweepOnce_12 (nI i)) 16 (by decide)]
  refine zfor_sim (fun _ (x : Int32 × zc_N) (y : Nat × (Nat → Bool)) => x.1 = nI y.1 ∧ gC y.2 x.2 ∧ off [5] σ x.2) _ stD 256 (0, σ) (0, D) ⟨rfl, h, off_rf _ _⟩ (fun k hk x y hx => ?_) 256 (Nat.le_refl _)
  obtain ⟨x1, x2⟩ := x
  obtain ⟨y1, y2⟩ := y
  obtain ⟨h1, h2, h3⟩ := hx
  dsimp only at h1 h2 h3 ⊢
  have hc : k % 16 < 16 := Nat.mod_lt _ (by decide)
  have hr : k / 16 < 16 := by omega
  have hk2 : 16 * (k / 16) + k % 16 = k := Nat.div_add_mod k 16
  rw [sw_c h2 hc hr, hk2]
  unfold stD
  dsimp only
  by_cases g : goD y2 k = true
  · rw [if_pos g, if_pos g]
    refine ⟨by rw [h1, nI_1], ?_, off_zu h3 (by simp) _⟩
    have := gC_cut h2 hc hr
    rw [hk2] at this
    exact this
  · rw [if_neg g, if_neg g]
    exact ⟨h1, h2, h3⟩
theorem pz_sweep (σ : zc_N) : pX1_sweepOnce σ := by
  intro i hi j hj
  have h := pz_ring hi
  refine ⟨h.2, fun _ => trivial, fun _ => ⟨h.1, fun _ => trivial, fun _ => ⟨h.2, h.2⟩⟩⟩
theorem th_m {D : Nat → Bool} {σ : zc_N} (h : gM D σ) {k : Nat} (hk : k < 256) (g mo : Int32) : fX9_thin_12 k (g, mo, σ) = if goD D k then (g + 1, 1, zu σ 33 (zu (σ 33) k 0)) else (g, mo, σ) := by
  have hc : k % 16 < 16 := Nat.mod_lt _ (by decide)
  have hr : k / 16 < 16 := by omega
  unfold fX9_thin_12
  dsimp only
  rw [rem16 hk, div16 hk, nI_clamp (by omega), md_l h hc hr, md_r h hc hr, md_u h hc hr, md_d h hc hr, md_n h hc hr, (md_h h hc hr).1]
  simp only [h k hk]
  have hn : at8 D (k % 16) (k / 16) n8 < 2 ^ 31 := by
    have : ∀ e se s sw w nw n ne : Bool, n8 e se s sw w nw n ne < 2 ^ 31 := by decide
    exact this _ _ _ _ _ _ _ _
  have key : goD D k = (D k && ((!pd D (k % 16) (k / 16 + 1) || (!pd D (k % 16 + 2) (k / 16 + 1) || (!pd D (k % 16 + 1) (k / 16) || !pd D (k % 16 + 1) (k / 16 + 2)))) && (decide (2 ≤ at8 D (k % 16) (k / 16) n8) && hng (at8 D (k % 16) (k / 16) k8)))) := rfl
  rw [key]
  generalize at8 D (k % 16) (k / 16) n8 = n at hn ⊢
  generalize hng (at8 D (k % 16) (k / 16) k8) = hb
  generalize D k = d
  generalize pd D (k % 16) (k / 16 + 1) = w
  generalize pd D (k % 16 + 2) (k / 16 + 1) = e
  generalize pd D (k % 16 + 1) (k / 16) = u
  generalize pd D (k % 16 + 1) (k / 16 + 2) = s
  by_cases h2 : 2 ≤ n
  · have e2 : ¬ nI n < (2 : Int32) := by rw [i2]; exact nI_nlt h2 hn
    simp only [if_neg e2, decide_eq_true h2]
    cases d <;> cases w <;> cases e <;> cases u <;> cases s <;> cases hb <;> rfl
  · have e2 : nI n < (2 : Int32) := by rw [i2]; exact nI_lt (by omega) (by decide)
    simp only [if_pos e2, decide_eq_false h2]
    cases d <;> cases w <;> cases e <;> cases u <;> cases s <;> cases hb <;> rfl
theorem th_q {D : Nat → Bool} {σ : zc_N} (h : gM D σ) {k : Nat} (hk : k < 256) (g mo : Int32) : qX9_thin_12 k (g, mo, σ) := by
  have hc : k % 16 < 16 := Nat.mod_lt _ (by decide)
  have hr : k / 16 < 16 := by omega
  unfold qX9_thin_12
  dsimp only
  rw [rem16 hk, div16 hk]
  exact ⟨fun _ => trivial, fun _ => ⟨fun _ => trivial, fun _ => ⟨pz_n (D := D) hc hr, fun _ => trivial, fun _ => (md_h h hc hr).2⟩⟩⟩
theorem sweep_m {D : Nat → Bool} {σ : zc_N} (h : gM D σ) (g : Nat) (mo : Int32) : ∀ k, k ≤ 256 → (zfor fX9_thin_12 k (nI g, mo, σ)).1 = nI (g + (zfor stD k (0, D)).1) ∧ (zfor fX9_thin_12 k (nI g, mo, σ)).2.1 = (if (zfor stD k (0, D)).1 = 0 then mo else 1) ∧ gM (zfor stD k (0, D)).2 (zfor fX9_thin_12 k (nI g, mo, σ)).2.2 ∧ off [33] σ (zfor fX9_thin_12 k (nI g, mo, σ)).2.2 := by
  refine zfor_sim (fun _ (x : Int32 × Int32 × zc_N) (y : Nat × (Nat → Bool)) => x.1 = nI (g + y.1) ∧ x.2.1 = (if y.1 = 0 then mo else 1) ∧ gM y.2 x.2.2 ∧ off [33] σ x.2.2) _ stD 256 (nI g, mo, σ) (0, D) ⟨rfl, rfl, h, off_rf _ _⟩ (fun k hk x y hx => ?_)
  obtain ⟨x1, x2, x3⟩ := x
  obtain ⟨y1, y2⟩ := y
  obtain ⟨h1, h2, h3, h4⟩ := hx
  dsimp only at h1 h2 h3 h4 ⊢
  rw [th_m h3 hk]
  unfold stD
  dsimp only
  by_cases gg : goD y2 k = true
  · rw [if_pos gg, if_pos gg]
    refine ⟨by rw [h1, nI_1]; rfl, by rw [if_neg (by omega)], gM_cut h3 hk, off_zu h4 (by simp) _⟩
  · rw [if_neg gg, if_neg gg]
    exact ⟨h1, h2, h3, h4⟩
theorem swp_cnt (D : Nat → Bool) : cnt (swp D).2 256 + (swp D).1 = cnt D 256 := by
  refine zfor_inv (fun _ (p : Nat × (Nat → Bool)) => cnt p.2 256 + p.1 = cnt D 256) stD 256 (0, D) (Nat.add_zero _) (fun k hk p hp => ?_) 256 (Nat.le_refl _)
  unfold stD
  split
  · next hg =>
    have hd : p.2 k = true := by
      unfold goD at hg
      exact (Bool.and_eq_true _ _ ▸ hg).1
    have := cnt_clear p.2 k 256 hk hd
    show cnt (cut p.2 k) 256 + (p.1 + 1) = cnt D 256
    unfold cut
    omega
  · exact hp
theorem swp_le (D : Nat → Bool) : (swp D).1 ≤ 256 := by
  have := swp_cnt D
  have := cnt_le D 256
  omega
def tn (D : Nat → Bool) (i : Nat) : Nat × (Nat → Bool) := zit (fun p => (p.1 + (swp p.2).1, (swp p.2).2)) i (0, D)
theorem tn_s (D : Nat → Bool) (i : Nat) : tn D (i + 1) = ((tn D i).1 + (swp (tn D i).2).1, (swp (tn D i).2).2) := rfl
theorem tn_cnt (D : Nat → Bool) : ∀ i, cnt (tn D i).2 256 + (tn D i).1 = cnt D 256
  | 0 => Nat.add_zero _
  | i + 1 => by
    have h1 := tn_cnt D i
    have h2 := swp_cnt (tn D i).2
    rw [tn_s]
    dsimp only
    omega
theorem tn_end (D : Nat → Bool) : ∃ N, N ≤ 256 ∧ (swp (tn D N).2).1 = 0 ∧ ∀ j, j < N → ¬ (swp (tn D j).2).1 = 0 := by
  have ex : ∃ n, (swp (tn D n).2).1 = 0 ∧ n ≤ 256 := by
    apply Classical.byContradiction
    intro hno
    have key : ∀ i, i ≤ 257 → i ≤ (tn D i).1 := by
      intro i
      induction i with
      | zero => intro _; exact Nat.zero_le _
      | succ i ih =>
        intro hi
        have h1 := ih (by omega)
        have h2 : ¬ (swp (tn D i).2).1 = 0 := fun e => hno ⟨i, e, by omega⟩
        rw [tn_s]
        dsimp only
        omega
    have h1 := key 257 (Nat.le_refl _)
    have h2 := tn_cnt D 257
    have h3 := cnt_le D 256
    omega
  obtain ⟨n, h1, h2⟩ := ex
  obtain ⟨N, h3, h4⟩ := pk_least (fun n => (swp (tn D n).2).1 = 0) ⟨n, h1⟩
  refine ⟨N, ?_, h3, h4⟩
  by_cases h : N ≤ n
  · omega
  · exact absurd h1 (h4 n (by omega))
theorem eTT (a : Int32 × Int32 × zc_N) : eX1_takeThinned_4 a ↔ (256 : Int32) < a.2.1 ∨ rX1_sweepOnce a.2.2 = 0 := by
  unfold eX1_takeThinned_4
  constructor
  · rintro (h | h)
    · exact Or.inl h.1
    · rcases h.2 with g | g
      · exact Or.inr g.1
      · exact g.2.elim
  · intro h
    by_cases c : (256 : Int32) < a.2.1
    · exact Or.inl ⟨c, trivial⟩
    · rcases h with h | h
      · exact absurd h c
      · exact Or.inr ⟨c, Or.inl ⟨h, trivial⟩⟩
theorem thin_c {D : Nat → Bool} {σ : zc_N} (h : gC D σ) {N : Nat} (hN : N ≤ 256) (h0 : (swp (tn D N).2).1 = 0) (hm : ∀ j, j < N → ¬ (swp (tn D j).2).1 = 0) : pX1_takeThinned σ ∧ rX1_takeThinned σ = nI (tn D N).1 ∧ gC (tn D (N + 1)).2 (sX1_takeThinned σ) ∧ off [5] σ (sX1_takeThinned σ) := by
  have key := zit_inv (fun i (x : Int32 × Int32 × zc_N) => x.1 = nI (tn D i).1 ∧ x.2.1 = nI i ∧ gC (tn D i).2 x.2.2 ∧ off [5] σ x.2.2) fX1_takeThinned_4 (0, 0, σ) ⟨rfl, rfl, h, off_rf _ _⟩ (fun i x hx => by
    obtain ⟨h1, h2, h3, h4⟩ := hx
    have h5 := sweep_c h3
    unfold fX1_takeThinned_4
    rw [tn_s]
    dsimp only
    refine ⟨?_, ?_, h5.2.1, off_tr h4 h5.2.2⟩
    · rw [h1, h5.1, nI_add]
    · rw [h2, nI_1])
  have hE : ∀ i, i ≤ 256 → (eX1_takeThinned_4 (zit fX1_takeThinned_4 i (0, 0, σ)) ↔ (swp (tn D i).2).1 = 0) := by
    intro i hi
    obtain ⟨h1, h2, h3, h4⟩ := key i
    rw [eTT, h2, (sweep_c h3).1, show (256 : Int32) = nI 256 from rfl, ← nI_0, nI_eq (Nat.lt_of_le_of_lt (swp_le _) (by decide)) (by decide)]
    constructor
    · rintro (g | g)
      · exact absurd g (nI_nlt hi (by decide))
      · exact g
    · exact Or.inr
  have hw : zwn (fun n_ => eX1_takeThinned_4 (zit fX1_takeThinned_4 n_ ((0 : Int32), (0 : Int32), σ))) = N := zwn_eq ((hE N hN).mpr h0) (fun j hj => fun g => hm j hj ((hE j (by omega)).mp g))
  obtain ⟨h1, h2, h3, h4⟩ := key N
  have h5 := sweep_c h3
  unfold pX1_takeThinned rX1_takeThinned sX1_takeThinned wX1_takeThinned_4
  rw [hw, tn_s D N]
  refine ⟨⟨⟨⟨N, (hE N hN).mpr h0⟩, fun i _ => ⟨fun _ => trivial, fun _ => pz_sweep _⟩⟩, fun _ => trivial, fun _ => pz_sweep _⟩, h1, ?_⟩
  rw [if_neg (by rw [h2, show (256 : Int32) = nI 256 from rfl]; exact nI_nlt hN (by decide))]
  dsimp only
  exact ⟨h5.2.1, off_tr h4 h5.2.2⟩
theorem eTM (a : Int32 × Int32 × zc_N) : eX9_thin_4 a ↔ a.2.1 = 0 := by
  unfold eX9_thin_4
  constructor
  · rintro (h | h)
    · exact h.1
    · exact h.2.elim
  · intro h
    exact Or.inl ⟨h, trivial⟩
theorem thin_m {D : Nat → Bool} {σ : zc_N} (h : gM D σ) {N : Nat} (hN : N ≤ 256) (h0 : (swp (tn D N).2).1 = 0) (hm : ∀ j, j < N → ¬ (swp (tn D j).2).1 = 0) : pX9_thin σ ∧ rX9_thin σ = nI (tn D N).1 ∧ gM (tn D (N + 1)).2 (sX9_thin σ) ∧ off [33] σ (sX9_thin σ) := by
  have key := zit_inv (fun i (x : Int32 × Int32 × zc_N) => x.1 = nI (tn D i).1 ∧ x.2.1 = (if i = 0 then 1 else if (swp (tn D (i - 1)).2).1 = 0 then 0 else 1) ∧ gM (tn D i).2 x.2.2 ∧ off [33] σ x.2.2) fX9_thin_4 (0, 1, σ) ⟨rfl, rfl, h, off_rf _ _⟩ (fun i x hx => by
    obtain ⟨h1, h2, h3, h4⟩ := hx
    have h5 := sweep_m h3 (tn D i).1 0 256 (Nat.le_refl _)
    rw [← swp_def] at h5
    unfold fX9_thin_4
    rw [tn_s]
    dsimp only
    rw [h1]
    refine ⟨h5.1, ?_, h5.2.2.1, off_tr h4 h5.2.2.2⟩
    rw [h5.2.1, if_neg (Nat.succ_ne_zero i), Nat.add_sub_cancel])
  have hE : ∀ i, (eX9_thin_4 (zit fX9_thin_4 i (0, 1, σ)) ↔ i ≠ 0 ∧ (swp (tn D (i - 1)).2).1 = 0) := by
    intro i
    obtain ⟨h1, h2, h3, h4⟩ := key i
    rw [eTM, h2]
    by_cases c : i = 0
    · rw [if_pos c]; simp [c]
    · rw [if_neg c]
      by_cases c2 : (swp (tn D (i - 1)).2).1 = 0
      · simp [c, c2]
      · simp [c, c2]
  have hw : zwn (fun n_ => eX9_thin_4 (zit fX9_thin_4 n_ ((0 : Int32), (1 : Int32), σ))) = N + 1 := zwn_eq ((hE (N + 1)).mpr ⟨Nat.succ_ne_zero N, h0⟩) (fun j hj => fun g => by
    obtain ⟨g1, g2⟩ := (hE j).mp g
    exact hm (j - 1) (by omega) g2)
  have hq : ∀ i k, k < 256 → ∀ x : Int32 × Int32 × zc_N, x = zit fX9_thin_4 i (0, 1, σ) → qX9_thin_12 k (zfor fX9_thin_12 k (x.1, 0, x.2.2)) := by
    intro i k hk x hx
    obtain ⟨h1, h2, h3, h4⟩ := key i
    rw [← hx] at h1 h3
    have h5 := sweep_m h3 (tn D i).1 0 k (by omega)
    rw [h1]
    generalize zfor fX9_thin_12 k (nI (tn D i).1, 0, x.2.2) = y at h5
    obtain ⟨y1, y2, y3⟩ := y
    exact th_q h5.2.2.1 hk y1 y2
  obtain ⟨h1, h2, h3, h4⟩ := key (N + 1)
  unfold pX9_thin rX9_thin sX9_thin wX9_thin_4
  rw [hw]
  refine ⟨⟨⟨⟨N + 1, (hE (N + 1)).mpr ⟨Nat.succ_ne_zero N, h0⟩⟩, fun i _ => ⟨fun _ => trivial, fun _ k hk => hq i k hk _ rfl⟩⟩, fun _ => trivial, fun _ k hk => hq (N + 1) k hk _ rfl⟩, ?_, h3, h4⟩
  rw [h1, tn_s, h0]
  rfl
/-! counts of dark cells -/
theorem dm_m {D : Nat → Bool} {σ : zc_N} (h : gM D σ) : rX9_darkMany σ = nI (cnt D 256) := by
  unfold rX9_darkMany
  refine zfor_inv (fun i x => x = nI (cnt D i)) (fX9_darkMany_4 σ) 256 0 rfl (fun i hi x hx => ?_) 256 (Nat.le_refl _)
  unfold fX9_darkMany_4
  rw [hx, nI_clamp (by omega), h i hi, b2_if, b2_n, nI_add]
  rfl
