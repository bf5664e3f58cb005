/-! ===== like ===== -/
/-- the best of the prints in O: its tool, its score -/
def bl (A : gA) (σ : zc_N) (r p : Nat) (O : Nat → Prop) (T : Int32) (S : Int) : Prop := ∃ o t, O o ∧ t < 10 ∧ σ 42 o = nI t ∧ T = nI t ∧ S = mval A r o p ∧ ∀ o' t', O o' → t' < 10 → σ 42 o' = nI t' → (mval A r o' p < S ∨ (mval A r o' p = S ∧ t ≤ t'))
theorem bl_congr {A : gA} {σ : zc_N} {r p : Nat} {O O' : Nat → Prop} {T : Int32} {S : Int} (h : bl A σ r p O T S) (e : ∀ o, O o ↔ O' o) : bl A σ r p O' T S := by
  obtain ⟨o, t, h1, h2, h3, h4, h5, h6⟩ := h
  exact ⟨o, t, (e o).mp h1, h2, h3, h4, h5, fun o' t' z => h6 o' t' ((e o').mpr z)⟩
theorem bl_uni {A : gA} {σ : zc_N} {r p : Nat} {O : Nat → Prop} {T T' : Int32} {S S' : Int} (h : bl A σ r p O T S) (h' : bl A σ r p O T' S') : T = T' := by
  obtain ⟨o, t, h1, h2, h3, h4, h5, h6⟩ := h
  obtain ⟨o', t', g1, g2, g3, g4, g5, g6⟩ := h'
  have e1 := h6 o' t' g1 g2 g3
  have e2 := g6 o t h1 h2 h3
  have : t = t' := by omega
  rw [h4, g4, this]
theorem bl_stay {A : gA} {σ : zc_N} {r p k t : Nat} {O : Nat → Prop} {T : Int32} {S : Int} (h : bl A σ r p O T S) (hk : σ 42 k = nI t) (ht : t < 10) (hw : ∀ u, u < 10 → T = nI u → (mval A r k p < S ∨ (mval A r k p = S ∧ u ≤ t))) : bl A σ r p (fun o => O o ∨ o = k) T S := by
  obtain ⟨o, u, h1, h2, h3, h4, h5, h6⟩ := h
  refine ⟨o, u, Or.inl h1, h2, h3, h4, h5, fun o' t' z ht' he => ?_⟩
  rcases z with z | z
  · exact h6 o' t' z ht' he
  · rw [z] at he ⊢
    have : t = t' := (nI_eq (by omega) (by omega)).mp (hk.symm.trans he)
    rw [← this]
    exact hw u h2 h4
theorem bl_new {A : gA} {σ : zc_N} {r p k t : Nat} {O : Nat → Prop} (hk : σ 42 k = nI t) (ht : t < 10) (hw : ∀ o' t', O o' → t' < 10 → σ 42 o' = nI t' → (mval A r o' p < mval A r k p ∨ (mval A r o' p = mval A r k p ∧ t ≤ t'))) : bl A σ r p (fun o => O o ∨ o = k) (nI t) (mval A r k p) := by
  refine ⟨k, t, Or.inr rfl, ht, hk, rfl, rfl, fun o' t' z ht' he => ?_⟩
  rcases z with z | z
  · exact hw o' t' z ht' he
  · rw [z] at he ⊢
    have : t = t' := (nI_eq (by omega) (by omega)).mp (hk.symm.trans he)
    exact Or.inr ⟨rfl, by omega⟩
theorem mval_b {A : gA} {r a b : Nat} (hva : pV A a) (hvb : pV A b) : -72 ≤ mval A r a b ∧ mval A r a b ≤ 120 := by
  unfold mval
  split
  · exact Sk_b hva hvb _
  · omega
def cand (σ : zc_N) (p n : Nat) (o : Nat) : Prop := o < n ∧ o ≠ p ∧ σ 42 o ≠ -1
def LC (P : zp) (A : gA) (σ : zc_N) (r p : Nat) (O : Nat → Prop) (x : Int32 × Int32 × zc_N) : Prop := cKp P A σ x.2.2 ∧ ((x.1 = -4 ∧ x.2.1 = -1000 ∧ ∀ o, ¬ O o) ∨ ∃ S : Int, x.2.1 = zI S ∧ bl A σ r p O x.1 S)
theorem bl_S {A : gA} {σ : zc_N} {r p n : Nat} {O : Nat → Prop} {T : Int32} {S : Int} (h : bl A σ r p O T S) (hO : ∀ o, O o → pV A o) (hp : pV A p) : -72 ≤ S ∧ S ≤ 120 := by
  obtain ⟨o, t, h1, h2, h3, h4, h5, h6⟩ := h
  rw [h5]
  exact mval_b (hO o h1) hp
theorem l23 {P : zp} {A : gA} {σ : zc_N} {r p k : Nat} (h : Inv P A σ) (hr : r < 4) (h10 : σ 10 0 = nI r) (hp : p < P.2.1) (hk : k < P.2.1) (x : Int32 × Int32 × zc_N) (hx : LC P A σ r p (fun o => cand σ p k o) x) : LC P A σ r p (fun o => cand σ p (k + 1) o) (fX8_like_23 P p k x) ∧ qX8_like_23 P p k x := by
  obtain ⟨hn, h3, h11, p2, p3⟩ := iP_parts h
  obtain ⟨T, G, τ⟩ := x
  obtain ⟨hc, hb⟩ := hx
  dsimp only at hc hb
  have tk : τ (pO k) 3 = σ 42 k := by
    have := (iP_parts (Inv_cKp h hc)).2.2.2.2 k hk
    rw [this.1, hc.1 42 (by decide)]
  obtain ⟨c1, c2, c3⟩ := sc_step (a := k) (b := p) h hr h10 hc hk hp
  have tk2 : sX4_scoreOf P τ k p (pO k) 3 = σ 42 k := by
    have := (iP_parts (Inv_cKp h c3)).2.2.2.2 k hk
    rw [this.1, c3.1 42 (by decide)]
  have v : vp_in (nI k) 24 ∧ k < P.2.1 := ⟨vp_in_nI (by omega) (by decide), hk⟩
  have mb := mval_b (r := r) (p2 k hk).2.2 (p2 p hp).2.2
  have hO : ∀ o, cand σ p k o → pV A o := fun o ho => (p2 o (by have := ho.1; omega)).2.2
  unfold fX8_like_23 qX8_like_23
  dsimp only
  rw [cl_n (a := k) (by omega), c2]
  refine ⟨?_, v, fun _ => trivial, fun _ => ⟨fun _ => trivial, fun _ => c1⟩⟩
  have keep : (k = p ∨ σ 42 k = -1) → LC P A σ r p (fun o => cand σ p (k + 1) o) (T, G, τ) := fun hh => by
    have e : ∀ o, cand σ p k o ↔ cand σ p (k + 1) o := fun o => by
      constructor
      · rintro ⟨h1, h2⟩; exact ⟨by omega, h2⟩
      · rintro ⟨h1, h2, h3⟩
        refine ⟨?_, h2, h3⟩
        by_cases eo : o = k
        · rw [eo] at h2 h3
          rcases hh with z | z
          · exact absurd z h2
          · exact absurd z h3
        · omega
    refine ⟨hc, ?_⟩
    rcases hb with ⟨b1, b2, b3⟩ | ⟨S, b1, b2⟩
    · exact Or.inl ⟨b1, b2, fun o z => b3 o ((e o).mpr z)⟩
    · exact Or.inr ⟨S, b1, bl_congr b2 e⟩
  by_cases d1 : k = p
  · have d1' : (some (pO k)) = (some (pO p)) := by rw [d1]
    rw [if_pos d1', if_pos d1', if_pos d1']
    exact keep (Or.inl d1)
  · have d1' : ¬ (some (pO k)) = (some (pO p)) := fun z => d1 (pO_inj (Option.some.inj z))
    rw [if_neg d1', if_neg d1', if_neg d1']
    by_cases d2 : σ 42 k = -1
    · have d2' : τ (pO k) 3 = -1 := tk.trans d2
      rw [if_pos d2', if_pos d2', if_pos d2']
      exact keep (Or.inr d2)
    · have d2' : ¬ τ (pO k) 3 = -1 := fun z => d2 (tk.symm.trans z)
      rw [if_neg d2', if_neg d2', if_neg d2', tk2]
      obtain ⟨t, ht, htk⟩ : ∃ t, t < 10 ∧ σ 42 k = nI t := by
        rcases (p3 k hk).2.2 with ⟨z1, -⟩ | ⟨t, -, z1, -, z3, -⟩
        · exact absurd z1 d2
        · exact ⟨t, z1, z3⟩
      have e : ∀ o, (cand σ p k o ∨ o = k) ↔ cand σ p (k + 1) o := fun o => by
        constructor
        · rintro (⟨h1, h2⟩ | h1)
          · exact ⟨by omega, h2⟩
          · rw [h1]; exact ⟨by omega, d1, d2⟩
        · rintro ⟨h1, h2, h3⟩
          by_cases eo : o = k
          · exact Or.inr eo
          · exact Or.inl ⟨by omega, h2, h3⟩
      refine ⟨c3, ?_⟩
      rcases hb with ⟨b1, b2, b3⟩ | ⟨S, b1, b2⟩
      · have lt : G < zI (mval A r k p) := by rw [b2, show (-1000 : Int32) = zI (-1000) from rfl, zlt (by omega) (by omega)]; omega
        dsimp only
        rw [if_pos lt, if_pos lt, htk]
        exact Or.inr ⟨_, rfl, bl_congr (bl_new htk ht (fun o' t' z => absurd z (b3 o'))) e⟩
      · have hS := bl_S (n := P.2.1) b2 hO (p2 p hp).2.2
        have lt := zlt (a := S) (b := mval A r k p) (by omega) (by omega)
        have eqz := zeq (a := mval A r k p) (b := S) (by omega) (by omega)
        dsimp only
        rw [b1]
        by_cases c4 : S < mval A r k p
        · rw [if_pos (lt.mpr c4), if_pos (lt.mpr c4), htk]
          obtain ⟨o, u, g1, g2, g3, g4, g5, g6⟩ := b2
          refine Or.inr ⟨_, rfl, bl_congr (bl_new htk ht (fun o' t' z ht' he => ?_)) e⟩
          rcases g6 o' t' z ht' he with q | q
          · exact Or.inl (by omega)
          · exact Or.inl (by omega)
        · rw [if_neg (fun z => c4 (lt.mp z)), if_neg (fun z => c4 (lt.mp z))]
          by_cases c5 : mval A r k p = S
          · rw [if_pos (eqz.mpr c5), if_pos (eqz.mpr c5), htk]
            obtain ⟨o, u, g1, g2, g3, g4, g5, g6⟩ := b2
            rw [g4]
            have le := nI_leI (a := u) (b := t) (by omega) (by omega)
            by_cases c6 : u ≤ t
            · rw [if_pos (le.mpr c6), if_pos (le.mpr c6)]
              exact Or.inr ⟨S, rfl, bl_congr (bl_stay ⟨o, u, g1, g2, g3, rfl, g5, g6⟩ htk ht (fun u' hu' he => Or.inr ⟨c5, by
                have : u = u' := (nI_eq (by omega) (by omega)).mp he
                omega⟩)) e⟩
            · rw [if_neg (fun z => c6 (le.mp z)), if_neg (fun z => c6 (le.mp z))]
              refine Or.inr ⟨_, rfl, bl_congr (bl_new htk ht (fun o' t' z ht' he => ?_)) e⟩
              rcases g6 o' t' z ht' he with q | q
              · exact Or.inl (by omega)
              · exact Or.inr (by omega)
          · rw [if_neg (fun z => c5 (eqz.mp z)), if_neg (fun z => c5 (eqz.mp z))]
            exact Or.inr ⟨S, rfl, bl_congr (bl_stay b2 htk ht (fun _ _ _ => Or.inl (by omega))) e⟩
def LM (A : gA) (σ : zc_N) (r p : Nat) (O : Nat → Prop) (x : Int32 × Int32 × zc_N) : Prop := mKp σ x.2.2 ∧ ((x.1 = -4 ∧ ∀ o, ¬ O o) ∨ ∃ S : Int, x.2.1 = zI S ∧ bl A σ r p O x.1 S)
/-- those that the reference has seen: all of the tools below t, of tool t those below k -/
def seenO (σ : zc_N) (p n t k : Nat) (o : Nat) : Prop := (o < n ∧ o ≠ p) ∧ ∃ u, u < 10 ∧ σ 42 o = nI u ∧ (u < t ∨ (u = t ∧ o < k))
theorem l28 {P : zp} {A : gA} {σ : zc_N} {r p t k : Nat} (h : Inv P A σ) (hr : r < 4) (h12 : σ 32 12 = nI r) (hp : p < P.2.1) (ht : t < 10) (hk : k < P.2.1) (x : Int32 × Int32 × zc_N) (hx : LM A σ r p (seenO σ p P.2.1 t k) x) : LM A σ r p (seenO σ p P.2.1 t (k + 1)) (fX9_like_28 (nI p) (nI t) k x) ∧ qX9_like_28 (nI p) (nI t) k x := by
  obtain ⟨hn, h3, h11, p2, p3⟩ := iP_parts h
  obtain ⟨T, G, τ⟩ := x
  obtain ⟨hc, hb⟩ := hx
  dsimp only at hc hb
  obtain ⟨c1, c2, c3, -⟩ := mo_step (a := k) (b := p) h hr h12 hc hk hp
  have tk : τ 42 k = σ 42 k := by rw [hc.1 42 (by decide)]
  have v : vp_in (nI k) 24 := vp_in_nI (by omega) (by decide)
  have mb := mval_b (r := r) (p2 k hk).2.2 (p2 p hp).2.2
  have hO : ∀ o, seenO σ p P.2.1 t k o → pV A o := fun o ho => (p2 o ho.1.1).2.2
  unfold fX9_like_28 qX9_like_28
  dsimp only
  rw [cl_n (a := k) (by omega), c2]
  refine ⟨?_, v, fun _ => ⟨fun _ => trivial, fun _ => c1⟩, fun _ => trivial⟩
  have keep : ¬ (σ 42 k = nI t ∧ k ≠ p) → LM A σ r p (seenO σ p P.2.1 t (k + 1)) (T, G, τ) := fun hh => by
    have e : ∀ o, seenO σ p P.2.1 t k o ↔ seenO σ p P.2.1 t (k + 1) o := fun o => by
      constructor
      · rintro ⟨h1, u, h2, h3, h4⟩; exact ⟨h1, u, h2, h3, by omega⟩
      · rintro ⟨h1, u, h2, h3, h4⟩
        refine ⟨h1, u, h2, h3, ?_⟩
        by_cases eo : o = k ∧ u = t
        · obtain ⟨e1, e2⟩ := eo
          rw [e1, e2] at h3
          rw [e1] at h1
          exact absurd ⟨h3, h1.2⟩ hh
        · omega
    refine ⟨hc, ?_⟩
    rcases hb with ⟨b1, b3⟩ | ⟨S, b1, b2⟩
    · exact Or.inl ⟨b1, fun o z => b3 o ((e o).mpr z)⟩
    · exact Or.inr ⟨S, b1, bl_congr b2 e⟩
  by_cases d1 : σ 42 k = nI t
  · have d1' : τ 42 k = nI t := tk.trans d1
    rw [if_pos d1', if_pos d1', if_pos d1']
    by_cases d2 : k = p
    · have d2' : nI k = nI p := by rw [d2]
      rw [if_pos d2', if_pos d2', if_pos d2']
      exact keep (fun z => z.2 d2)
    · have d2' : ¬ nI k = nI p := ne_of_nI (by omega) (by omega) d2
      rw [if_neg d2', if_neg d2', if_neg d2']
      have e : ∀ o, (seenO σ p P.2.1 t k o ∨ o = k) ↔ seenO σ p P.2.1 t (k + 1) o := fun o => by
        constructor
        · rintro (⟨h1, u, h2, h3, h4⟩ | h1)
          · exact ⟨h1, u, h2, h3, by omega⟩
          · rw [h1]; exact ⟨⟨hk, d2⟩, t, ht, d1, by omega⟩
        · rintro ⟨h1, u, h2, h3, h4⟩
          by_cases eo : o = k
          · exact Or.inr eo
          · exact Or.inl ⟨h1, u, h2, h3, by omega⟩
      generalize sX9_matchOf τ (nI k) (nI p) = ω at c3 ⊢
      refine ⟨c3, ?_⟩
      dsimp only
      rcases hb with ⟨b1, b3⟩ | ⟨S, b1, b2⟩
      · have lt : T < 0 := by rw [b1]; decide
        rw [if_pos lt, if_pos lt]
        exact Or.inr ⟨_, rfl, bl_congr (bl_new d1 ht (fun o' t' z => absurd z (b3 o'))) e⟩
      · have hS := bl_S (n := P.2.1) b2 hO (p2 p hp).2.2
        obtain ⟨o, u, g1, g2, g3, g4, g5, g6⟩ := b2
        have nlt : ¬ T < 0 := by rw [g4]; exact nI_pos (by omega)
        have le := zle (a := mval A r k p) (b := S) (by omega) (by omega)
        have hut : u ≤ t := by
          obtain ⟨-, u', h2, h3, h4⟩ := g1
          have : u = u' := (nI_eq (by omega) (by omega)).mp (g3.symm.trans h3)
          omega
        rw [if_neg nlt, if_neg nlt, b1]
        by_cases c4 : mval A r k p ≤ S
        · rw [if_pos (le.mpr c4), if_pos (le.mpr c4)]
          refine Or.inr ⟨S, rfl, bl_congr (bl_stay ⟨o, u, g1, g2, g3, g4, g5, g6⟩ d1 ht (fun u' hu' he => ?_)) e⟩
          have : u = u' := (nI_eq (by omega) (by omega)).mp (g4.symm.trans he)
          omega
        · rw [if_neg (fun z => c4 (le.mp z)), if_neg (fun z => c4 (le.mp z))]
          refine Or.inr ⟨_, rfl, bl_congr (bl_new d1 ht (fun o' t' z ht' he => ?_)) e⟩
          rcases g6 o' t' z ht' he with q | q
          · exact Or.inl (by omega)
          · exact Or.inl (by omega)
  · have d1' : ¬ τ 42 k = nI t := fun z => d1 (tk.symm.trans z)
    rw [if_neg d1', if_neg d1', if_neg d1']
    exact keep (fun z => d1 z.1)
theorem f18_like (l1 : Int32) (i : Nat) (x : Int32 × Int32 × zc_N) : fX9_like_18 l1 i x = zfor (fX9_like_28 l1 (nI i)) ((((x.2.2 32) 11)).toNatClampNeg) x := by
  unfold fX9_like_18
  have e : (x.1, x.2.1, x.2.2) = x := rfl
  rw [e]
theorem ok_like {P : zp} {A : gA} {σ : zc_N} (h : Inv P A σ) (a1 : Int32) : pX8_like P σ a1 ∧ pX9_like (sX8_like P σ a1) a1 ∧ rX8_like P σ a1 = rX9_like (sX8_like P σ a1) a1 ∧ Inv P A (sX9_like (sX8_like P σ a1) a1) := by
  obtain ⟨hn, h3, h11, p2, p3⟩ := iP_parts h
  obtain ⟨r, r1, r2, r3⟩ := h.2.2.1
  have hpa := pAt_ok h3 h11 hn a1
  rcases prt hn h11 a1 with ⟨e1, e2⟩ | ⟨p, hp, rfl, e1, e2⟩
  · have e1' : rX8_isWithin a1 0 (σ 3 3 - 1) = 0 := by rw [h3]; exact e1
    have s8 : sX8_like P σ a1 = σ := if_pos e1'
    have r8 : rX8_like P σ a1 = -1 := if_pos e1'
    have s9 : sX9_like σ a1 = σ := if_pos e2
    have r9 : rX9_like σ a1 = -1 := if_pos e2
    rw [s8, r8, s9, r9]
    exact ⟨⟨hpa, fun _ => trivial, fun z => absurd e1' z⟩, ⟨fun _ => trivial, fun z => absurd e2 z⟩, rfl, h⟩
  · have e1' : ¬ rX8_isWithin (nI p) 0 (σ 3 3 - 1) = 0 := by rw [h3, e1]; decide
    have hc : (nI p).toNatClampNeg = p := cl_n (by omega)
    have key : ∀ k, k ≤ P.2.1 → LC P A σ r p (fun o => cand σ p k o) (zfor (fX8_like_23 P p) k (-4, -1000, σ)) := by
      refine zfor_inv (fun k x => LC P A σ r p (fun o => cand σ p k o) x) (fX8_like_23 P p) P.2.1 (-4, -1000, σ) ⟨⟨off_rf _ _, fun _ _ _ => rfl, h.2.2.2.2.2.1⟩, Or.inl ⟨rfl, rfl, fun o z => absurd z.1 (by omega)⟩⟩ (fun k hk x hx => (l23 h r1 r2 hp hk x hx).1)
    have s8 : sX8_like P σ (nI p) = (zfor (fX8_like_23 P p) P.2.1 (-4, -1000, σ)).2.2 := by
      refine (if_neg e1').trans ?_
      unfold vX8_like_1
      rw [hc, h3, cl_n (by omega)]
    have r8 : rX8_like P σ (nI p) = (zfor (fX8_like_23 P p) P.2.1 (-4, -1000, σ)).1 := by
      refine (if_neg e1').trans ?_
      rw [hc, h3, cl_n (by omega)]
    have P8 : pX8_like P σ (nI p) := by
      refine ⟨hpa, fun _ => trivial, fun _ => ?_⟩
      rw [hc, h3, cl_n (by omega)]
      refine ⟨hp, fun k hk => ?_, fun k hk => (l23 h r1 r2 hp hk _ (key k (by omega))).2⟩
      rw [(key k hk).1.1 3 (by decide), h3]
      exact nI_leI (by omega) (by omega)
    obtain ⟨u2, u1⟩ := key P.2.1 (Nat.le_refl _)
    rw [s8, r8]
    generalize zfor (fX8_like_23 P p) P.2.1 (-4, -1000, σ) = x at u1 u2
    obtain ⟨T, G, τ⟩ := x
    dsimp only at u1 u2 ⊢
    have hI := Inv_cKp h u2
    have e42 : τ 42 = σ 42 := u2.1 42 (by decide)
    have e12 : τ 32 12 = nI r := by rw [u2.1 32 (by decide)]; exact r3
    have e11 : τ 32 11 = nI P.2.1 := by rw [u2.1 32 (by decide)]; exact h11
    have e2' : ¬ rX9_isPrint τ (nI p) = 0 := by
      have : rX9_isPrint τ (nI p) = rX9_isPrint σ (nI p) := by unfold rX9_isPrint; rw [u2.1 32 (by decide)]
      rw [this, e2]; decide
    have in28 : ∀ t, t < 10 → ∀ x, LM A τ r p (seenO τ p P.2.1 t 0) x → ∀ k, k ≤ P.2.1 → LM A τ r p (seenO τ p P.2.1 t k) (zfor (fX9_like_28 (nI p) (nI t)) k x) := fun t ht x hx => zfor_inv (fun k y => LM A τ r p (seenO τ p P.2.1 t k) y) _ P.2.1 x hx (fun k hk y hy => (l28 hI r1 e12 hp ht hk y hy).1)
    have ec : ∀ x : Int32 × Int32 × zc_N, mKp τ x.2.2 → x.2.2 32 11 = nI P.2.1 := fun x hx => by rw [hx.2 11 (by decide)]; exact e11
    have key9 : ∀ t, t ≤ 10 → LM A τ r p (seenO τ p P.2.1 t 0) (zfor (fX9_like_18 (nI p)) t (-4, 0, τ)) := by
      refine zfor_inv (fun t x => LM A τ r p (seenO τ p P.2.1 t 0) x) (fX9_like_18 (nI p)) 10 (-4, 0, τ) ⟨mKp_rf _, Or.inl ⟨rfl, fun o z => ?_⟩⟩ (fun t ht x hx => ?_)
      · obtain ⟨-, u, -, -, z2⟩ := z
        omega
      · rw [f18_like, ec x hx.1, cl_n (by omega)]
        have := in28 t ht x hx P.2.1 (Nat.le_refl _)
        have e : ∀ o, seenO τ p P.2.1 t P.2.1 o ↔ seenO τ p P.2.1 (t + 1) 0 o := fun o => by
          constructor
          · rintro ⟨h1, u, h2, h3, h4⟩; exact ⟨h1, u, h2, h3, by omega⟩
          · rintro ⟨h1, u, h2, h3, h4⟩; exact ⟨h1, u, h2, h3, by omega⟩
        refine ⟨this.1, ?_⟩
        rcases this.2 with ⟨b1, b3⟩ | ⟨S, b1, b2⟩
        · exact Or.inl ⟨b1, fun o z => b3 o ((e o).mpr z)⟩
        · exact Or.inr ⟨S, b1, bl_congr b2 e⟩
    have s9 : sX9_like τ (nI p) = (zfor (fX9_like_18 (nI p)) 10 (-4, 0, τ)).2.2 := if_neg e2'
    have r9 : rX9_like τ (nI p) = (zfor (fX9_like_18 (nI p)) 10 (-4, 0, τ)).1 := if_neg e2'
    have P9 : pX9_like τ (nI p) := by
      refine ⟨fun _ => trivial, fun _ t ht => ?_⟩
      have kt := key9 t (by omega)
      generalize zfor (fX9_like_18 (nI p)) t (-4, 0, τ) = x at kt
      unfold qX9_like_18
      have ex : (x.1, x.2.1, x.2.2) = x := rfl
      rw [ex, ec x kt.1, cl_n (by omega)]
      refine ⟨fun k hk => ?_, fun k hk => (l28 hI r1 e12 hp ht hk _ (in28 t ht x kt k (by omega))).2⟩
      rw [ec _ (in28 t ht x kt k hk).1]
      exact nI_leI (by omega) (by omega)
    rw [s9, r9]
    have k10 := key9 10 (Nat.le_refl _)
    generalize zfor (fX9_like_18 (nI p)) 10 (-4, 0, τ) = y at k10
    obtain ⟨T', G', ω⟩ := y
    obtain ⟨w2, w1⟩ := k10
    dsimp only at w1 w2 ⊢
    refine ⟨P8, P9, ?_, Inv_mKp hI w2⟩
    have e : ∀ o, cand σ p P.2.1 o ↔ seenO τ p P.2.1 10 0 o := fun o => by
      unfold cand seenO
      rw [e42]
      constructor
      · rintro ⟨h1, h2, h3⟩
        rcases (p3 o h1).2.2 with ⟨z1, -⟩ | ⟨t, -, z1, -, z3, -⟩
        · exact absurd z1 h3
        · exact ⟨⟨h1, h2⟩, t, z1, z3, by omega⟩
      · rintro ⟨⟨h1, h2⟩, u, h3, h4, h5⟩
        refine ⟨h1, h2, ?_⟩
        rw [h4]
        exact fun z => absurd ((hI_m1 u).mp (by rw [hI_lt (by omega)]; exact z)) (by omega)
    rcases u1 with ⟨b1, b2, b3⟩ | ⟨S, b1, b2⟩
    · rcases w1 with ⟨d1, d3⟩ | ⟨S', d1, d2⟩
      · rw [b1, d1]
      · obtain ⟨o, u, g1, -⟩ := d2
        exact absurd ((e o).mpr g1) (b3 o)
    · rcases w1 with ⟨d1, d3⟩ | ⟨S', d1, d2⟩
      · obtain ⟨o, u, g1, -⟩ := b2
        exact absurd ((e o).mp g1) (d3 o)
      · refine bl_uni (S' := S') (bl_congr b2 e) ?_
        obtain ⟨o, t, q1, q2, q3, q4, q5, q6⟩ := d2
        rw [e42] at q3
        exact ⟨o, t, q1, q2, q3, q4, q5, fun o' t' z zt ze => q6 o' t' z zt (by rw [e42]; exact ze)⟩
