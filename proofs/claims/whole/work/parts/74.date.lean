/-! ===== the years of a tool's flaws, by the class ===== -/
theorem cnt_ex {f : Nat → Bool} : ∀ (n s : Nat), s < cnt f n → ∃ p, p < n ∧ f p = true ∧ cnt f p = s
  | 0, s, h => absurd h (Nat.not_lt_zero _)
  | n + 1, s, h => by
    have e : cnt f (n + 1) = cnt f n + (f n).toNat := rfl
    by_cases c : s < cnt f n
    · obtain ⟨p, p1, p2⟩ := cnt_ex n s c
      exact ⟨p, by omega, p2⟩
    · cases hf : f n with
      | false => rw [e, hf] at h; exact absurd h c
      | true =>
        rw [e, hf] at h
        have : s < cnt f n + 1 := h
        exact ⟨n, by omega, hf, by omega⟩
theorem hN_top {σ : zc_N} {t L n : Nat} (hL : L < n) : hN σ t L n < n := by
  unfold hN
  generalize hf : (fun p => cdec (σ 42 p = nI t ∧ p ≠ L)) = f
  have fL : f L = false := by rw [← hf]; exact cdec_f (fun z => z.2 rfl)
  obtain ⟨m, rfl⟩ : ∃ m, n = (L + 1) + m := ⟨n - (L + 1), by omega⟩
  rw [cnt_add]
  have e : cnt f (L + 1) = cnt f L + (f L).toNat := rfl
  have h1 := cnt_le f L
  have h2 := cnt_le (fun i => f (L + 1 + i)) m
  rw [fL] at e
  have e : cnt f (L + 1) = cnt f L := e
  omega
def nwS (σ : zc_N) (t : Int32) (n : Nat) (o : Option Nat) : Prop := (o = none ∧ ∀ k, k < n → σ (pO k) 3 ≠ t) ∨ ∃ j, o = some j ∧ j < n ∧ σ (pO j) 3 = t ∧ ∀ k, k < n → σ (pO k) 3 = t → σ (pO k) 4 ≤ σ (pO j) 4
theorem nwf_s (σ : zc_N) (t : Int32) (n : Nat) : nwS σ t n (zfor (nwf σ t) n none) := by
  refine zfor_inv (nwS σ t) (nwf σ t) n none (Or.inl ⟨rfl, fun k hk => absurd hk (by omega)⟩) (fun i hi x hx => ?_) n (Nat.le_refl _)
  unfold nwf
  by_cases c : σ (pO i) 3 = t
  · rw [if_pos c]
    rcases hx with ⟨rfl, h⟩ | ⟨j, rfl, h1, h2, h3⟩
    · refine Or.inr ⟨i, rfl, by omega, c, fun k hk e => ?_⟩
      by_cases ek : k = i
      · rw [ek]; exact Int32.le_refl _
      · exact absurd e (h k (by omega))
    · show nwS σ t (i + 1) (if σ (pO i) 4 ≤ σ (pO j) 4 then some j else some i)
      by_cases d : σ (pO i) 4 ≤ σ (pO j) 4
      · rw [if_pos d]
        refine Or.inr ⟨j, rfl, by omega, h2, fun k hk e => ?_⟩
        by_cases ek : k = i
        · rw [ek]; exact d
        · exact h3 k (by omega) e
      · rw [if_neg d]
        refine Or.inr ⟨i, rfl, by omega, c, fun k hk e => ?_⟩
        by_cases ek : k = i
        · rw [ek]; exact Int32.le_refl _
        · exact Int32.le_trans (h3 k (by omega) e) (Int32.le_of_lt (Int32.not_le.mp d))
  · rw [if_neg c]
    rcases hx with ⟨rfl, h⟩ | ⟨j, rfl, h1, h2, h3⟩
    · refine Or.inl ⟨rfl, fun k hk => ?_⟩
      by_cases ek : k = i
      · rw [ek]; exact c
      · exact h k (by omega)
    · refine Or.inr ⟨j, rfl, by omega, h2, fun k hk e => ?_⟩
      by_cases ek : k = i
      · rw [ek] at e; exact absurd e c
      · exact h3 k (by omega) e
theorem mnS_add {V : Int → Prop} {x z : Int} (h : mnS V x) : mnS (fun y => V y ∨ y = z) (if z < x then z else x) := by
  by_cases c : z < x
  · rw [if_pos c]
    refine ⟨Or.inr rfl, fun y hy => ?_⟩
    rcases hy with hy | hy
    · have := h.2 y hy; omega
    · omega
  · rw [if_neg c]
    refine ⟨Or.inl h.1, fun y hy => ?_⟩
    rcases hy with hy | hy
    · exact h.2 y hy
    · omega
theorem mnS_congr {V W : Int → Prop} {x : Int} (h : mnS V x) (e : ∀ y, V y ↔ W y) : mnS W x := ⟨(e x).mp h.1, fun y z => h.2 y ((e y).mpr z)⟩
/-- the slots below s that show i after x -/
def Ws (Y : Nat → Int) (M : Nat → Nat → Bool) (i : Nat) (x : Int) (s : Nat) (y : Int) : Prop := y = 10000 ∨ ∃ k, k < s ∧ M k i = true ∧ y = Y k ∧ x < y
theorem date_i {σ : zc_N} {N i : Nat} {Y : Nat → Int} {M : Nat → Nat → Bool} {x : Int} (hN : N ≤ 24) (hi : i < 12) (hY : ∀ s, s < N → σ 29 s = zI (Y s) ∧ 0 ≤ Y s ∧ Y s ≤ 9999) (hM : ∀ s, s < N → σ 30 s = nI (msk (M s))) (hx : σ 31 i = zI x) (hb : -1 ≤ x ∧ x ≤ 9999) (τ : zc_N) (ho : off [28] σ τ) :
    ∀ s, s ≤ N → (∃ z, 0 ≤ z ∧ z ≤ 10000 ∧ zfor (fX2_dateFlaws_19 (nI i)) s (zu τ 28 (zu (τ 28) i 10000)) 28 = zu (τ 28) i (zI z) ∧ mnS (Ws Y M i x s) z) ∧ off [28] σ (zfor (fX2_dateFlaws_19 (nI i)) s (zu τ 28 (zu (τ 28) i 10000))) := by
  refine zfor_inv (fun s (ω : zc_N) => (∃ z, 0 ≤ z ∧ z ≤ 10000 ∧ ω 28 = zu (τ 28) i (zI z) ∧ mnS (Ws Y M i x s) z) ∧ off [28] σ ω) (fX2_dateFlaws_19 (nI i)) N _ ⟨⟨10000, by omega, by omega, by rw [zu_self]; rfl, Or.inl rfl, fun y hy => ?_⟩, off_zu ho (by simp) _⟩ (fun s hs ω h => ?_)
  · rcases hy with hy | ⟨k, hk, -⟩
    · omega
    · omega
  · obtain ⟨⟨z, z1, z2, z3, z4⟩, h2⟩ := h
    have e30 : ω 30 s = nI (msk (M s)) := by rw [h2 30 (by decide)]; exact hM s hs
    have e29 : ω 29 s = zI (Y s) := by rw [h2 29 (by decide)]; exact (hY s hs).1
    have e31 : ω 31 i = zI x := by rw [h2 31 (by decide)]; exact hx
    have e28 : ω 28 i = zI z := by rw [z3, zu_self]
    have yb := (hY s hs).2
    have le := zle (a := Y s) (b := x) (by omega) (by omega)
    have lt := zlt (a := Y s) (b := z) (by omega) (by omega)
    have up : ∀ y, Ws Y M i x s y → Ws Y M i x (s + 1) y := fun y hy => hy.imp id (fun ⟨k, k1, k2⟩ => ⟨k, by omega, k2⟩)
    have dn : ∀ y, ¬ (M s i = true ∧ x < Y s) → Ws Y M i x (s + 1) y → Ws Y M i x s y := fun y no hy => hy.imp id (fun ⟨k, k1, k2, k3, k4⟩ => ⟨k, by
      by_cases ek : k = s
      · rw [ek] at k2 k3; exact absurd ⟨k2, by omega⟩ no
      · omega, k2, k3, k4⟩)
    unfold fX2_dateFlaws_19
    rw [cl_n (a := s) (by omega), cl_n (a := i) (by omega), e30, e29, e31, e28, bit_n (Nat.lt_of_lt_of_le (msk_lt (M s)) (by decide)) (by omega), msk_bit, decide_eq_true hi, Bool.true_and]
    cases hK : M s i with
    | false =>
      rw [if_pos (show b2 false = 0 from rfl)]
      have no : ¬ (M s i = true ∧ x < Y s) := fun g => by rw [hK] at g; cases g.1
      exact ⟨⟨z, z1, z2, z3, mnS_congr z4 (fun y => ⟨up y, dn y no⟩)⟩, h2⟩
    | true =>
      rw [if_neg (show ¬ b2 true = 0 by decide)]
      by_cases c : Y s ≤ x
      · rw [if_pos (le.mpr c)]
        exact ⟨⟨z, z1, z2, z3, mnS_congr z4 (fun y => ⟨up y, dn y (fun g => by omega)⟩)⟩, h2⟩
      · rw [if_neg (fun g => c (le.mp g))]
        refine ⟨⟨if Y s < z then Y s else z, ?_, ?_, ?_, mnS_congr (mnS_add z4 (z := Y s)) (fun y => ⟨fun g => ?_, fun g => ?_⟩)⟩, off_zu h2 (by simp) _⟩
        · split <;> omega
        · split <;> omega
        · rw [zu_self, z3]
          have : (if zI (Y s) < zI z then zI (Y s) else zI z) = zI (if Y s < z then Y s else z) := by
            by_cases d : Y s < z
            · rw [if_pos (lt.mpr d), if_pos d]
            · rw [if_neg (fun g => d (lt.mp g)), if_neg d]
          rw [this]
          funext m
          by_cases em : m = i
          · rw [em, zu_self, zu_self]
          · rw [zu_ne _ _ em, zu_ne _ _ em, zu_ne _ _ em]
        · rcases g with g | g
          · exact up y g
          · exact Or.inr ⟨s, by omega, hK, g, by omega⟩
        · rcases g with g | ⟨k, k1, k2, k3, k4⟩
          · exact Or.inl (Or.inl g)
          · by_cases ek : k = s
            · rw [ek] at k3; exact Or.inr k3
            · exact Or.inl (Or.inr ⟨k, by omega, k2, k3, k4⟩)
theorem date_c {σ : zc_N} {N : Nat} {Y : Nat → Int} {M : Nat → Nat → Bool} {x : Nat → Int} (hN : N ≤ 24) (h2 : σ 27 2 = nI N) (hY : ∀ s, s < N → σ 29 s = zI (Y s) ∧ 0 ≤ Y s ∧ Y s ≤ 9999) (hM : ∀ s, s < N → σ 30 s = nI (msk (M s))) (hx : ∀ i, i < 12 → σ 31 i = zI (x i) ∧ -1 ≤ x i ∧ x i ≤ 9999) :
    pX2_dateFlaws σ ∧ (∀ i, i < 12 → ∃ z, sX2_dateFlaws σ 28 i = zI z ∧ mnS (Ws Y M i (x i) N) z) ∧ off [28] σ (sX2_dateFlaws σ) := by
  unfold pX2_dateFlaws sX2_dateFlaws
  have key := zfor_inv (fun k (τ : zc_N) => (∀ i, i < k → ∃ z, τ 28 i = zI z ∧ mnS (Ws Y M i (x i) N) z) ∧ off [28] σ τ) fX2_dateFlaws_2 12 σ ⟨fun i hi => absurd hi (by omega), off_rf _ _⟩ (fun k hk τ h => by
    obtain ⟨h1, ho⟩ := h
    have e27 : zu τ 28 (zu (τ 28) k 10000) 27 2 = nI N := by rw [zu_ne _ _ (by decide), ho 27 (by decide)]; exact h2
    obtain ⟨⟨z, z1, z2, z3, z4⟩, o⟩ := date_i hN hk hY hM (hx k hk).1 (hx k hk).2 τ ho N (Nat.le_refl _)
    unfold fX2_dateFlaws_2 vX2_dateFlaws_2
    rw [cl_n (a := k) (by omega), e27, cl_n (a := N) (by omega)]
    refine ⟨fun i hi => ?_, o⟩
    rw [z3]
    by_cases e : i = k
    · rw [e, zu_self]; exact ⟨z, rfl, z4⟩
    · rw [zu_ne _ _ e]; exact h1 i (by omega))
  refine ⟨fun k hk => ?_, (key 12 (Nat.le_refl _)).1, (key 12 (Nat.le_refl _)).2⟩
  have ho := (key k (by omega)).2
  generalize zfor fX2_dateFlaws_2 k σ = τ at ho
  have e27 : zu τ 28 (zu (τ 28) k 10000) 27 2 = nI N := by rw [zu_ne _ _ (by decide), ho 27 (by decide)]; exact h2
  have di := date_i hN hk hY hM (hx k hk).1 (hx k hk).2 τ ho
  unfold qX2_dateFlaws_2
  rw [cl_n (a := k) (by omega), e27, cl_n (a := N) (by omega)]
  have vk : vp_in (nI k) 12 := vp_in_nI hk (by decide)
  refine ⟨fun s hs => ?_, fun s hs => ?_⟩
  · rw [(di s hs).2 27 (by decide), h2]
    exact nI_leI (by omega) (by omega)
  · have vs : vp_in (nI s) 24 := vp_in_nI (by omega) (by decide)
    exact ⟨vs, fun _ => trivial, fun _ => ⟨vs, vk, fun _ => trivial, fun _ => ⟨vk, vs, vk⟩⟩⟩
