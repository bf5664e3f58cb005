/-! ===== the flaws of a tool, by the reference ===== -/
def oI (o : Option Nat) : Int32 := match o with
  | none => -1
  | some j => nI j
theorem f7_m (σ : zc_N) (t u : Int32) {i : Nat} (hi : i < 24) : fX9_findFlaws_7 t i (zu σ 32 (zu (σ 32) 34 u)) = zu σ 32 (zu (σ 32) 34 (if σ 42 i = t then (if u < 0 then nI i else if σ 43 i ≤ σ 43 u.toNatClampNeg then u else nI i) else u)) := by
  have e42 : zu σ 32 (zu (σ 32) 34 u) 42 = σ 42 := zu_ne _ _ (by decide)
  have e43 : zu σ 32 (zu (σ 32) 34 u) 43 = σ 43 := zu_ne _ _ (by decide)
  have e32 : zu σ 32 (zu (σ 32) 34 u) 32 = zu (σ 32) 34 u := zu_self _ _ _
  have e34 : zu (σ 32) 34 u 34 = u := zu_self _ _ _
  unfold fX9_findFlaws_7
  rw [cl_n (a := i) (by omega), e42, e43, e32, e34, zu_zu, zu_zu]
theorem latest_m {P : zp} {A : gA} {σ : zc_N} (h : iP P A σ) (t : Int32) : ∀ n, n ≤ P.2.1 → zfor (fX9_findFlaws_7 t) n (zu σ 32 (zu (σ 32) 34 (-1))) = zu σ 32 (zu (σ 32) 34 (oI (zfor (nwf σ t) n none))) ∧ ∀ j, zfor (nwf σ t) n none = some j → j < n := by
  obtain ⟨hn, h3, h11, p2, p3⟩ := iPp h
  refine zfor_sim (fun n (x : zc_N) (y : Option Nat) => x = zu σ 32 (zu (σ 32) 34 (oI y)) ∧ ∀ j, y = some j → j < n) (fX9_findFlaws_7 t) (nwf σ t) P.2.1 _ none ⟨rfl, fun j z => by cases z⟩ (fun i hi x y hx => ?_)
  obtain ⟨hx, hy⟩ := hx
  rw [hx, f7_m σ t (oI y) (by omega)]
  unfold nwf
  rw [(p3 i hi).1]
  by_cases c : σ 42 i = t
  · rw [if_pos c, if_pos c]
    cases y with
    | none => exact ⟨rfl, fun j z => by cases z; omega⟩
    | some j =>
      have hj := hy j rfl
      show zu σ 32 (zu (σ 32) 34 (if nI j < 0 then nI i else if σ 43 i ≤ σ 43 (nI j).toNatClampNeg then nI j else nI i)) = zu σ 32 (zu (σ 32) 34 (oI (if σ (pO i) 4 ≤ σ (pO j) 4 then some j else some i))) ∧ ∀ j', (if σ (pO i) 4 ≤ σ (pO j) 4 then some j else some i) = some j' → j' < i + 1
      rw [if_neg (nI_pos (by omega)), cl_n (a := j) (by omega), (p3 i hi).2.1, (p3 j (by omega)).2.1]
      by_cases d : σ 43 i ≤ σ 43 j
      · rw [if_pos d, if_pos d]
        exact ⟨rfl, fun j' z => by cases z; omega⟩
      · rw [if_neg d, if_neg d]
        exact ⟨rfl, fun j' z => by cases z; omega⟩
  · rw [if_neg c, if_neg c]
    exact ⟨rfl, fun j z => by have := hy j z; omega⟩
theorem hs_lks {A : gA} {r L k i : Nat} (h : lks A r L k i = true) : hs A r L k i = false := by
  unfold lks at h
  unfold hs
  cases c : decide (chH (mayB A r L k (bQ A r L k) (bX A r L k) (bY A r L k)) (aN A L) i < 12)
  · exact Bool.and_false _
  · rw [c] at h
    simp at h
theorem vd_0 (A : gA) (r L k i : Nat) : vd A r L k i = 0 ↔ lks A r L k i = true := by
  unfold vd
  by_cases c : lks A r L k i = true
  · rw [hs_lks c, if_neg (show ¬ false = true by decide), if_pos c]
    exact ⟨fun _ => c, fun _ => rfl⟩
  · rw [if_neg c]
    refine ⟨fun z => ?_, fun z => absurd z c⟩
    by_cases d : hs A r L k i = true
    · rw [if_pos d] at z; cases z
    · rw [if_neg d] at z; cases z
theorem vd_1 (A : gA) (r L k i : Nat) : vd A r L k i = 1 ↔ hs A r L k i = true := by
  unfold vd
  by_cases d : hs A r L k i = true
  · rw [if_pos d]
    exact ⟨fun _ => d, fun _ => rfl⟩
  · rw [if_neg d]
    refine ⟨fun z => ?_, fun z => absurd z d⟩
    by_cases c : lks A r L k i = true
    · rw [if_pos c] at z; cases z
    · rw [if_neg c] at z; cases z
theorem Vl_no {A : gA} {σ : zc_N} {r t L k i : Nat} (h : ¬ (σ 42 k = nI t ∧ k ≠ L ∧ lks A r L k i = true)) (y : Int) : Vl A σ r t L k i y ↔ Vl A σ r t L (k + 1) i y := by
  constructor
  · rintro ⟨q, q1, q2⟩; exact ⟨q, by omega, q2⟩
  · rintro ⟨q, q1, q2, q3, q4, q5⟩
    refine ⟨q, ?_, q2, q3, q4, q5⟩
    by_cases eq : q = k
    · rw [eq] at q2 q3 q4; exact absurd ⟨q2, q3, q4⟩ h
    · omega
theorem Vl_yes {A : gA} {σ : zc_N} {r t L k i : Nat} {z : Int} (h1 : σ 42 k = nI t) (h2 : k ≠ L) (h3 : lks A r L k i = true) (h4 : σ 43 k = zI z) (hz : 0 ≤ z ∧ z ≤ 9999) (y : Int) : (Vl A σ r t L k i y ∨ y = z) ↔ Vl A σ r t L (k + 1) i y := by
  constructor
  · rintro (⟨q, q1, q2⟩ | z2)
    · exact ⟨q, by omega, q2⟩
    · exact ⟨k, by omega, h1, h2, h3, by rw [z2]; exact h4, by omega, by omega⟩
  · rintro ⟨q, q1, q2, q3, q4, q5, q6⟩
    by_cases eq : q = k
    · right
      rw [eq, h4] at q5
      exact ((zeq (by omega) (by omega)).mp q5).symm
    · exact Or.inl ⟨q, by omega, q2, q3, q4, q5, q6⟩
theorem Vc_no {A : gA} {σ : zc_N} {r t L k i : Nat} {x z : Int} (h4 : σ 42 k = nI t → σ 43 k = zI z) (hz : σ 42 k = nI t → 0 ≤ z ∧ z ≤ 9999) (h : ¬ (σ 42 k = nI t ∧ k ≠ L ∧ hs A r L k i = true ∧ x < z)) (y : Int) : Vc A σ r t L k i x y ↔ Vc A σ r t L (k + 1) i x y := by
  constructor
  · rintro (q | ⟨q, q1, q2⟩)
    · exact Or.inl q
    · exact Or.inr ⟨q, by omega, q2⟩
  · rintro (q | ⟨q, q1, q2, q3, q4, q5, q6, q7, q8⟩)
    · exact Or.inl q
    · refine Or.inr ⟨q, ?_, q2, q3, q4, q5, q6, q7, q8⟩
      by_cases eq : q = k
      · rw [eq] at q2 q3 q4 q5
        have hz := hz q2
        rw [h4 q2] at q5
        have := (zeq (by omega) (by omega)).mp q5
        exact absurd ⟨q2, q3, q4, by omega⟩ h
      · omega
theorem Vc_yes {A : gA} {σ : zc_N} {r t L k i : Nat} {x z : Int} (h1 : σ 42 k = nI t) (h2 : k ≠ L) (h3 : hs A r L k i = true) (h4 : σ 43 k = zI z) (hz : 0 ≤ z ∧ z ≤ 9999) (hx : x < z) (y : Int) : (Vc A σ r t L k i x y ∨ y = z) ↔ Vc A σ r t L (k + 1) i x y := by
  constructor
  · rintro ((q | ⟨q, q1, q2⟩) | z2)
    · exact Or.inl q
    · exact Or.inr ⟨q, by omega, q2⟩
    · exact Or.inr ⟨k, by omega, h1, h2, h3, by rw [z2]; exact h4, by omega, by omega, by omega⟩
  · rintro (q | ⟨q, q1, q2, q3, q4, q5, q6, q7, q8⟩)
    · exact Or.inl (Or.inl q)
    · by_cases eq : q = k
      · right
        rw [eq, h4] at q5
        exact ((zeq (by omega) (by omega)).mp q5).symm
      · exact Or.inl (Or.inr ⟨q, by omega, q2, q3, q4, q5, q6, q7, q8⟩)
theorem Vc_b {A : gA} {σ : zc_N} {r t L n i : Nat} {x y : Int} (h : Vc A σ r t L n i x y) : 0 ≤ y ∧ y ≤ 9999 := by
  rcases h with ⟨-, h1, h2⟩ | ⟨k, -, -, -, -, -, h1, h2, -⟩ <;> omega
/-- the verdicts stand -/
def VD (P : zp) (A : gA) (σ : zc_N) (r t L : Nat) (τ : zc_N) : Prop := τ 42 = σ 42 ∧ τ 43 = σ 43 ∧ τ 32 34 = nI L ∧ ∀ p, p < P.2.1 → σ 42 p = nI t → p ≠ L → ∀ i, i < aN A L → τ 56 (12 * p + i) = vd A r L p i
theorem in132 {P : zp} {A : gA} {σ τ : zc_N} {r t L i : Nat} (h : iP P A σ) (ht : t < 10) (hL : L < P.2.1) (hv : VD P A σ r t L τ) (hi : i < aN A L) (h12 : i < 12) : (∀ k, k ≤ P.2.1 → ∃ x, zfor (fX9_findFlaws_132 τ (nI t) (nI i)) k (-1) = zI x ∧ mxS (Vl A σ r t L k i) x) ∧ ∀ k, k < P.2.1 → ∀ v, qX9_findFlaws_132 τ (nI t) (nI i) k v := by
  obtain ⟨hn, h3, h11, p2, p3⟩ := iPp h
  obtain ⟨e42, e43, e34, e56⟩ := hv
  refine ⟨?_, fun k hk v => ?_⟩
  · refine zfor_inv (fun k v => ∃ x, v = zI x ∧ mxS (Vl A σ r t L k i) x) (fX9_findFlaws_132 τ (nI t) (nI i)) P.2.1 (-1) ⟨-1, by decide, Or.inl ⟨rfl, fun y ⟨k, hk, _⟩ => absurd hk (by omega)⟩⟩ (fun k hk v hv => ?_)
    obtain ⟨x, rfl, hx⟩ := hv
    unfold fX9_findFlaws_132 vX9_findFlaws_2
    rw [cl_n (a := k) (by omega), (a12 (show k < 24 by omega) h12).1, e42, e43, e34]
    by_cases c1 : σ 42 k = nI t
    · rw [if_pos c1]
      by_cases c2 : k = L
      · rw [if_pos (show nI k = nI L by rw [c2]), if_pos rfl]
        exact ⟨x, rfl, mxS_congr hx (Vl_no (fun z => z.2.1 c2))⟩
      · rw [if_neg (ne_of_nI (by omega) (by omega) c2), e56 k hk c1 c2 i hi]
        by_cases c3 : lks A r L k i = true
        · obtain ⟨y, y1, y2, y3⟩ := yrP h hk c1 ht
          have xb := Vl_b hx
          have le := zle (a := (y : Int)) (b := x) (by omega) (by omega)
          rw [if_pos ((vd_0 A r L k i).mpr c3), if_neg n10, y3]
          refine ⟨if x < (y : Int) then (y : Int) else x, ?_, mxS_congr (mxS_add hx (z := y) (by omega)) (Vl_yes c1 c2 c3 y3 (by omega))⟩
          by_cases d : (y : Int) ≤ x
          · rw [if_pos (le.mpr d), if_neg (show ¬ x < (y : Int) by omega)]
          · rw [if_neg (fun z => d (le.mp z)), if_pos (show x < (y : Int) by omega)]
        · rw [if_neg (fun z => c3 ((vd_0 A r L k i).mp z)), if_pos rfl]
          exact ⟨x, rfl, mxS_congr hx (Vl_no (fun z => c3 z.2.2))⟩
    · rw [if_neg c1, if_pos rfl]
      exact ⟨x, rfl, mxS_congr hx (Vl_no (fun z => c1 z.1))⟩
  · have vk : vp_in (nI k) 24 := vp_in_nI (by omega) (by decide)
    have v12 := (a12 (show k < 24 by omega) h12).2
    exact ⟨vk, ⟨fun _ => ⟨fun _ => trivial, fun _ => v12⟩, fun _ => trivial⟩, fun _ => trivial, fun _ => ⟨vk, fun _ => trivial, fun _ => vk⟩⟩
theorem in231 {P : zp} {A : gA} {σ τ : zc_N} {r t L i : Nat} {x : Int} (h : iP P A σ) (ht : t < 10) (hL : L < P.2.1) (tL : σ 42 L = nI t) (hv : VD P A σ r t L τ) (hi : i < aN A L) (h12 : i < 12) (hx : -1 ≤ x ∧ x ≤ 9999) : (∀ k, k ≤ P.2.1 → ∃ z, zfor (fX9_findFlaws_231 τ (nI t) (nI i) (zI x)) k (τ 43 L) = zI z ∧ mnS (Vc A σ r t L k i x) z) ∧ ∀ k, k < P.2.1 → ∀ v w, qX9_findFlaws_231 τ (nI t) (nI i) w k v := by
  obtain ⟨hn, h3, h11, p2, p3⟩ := iPp h
  obtain ⟨e42, e43, e34, e56⟩ := hv
  refine ⟨?_, fun k hk v w => ?_⟩
  · obtain ⟨yL, u1, u2, u3⟩ := yrP h hL tL ht
    refine zfor_inv (fun k v => ∃ z, v = zI z ∧ mnS (Vc A σ r t L k i x) z) (fX9_findFlaws_231 τ (nI t) (nI i) (zI x)) P.2.1 (τ 43 L) ⟨yL, by rw [e43]; exact u3, Or.inl ⟨u3, by omega, by omega⟩, fun y hy => ?_⟩ (fun k hk v hv => ?_)
    · rcases hy with ⟨q1, q2, q3⟩ | ⟨k, hk, _⟩
      · rw [u3] at q1
        have := (zeq (by omega) (by omega)).mp q1
        omega
      · omega
    · obtain ⟨z, rfl, hz⟩ := hv
      unfold fX9_findFlaws_231 vX9_findFlaws_1
      rw [cl_n (a := k) (by omega), (a12 (show k < 24 by omega) h12).1, e42, e43, e34]
      have hyk : ∃ y : Int, (σ 42 k = nI t → σ 43 k = zI y) ∧ (σ 42 k = nI t → 0 ≤ y ∧ y ≤ 9999) := by
        by_cases c1 : σ 42 k = nI t
        · obtain ⟨y, y1, y2, y3⟩ := yrP h hk c1 ht
          exact ⟨y, fun _ => y3, fun _ => by omega⟩
        · exact ⟨0, fun w => absurd w c1, fun w => absurd w c1⟩
      obtain ⟨y, y3, yb⟩ := hyk
      by_cases c1 : σ 42 k = nI t
      · rw [if_pos c1]
        by_cases c2 : k = L
        · rw [if_pos (show nI k = nI L by rw [c2]), if_pos rfl]
          exact ⟨z, rfl, mnS_congr hz (Vc_no y3 yb (fun w => w.2.1 c2))⟩
        · rw [if_neg (ne_of_nI (by omega) (by omega) c2), e56 k hk c1 c2 i hi]
          by_cases c3 : hs A r L k i = true
          · have yb' := yb c1
            have zb' := Vc_b hz.1
            have le := zle (a := y) (b := x) (by omega) (by omega)
            have le2 := zle (a := z) (b := y) (by omega) (by omega)
            rw [if_pos ((vd_1 A r L k i).mpr c3), if_neg n10, y3 c1]
            by_cases d : y ≤ x
            · rw [if_pos (le.mpr d)]
              exact ⟨z, rfl, mnS_congr hz (Vc_no y3 yb (fun w => by have := w.2.2.2; omega))⟩
            · rw [if_neg (fun w => d (le.mp w))]
              refine ⟨if y < z then y else z, ?_, mnS_congr (mnS_add hz (z := y)) (Vc_yes c1 c2 c3 (y3 c1) yb' (by omega))⟩
              by_cases d2 : z ≤ y
              · rw [if_pos (le2.mpr d2), if_neg (show ¬ y < z by omega)]
              · rw [if_neg (fun w => d2 (le2.mp w)), if_pos (show y < z by omega)]
          · rw [if_neg (fun w => c3 ((vd_1 A r L k i).mp w)), if_pos rfl]
            exact ⟨z, rfl, mnS_congr hz (Vc_no y3 yb (fun w => c3 w.2.2.1))⟩
      · rw [if_neg c1, if_pos rfl]
        exact ⟨z, rfl, mnS_congr hz (Vc_no y3 yb (fun w => c1 w.1))⟩
  · have vk : vp_in (nI k) 24 := vp_in_nI (by omega) (by decide)
    have v12 := (a12 (show k < 24 by omega) h12).2
    exact ⟨vk, ⟨fun _ => ⟨fun _ => trivial, fun _ => v12⟩, fun _ => trivial⟩, fun _ => trivial, fun _ => ⟨vk, fun _ => trivial, fun _ => ⟨vk, fun _ => trivial, fun _ => vk⟩⟩⟩
