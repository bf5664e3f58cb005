/-! ===== pure rows: the search for pairs ===== -/
abbrev sS : Type := (Nat → Bool) × (Nat → Nat)
def lpf (M : Nat → Nat → Bool) (i : Nat) (g : Nat → sS → Bool × sS) (j : Nat) (x : Bool × sS) : Bool × sS :=
  if x.1 then x else if M i j && x.2.1 j then
    (if 12 ≤ x.2.2 j then (true, cut x.2.1 j, zu x.2.2 j i)
     else if (g (x.2.2 j) (cut x.2.1 j, x.2.2)).1 then (true, (g (x.2.2 j) (cut x.2.1 j, x.2.2)).2.1, zu (g (x.2.2 j) (cut x.2.1 j, x.2.2)).2.2 j i) else (false, (g (x.2.2 j) (cut x.2.1 j, x.2.2)).2))
  else x
def fd (M : Nat → Nat → Bool) : Nat → Nat → sS → Bool × sS
  | 0, _, s => (false, s)
  | d + 1, i, s => zfor (lpf M i (fd M d)) 12 (false, s)
theorem lpf_done {M : Nat → Nat → Bool} {i : Nat} {g : Nat → sS → Bool × sS} {j : Nat} {x : Bool × sS} (h : x.1 = true) : lpf M i g j x = x := by unfold lpf; rw [if_pos h]
theorem lpf_shut {M : Nat → Nat → Bool} {i : Nat} {g : Nat → sS → Bool × sS} {j : Nat} {x : Bool × sS} (h : (M i j && x.2.1 j) = false) : lpf M i g j x = x := by
  unfold lpf
  by_cases c : x.1 = true
  · rw [if_pos c]
  · rw [if_neg c, h]; rfl
theorem lpf_free {M : Nat → Nat → Bool} {i : Nat} {g : Nat → sS → Bool × sS} {j : Nat} {x : Bool × sS} (h0 : x.1 = false) (h : (M i j && x.2.1 j) = true) (hh : 12 ≤ x.2.2 j) : lpf M i g j x = (true, cut x.2.1 j, zu x.2.2 j i) := by
  unfold lpf
  rw [if_neg (by rw [h0]; exact Bool.false_ne_true), if_pos h, if_pos hh]
theorem lpf_go {M : Nat → Nat → Bool} {i : Nat} {g : Nat → sS → Bool × sS} {j : Nat} {x : Bool × sS} (h0 : x.1 = false) (h : (M i j && x.2.1 j) = true) (hh : ¬ 12 ≤ x.2.2 j) (hg : (g (x.2.2 j) (cut x.2.1 j, x.2.2)).1 = true) : lpf M i g j x = (true, (g (x.2.2 j) (cut x.2.1 j, x.2.2)).2.1, zu (g (x.2.2 j) (cut x.2.1 j, x.2.2)).2.2 j i) := by
  unfold lpf
  rw [if_neg (by rw [h0]; exact Bool.false_ne_true), if_pos h, if_neg hh, if_pos hg]
theorem lpf_no {M : Nat → Nat → Bool} {i : Nat} {g : Nat → sS → Bool × sS} {j : Nat} {x : Bool × sS} (h0 : x.1 = false) (h : (M i j && x.2.1 j) = true) (hh : ¬ 12 ≤ x.2.2 j) (hg : (g (x.2.2 j) (cut x.2.1 j, x.2.2)).1 = false) : lpf M i g j x = (false, (g (x.2.2 j) (cut x.2.1 j, x.2.2)).2) := by
  unfold lpf
  rw [if_neg (by rw [h0]; exact Bool.false_ne_true), if_pos h, if_neg hh, if_neg (by rw [hg]; exact Bool.false_ne_true)]
/-- from a place on nothing more happens -/
theorem lpf_stay {M : Nat → Nat → Bool} {i : Nat} {g : Nat → sS → Bool × sS} {s : Bool × sS} {a : Nat} (x : Bool × sS) (hx : zfor (lpf M i g) a s = x) : ∀ b, a ≤ b → (x.1 = true ∨ ∀ j, a ≤ j → j < b → (M i j && x.2.1 j) = false) → zfor (lpf M i g) b s = x
  | 0, h, _ => by rw [show a = 0 by omega] at hx; exact hx
  | b + 1, h, hs => by
    by_cases e : a = b + 1
    · rw [← e]; exact hx
    · have ih := lpf_stay x hx b (by omega) (hs.imp id (fun q j h1 h2 => q j h1 (by omega)))
      show lpf M i g b (zfor (lpf M i g) b s) = x
      rw [ih]
      rcases hs with h1 | h1
      · exact lpf_done h1
      · exact lpf_shut (h1 b (by omega) (by omega))
/-- what a search keeps: the untried only shrink; failing it leaves the holders; succeeding one more of b is held -/
def fdok (M : Nat → Nat → Bool) (i : Nat) (s : sS) (r : Bool × sS) : Prop :=
  (∀ q, r.2.1 q = true → s.1 q = true) ∧ (r.1 = false → r.2.2 = s.2) ∧ (∀ q, r.2.2 q = s.2 q ∨ r.2.2 q < 12) ∧
  (r.1 = true → (∃ j, j < 12 ∧ M i j = true) ∧ ∃ j0 i0, j0 < 12 ∧ M i0 j0 = true ∧ 12 ≤ s.2 j0 ∧ ∀ q, r.2.2 q < 12 ↔ (s.2 q < 12 ∨ q = j0))
theorem cut_sub {D : Nat → Bool} {k q : Nat} (h : cut D k q = true) : D q = true := by
  unfold cut at h
  exact ((Bool.and_eq_true _ _).mp h).1
theorem fd_okp (M : Nat → Nat → Bool) (d : Nat) (hd : ∀ i s, i < 12 → fdok M i s (fd M d i s)) (i : Nat) (s : sS) (hi : i < 12) : ∀ k, k ≤ 12 → fdok M i s (zfor (lpf M i (fd M d)) k (false, s)) := by
  refine zfor_inv (fun _ x => fdok M i s x) (lpf M i (fd M d)) 12 (false, s) ⟨fun _ h => h, fun _ => rfl, fun _ => Or.inl rfl, fun h => by cases h⟩ (fun j hj x hx => ?_)
  obtain ⟨h1, h2, h3, h4⟩ := hx
  by_cases c0 : x.1 = true
  · rw [lpf_done c0]; exact ⟨h1, h2, h3, h4⟩
  · have c0 : x.1 = false := by cases hx : x.1; rfl; exact absurd hx c0
    have e := h2 c0
    by_cases c1 : (M i j && x.2.1 j) = true
    · have hM : M i j = true := ((Bool.and_eq_true _ _).mp c1).1
      by_cases c2 : 12 ≤ x.2.2 j
      · rw [lpf_free c0 c1 c2]
        refine ⟨fun q hq => h1 q (cut_sub hq), (by intro h; cases h), fun q => ?_, fun _ => ⟨⟨j, hj, hM⟩, j, i, hj, hM, by rw [← e]; exact c2, fun q => ?_⟩⟩
        · dsimp only
          rw [e]
          by_cases hq : q = j
          · subst hq; rw [zu_self]; exact Or.inr hi
          · rw [zu_ne _ _ hq]; exact Or.inl rfl
        · dsimp only
          rw [e]
          by_cases hq : q = j
          · subst hq; rw [zu_self]; exact ⟨fun _ => Or.inr rfl, fun _ => hi⟩
          · rw [zu_ne _ _ hq]; exact ⟨Or.inl, fun g => g.resolve_right hq⟩
      · have hlt : x.2.2 j < 12 := by omega
        obtain ⟨k1, k2, k3, k4⟩ := hd (x.2.2 j) (cut x.2.1 j, x.2.2) hlt
        by_cases c3 : (fd M d (x.2.2 j) (cut x.2.1 j, x.2.2)).1 = true
        · rw [lpf_go c0 c1 c2 c3]
          obtain ⟨-, j0, i0, l1, l2, l3, l4⟩ := k4 c3
          generalize fd M d (x.2.2 j) (cut x.2.1 j, x.2.2) = r at k1 k2 k3 k4 c3 l4
          dsimp only at k1 k2 k3 k4 c3 l3 l4
          rw [e] at l3 l4 k3
          have hjj : j ≠ j0 := fun q => by rw [e] at hlt; rw [← q] at l3; omega
          refine ⟨fun q hq => h1 q (cut_sub (k1 q hq)), (by intro h; cases h), fun q => ?_, fun _ => ⟨⟨j, hj, hM⟩, j0, i0, l1, l2, l3, fun q => ?_⟩⟩
          · dsimp only
            by_cases hq : q = j
            · subst hq; rw [zu_self]; exact Or.inr hi
            · rw [zu_ne _ _ hq]; exact k3 q
          · dsimp only
            by_cases hq : q = j
            · subst hq; rw [zu_self]; rw [e] at hlt; exact ⟨fun _ => Or.inl hlt, fun _ => hi⟩
            · rw [zu_ne _ _ hq]; exact l4 q
        · have c3 : (fd M d (x.2.2 j) (cut x.2.1 j, x.2.2)).1 = false := by cases hq : (fd M d (x.2.2 j) (cut x.2.1 j, x.2.2)).1; rfl; exact absurd hq c3
          rw [lpf_no c0 c1 c2 c3]
          refine ⟨fun q hq => h1 q (cut_sub (k1 q hq)), fun _ => (k2 c3).trans e, fun q => ?_, (by intro h; cases h)⟩
          left
          rw [k2 c3, e]
    · have c1 : (M i j && x.2.1 j) = false := by cases hx : (M i j && x.2.1 j); rfl; exact absurd hx c1
      rw [lpf_shut c1]; exact ⟨h1, h2, h3, h4⟩
theorem fd_ok (M : Nat → Nat → Bool) : ∀ d i s, i < 12 → fdok M i s (fd M d i s)
  | 0, i, s, _ => ⟨fun _ h => h, fun _ => rfl, fun _ => Or.inl rfl, fun h => by cases h⟩
  | d + 1, i, s, hi => fd_okp M d (fd_ok M d) i s hi 12 (Nat.le_refl _)
/-- the most pairs -/
def mstf (M : Nat → Nat → Bool) (F : Nat → Bool) (first : Nat) (t : Nat) (x : Nat × (Nat → Nat)) : Nat × (Nat → Nat) := (x.1 + (fd M 14 (first + t) (F, x.2)).1.toNat, (fd M 14 (first + t) (F, x.2)).2.2)
def mst (M : Nat → Nat → Bool) (first size : Nat) (F : Nat → Bool) : Nat := (zfor (mstf M F first) (size - first) (0, fun _ => 99)).1
theorem mst_le (M : Nat → Nat → Bool) (first size : Nat) (F : Nat → Bool) : mst M first size F ≤ size - first := by
  refine zfor_inv (fun i (x : Nat × (Nat → Nat)) => x.1 ≤ i) (mstf M F first) (size - first) (0, fun _ => 99) (Nat.le_refl 0) (fun i hi x hx => ?_) _ (Nat.le_refl _)
  have := tb_toNat (fd M 14 (first + i) (F, x.2)).1
  show x.1 + (fd M 14 (first + i) (F, x.2)).1.toNat ≤ i + 1
  omega
theorem cnt_one {f g : Nat → Bool} {j0 : Nat} : ∀ n, j0 < n → f j0 = false → (∀ q, q < n → g q = (f q || decide (q = j0))) → cnt g n = cnt f n + 1
  | 0, h, _, _ => by omega
  | n + 1, h, h0, hg => by
    show cnt g n + (g n).toNat = cnt f n + (f n).toNat + 1
    by_cases e : j0 = n
    · subst e
      rw [cnt_congr (f := g) (g := f) j0 (fun i hi => by rw [hg i (by omega)]; simp [Nat.ne_of_lt hi]), hg j0 (Nat.lt_succ_self _), h0]
      simp
    · have := cnt_one n (by omega) h0 (fun q hq => hg q (by omega))
      rw [this, hg n (Nat.lt_succ_self n)]
      have : ¬ n = j0 := fun q => e q.symm
      simp [this]
      omega
theorem mst_bound (M : Nat → Nat → Bool) (na : Nat) (hna : na ≤ 12) (F : Nat → Bool) (some_ any_ : Nat → Bool) (h1 : ∀ i, i < na → (∃ j, j < 12 ∧ M i j = true) → some_ i = true) (h2 : ∀ i j, j < 12 → M i j = true → any_ j = true) : mst M 0 na F ≤ cnt some_ na ∧ mst M 0 na F ≤ cnt any_ 12 := by
  have key := zfor_inv (fun i (x : Nat × (Nat → Nat)) => x.1 ≤ cnt some_ i ∧ x.1 = cnt (fun q => decide (x.2 q < 12)) 12 ∧ ∀ q, q < 12 → x.2 q < 12 → any_ q = true) (mstf M F 0) (na - 0) (0, fun _ => 99) ⟨Nat.zero_le _, (cnt_false 12 (fun i _ => by simp)).symm, fun q _ h => absurd h (by simp)⟩ (fun i hi x hx => by
    obtain ⟨k1, k2, k3⟩ := hx
    unfold mstf
    have ok := fd_ok M 14 (0 + i) (F, x.2) (by omega)
    rw [Nat.zero_add] at ok ⊢
    generalize fd M 14 i (F, x.2) = r at ok ⊢
    obtain ⟨o1, o2, o3, o4⟩ := ok
    dsimp only at o1 o2 o3 o4 ⊢
    show _ ≤ cnt some_ i + (some_ i).toNat ∧ _
    cases hr : r.1 with
    | false =>
      rw [o2 hr]
      refine ⟨?_, k2, k3⟩
      have : (false : Bool).toNat = 0 := rfl
      omega
    | true =>
      obtain ⟨e1, j0, i0, l1, l2, l3, l4⟩ := o4 hr
      rw [h1 i (by omega) e1]
      refine ⟨?_, ?_, fun q hq hlt => ?_⟩
      · have : (true : Bool).toNat = 1 := rfl
        omega
      · rw [cnt_one (f := fun q => decide (x.2 q < 12)) (j0 := j0) 12 l1 (by simp; omega) (fun q _ => by
          have := l4 q
          by_cases c : r.2.2 q < 12
          · have := this.mp c
            simp [c, this]
          · have : ¬ (x.2 q < 12 ∨ q = j0) := fun z => c (this.mpr z)
            simp [c]
            exact ⟨by omega, fun z => this (Or.inr z)⟩), ← k2]
        rfl
      · rcases (l4 q).mp hlt with h | h
        · exact k3 q hq h
        · rw [h]; exact h2 i0 j0 l1 l2) (na - 0) (Nat.le_refl _)
  obtain ⟨k1, k2, k3⟩ := key
  refine ⟨k1, ?_⟩
  show _ ≤ _
  have : mst M 0 na F = (zfor (mstf M F 0) (na - 0) (0, fun _ => 99)).1 := rfl
  rw [this, k2]
  exact cnt_sub 12 (fun q hq h => k3 q hq (by simpa using h))
/-- holders are of the first n -/
def sN (n : Nat) (s : sS) : Prop := ∀ q, s.2 q < 12 → s.2 q < n
theorem fd_np (M : Nat → Nat → Bool) (n d : Nat) (hd : ∀ i s, i < n → sN n s → sN n (fd M d i s).2) (i : Nat) (s : sS) (hi : i < n) (hs : sN n s) : ∀ k, sN n (zfor (lpf M i (fd M d)) k (false, s)).2 := by
  intro k
  refine zfor_inv (fun _ x => sN n x.2) (lpf M i (fd M d)) k (false, s) hs (fun j hj x hx => ?_) k (Nat.le_refl _)
  have up : ∀ H : Nat → Nat, (∀ q, H q < 12 → H q < n) → ∀ q, zu H j i q < 12 → zu H j i q < n := fun H hH q hq => by
    by_cases e : q = j
    · subst e; rw [zu_self]; exact hi
    · rw [zu_ne _ _ e] at hq ⊢; exact hH q hq
  unfold lpf
  split
  · exact hx
  · split
    · split
      · exact up _ hx
      · next c =>
        have h2 := hd (x.2.2 j) (cut x.2.1 j, x.2.2) (hx j (by omega)) hx
        split
        · exact up _ h2
        · exact h2
    · exact hx
theorem fd_n (M : Nat → Nat → Bool) (n : Nat) : ∀ d i s, i < n → sN n s → sN n (fd M d i s).2
  | 0, _, _, _, hs => hs
  | d + 1, i, s, hi, hs => fd_np M n d (fd_n M n d) i s hi hs 12
theorem fd_fuel (M : Nat → Nat → Bool) : ∀ k i s, i < 12 → cnt s.1 12 < k → fd M (k + 1) i s = fd M k i s
  | 0, _, _, _, h => absurd h (by omega)
  | k + 1, i, s, hi, h => by
    have ih := fd_fuel M k
    have := zfor_sim (fun _ (x y : Bool × sS) => x = y ∧ cnt x.2.1 12 ≤ cnt s.1 12) (lpf M i (fd M (k + 1))) (lpf M i (fd M k)) 12 (false, s) (false, s) ⟨rfl, Nat.le_refl _⟩ (fun j hj x y hxy => by
      obtain ⟨rfl, hc⟩ := hxy
      by_cases c0 : x.1 = true
      · rw [lpf_done c0, lpf_done c0]; exact ⟨rfl, hc⟩
      · have c0 : x.1 = false := by cases hx : x.1; rfl; exact absurd hx c0
        by_cases c1 : (M i j && x.2.1 j) = true
        · have hu : x.2.1 j = true := ((Bool.and_eq_true _ _).mp c1).2
          have c3 := cnt_clear x.2.1 j 12 (by omega) hu
          have c4 : cnt (cut x.2.1 j) 12 + 1 = cnt x.2.1 12 := c3
          by_cases c2 : 12 ≤ x.2.2 j
          · rw [lpf_free c0 c1 c2, lpf_free c0 c1 c2]
            refine ⟨rfl, ?_⟩
            show cnt (cut x.2.1 j) 12 ≤ _
            omega
          · have e := ih (x.2.2 j) (cut x.2.1 j, x.2.2) (by omega) (by show cnt (cut x.2.1 j) 12 < k; omega)
            have o := fd_ok M k (x.2.2 j) (cut x.2.1 j, x.2.2) (by omega)
            have o2 : cnt (fd M k (x.2.2 j) (cut x.2.1 j, x.2.2)).2.1 12 ≤ cnt (cut x.2.1 j) 12 := cnt_sub 12 (fun q _ hq => o.1 q hq)
            have e2 : lpf M i (fd M (k + 1)) j x = lpf M i (fd M k) j x := by
              unfold lpf
              rw [e]
            rw [e2]
            refine ⟨rfl, ?_⟩
            cases c3 : (fd M k (x.2.2 j) (cut x.2.1 j, x.2.2)).1
            · rw [lpf_no c0 c1 c2 c3]
              show cnt (fd M k (x.2.2 j) (cut x.2.1 j, x.2.2)).2.1 12 ≤ _
              omega
            · rw [lpf_go c0 c1 c2 c3]
              show cnt (fd M k (x.2.2 j) (cut x.2.1 j, x.2.2)).2.1 12 ≤ _
              omega
        · have c1 : (M i j && x.2.1 j) = false := by cases hx : (M i j && x.2.1 j); rfl; exact absurd hx c1
          rw [lpf_shut c1, lpf_shut c1]; exact ⟨rfl, hc⟩) 12 (Nat.le_refl _)
    exact this.1
