/-! ===== pieces: what hangs together ===== -/
def conn (C : Nat → Prop) (R : Nat → Nat → Prop) (a b : Nat) : Prop := ∀ T : Nat → Prop, T a → (∀ x y, T x → C y → R x y → T y) → T b
theorem conn_rf {C : Nat → Prop} {R : Nat → Nat → Prop} (a : Nat) : conn C R a a := fun _ h _ => h
theorem conn_st {C : Nat → Prop} {R : Nat → Nat → Prop} {a b c : Nat} (h : conn C R a b) (hc : C c) (hr : R b c) : conn C R a c := fun T h1 h2 => h2 b c (h T h1 h2) hc hr
theorem conn_tr {C : Nat → Prop} {R : Nat → Nat → Prop} {a b c : Nat} (h : conn C R a b) (h' : conn C R b c) : conn C R a c := fun T h1 h2 => h' T (h T h1 h2) h2
theorem conn_C {C : Nat → Prop} {R : Nat → Nat → Prop} {a b : Nat} (h : conn C R a b) (ha : C a) : C b := h C ha (fun _ _ _ hy _ => hy)
theorem conn_sy {C : Nat → Prop} {R : Nat → Nat → Prop} {a b : Nat} (hR : ∀ x y, R x y → R y x) (ha : C a) (h : conn C R a b) : conn C R b a :=
  (h (fun x => C x ∧ conn C R x a) ⟨ha, conn_rf a⟩ (fun x y hx hy hr => ⟨hy, conn_tr (conn_st (conn_rf y) hx.1 (hR _ _ hr)) hx.2⟩)).2
/-- taken before k's turn: what was taken at first, and the pieces of the cells below k -/
def tkn (C : Nat → Prop) (R : Nat → Nat → Prop) (B : Nat → Prop) (k c : Nat) : Prop := C c ∧ (B c ∨ ∃ j, j < k ∧ C j ∧ conn C R j c)
/-- the first cell of a piece that was not taken at first -/
def lead (C : Nat → Prop) (R : Nat → Nat → Prop) (B : Nat → Prop) (k : Nat) : Prop := C k ∧ ¬ B k ∧ ∀ j, j < k → C j → ¬ conn C R j k
theorem tkn_lead {C : Nat → Prop} {R : Nat → Nat → Prop} {B : Nat → Prop} {k : Nat} : (C k ∧ ¬ tkn C R B k k) ↔ lead C R B k := by
  constructor
  · rintro ⟨h1, h2⟩
    exact ⟨h1, fun b => h2 ⟨h1, Or.inl b⟩, fun j hj hc hn => h2 ⟨h1, Or.inr ⟨j, hj, hc, hn⟩⟩⟩
  · rintro ⟨h1, h2, h3⟩
    refine ⟨h1, fun t => ?_⟩
    rcases t.2 with b | ⟨j, hj, hc, hn⟩
    · exact h2 b
    · exact h3 j hj hc hn
theorem tkn_0 {C : Nat → Prop} {R : Nat → Nat → Prop} {B : Nat → Prop} (hB : ∀ c, B c → C c) (c : Nat) : tkn C R B 0 c ↔ B c :=
  ⟨fun h => h.2.elim id (fun ⟨j, hj, _⟩ => absurd hj (Nat.not_lt_zero j)), fun h => ⟨hB c h, Or.inl h⟩⟩
theorem tkn_yes {C : Nat → Prop} {R : Nat → Nat → Prop} {B : Nat → Prop} {k : Nat} (h : C k) (c : Nat) : tkn C R B (k + 1) c ↔ (tkn C R B k c ∨ conn C R k c) := by
  constructor
  · rintro ⟨h1, h2⟩
    rcases h2 with b | ⟨j, hj, hc, hn⟩
    · exact Or.inl ⟨h1, Or.inl b⟩
    · by_cases e : j = k
      · rw [e] at hn; exact Or.inr hn
      · exact Or.inl ⟨h1, Or.inr ⟨j, by omega, hc, hn⟩⟩
  · rintro (⟨h1, h2⟩ | hn)
    · exact ⟨h1, h2.imp id (fun ⟨j, hj, q⟩ => ⟨j, by omega, q⟩)⟩
    · exact ⟨conn_C hn h, Or.inr ⟨k, by omega, h, hn⟩⟩
theorem tkn_no {C : Nat → Prop} {R : Nat → Nat → Prop} {B : Nat → Prop} {k : Nat} (hB : ∀ x y, B x → C y → R x y → B y) (h : ¬ lead C R B k) (c : Nat) : tkn C R B (k + 1) c ↔ tkn C R B k c := by
  by_cases hk : C k
  · rw [tkn_yes hk]
    refine ⟨fun z => ?_, Or.inl⟩
    rcases z with z | z
    · exact z
    · have ht : tkn C R B k k := Classical.byContradiction (fun q => h (tkn_lead.mp ⟨hk, q⟩))
      refine ⟨conn_C z hk, ?_⟩
      rcases ht.2 with b | ⟨j, hj, hc, hn⟩
      · exact Or.inl (z B b hB)
      · exact Or.inr ⟨j, hj, hc, conn_tr hn z⟩
  · constructor
    · rintro ⟨h1, h2⟩
      rcases h2 with b | ⟨j, hj, hc, hn⟩
      · exact ⟨h1, Or.inl b⟩
      · refine ⟨h1, Or.inr ⟨j, ?_, hc, hn⟩⟩
        by_cases e : j = k
        · rw [e] at hc; exact absurd hc hk
        · omega
    · rintro ⟨h1, h2⟩
      exact ⟨h1, h2.imp id (fun ⟨j, hj, q⟩ => ⟨j, by omega, q⟩)⟩
theorem tkn_cl {C : Nat → Prop} {R : Nat → Nat → Prop} {B : Nat → Prop} {k x y : Nat} (hB : ∀ x y, B x → C y → R x y → B y) (h : tkn C R B k x) (hy : C y) (hr : R x y) : tkn C R B k y := by
  refine ⟨hy, ?_⟩
  rcases h.2 with b | ⟨j, hj, hc, hn⟩
  · exact Or.inl (hB x y b hy hr)
  · exact Or.inr ⟨j, hj, hc, conn_st hn hy hr⟩
/-- a set that has k, lies between and is closed, is k's piece with what was there -/
theorem fills {C : Nat → Prop} {R : Nat → Nat → Prop} {S S' : Nat → Prop} {k : Nat} (h1 : ∀ c, S c → S' c) (h2 : S' k) (h3 : ∀ c, S' c → S c ∨ conn C R k c) (h4 : ∀ x y, S' x → C y → R x y → S' y) (c : Nat) : S' c ↔ (S c ∨ conn C R k c) :=
  ⟨h3 c, fun z => z.elim (h1 c) (fun q => q S' h2 h4)⟩
/-- pieces carried over by a map of the cells -/
theorem conn_map {C C' : Nat → Prop} {R R' : Nat → Nat → Prop} {φ : Nat → Nat} (hC : ∀ x, C x → C' (φ x)) (hR : ∀ x y, C x → C y → R x y → R' (φ x) (φ y)) {a b : Nat} (ha : C a) (h : conn C R a b) : conn C' R' (φ a) (φ b) :=
  (h (fun x => C x ∧ conn C' R' (φ a) (φ x)) ⟨ha, conn_rf _⟩ (fun x y hx hy hr => ⟨hy, conn_st hx.2 (hC y hy) (hR x y hx.1 hy hr)⟩)).2
theorem conn_map' {C C' : Nat → Prop} {R R' : Nat → Nat → Prop} {φ : Nat → Nat} (hs : ∀ y x, C' y → R' (φ x) y → C x → ∃ z, C z ∧ φ z = y ∧ R x z) {a b' : Nat} (ha : C a) (h : conn C' R' (φ a) b') : ∃ b, C b ∧ φ b = b' ∧ conn C R a b :=
  h (fun y => ∃ b, C b ∧ φ b = y ∧ conn C R a b) ⟨a, ha, rfl, conn_rf a⟩ (fun x y hx hy hr => by
    obtain ⟨b, b1, b2, b3⟩ := hx
    rw [← b2] at hr
    obtain ⟨z, z1, z2, z3⟩ := hs y b hy hr b1
    exact ⟨z, z1, z2, conn_st b3 z1 z3⟩)
