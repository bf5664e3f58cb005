/-! ===== pieces: the class's count ===== -/
def kC (F0 : Nat → Bool) (c : Nat) : Prop := c < 324 ∧ F0 c = true
noncomputable def ldc (F0 : Nat → Bool) (l : Bool) (k : Nat) : Bool := cdec (lead (kC F0) (nbr 18 l) (fun _ => False) k)
def pQ (F0 : Nat → Bool) (l : Bool) (n : Nat) (σ τ : zc_N) : Prop := ∃ F, gL F τ ∧ off [6, 7] σ τ ∧ (∀ c, F c = true → F0 c = true) ∧ ∀ c, kC F0 c → (F c = false ↔ tkn (kC F0) (nbr 18 l) (fun _ => False) n c)
theorem tp_step {F0 : Nat → Bool} {l : Bool} {n : Nat} {σ τ : zc_N} (hW : iW σ) (hn : n < 324) (h : pQ F0 l n σ τ) (m : Nat) : qX1_takePieces_13 (nI (Wn l)) (nI (n / 18)) (n % 18) (nI m, τ) ∧ ∃ υ, fX1_takePieces_13 (nI (Wn l)) (nI (n / 18)) (n % 18) (nI m, τ) = (nI (m + (ldc F0 l n).toNat), υ) ∧ pQ F0 l (n + 1) σ υ := by
  obtain ⟨F, h1, h2, h3, h4⟩ := h
  have hB : ∀ x y : Nat, False → kC F0 y → nbr 18 l x y → False := fun _ _ z _ _ => z
  have ex : nI (n % 18) = zI ((n % 18 : Nat) : Int) := nz (by omega)
  have ey : nI (n / 18) = zI ((n / 18 : Nat) : Int) := nz (by omega)
  obtain ⟨-, t2, t3⟩ := takes_c h1 (X := ((n % 18 : Nat) : Int)) (Y := ((n / 18 : Nat) : Int)) (by omega) (by omega)
  rw [← ex, ← ey] at t2 t3
  have en : (18 * ((n / 18 : Nat) : Int) + ((n % 18 : Nat) : Int)).toNat = n := by omega
  rw [en] at t3
  unfold qX1_takePieces_13 fX1_takePieces_13
  dsimp only
  generalize hυ : sX1_takes τ (nI (n % 18)) (nI (n / 18)) = υ at t2 t3 ⊢
  rcases t3 with ⟨t3, t4, t5⟩ | ⟨⟨tx, ty, tf⟩, t4, t5⟩
  · simp only [if_pos t4]
    have hf : F n = false := by
      cases q : F n
      · rfl
      · exact absurd ⟨by omega, by omega, q⟩ t3
    have hl : ¬ lead (kC F0) (nbr 18 l) (fun _ => False) n := fun z => (tkn_lead.mpr z).2 ((h4 n z.1).mp hf)
    have hL : ldc F0 l n = false := cdec_f hl
    refine ⟨⟨fun _ => trivial, fun z => absurd t4 z⟩, υ, by rw [hL]; rfl, F, t5, off_tr h2 (off_sub t2 (by simp)), h3, fun c hc => (h4 c hc).trans (tkn_no hB hl c).symm⟩
  · have n4 : ¬ rX1_takes τ (nI (n % 18)) (nI (n / 18)) = 0 := by rw [t4]; decide
    simp only [if_neg n4]
    have hCn : kC F0 n := ⟨hn, h3 n tf⟩
    have hl : lead (kC F0) (nbr 18 l) (fun _ => False) n := tkn_lead.mp ⟨hCn, fun z => by rw [(h4 n hCn).mpr z] at tf; cases tf⟩
    have hL : ldc F0 l n = true := cdec_t hl
    have hW2 : iW υ := by
      have o : off [6, 7] σ υ := off_tr h2 (off_sub t2 (by simp))
      unfold iW
      rw [o 1 (by decide), o 2 (by decide)]
      exact hW
    obtain ⟨r1, G, r2, r3, r4, r5⟩ := takeRest_c (C := kC F0) (l := l) (k := n) (Fs := F) hW2 (fun c z => z.1) (fun c hc z => ⟨hc, h3 c z⟩) hn tf t5 (fun x y hx hf hy hr => (h4 y hy).mpr (tkn_cl hB ((h4 x hx).mp hf) hy hr))
    refine ⟨⟨fun z => absurd z n4, fun _ => r1⟩, _, by rw [hL, nI_1]; rfl, G, r2, off_tr (off_tr h2 (off_sub t2 (by simp))) r3, fun c z => h3 c (r4 c z), fun c hc => ?_⟩
    rw [r5 c hc, tkn_yes hCn c, h4 c hc]
theorem tp_row {F0 : Nat → Bool} {l : Bool} {y : Nat} {σ τ : zc_N} (hW : iW σ) (hy : y < 18) (h : pQ F0 l (18 * y) σ τ) : ∀ x, x ≤ 18 → ∃ υ, zfor (fX1_takePieces_13 (nI (Wn l)) (nI y)) x (nI (cnt (ldc F0 l) (18 * y)), τ) = (nI (cnt (ldc F0 l) (18 * y + x)), υ) ∧ pQ F0 l (18 * y + x) σ υ
  | 0, _ => ⟨τ, rfl, h⟩
  | x + 1, hx => by
    obtain ⟨υ, e, hp⟩ := tp_row hW hy h x (by omega)
    obtain ⟨ω, e2, hp2⟩ := (tp_step hW (by omega) hp (cnt (ldc F0 l) (18 * y + x))).2
    refine ⟨ω, ?_, hp2⟩
    rw [show (18 * y + x) / 18 = y by omega, show (18 * y + x) % 18 = x by omega] at e2
    show fX1_takePieces_13 (nI (Wn l)) (nI y) x (zfor (fX1_takePieces_13 (nI (Wn l)) (nI y)) x (nI (cnt (ldc F0 l) (18 * y)), τ)) = _
    rw [e, e2]
    rfl
theorem tp_rows {F0 : Nat → Bool} {l : Bool} {σ : zc_N} (hW : iW σ) (h : gL F0 σ) : ∀ y, y ≤ 18 → ∃ υ, zfor (fX1_takePieces_4 (nI (Wn l))) y ((0 : Int32), σ) = (nI (cnt (ldc F0 l) (18 * y)), υ) ∧ pQ F0 l (18 * y) σ υ
  | 0, _ => ⟨σ, rfl, F0, h, off_rf _ _, fun _ z => z, fun c hc => ⟨fun z => (by rw [hc.2] at z; cases z), fun z => False.elim ((tkn_0 (B := fun _ => False) (fun _ f => False.elim f) c).mp z)⟩⟩
  | y + 1, hy => by
    obtain ⟨υ, e, hp⟩ := tp_rows hW h y (by omega)
    obtain ⟨ω, e2, hp2⟩ := tp_row hW (by omega) hp 18 (Nat.le_refl _)
    refine ⟨ω, ?_, by rw [Nat.mul_succ]; exact hp2⟩
    show fX1_takePieces_4 (nI (Wn l)) y (zfor (fX1_takePieces_4 (nI (Wn l))) y ((0 : Int32), σ)) = _
    rw [e]
    unfold fX1_takePieces_4
    dsimp only
    rw [e2, Nat.mul_succ]
theorem takePieces_c {F0 : Nat → Bool} {l : Bool} {σ : zc_N} (hW : iW σ) (h : gL F0 σ) : pX1_takePieces σ (nI (Wn l)) ∧ rX1_takePieces σ (nI (Wn l)) = nI (cnt (ldc F0 l) 324) ∧ off [6, 7] σ (sX1_takePieces σ (nI (Wn l))) := by
  have key := tp_rows (l := l) hW h
  refine ⟨fun y hy x hx => ?_, ?_⟩
  · obtain ⟨υ, e, hp⟩ := key y (by omega)
    rw [e]
    dsimp only
    obtain ⟨ω, e2, hp2⟩ := tp_row hW hy hp x (by omega)
    rw [e2]
    have := (tp_step hW (by omega) hp2 (cnt (ldc F0 l) (18 * y + x))).1
    rw [show (18 * y + x) / 18 = y by omega, show (18 * y + x) % 18 = x by omega] at this
    exact this
  · obtain ⟨υ, e, F, hp, ho, _⟩ := key 18 (Nat.le_refl _)
    unfold rX1_takePieces sX1_takePieces
    rw [e]
    exact ⟨rfl, ho⟩
