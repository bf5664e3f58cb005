/-! ===== pieces: the count (the reference) ===== -/
def edg (k : Nat) : Bool := decide (k % 16 = 0 ∨ k % 16 = 15 ∨ k / 16 = 0 ∨ k / 16 = 15)
set_option maxRecDepth 100000 in
theorem edg_n : ∀ n, n < 256 → (if (nI n - nI n / (16 : Int32) * (16 : Int32)) = (0 : Int32) then (1 : Int32) else (if (nI n - nI n / (16 : Int32) * (16 : Int32)) = (15 : Int32) then (1 : Int32) else (if (nI n / (16 : Int32)) = (0 : Int32) then (1 : Int32) else (if (nI n / (16 : Int32)) = (15 : Int32) then (1 : Int32) else (0 : Int32))))) = b2 (edg n) := by decide +kernel
/-- hanging together with a cell of the colour at the edge, below n -/
def eD (D : Nat → Bool) (l : Bool) (n c : Nat) : Prop := ∃ j, j < n ∧ edg j = true ∧ cC D l j ∧ conn (cC D l) (nbr 16 l) j c
def Bm (D : Nat → Bool) (l : Bool) (c : Nat) : Prop := l = false ∧ eD D l 256 c
def sI (D : Nat → Bool) (B : Nat → Prop) (σ τ : zc_N) : Prop := gM D τ ∧ (∀ c, c < 256 → τ 34 c = 0 ∨ τ 34 c = 1) ∧ off [34] σ τ ∧ ∀ c, sn τ c = true ↔ B c
theorem sI_iff {D : Nat → Bool} {B B' : Nat → Prop} {σ τ : zc_N} (h : sI D B σ τ) (e : ∀ c, B c ↔ B' c) : sI D B' σ τ := ⟨h.1, h.2.1, h.2.2.1, fun c => (h.2.2.2 c).trans (e c)⟩
theorem sI_sp {D : Nat → Bool} {l : Bool} {B : Nat → Prop} {σ τ : zc_N} (h : sI D B σ τ) (hB : ∀ c, B c → cC D l c) (hcl : ∀ x y, B x → cC D l y → nbr 16 l x y → B y) {k : Nat} (hk : cC D l k) : pX9_spread τ (nI k) (b2 l) ∧ sI D (fun c => B c ∨ conn (cC D l) (nbr 16 l) k c) σ (sX9_spread τ (nI k) (b2 l)) := by
  obtain ⟨h1, h2, h3, h4⟩ := h
  obtain ⟨s1, s2, s3, s4, s5⟩ := spread_m (l := l) h1 h2 (fun c hc => (hB c ((h4 c).mp hc)).2) (fun x y hx hy hr => (h4 y).mpr (hcl x y ((h4 x).mp hx) hy hr)) hk
  exact ⟨s1, s2, s4, off_tr h3 s3, fun c => (s5 c).trans (or_congr (h4 c) Iff.rfl)⟩
theorem eD_C {D : Nat → Bool} {l : Bool} {n : Nat} (c : Nat) (h : eD D l n c) : cC D l c := by
  obtain ⟨j, _, _, hc, hn⟩ := h
  exact conn_C hn hc
theorem eD_cl {D : Nat → Bool} {l : Bool} {n : Nat} (x y : Nat) (h : eD D l n x) (hy : cC D l y) (hr : nbr 16 l x y) : eD D l n y := by
  obtain ⟨j, h1, h2, hc, hn⟩ := h
  exact ⟨j, h1, h2, hc, conn_st hn hy hr⟩
theorem eD_no {D : Nat → Bool} {l : Bool} {n : Nat} (h : edg n = true → cC D l n → eD D l n n) (c : Nat) : eD D l n c ↔ eD D l (n + 1) c := by
  constructor
  · rintro ⟨j, h1, q⟩
    exact ⟨j, by omega, q⟩
  · rintro ⟨j, h1, h2, h3, h4⟩
    by_cases e : j = n
    · rw [e] at h2 h3 h4
      obtain ⟨i, i1, i2, i3, i4⟩ := h h2 h3
      exact ⟨i, i1, i2, i3, conn_tr i4 h4⟩
    · exact ⟨j, by omega, h2, h3, h4⟩
theorem eD_yes {D : Nat → Bool} {l : Bool} {n : Nat} (h : edg n = true) (hc : cC D l n) (c : Nat) : (eD D l n c ∨ conn (cC D l) (nbr 16 l) n c) ↔ eD D l (n + 1) c := by
  constructor
  · rintro (⟨j, h1, q⟩ | q)
    · exact ⟨j, by omega, q⟩
    · exact ⟨n, by omega, h, hc, q⟩
  · rintro ⟨j, h1, h2, h3, h4⟩
    by_cases e : j = n
    · rw [e] at h4; exact Or.inr h4
    · exact Or.inl ⟨j, by omega, h2, h3, h4⟩
theorem clear_m {D : Nat → Bool} {σ : zc_N} (hD : gM D σ) : sI D (fun _ => False) σ (zfor fX9_pieces_13 256 σ) := by
  obtain ⟨h1, h2, h3⟩ := zfor_inv (fun i (τ : zc_N) => (∀ c, c < i → τ 34 c = 0) ∧ gM D τ ∧ off [34] σ τ) fX9_pieces_13 256 σ ⟨fun c hc => absurd hc (Nat.not_lt_zero c), hD, off_rf _ _⟩ (fun i hi τ hτ => by
    obtain ⟨t1, t2, t3⟩ := hτ
    unfold fX9_pieces_13
    rw [nI_clamp (n := i) (by omega)]
    refine ⟨fun c hc => ?_, gM_34 t2 _, off_zu t3 (by simp) _⟩
    rw [zu_self]
    by_cases e : c = i
    · rw [e, zu_self]
    · rw [zu_ne _ _ e]; exact t1 c (by omega)) 256 (Nat.le_refl _)
  generalize zfor fX9_pieces_13 256 σ = τ at h1 h2 h3
  refine ⟨h2, fun c hc => Or.inl (h1 c hc), h3, fun c => ⟨fun z => ?_, fun z => z.elim⟩⟩
  obtain ⟨z1, z2⟩ := sn_t.mp z
  rw [h1 c z1] at z2
  exact absurd z2 (by decide)
theorem e45_0 (a : Int32 × zc_N) : eX9_pieces_45 0 a ↔ (256 : Int32) ≤ a.1 := by
  unfold eX9_pieces_45
  constructor
  · rintro (h | ⟨h, (⟨_, h2⟩ | ⟨h2, _⟩)⟩)
    · exact h.1
    · rcases h2 with ⟨_, f⟩ | ⟨_, (⟨_, (⟨_, f⟩ | ⟨_, f⟩)⟩ | ⟨_, f⟩)⟩ <;> exact f.elim
    · exact absurd rfl h2
  · intro h
    exact Or.inl ⟨h, trivial⟩
theorem st45 {D : Nat → Bool} {σ τ : zc_N} {n : Nat} (hn : n < 256) (h : sI D (eD D false n) σ τ) : qX9_pieces_45 0 (nI n, τ) ∧ ∃ υ, fX9_pieces_45 (nI n, τ) = (nI (n + 1), υ) ∧ sI D (eD D false (n + 1)) σ υ := by
  unfold qX9_pieces_45 fX9_pieces_45
  dsimp only
  have e33 := h.1 n hn
  have e34 := sn_b h.2.1 n hn
  have hv : vp_in (nI n) 256 := vp_in_nI hn (by decide)
  rw [edg_n n hn, nI_clamp (n := n) (by omega), nI_1]
  simp only [e33, e34, b2_0]
  by_cases he : edg n = false
  · refine ⟨⟨fun _ => trivial, fun _ => ⟨fun _ => ⟨fun _ => trivial, fun z => absurd he z⟩, fun _ => trivial⟩⟩, τ, by simp only [if_pos he], sI_iff h (eD_no (fun z => by rw [he] at z; cases z))⟩
  · have he2 : edg n = true := by cases q : edg n; exact absurd q he; rfl
    by_cases hd : D n = false
    · by_cases hs : sn τ n = false
      · obtain ⟨p1, p2⟩ := sI_sp (l := false) h eD_C eD_cl ⟨hn, hd⟩
        refine ⟨⟨fun _ => trivial, fun _ => ⟨fun _ => ⟨fun _ => trivial, fun _ => ⟨hv, ⟨fun _ => ⟨hv, fun _ => p1, fun _ => trivial⟩, fun _ => trivial⟩⟩⟩, fun _ => trivial⟩⟩, _, by simp only [if_neg he, if_pos hd, if_pos hs]; rfl, sI_iff p2 (eD_yes he2 ⟨hn, hd⟩)⟩
      · refine ⟨⟨fun _ => trivial, fun _ => ⟨fun _ => ⟨fun _ => trivial, fun _ => ⟨hv, ⟨fun _ => ⟨hv, fun z => absurd z hs, fun _ => trivial⟩, fun _ => trivial⟩⟩⟩, fun _ => trivial⟩⟩, τ, by simp only [if_neg he, if_pos hd, if_neg hs], sI_iff h (eD_no (fun _ _ => (h.2.2.2 n).mp (by cases q : sn τ n; exact absurd q hs; rfl)))⟩
    · refine ⟨⟨fun _ => trivial, fun _ => ⟨fun _ => ⟨fun _ => trivial, fun _ => ⟨hv, ⟨fun z => absurd z hd, fun _ => trivial⟩⟩⟩, fun _ => trivial⟩⟩, τ, by simp only [if_neg he, if_neg hd], sI_iff h (eD_no (fun _ z => absurd z.2 hd))⟩
theorem loop45 {D : Nat → Bool} {σ τ : zc_N} (h : sI D (fun _ => False) σ τ) : ∀ n, n ≤ 256 → ∃ υ, zit fX9_pieces_45 n ((0 : Int32), τ) = (nI n, υ) ∧ sI D (eD D false n) σ υ
  | 0, _ => ⟨τ, rfl, sI_iff h (fun c => ⟨fun z => z.elim, fun ⟨j, hj, _⟩ => absurd hj (Nat.not_lt_zero j)⟩)⟩
  | n + 1, hn => by
    obtain ⟨υ, e, hi⟩ := loop45 h n (by omega)
    obtain ⟨ω, e2, h2⟩ := (st45 (by omega) hi).2
    refine ⟨ω, ?_, h2⟩
    show fX9_pieces_45 (zit fX9_pieces_45 n ((0 : Int32), τ)) = _
    rw [e, e2]
/-- the first cells of pieces -/
noncomputable def ldm (D : Nat → Bool) (l : Bool) (k : Nat) : Bool := cdec (lead (cC D l) (nbr 16 l) (Bm D l) k)
theorem Bm_C {D : Nat → Bool} {l : Bool} (c : Nat) (h : Bm D l c) : cC D l c := eD_C c h.2
theorem Bm_cl {D : Nat → Bool} {l : Bool} (x y : Nat) (h : Bm D l x) (hy : cC D l y) (hr : nbr 16 l x y) : Bm D l y := ⟨h.1, eD_cl x y h.2 hy hr⟩
theorem st135 {D : Nat → Bool} {l : Bool} {σ τ : zc_N} {i : Nat} (hi : i < 256) (h : sI D (tkn (cC D l) (nbr 16 l) (Bm D l) i) σ τ) (m : Nat) : qX9_pieces_135 (b2 l) i (nI m, τ) ∧ ∃ υ, fX9_pieces_135 (b2 l) i (nI m, τ) = (nI (m + (ldm D l i).toNat), υ) ∧ sI D (tkn (cC D l) (nbr 16 l) (Bm D l) (i + 1)) σ υ := by
  unfold qX9_pieces_135 fX9_pieces_135
  dsimp only
  have e33 := h.1 i hi
  have e34 := sn_b h.2.1 i hi
  have eb : ∀ d : Bool, (b2 d = b2 l ↔ d = l) := by cases l <;> decide
  rw [nI_clamp (n := i) (by omega)]
  simp only [e33, e34, eb, b2_0]
  by_cases hd : D i = l
  · by_cases hs : sn τ i = false
    · obtain ⟨p1, p2⟩ := sI_sp (l := l) h (fun c z => z.1) (fun x y hx hy hr => tkn_cl Bm_cl hx hy hr) ⟨hi, hd⟩
      have hl : lead (cC D l) (nbr 16 l) (Bm D l) i := tkn_lead.mp ⟨⟨hi, hd⟩, fun z => by rw [(h.2.2.2 i).mpr z] at hs; cases hs⟩
      have hL : ldm D l i = true := cdec_t hl
      refine ⟨⟨fun _ => ⟨fun _ => p1, fun _ => trivial⟩, fun _ => trivial⟩, _, by simp only [if_pos hd, if_pos hs]; rw [hL, nI_1]; rfl, sI_iff p2 (fun c => (tkn_yes ⟨hi, hd⟩ c).symm)⟩
    · have hs2 : sn τ i = true := by cases q : sn τ i; exact absurd q hs; rfl
      have hl : ¬ lead (cC D l) (nbr 16 l) (Bm D l) i := fun z => (tkn_lead.mpr z).2 ((h.2.2.2 i).mp hs2)
      have hL : ldm D l i = false := cdec_f hl
      refine ⟨⟨fun _ => ⟨fun z => absurd z hs, fun _ => trivial⟩, fun _ => trivial⟩, τ, by simp only [if_pos hd, if_neg hs]; rw [hL]; rfl, sI_iff h (fun c => (tkn_no Bm_cl hl c).symm)⟩
  · have hl : ¬ lead (cC D l) (nbr 16 l) (Bm D l) i := fun z => hd z.1.2
    have hL : ldm D l i = false := cdec_f hl
    refine ⟨⟨fun z => absurd z hd, fun _ => trivial⟩, τ, by simp only [if_neg hd]; rw [hL]; rfl, sI_iff h (fun c => (tkn_no Bm_cl hl c).symm)⟩
theorem loop135 {D : Nat → Bool} {l : Bool} {σ τ : zc_N} (h : sI D (Bm D l) σ τ) : ∀ i, i ≤ 256 → ∃ υ, zfor (fX9_pieces_135 (b2 l)) i ((0 : Int32), τ) = (nI (cnt (ldm D l) i), υ) ∧ sI D (tkn (cC D l) (nbr 16 l) (Bm D l) i) σ υ
  | 0, _ => ⟨τ, rfl, sI_iff h (fun c => (tkn_0 Bm_C c).symm)⟩
  | i + 1, hi => by
    obtain ⟨υ, e, h2⟩ := loop135 h i (by omega)
    obtain ⟨ω, e2, h3⟩ := (st135 (by omega) h2 (cnt (ldm D l) i)).2
    refine ⟨ω, ?_, h3⟩
    show fX9_pieces_135 (b2 l) i (zfor (fX9_pieces_135 (b2 l)) i ((0 : Int32), τ)) = _
    rw [e, e2]
    rfl
theorem l2_b (l : Bool) : (if b2 (!l) = (0 : Int32) then (1 : Int32) else (0 : Int32)) = b2 l := by cases l <;> rfl
theorem v45_m {D : Nat → Bool} {σ : zc_N} (hD : gM D σ) (l : Bool) : ((∃ n_ : Nat, (eX9_pieces_45 (b2 l)) (zit fX9_pieces_45 n_ ((0 : Int32), (zfor fX9_pieces_13 256 σ)))) ∧ (∀ i45_ : Nat, i45_ < (zwn (fun n_ => (eX9_pieces_45 (b2 l)) (zit fX9_pieces_45 n_ ((0 : Int32), (zfor fX9_pieces_13 256 σ))))) → qX9_pieces_45 (b2 l) (zit fX9_pieces_45 i45_ ((0 : Int32), (zfor fX9_pieces_13 256 σ))))) ∧ (∃ n υ, (n < 2 ^ 31) ∧ wX9_pieces_45 (b2 l) ((0 : Int32), (zfor fX9_pieces_13 256 σ)) = (nI n, υ) ∧ sI D (Bm D l) σ υ ∧ (l = false → 256 ≤ n)) := by
  have h0 := clear_m hD
  unfold wX9_pieces_45
  generalize zfor fX9_pieces_13 256 σ = τ at h0 ⊢
  cases l with
  | true =>
    have hE : (eX9_pieces_45 (b2 true)) (zit fX9_pieces_45 0 ((0 : Int32), τ)) := Or.inr ⟨by show ¬ (256 : Int32) ≤ 0; decide, Or.inr ⟨by decide, trivial⟩⟩
    have hw : zwn (fun n_ => (eX9_pieces_45 (b2 true)) (zit fX9_pieces_45 n_ ((0 : Int32), τ))) = 0 := zwn_eq hE (fun j hj => absurd hj (Nat.not_lt_zero j))
    rw [hw]
    refine ⟨⟨⟨0, hE⟩, fun i hi => absurd hi (Nat.not_lt_zero i)⟩, 0, τ, by decide, rfl, sI_iff h0 (fun c => ⟨fun z => z.elim, fun z => by cases z.1⟩), fun z => by cases z⟩
  | false =>
    have hi := loop45 h0
    have hE : (eX9_pieces_45 (b2 false)) (zit fX9_pieces_45 256 ((0 : Int32), τ)) := by
      obtain ⟨υ, e, _⟩ := hi 256 (Nat.le_refl _)
      rw [e]
      exact (e45_0 _).mpr (by show (256 : Int32) ≤ nI 256; decide)
    have hw : zwn (fun n_ => (eX9_pieces_45 (b2 false)) (zit fX9_pieces_45 n_ ((0 : Int32), τ))) = 256 := zwn_eq hE (fun j hj => by
      obtain ⟨υ, e, _⟩ := hi j (by omega)
      rw [e]
      intro z
      have z2 : (256 : Int32) ≤ nI j := (e45_0 _).mp z
      exact nI_ge (show j < 256 by omega) (by decide) z2)
    rw [hw]
    refine ⟨⟨⟨256, hE⟩, fun i hi2 => ?_⟩, ?_⟩
    · obtain ⟨υ, e, h2⟩ := hi i (by omega)
      rw [e]
      exact (st45 hi2 h2).1
    · obtain ⟨υ, e, h2⟩ := hi 256 (Nat.le_refl _)
      exact ⟨256, υ, by decide, e, sI_iff h2 (fun c => ⟨fun z => ⟨rfl, z⟩, fun z => z.2⟩), fun _ => Nat.le_refl _⟩
theorem pieces_m {D : Nat → Bool} {σ : zc_N} (hD : gM D σ) (l : Bool) : pX9_pieces σ (b2 (!l)) ∧ rX9_pieces σ (b2 (!l)) = nI (cnt (ldm D l) 256) ∧ gM D (sX9_pieces σ (b2 (!l))) ∧ off [34] σ (sX9_pieces σ (b2 (!l))) := by
  have hw : ¬ rX9_within (b2 (!l)) (0 : Int32) (1 : Int32) = (0 : Int32) := by cases l <;> decide
  obtain ⟨k1, n, υ, hn, e, hI, hf⟩ := v45_m hD l
  have hL := loop135 hI
  have e1 : vX9_pieces_1 (b2 (!l)) σ = υ := by
    unfold vX9_pieces_1
    rw [l2_b, e]
  have e2 : vX9_pieces_2 (b2 (!l)) σ = nI n := by
    unfold vX9_pieces_2
    rw [l2_b, e]
  obtain ⟨ω, eω, hω⟩ := hL 256 (Nat.le_refl _)
  have e4 : vX9_pieces_4 (b2 (!l)) σ = nI (cnt (ldm D l) 256) := by
    unfold vX9_pieces_4
    rw [l2_b, e1, eω]
  have e3 : vX9_pieces_3 (b2 (!l)) σ = ω := by
    unfold vX9_pieces_3
    rw [l2_b, e1, eω]
  have e6 : vX9_pieces_6 (b2 (!l)) σ = nI (cnt (ldm D l) 256) := e4
  have e5 : vX9_pieces_5 (b2 (!l)) σ = ω := e3
  have q135 : ∀ i135_ : Nat, i135_ < 256 → qX9_pieces_135 (b2 l) i135_ (zfor (fX9_pieces_135 (b2 l)) i135_ ((0 : Int32), υ)) := fun i hi => by
    obtain ⟨ψ, eψ, hψ⟩ := hL i (by omega)
    rw [eψ]
    exact (st135 hi hψ _).1
  have er : rX9_pieces σ (b2 (!l)) = nI (cnt (ldm D l) 256) := by
    unfold rX9_pieces
    rw [if_neg hw, e4, e6, ite_self]
  have es : sX9_pieces σ (b2 (!l)) = ω := by
    unfold sX9_pieces
    rw [if_neg hw, e3, e5, ite_self]
  rw [er, es]
  refine ⟨?_, rfl, hω.1, hω.2.2.1⟩
  unfold pX9_pieces
  rw [l2_b, e1, e2]
  refine ⟨fun z => absurd z hw, fun _ => ⟨k1, fun _ => q135, fun z => ⟨fun z2 => ?_, fun _ => q135⟩⟩⟩
  have hl : l = false := (b2_0 l).mp z2
  exact absurd (nI_le (hf hl) hn) z
