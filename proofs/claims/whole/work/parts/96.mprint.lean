/-! ===== print: prints told apart only by what they are ===== -/
def agr (A A' : gA) (p : Nat) : Prop := aN A' p = aN A p ∧ aX A' p = aX A p ∧ aY A' p = aY A p ∧ aK A' p = aK A p ∧ aR A' p = aR A p
theorem agr_S {A A' : gA} {a b : Nat} (ha : agr A A' a) (hb : agr A A' b) (r : Nat) : Sk A' r a b = Sk A r a b ∧ Bk A' r a b = Bk A r a b := by
  obtain ⟨a1, a2, a3, a4, a5⟩ := ha
  obtain ⟨b1, b2, b3, b4, b5⟩ := hb
  have elx : ∀ q dx, lx A' a q dx = lx A a q dx := fun q dx => funext (fun i => by unfold lx; rw [a2, a3])
  have ely : ∀ q dx, ly A' a q dx = ly A a q dx := fun q dx => funext (fun i => by unfold ly; rw [a2, a3])
  have em : ∀ q dx dy, mayB A' r a b q dx dy = mayB A r a b q dx dy := fun q dx dy => funext (fun i => funext (fun j => by
    unfold mayB
    rw [elx, ely, a1, b1, a4, b4, b2, b3]))
  have ea : ∀ q dx dy, inA A' a b q dx dy = inA A a b q dx dy := fun q dx dy => funext (fun i => by
    unfold inA
    rw [elx, ely, b5])
  have eb : ∀ q dx dy, inB A' a b q dx dy = inB A a b q dx dy := fun q dx dy => funext (fun j => by
    unfold inB xlo xhi ylo yhi
    rw [a5, b2, b3])
  have eS : Sk A' r a b = Sk A r a b := funext (fun k => by
    unfold Sk SC SB PR
    rw [em, ea, eb, a1, b1])
  have eL : Lk A' a b = Lk A a b := funext (fun k => by
    unfold Lk on_
    rw [a1, a2, a3, a4, b1, b2, b3, b4])
  refine ⟨eS, ?_⟩
  unfold Bk
  rw [eS, eL]
/-! the reference's print -/
theorem c4n (n : Nat) : (4 : Int32) * nI n = nI (4 * n) := by rw [show (4 : Int32) = nI 4 from rfl, pk_mul]
theorem print_m {D : Nat → Bool} {τ : zc_N} {n : Nat} {a1 : Int32} (hD : gM D τ) (h11 : τ 32 11 = nI n) (hn : n < 24) (hb : ¬ prB a1) :
    pX9_print τ a1 ∧ rX9_print τ a1 = nI n ∧ gM D (sX9_print τ a1) ∧ off [32, 35, 36, 37, 38, 39, 40, 41, 42, 43] τ (sX9_print τ a1) ∧ (sX9_print τ a1 32 11 = nI (n + 1) ∧ ∀ k, k ≠ 11 → sX9_print τ a1 32 k = τ 32 k) ∧ (sX9_print τ a1 37 n = nI (min 12 (cnt (isp D) 256)) ∧ took D n 256 (sX9_print τ a1) ∧ keptP n τ (sX9_print τ a1)) ∧ (sX9_print τ a1 41 (4 * n) = zshr a1 (12 : Int32) ∧ sX9_print τ a1 41 (4 * n + 1) = (zshr a1 (8 : Int32)) &&& (15 : Int32) ∧ sX9_print τ a1 41 (4 * n + 2) = (zshr a1 (4 : Int32)) &&& (15 : Int32) ∧ sX9_print τ a1 41 (4 * n + 3) = a1 &&& (15 : Int32) ∧ ∀ m, m < 4 * n → sX9_print τ a1 41 m = τ 41 m) ∧ (sX9_print τ a1 42 n = -1 ∧ sX9_print τ a1 43 n = -1 ∧ ∀ p, p ≠ n → sX9_print τ a1 42 p = τ 42 p ∧ sX9_print τ a1 43 p = τ 43 p) := by
  have w1 : ¬ rX9_within a1 (0 : Int32) (65535 : Int32) = 0 := fun z => hb (Or.inl z)
  have w2 : ¬ ((zshr a1 (4 : Int32)) &&& (15 : Int32)) < (zshr a1 (12 : Int32)) := fun z => hb (Or.inr (Or.inl z))
  have w3 : ((zshr a1 (8 : Int32)) &&& (15 : Int32)) ≤ (a1 &&& (15 : Int32)) := Classical.byContradiction (fun z => hb (Or.inr (Or.inr z)))
  have n24 : ¬ nI n = (24 : Int32) := fun z => by
    have z2 : nI n = nI 24 := z
    have := (nI_eq (by omega) (by decide)).mp z2
    omega
  have er : rX9_print τ a1 = nI n := by
    unfold rX9_print
    rw [if_neg w1, if_neg w2, if_pos w3, h11, if_neg n24]
  have hv24 : vp_in (nI n) 24 := vp_in_nI hn (by decide)
  have e1 : vX9_print_1 a1 τ = sX9_findPoints (zu τ 41 (zu (zu (zu (zu (τ 41) (4 * n) (zshr a1 (12 : Int32))) (4 * n + 1) ((zshr a1 (8 : Int32)) &&& (15 : Int32))) (4 * n + 2) ((zshr a1 (4 : Int32)) &&& (15 : Int32))) (4 * n + 3) (a1 &&& (15 : Int32)))) := by
    unfold vX9_print_1
    rw [h11, c4n, show (2 : Int32) = nI 2 from rfl, show (3 : Int32) = nI 3 from rfl, nI_1, nI_add, nI_add, nI_clamp (n := 4 * n) (by omega), nI_clamp (n := 4 * n + 1) (by omega), nI_clamp (n := 4 * n + 2) (by omega), nI_clamp (n := 4 * n + 3) (by omega)]
  have hp1 : pX9_findPoints (zu τ 41 (zu (zu (zu (zu (τ 41) ((4 : Int32) * nI n).toNatClampNeg (zshr a1 (12 : Int32))) (((4 : Int32) * nI n) + (1 : Int32)).toNatClampNeg ((zshr a1 (8 : Int32)) &&& (15 : Int32))) (((4 : Int32) * nI n) + (2 : Int32)).toNatClampNeg ((zshr a1 (4 : Int32)) &&& (15 : Int32))) (((4 : Int32) * nI n) + (3 : Int32)).toNatClampNeg (a1 &&& (15 : Int32)))) :=
    (findPoints_m (D := D) (fun k hk => by rw [zu_ne _ _ (by decide)]; exact hD k hk)).1
  generalize hT : zu τ 41 (zu (zu (zu (zu (τ 41) (4 * n) (zshr a1 (12 : Int32))) (4 * n + 1) ((zshr a1 (8 : Int32)) &&& (15 : Int32))) (4 * n + 2) ((zshr a1 (4 : Int32)) &&& (15 : Int32))) (4 * n + 3) (a1 &&& (15 : Int32))) = T at e1
  have oT : off [41] τ T := by rw [← hT]; exact off_zu (off_rf _ _) (by simp) _
  have hTM : gM D T := fun k hk => by rw [oT 33 (by decide)]; exact hD k hk
  obtain ⟨-, -, f3, f4, f5⟩ := findPoints_m hTM
  generalize sX9_findPoints T = T2 at e1 f3 f4 f5
  have e2 : zu (vX9_print_1 a1 τ) 37 (zu ((vX9_print_1 a1 τ) 37) (nI n).toNatClampNeg (0 : Int32)) = zu T2 37 (zu (T2 37) n 0) := by rw [e1, nI_clamp (n := n) (by omega)]
  generalize hT3 : zu T2 37 (zu (T2 37) n (0 : Int32)) = T3 at e2
  have oT3 : off [37] T2 T3 := by rw [← hT3]; exact off_zu (off_rf _ _) (by simp) _
  have h37 : T3 37 n = 0 := by rw [← hT3, zu_self, zu_self]
  have h37' : ∀ q, q ≠ n → T3 37 q = T2 37 q := fun q hq => by rw [← hT3, zu_self, zu_ne _ _ hq]
  obtain ⟨t1, t2, t3, t4, t5, t6, t7⟩ := take_m (D := D) (σ := T3) hn (fun j hj => by rw [oT3 36 (by decide)]; exact f4 j hj) h37
  have e3 : vX9_print_3 a1 τ = (wX9_print_136 (nI n) ((0 : Int32), T3)).2 := by
    unfold vX9_print_3
    rw [h11, e2]
  have e4 : vX9_print_4 a1 τ = (wX9_print_136 (nI n) ((0 : Int32), T3)).1 := by
    unfold vX9_print_4
    rw [h11, e2]
  have es : sX9_print τ a1 = (zu (zu (zu (wX9_print_136 (nI n) ((0 : Int32), T3)).2 42 (zu ((wX9_print_136 (nI n) ((0 : Int32), T3)).2 42) n (-1 : Int32))) 43 (zu ((wX9_print_136 (nI n) ((0 : Int32), T3)).2 43) n (-1 : Int32))) 32 (zu ((wX9_print_136 (nI n) ((0 : Int32), T3)).2 32) 11 (((wX9_print_136 (nI n) ((0 : Int32), T3)).2 32 11) + (1 : Int32)))) := by
    unfold sX9_print
    rw [if_neg w1, if_neg w2, if_pos w3, h11, if_neg n24, e3, nI_clamp (n := n) (by omega)]
  have hP : pX9_print τ a1 := by
    unfold pX9_print
    rw [h11, e2, e3, e4]
    refine ⟨fun _ => trivial, fun _ => ⟨fun _ => trivial, fun _ => ⟨fun _ => ⟨fun _ => trivial, fun _ => ⟨?_, ?_, ?_, ?_, hp1, hv24, ⟨t1, t2⟩, t3⟩⟩, fun _ => trivial⟩⟩⟩
    · rw [c4n]; exact vp_in_nI (by omega) (by decide)
    · rw [c4n, nI_1]; exact vp_in_nI (by omega) (by decide)
    · rw [c4n, show (2 : Int32) = nI 2 from rfl, nI_add]; exact vp_in_nI (by omega) (by decide)
    · rw [c4n, show (3 : Int32) = nI 3 from rfl, nI_add]; exact vp_in_nI (by omega) (by decide)
  rw [er, es]
  refine ⟨hP, rfl, ?_⟩
  generalize (wX9_print_136 (nI n) ((0 : Int32), T3)).2 = υ at t4 t5 t6 t7 ⊢
  have oυ : off [35, 36, 37, 38, 39, 40, 41] τ υ := off_tr (off_sub oT (by simp)) (off_tr (off_sub f5 (by simp)) (off_tr (off_sub oT3 (by simp)) (off_sub t7 (by simp))))
  have m32 : ∀ k, k ≠ 42 → k ≠ 43 → k ≠ 32 → (zu (zu (zu υ 42 (zu (υ 42) n (-1 : Int32))) 43 (zu (υ 43) n (-1 : Int32))) 32 (zu (υ 32) 11 ((υ 32 11) + (1 : Int32)))) k = υ k := fun k h1 h2 h3 => by rw [zu_ne _ _ h3, zu_ne _ _ h2, zu_ne _ _ h1]
  have q41 : υ 41 = T 41 := by rw [t7 41 (by decide), oT3 41 (by decide), f5 41 (by decide)]
  refine ⟨fun k hk => by rw [m32 33 (by decide) (by decide) (by decide), oυ 33 (by decide)]; exact hD k hk, fun k hk => ?_, ⟨?_, fun k hk => ?_⟩, ⟨?_, ?_, ?_⟩, ⟨?_, ?_, ?_, ?_, fun m hm => ?_⟩, ⟨?_, ?_, fun p hp => ⟨?_, ?_⟩⟩⟩
  · have k1 : k ≠ 42 := fun z => hk (by rw [z]; decide)
    have k2 : k ≠ 43 := fun z => hk (by rw [z]; decide)
    have k3 : k ≠ 32 := fun z => hk (by rw [z]; decide)
    rw [m32 k k1 k2 k3]
    refine oυ k (fun z => hk ?_)
    simp only [List.mem_cons, List.not_mem_nil, or_false] at z ⊢
    omega
  · rw [zu_self, zu_self, oυ 32 (by decide), h11, nI_1]
  · rw [zu_self, zu_ne _ _ hk, oυ 32 (by decide)]
  · rw [m32 37 (by decide) (by decide) (by decide)]; exact t4
  · intro j hj h1 h2
    rw [m32 38 (by decide) (by decide) (by decide), m32 39 (by decide) (by decide) (by decide), m32 40 (by decide) (by decide) (by decide)]
    exact t5 j hj h1 h2
  · refine ⟨fun q hq => ?_, fun m hm => ?_⟩
    · rw [m32 37 (by decide) (by decide) (by decide), t6.1 q hq, h37' q hq, f5 37 (by decide), oT 37 (by decide)]
    · rw [m32 38 (by decide) (by decide) (by decide), m32 39 (by decide) (by decide) (by decide), m32 40 (by decide) (by decide) (by decide)]
      obtain ⟨g1, g2, g3⟩ := t6.2 m hm
      rw [g1, g2, g3, oT3 38 (by decide), oT3 39 (by decide), oT3 40 (by decide), f5 38 (by decide), f5 39 (by decide), f5 40 (by decide), oT 38 (by decide), oT 39 (by decide), oT 40 (by decide)]
      exact ⟨rfl, rfl, rfl⟩
  · rw [m32 41 (by decide) (by decide) (by decide), q41, ← hT, zu_self, zu_ne _ _ (by omega), zu_ne _ _ (by omega), zu_ne _ _ (by omega), zu_self]
  · rw [m32 41 (by decide) (by decide) (by decide), q41, ← hT, zu_self, zu_ne _ _ (by omega), zu_ne _ _ (by omega), zu_self]
  · rw [m32 41 (by decide) (by decide) (by decide), q41, ← hT, zu_self, zu_ne _ _ (by omega), zu_self]
  · rw [m32 41 (by decide) (by decide) (by decide), q41, ← hT, zu_self, zu_self]
  · rw [m32 41 (by decide) (by decide) (by decide), q41, ← hT, zu_self, zu_ne _ _ (by omega), zu_ne _ _ (by omega), zu_ne _ _ (by omega), zu_ne _ _ (by omega)]
  · rw [zu_ne _ _ (by decide), zu_ne _ _ (by decide), zu_self, zu_self]
  · rw [zu_ne _ _ (by decide), zu_self, zu_self]
  · rw [zu_ne _ _ (by decide), zu_ne _ _ (by decide), zu_self, zu_ne _ _ hp, oυ 42 (by decide)]
  · rw [zu_ne _ _ (by decide), zu_self, zu_ne _ _ hp, oυ 43 (by decide)]
