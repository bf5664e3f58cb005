/-! ===== wip/whole/p99.py: the law from its entry ===== -/
def f1w (j : Nat) : Int32 := [0, 1, 0, -1, 1, 1, -1, -1].getD j 0
def f2w (j : Nat) : Int32 := [-1, 0, 1, 0, -1, 1, 1, -1].getD j 0
theorem RW_0 (y : Nat) : RW (fun _ => false) y = 0 := by
  unfold RW
  rw [rowN_congr (g := fun _ => false) 18 (fun x _ => by unfold pd; simp)]
  rfl
def A00 : gA := (fun _ => 0, fun _ _ => 0, fun _ _ => 0, fun _ _ => 0, fun _ _ => 0)
theorem Inv_0 {L : Nat} {σ : zc_N} (h5 : σ 5 = fun _ => 0) (h33 : σ 33 = fun _ => 0) (h3 : σ 3 = fun _ => 0) (h10 : σ 10 = IV 10) (h11 : σ 11 = fun _ => 0) (h32 : σ 32 11 = 0 ∧ σ 32 12 = 1 ∧ σ 32 30 = -1 ∧ σ 32 36 = -1 ∧ σ 32 37 = -1) (hW : iW σ) : Inv (zP0 L) A00 σ := by
  obtain ⟨a1, a2, a3, a4, a5⟩ := h32
  refine ⟨⟨fun _ => false, fun y _ => ?_, fun k _ => ?_⟩, ⟨⟨by show (0 : Nat) ≤ 24; decide, by rw [h3]; rfl, by rw [a1]; rfl⟩, fun p hp => absurd hp (Nat.not_lt_zero p), fun p hp => absurd hp (Nat.not_lt_zero p)⟩, ⟨1, by decide, by rw [h10]; rfl, by rw [a2]; rfl⟩, Or.inl ⟨by rw [h3], a3⟩, Or.inl ⟨by rw [h3], a4, a5⟩, ⟨fun r a b _ ha => absurd ha (Nat.not_lt_zero a), fun r a b _ _ _ _ => by rw [h11]⟩, hW, fun p q hp => absurd hp (Nat.not_lt_zero p)⟩
  · rw [h5, RW_0]; rfl
  · rw [h33]; rfl
theorem zc_nest_of {w : Cond} (hw : w ∈ zc_nest) {B : Array Value} {s : State} (h : w.before B s = true) : va_Nw w s := by
  have h1 := (List.mem_filter.mp hw).2
  cases w <;> first | (exact va_Nw.of rfl h) | (exact absurd h1 Bool.false_ne_true) | skip
  rename_i t
  cases t <;> first | (exact va_AO.of h) | (exact absurd h1 Bool.false_ne_true)
set_option maxHeartbeats 4000000 in
theorem lw_main {G : zc_G} {nm : String} {Q : Option Value → zc_H → Prop} (hQ : ∀ h, Q (some (.int 1)) h) {L : Nat} (hL : L ≤ 3072) {σ0 : zc_N} (hW : iW σ0) : zz G (mLw nm) 1000 600000 7302250 Q 0 [some (.ref 0), none, none, none] [] (3, SH (zP0 L), σ0) 0 0 := by
  refine z_new (ci := 8) (r := (RX8, TX8, 12)) dL_law_0 rfl cl_L_7 nw_X8 ni_X8 df_X8 (Nat.le_of_ble_eq_true rfl) (Nat.le_of_ble_eq_true rfl) ?_
  refine z_dup dL_law_3 rfl ?_
  refine z_callI (b := 3) (As := []) (rest := [.ref 3]) rfl (ctX8_init L (sh := zu (SH (zP0 L)) 3 ((11, 12, fun _ => none) : zc_S)) (σ := zu σ0 3 (fun _ => 0)) rfl rfl) dL_law_4 lk_L_9 li_X8_init rfl (Nat.le_of_ble_eq_true rfl) (Nat.le_of_ble_eq_true rfl) (Nat.le_of_ble_eq_true rfl) (Nat.le_of_ble_eq_true rfl) (fun r_ h_ e_ => ?_)
  obtain ⟨e1_, S, T, e2_, hc⟩ := e_
  subst e1_
  subst e2_
  show zz G (mLw nm) 1000 600000 7302250 Q 7 [some (.ref 0), none, none, none] [.ref 3] (32, S, T) 29 2984
  refine z_astorer_n (lv' := [some (.ref 0), some (.ref 3), none, none]) dL_law_7 (Nat.le_of_ble_eq_true rfl) rfl ?_
  refine z_new (ci := 9) (r := (RX9, TX9, 38)) dL_law_8 rfl cl_L_10 nw_X9 ni_X9 df_X9 (Nat.le_of_ble_eq_true rfl) (Nat.le_of_ble_eq_true rfl) ?_
  refine z_dup dL_law_11 rfl ?_
  refine z_callI (b := 32) (As := []) (rest := [.ref 32]) rfl (ctX9_init_32 L (sh := zu S 32 ((12, 38, fun _ => none) : zc_S)) (σ := zu T 32 (fun _ => 0)) rfl rfl) dL_law_12 lk_L_12 li_X9_init rfl (Nat.le_of_ble_eq_true rfl) (Nat.le_of_ble_eq_true rfl) (Nat.le_of_ble_eq_true rfl) (Nat.le_of_ble_eq_true rfl) (fun r_ h_ e_ => ?_)
  obtain ⟨e1_, e2_⟩ := e_
  subst e1_
  subst e2_
  obtain ⟨c1, c2, c3, c4⟩ := hc
  have es : (zu (zu (zu (zu (zu (zu (zu (zu (zu (zu (zu (zu (zu (zu (zu (zu (zu (zu (zu (zu (zu (zu (zu (zu (zu (zu S 32 ((12, 38, fun _ => none) : zc_S)) 32 (SH (zP0 L) 32)) 33 (SH (zP0 L) 33)) 34 (SH (zP0 L) 34)) 35 (SH (zP0 L) 35)) 36 (SH (zP0 L) 36)) 37 (SH (zP0 L) 37)) 38 (SH (zP0 L) 38)) 39 (SH (zP0 L) 39)) 40 (SH (zP0 L) 40)) 41 (SH (zP0 L) 41)) 42 (SH (zP0 L) 42)) 43 (SH (zP0 L) 43)) 44 (SH (zP0 L) 44)) 45 (SH (zP0 L) 45)) 46 (SH (zP0 L) 46)) 47 (SH (zP0 L) 47)) 48 (SH (zP0 L) 48)) 49 (SH (zP0 L) 49)) 50 (SH (zP0 L) 50)) 51 (SH (zP0 L) 51)) 52 (SH (zP0 L) 52)) 53 (SH (zP0 L) 53)) 54 (SH (zP0 L) 54)) 55 (SH (zP0 L) 55)) 56 (SH (zP0 L) 56)) = SH (zP0 L) := funext (fun k => by
    by_cases e32 : k = 32
    · subst e32
      rfl
    by_cases e33 : k = 33
    · subst e33
      rfl
    by_cases e34 : k = 34
    · subst e34
      rfl
    by_cases e35 : k = 35
    · subst e35
      rfl
    by_cases e36 : k = 36
    · subst e36
      rfl
    by_cases e37 : k = 37
    · subst e37
      rfl
    by_cases e38 : k = 38
    · subst e38
      rfl
    by_cases e39 : k = 39
    · subst e39
      rfl
    by_cases e40 : k = 40
    · subst e40
      rfl
    by_cases e41 : k = 41
    · subst e41
      rfl
    by_cases e42 : k = 42
    · subst e42
      rfl
    by_cases e43 : k = 43
    · subst e43
      rfl
    by_cases e44 : k = 44
    · subst e44
      rfl
    by_cases e45 : k = 45
    · subst e45
      rfl
    by_cases e46 : k = 46
    · subst e46
      rfl
    by_cases e47 : k = 47
    · subst e47
      rfl
    by_cases e48 : k = 48
    · subst e48
      rfl
    by_cases e49 : k = 49
    · subst e49
      rfl
    by_cases e50 : k = 50
    · subst e50
      rfl
    by_cases e51 : k = 51
    · subst e51
      rfl
    by_cases e52 : k = 52
    · subst e52
      rfl
    by_cases e53 : k = 53
    · subst e53
      rfl
    by_cases e54 : k = 54
    · subst e54
      rfl
    by_cases e55 : k = 55
    · subst e55
      rfl
    by_cases e56 : k = 56
    · subst e56
      rfl
    rw [zu_ne _ _ (by omega), zu_ne _ _ (by omega), zu_ne _ _ (by omega), zu_ne _ _ (by omega), zu_ne _ _ (by omega), zu_ne _ _ (by omega), zu_ne _ _ (by omega), zu_ne _ _ (by omega), zu_ne _ _ (by omega), zu_ne _ _ (by omega), zu_ne _ _ (by omega), zu_ne _ _ (by omega), zu_ne _ _ (by omega), zu_ne _ _ (by omega), zu_ne _ _ (by omega), zu_ne _ _ (by omega), zu_ne _ _ (by omega), zu_ne _ _ (by omega), zu_ne _ _ (by omega), zu_ne _ _ (by omega), zu_ne _ _ (by omega), zu_ne _ _ (by omega), zu_ne _ _ (by omega), zu_ne _ _ (by omega), zu_ne _ _ (by omega), zu_ne _ _ (by omega)]
    by_cases k3 : k = 3
    · subst k3
      rw [c1]
      exact rf_3 L
    · by_cases k4 : 3 < k ∧ k < 32
      · exact (c2 k k4.1 k4.2).1
      · rw [(c3 k (by omega)).1, zu_ne _ _ k3])
  have et : ∀ k, k < 32 → (zu (zu (zu (zu (zu (zu (zu (zu (zu (zu (zu (zu (zu (zu (zu (zu (zu (zu (zu (zu (zu (zu (zu (zu (zu (zu T 32 (fun _ => (0 : Int32))) 32 (zu (zu (zu (zu (fun _ => (0 : Int32)) 12 (1 : Int32)) 30 (-1 : Int32)) 36 (-1 : Int32)) 37 (-1 : Int32))) 33 (fun _ => (0 : Int32))) 34 (fun _ => (0 : Int32))) 35 (fun _ => (0 : Int32))) 36 (fun _ => (0 : Int32))) 37 (fun _ => (0 : Int32))) 38 (fun _ => (0 : Int32))) 39 (fun _ => (0 : Int32))) 40 (fun _ => (0 : Int32))) 41 (fun _ => (0 : Int32))) 42 (fun _ => (0 : Int32))) 43 (fun _ => (0 : Int32))) 44 (fun _ => (0 : Int32))) 45 (fun _ => (0 : Int32))) 46 (fun _ => (0 : Int32))) 47 (fun _ => (0 : Int32))) 48 (fun _ => (0 : Int32))) 49 (fun _ => (0 : Int32))) 50 (fun _ => (0 : Int32))) 51 (fun _ => (0 : Int32))) 52 (fun _ => (0 : Int32))) 53 (fun _ => (0 : Int32))) 54 (fun _ => (0 : Int32))) 55 (fun _ => (0 : Int32))) 56 (fun _ => (0 : Int32))) k = T k := fun k hk => by rw [zu_ne _ _ (by omega), zu_ne _ _ (by omega), zu_ne _ _ (by omega), zu_ne _ _ (by omega), zu_ne _ _ (by omega), zu_ne _ _ (by omega), zu_ne _ _ (by omega), zu_ne _ _ (by omega), zu_ne _ _ (by omega), zu_ne _ _ (by omega), zu_ne _ _ (by omega), zu_ne _ _ (by omega), zu_ne _ _ (by omega), zu_ne _ _ (by omega), zu_ne _ _ (by omega), zu_ne _ _ (by omega), zu_ne _ _ (by omega), zu_ne _ _ (by omega), zu_ne _ _ (by omega), zu_ne _ _ (by omega), zu_ne _ _ (by omega), zu_ne _ _ (by omega), zu_ne _ _ (by omega), zu_ne _ _ (by omega), zu_ne _ _ (by omega), zu_ne _ _ (by omega)]
  have e33 : (zu (zu (zu (zu (zu (zu (zu (zu (zu (zu (zu (zu (zu (zu (zu (zu (zu (zu (zu (zu (zu (zu (zu (zu (zu (zu T 32 (fun _ => (0 : Int32))) 32 (zu (zu (zu (zu (fun _ => (0 : Int32)) 12 (1 : Int32)) 30 (-1 : Int32)) 36 (-1 : Int32)) 37 (-1 : Int32))) 33 (fun _ => (0 : Int32))) 34 (fun _ => (0 : Int32))) 35 (fun _ => (0 : Int32))) 36 (fun _ => (0 : Int32))) 37 (fun _ => (0 : Int32))) 38 (fun _ => (0 : Int32))) 39 (fun _ => (0 : Int32))) 40 (fun _ => (0 : Int32))) 41 (fun _ => (0 : Int32))) 42 (fun _ => (0 : Int32))) 43 (fun _ => (0 : Int32))) 44 (fun _ => (0 : Int32))) 45 (fun _ => (0 : Int32))) 46 (fun _ => (0 : Int32))) 47 (fun _ => (0 : Int32))) 48 (fun _ => (0 : Int32))) 49 (fun _ => (0 : Int32))) 50 (fun _ => (0 : Int32))) 51 (fun _ => (0 : Int32))) 52 (fun _ => (0 : Int32))) 53 (fun _ => (0 : Int32))) 54 (fun _ => (0 : Int32))) 55 (fun _ => (0 : Int32))) 56 (fun _ => (0 : Int32))) 33 = fun _ => 0 := rfl
  have e32 : (zu (zu (zu (zu (zu (zu (zu (zu (zu (zu (zu (zu (zu (zu (zu (zu (zu (zu (zu (zu (zu (zu (zu (zu (zu (zu T 32 (fun _ => (0 : Int32))) 32 (zu (zu (zu (zu (fun _ => (0 : Int32)) 12 (1 : Int32)) 30 (-1 : Int32)) 36 (-1 : Int32)) 37 (-1 : Int32))) 33 (fun _ => (0 : Int32))) 34 (fun _ => (0 : Int32))) 35 (fun _ => (0 : Int32))) 36 (fun _ => (0 : Int32))) 37 (fun _ => (0 : Int32))) 38 (fun _ => (0 : Int32))) 39 (fun _ => (0 : Int32))) 40 (fun _ => (0 : Int32))) 41 (fun _ => (0 : Int32))) 42 (fun _ => (0 : Int32))) 43 (fun _ => (0 : Int32))) 44 (fun _ => (0 : Int32))) 45 (fun _ => (0 : Int32))) 46 (fun _ => (0 : Int32))) 47 (fun _ => (0 : Int32))) 48 (fun _ => (0 : Int32))) 49 (fun _ => (0 : Int32))) 50 (fun _ => (0 : Int32))) 51 (fun _ => (0 : Int32))) 52 (fun _ => (0 : Int32))) 53 (fun _ => (0 : Int32))) 54 (fun _ => (0 : Int32))) 55 (fun _ => (0 : Int32))) 56 (fun _ => (0 : Int32))) 32 11 = 0 ∧ (zu (zu (zu (zu (zu (zu (zu (zu (zu (zu (zu (zu (zu (zu (zu (zu (zu (zu (zu (zu (zu (zu (zu (zu (zu (zu T 32 (fun _ => (0 : Int32))) 32 (zu (zu (zu (zu (fun _ => (0 : Int32)) 12 (1 : Int32)) 30 (-1 : Int32)) 36 (-1 : Int32)) 37 (-1 : Int32))) 33 (fun _ => (0 : Int32))) 34 (fun _ => (0 : Int32))) 35 (fun _ => (0 : Int32))) 36 (fun _ => (0 : Int32))) 37 (fun _ => (0 : Int32))) 38 (fun _ => (0 : Int32))) 39 (fun _ => (0 : Int32))) 40 (fun _ => (0 : Int32))) 41 (fun _ => (0 : Int32))) 42 (fun _ => (0 : Int32))) 43 (fun _ => (0 : Int32))) 44 (fun _ => (0 : Int32))) 45 (fun _ => (0 : Int32))) 46 (fun _ => (0 : Int32))) 47 (fun _ => (0 : Int32))) 48 (fun _ => (0 : Int32))) 49 (fun _ => (0 : Int32))) 50 (fun _ => (0 : Int32))) 51 (fun _ => (0 : Int32))) 52 (fun _ => (0 : Int32))) 53 (fun _ => (0 : Int32))) 54 (fun _ => (0 : Int32))) 55 (fun _ => (0 : Int32))) 56 (fun _ => (0 : Int32))) 32 12 = 1 ∧ (zu (zu (zu (zu (zu (zu (zu (zu (zu (zu (zu (zu (zu (zu (zu (zu (zu (zu (zu (zu (zu (zu (zu (zu (zu (zu T 32 (fun _ => (0 : Int32))) 32 (zu (zu (zu (zu (fun _ => (0 : Int32)) 12 (1 : Int32)) 30 (-1 : Int32)) 36 (-1 : Int32)) 37 (-1 : Int32))) 33 (fun _ => (0 : Int32))) 34 (fun _ => (0 : Int32))) 35 (fun _ => (0 : Int32))) 36 (fun _ => (0 : Int32))) 37 (fun _ => (0 : Int32))) 38 (fun _ => (0 : Int32))) 39 (fun _ => (0 : Int32))) 40 (fun _ => (0 : Int32))) 41 (fun _ => (0 : Int32))) 42 (fun _ => (0 : Int32))) 43 (fun _ => (0 : Int32))) 44 (fun _ => (0 : Int32))) 45 (fun _ => (0 : Int32))) 46 (fun _ => (0 : Int32))) 47 (fun _ => (0 : Int32))) 48 (fun _ => (0 : Int32))) 49 (fun _ => (0 : Int32))) 50 (fun _ => (0 : Int32))) 51 (fun _ => (0 : Int32))) 52 (fun _ => (0 : Int32))) 53 (fun _ => (0 : Int32))) 54 (fun _ => (0 : Int32))) 55 (fun _ => (0 : Int32))) 56 (fun _ => (0 : Int32))) 32 30 = -1 ∧ (zu (zu (zu (zu (zu (zu (zu (zu (zu (zu (zu (zu (zu (zu (zu (zu (zu (zu (zu (zu (zu (zu (zu (zu (zu (zu T 32 (fun _ => (0 : Int32))) 32 (zu (zu (zu (zu (fun _ => (0 : Int32)) 12 (1 : Int32)) 30 (-1 : Int32)) 36 (-1 : Int32)) 37 (-1 : Int32))) 33 (fun _ => (0 : Int32))) 34 (fun _ => (0 : Int32))) 35 (fun _ => (0 : Int32))) 36 (fun _ => (0 : Int32))) 37 (fun _ => (0 : Int32))) 38 (fun _ => (0 : Int32))) 39 (fun _ => (0 : Int32))) 40 (fun _ => (0 : Int32))) 41 (fun _ => (0 : Int32))) 42 (fun _ => (0 : Int32))) 43 (fun _ => (0 : Int32))) 44 (fun _ => (0 : Int32))) 45 (fun _ => (0 : Int32))) 46 (fun _ => (0 : Int32))) 47 (fun _ => (0 : Int32))) 48 (fun _ => (0 : Int32))) 49 (fun _ => (0 : Int32))) 50 (fun _ => (0 : Int32))) 51 (fun _ => (0 : Int32))) 52 (fun _ => (0 : Int32))) 53 (fun _ => (0 : Int32))) 54 (fun _ => (0 : Int32))) 55 (fun _ => (0 : Int32))) 56 (fun _ => (0 : Int32))) 32 36 = -1 ∧ (zu (zu (zu (zu (zu (zu (zu (zu (zu (zu (zu (zu (zu (zu (zu (zu (zu (zu (zu (zu (zu (zu (zu (zu (zu (zu T 32 (fun _ => (0 : Int32))) 32 (zu (zu (zu (zu (fun _ => (0 : Int32)) 12 (1 : Int32)) 30 (-1 : Int32)) 36 (-1 : Int32)) 37 (-1 : Int32))) 33 (fun _ => (0 : Int32))) 34 (fun _ => (0 : Int32))) 35 (fun _ => (0 : Int32))) 36 (fun _ => (0 : Int32))) 37 (fun _ => (0 : Int32))) 38 (fun _ => (0 : Int32))) 39 (fun _ => (0 : Int32))) 40 (fun _ => (0 : Int32))) 41 (fun _ => (0 : Int32))) 42 (fun _ => (0 : Int32))) 43 (fun _ => (0 : Int32))) 44 (fun _ => (0 : Int32))) 45 (fun _ => (0 : Int32))) 46 (fun _ => (0 : Int32))) 47 (fun _ => (0 : Int32))) 48 (fun _ => (0 : Int32))) 49 (fun _ => (0 : Int32))) 50 (fun _ => (0 : Int32))) 51 (fun _ => (0 : Int32))) 52 (fun _ => (0 : Int32))) 53 (fun _ => (0 : Int32))) 54 (fun _ => (0 : Int32))) 55 (fun _ => (0 : Int32))) 56 (fun _ => (0 : Int32))) 32 37 = -1 := ⟨rfl, rfl, rfl, rfl, rfl⟩
  show zz G (mLw nm) 1000 600000 7302250 Q 15 [some (.ref 0), some (.ref 3), none, none] [.ref 32] (57, (zu (zu (zu (zu (zu (zu (zu (zu (zu (zu (zu (zu (zu (zu (zu (zu (zu (zu (zu (zu (zu (zu (zu (zu (zu (zu S 32 ((12, 38, fun _ => none) : zc_S)) 32 (SH (zP0 L) 32)) 33 (SH (zP0 L) 33)) 34 (SH (zP0 L) 34)) 35 (SH (zP0 L) 35)) 36 (SH (zP0 L) 36)) 37 (SH (zP0 L) 37)) 38 (SH (zP0 L) 38)) 39 (SH (zP0 L) 39)) 40 (SH (zP0 L) 40)) 41 (SH (zP0 L) 41)) 42 (SH (zP0 L) 42)) 43 (SH (zP0 L) 43)) 44 (SH (zP0 L) 44)) 45 (SH (zP0 L) 45)) 46 (SH (zP0 L) 46)) 47 (SH (zP0 L) 47)) 48 (SH (zP0 L) 48)) 49 (SH (zP0 L) 49)) 50 (SH (zP0 L) 50)) 51 (SH (zP0 L) 51)) 52 (SH (zP0 L) 52)) 53 (SH (zP0 L) 53)) 54 (SH (zP0 L) 54)) 55 (SH (zP0 L) 55)) 56 (SH (zP0 L) 56)), (zu (zu (zu (zu (zu (zu (zu (zu (zu (zu (zu (zu (zu (zu (zu (zu (zu (zu (zu (zu (zu (zu (zu (zu (zu (zu T 32 (fun _ => (0 : Int32))) 32 (zu (zu (zu (zu (fun _ => (0 : Int32)) 12 (1 : Int32)) 30 (-1 : Int32)) 36 (-1 : Int32)) 37 (-1 : Int32))) 33 (fun _ => (0 : Int32))) 34 (fun _ => (0 : Int32))) 35 (fun _ => (0 : Int32))) 36 (fun _ => (0 : Int32))) 37 (fun _ => (0 : Int32))) 38 (fun _ => (0 : Int32))) 39 (fun _ => (0 : Int32))) 40 (fun _ => (0 : Int32))) 41 (fun _ => (0 : Int32))) 42 (fun _ => (0 : Int32))) 43 (fun _ => (0 : Int32))) 44 (fun _ => (0 : Int32))) 45 (fun _ => (0 : Int32))) 46 (fun _ => (0 : Int32))) 47 (fun _ => (0 : Int32))) 48 (fun _ => (0 : Int32))) 49 (fun _ => (0 : Int32))) 50 (fun _ => (0 : Int32))) 51 (fun _ => (0 : Int32))) 52 (fun _ => (0 : Int32))) 53 (fun _ => (0 : Int32))) 54 (fun _ => (0 : Int32))) 55 (fun _ => (0 : Int32))) 56 (fun _ => (0 : Int32)))) 54 5629
  rw [es]
  generalize (zu (zu (zu (zu (zu (zu (zu (zu (zu (zu (zu (zu (zu (zu (zu (zu (zu (zu (zu (zu (zu (zu (zu (zu (zu (zu T 32 (fun _ => (0 : Int32))) 32 (zu (zu (zu (zu (fun _ => (0 : Int32)) 12 (1 : Int32)) 30 (-1 : Int32)) 36 (-1 : Int32)) 37 (-1 : Int32))) 33 (fun _ => (0 : Int32))) 34 (fun _ => (0 : Int32))) 35 (fun _ => (0 : Int32))) 36 (fun _ => (0 : Int32))) 37 (fun _ => (0 : Int32))) 38 (fun _ => (0 : Int32))) 39 (fun _ => (0 : Int32))) 40 (fun _ => (0 : Int32))) 41 (fun _ => (0 : Int32))) 42 (fun _ => (0 : Int32))) 43 (fun _ => (0 : Int32))) 44 (fun _ => (0 : Int32))) 45 (fun _ => (0 : Int32))) 46 (fun _ => (0 : Int32))) 47 (fun _ => (0 : Int32))) 48 (fun _ => (0 : Int32))) 49 (fun _ => (0 : Int32))) 50 (fun _ => (0 : Int32))) 51 (fun _ => (0 : Int32))) 52 (fun _ => (0 : Int32))) 53 (fun _ => (0 : Int32))) 54 (fun _ => (0 : Int32))) 55 (fun _ => (0 : Int32))) 56 (fun _ => (0 : Int32))) = σI at et e33 e32 ⊢
  refine z_astorer_n (lv' := [some (.ref 0), some (.ref 3), some (.ref 32), none]) dL_law_15 (Nat.le_of_ble_eq_true rfl) rfl ?_
  refine z_iconst (v := nI (6 * 0)) dL_law_16 (by decide +kernel) ?_
  refine z_istore_n (lv' := [some (.ref 0), some (.ref 3), some (.ref 32), some (.int (nI (6 * 0)))]) dL_law_17 (Nat.le_of_ble_eq_true rfl) rfl ?_
  have hI : Inv (zP0 L) A00 σI := by
    refine Inv_0 ?_ e33 ?_ ?_ ?_ e32 ?_
    · rw [et 5 (by decide), (c2 5 (by decide) (by decide)).2]; rfl
    · rw [et 3 (by decide)]; exact c4
    · rw [et 10 (by decide)]; exact (c2 10 (by decide) (by decide)).2
    · rw [et 11 (by decide), (c2 11 (by decide) (by decide)).2]; rfl
    · unfold iW
      rw [et 1 (by decide), et 2 (by decide), (c3 1 (Or.inl (by decide))).2, (c3 2 (Or.inl (by decide))).2, zu_ne _ _ (by decide), zu_ne _ _ (by decide)]
      exact hW
  exact lw_loop hQ 512 0 (zP0 L) A00 σI hL (Nat.zero_le _) (by show L ≤ 6 * 0 + 6 * 512; omega) hI
/-! THE CLAIM OUT OF ONE WALK OF THE LAW'S BODY. Your part is whole_start (and what it stands on); all else here is the same for every law, but numbers. -/
def R_law : String := "MarkCabinetLaw"
def lw_P (b : Addr) (xs : List Int32) (args : Array Value) (s : State) : Prop := args = #[.ref b] ∧ s.IntsAt b xs ∧ xs.length ≤ 3072 ∧ (Jvm.Cond.and given_1 narrow_1).before args s = true
def lw_Q (_ : Array Value) (s : State) (o : Outcome) (t : State) : Prop := o = .returned (some (.int 1)) ∧ Framed s o t [] 600000 7302250
def lw_Z (below : List Frame) (a : Array Value) (s : State) : State → Prop := fun t => ∃ o, t.status = .running ∧ Ended t below o ∧ lw_Q a s o t
/-- the law's own end, with 1 on the stack, nothing written that was there before, its room as the claim has it -/
theorem lw_ret {p : Program} {l : Launch} {e : Env} {s : State} {m : MethodId} {below : List Frame} {meth : Method} {c : Code} {b : Nat} (hx : p.tables.exec = Jvm.exec) (hb : c.code = code) (hr : meth.sig.returnType = ret) (hlocks : meth.locks = false) {pc : Nat} {H : Heap} {ls : Array Slot} (hdg : decode code pc = .ok (.ireturn, 1)) : W p l e room_1 s m #[Value.ref b] below meth c H [] 600000 7302250 (lw_Z below #[Value.ref b] s) (F0 m pc ls [.int 1]) := by
  intro T hT X
  obtain ⟨fs, hret, hrun, hended, hW, hframe⟩ := X.leave (v := some (.int 1)) (hlocks := hlocks) (fun h => by rw [hr] at h; cases h)
  have hmeth' : T.vm.method? m = some meth := X.method'
  refine ⟨T.setFrames fs, ?_, .returned (some (.int 1)), hrun, hended, rfl, ⟨_, rfl⟩, hW, hframe⟩
  jvm_step X.here [X.here.top, hx, hb, hdg, hmeth', hr, ret, narrow_b1]
  (try refine ⟨rfl, ?_⟩); (try refine ⟨rfl, ?_⟩)
  first | (intro acts; rw [hret _ acts rfl rfl rfl]) | rw [hret _ _ rfl rfl rfl]
  exact Steps.refl _
/-- what holds at the law's entry: the machine, the code, the tables' words (any of lw_tbl by 'hts w (by decide +kernel)'), the script of L ints xs at the cell b, what the Statement gives of the start (any of its parts by flat_of_before) -/
def lw_At (p : Program) (s : State) (m : MethodId) (meth : Method) (c : Code) (b L : Nat) (xs : Nat → Int32) : Prop :=
  p.tables.exec = Jvm.exec ∧ c.code = code ∧ meth.sig.returnType = ret ∧ c.maxLocals = 4 ∧ s.vm.findClass R_law = some m.cls ∧ (∀ w ∈ lw_tbl, w.before #[Value.ref b] s = true) ∧ va_X b L xs s s.heap ∧ b < s.heap.size ∧ meth.locks = false ∧ (Jvm.Cond.and given_1 narrow_1).before #[Value.ref b] s = true
-- ===== YOUR PART BEGINS =====
/-- YOUR PART: from the entry, for every script of at most 3072 ints, the law comes to its end with true -/
theorem whole_start {p : Program} {e : Env} {s : State} {m : MethodId} {below : List Frame} {meth : Method} {c : Code} (l : Launch) {b L : Nat} {xs : Nat → Int32} (hL : L ≤ 3072) (C0 : lw_At p s m meth c b L xs) : W p l e room_1 s m #[Value.ref b] below meth c s.heap [] 0 0 (lw_Z below #[Value.ref b] s) (entryFrame m ([Value.ref b] : List Value).toArray 4) := by
  obtain ⟨hx, hb, hr, hml, hown, hts, hX, hbl, hlocks, hgv⟩ := id C0
  have hts' : ∀ w ∈ zc_tb, w.before #[Value.ref b] s = true := fun w hw => hts w (List.mem_filter.mp hw).1
  have hA : ∀ a : Nat, a < s.heap.size → ¬ (fun q : Nat => s.heap.size ≤ q) a := fun a ha => Nat.not_le.mpr ha
  have hflat := flat_of_before _ hgv
  obtain ⟨c0, iS0, hKn0⟩ := u_known (C := RX0) (T := TX0) (N := 3) (n := 3) hts' (zc_in 0 _ rfl) (hts' _ nw_X0)
  obtain ⟨c1, iS1, hKn1⟩ := u_known (C := RX1) (T := TX1) (N := 3) (n := 3) hts' (zc_in 1 _ rfl) (hts' _ nw_X1)
  obtain ⟨c2, iS2, hKn2⟩ := u_known (C := RX2) (T := TX2) (N := 6) (n := 6) hts' (zc_in 2 _ rfl) (hts' _ nw_X2)
  obtain ⟨c3, iS3, hKn3⟩ := u_known (C := RX3) (T := TX3) (N := 10) (n := 10) hts' (zc_in 3 _ rfl) (hts' _ nw_X3)
  obtain ⟨c4, iS4, hKn4⟩ := u_known (C := RX4) (T := TX4) (N := 10) (n := 10) hts' (zc_in 4 _ rfl) (hts' _ nw_X4)
  obtain ⟨c5, iS5, hKn5⟩ := u_known (C := RX5) (T := TX5) (N := 4) (n := 4) hts' (zc_in 5 _ rfl) (hts' _ nw_X5)
  obtain ⟨c6, iS6, hKn6⟩ := u_known (C := RX6) (T := TX6) (N := 4) (n := 4) hts' (zc_in 6 _ rfl) (hts' _ nw_X6)
  obtain ⟨c7, iS7, hKn7⟩ := u_known (C := RX7) (T := TX7) (N := 5) (n := 5) hts' (zc_in 7 _ rfl) (hts' _ nw_X7)
  obtain ⟨c8, iS8, hKn8⟩ := u_known (C := RX8) (T := TX8) (N := 12) (n := 12) hts' (zc_in 8 _ rfl) (hts' _ nw_X8)
  obtain ⟨c9, iS9, hKn9⟩ := u_known (C := RX9) (T := TX9) (N := 38) (n := 38) hts' (zc_in 9 _ rfl) (hts' _ nw_X9)
  obtain ⟨dC, dI, hKc⟩ : ∃ (dC : Nat → ClassId) (dI : Nat → Nat → Nat), ∀ (k : Nat) (q : vw_C), zc_cl[k]? = some q → u_Kn s q.1 q.2.1 q.2.2 (dC k) (dI k) := by
    refine ⟨fun k => [c0, c1, c2, c3, c4, c5, c6, c7, c8, c9].getD k 0, fun k => [iS0, iS1, iS2, iS3, iS4, iS5, iS6, iS7, iS8, iS9].getD k (fun _ => 0), ?_⟩
    intro k q hq
    match k, hq with
    | 0, hq => cases hq; exact hKn0
    | 1, hq => cases hq; exact hKn1
    | 2, hq => cases hq; exact hKn2
    | 3, hq => cases hq; exact hKn3
    | 4, hq => cases hq; exact hKn4
    | 5, hq => cases hq; exact hKn5
    | 6, hq => cases hq; exact hKn6
    | 7, hq => cases hq; exact hKn7
    | 8, hq => cases hq; exact hKn8
    | 9, hq => cases hq; exact hKn9
    | k + 10, hq => cases hq
  obtain ⟨cI, kI_, cmI, i1, i2, i3⟩ := Cond.arrayClass_spec (hts' _ zw_ai)
  obtain ⟨cZ, kZ_, cmZ, j1, j2, j3⟩ := Cond.arrayClass_spec (hts' _ zw_az)
  obtain ⟨cmP, cP, kP_, p1, p2, p3, p4, p5⟩ := Cond.arrayOver_spec (va_AO.of (hts _ (List.mem_filter.mp zw_ao).1))
  obtain ⟨t1, ht1, Ht1⟩ := va_Tof (args := #[Value.ref b]) (s := s) (tm := (Term.static "MarkCabinet$Grid" "WAY_X" "[I")) (ty := .int) (N := 8) (f := fun j => .int (f1w j)) (A := fun q : Nat => s.heap.size ≤ q) (by decide) (hflat (.arrayOf (Term.static "MarkCabinet$Grid" "WAY_X" "[I") .int) (by decide +kernel)) (va_eqt (hflat (.eq (.length (Term.static "MarkCabinet$Grid" "WAY_X" "[I")) (.int 8)) (by decide +kernel))) (fun j hj => by
    match j, hj with
    | 0, _ => exact va_eqt (hflat (.eq (.elem (Term.static "MarkCabinet$Grid" "WAY_X" "[I") (.int 0)) (.int (0))) (by decide +kernel))
    | 1, _ => exact va_eqt (hflat (.eq (.elem (Term.static "MarkCabinet$Grid" "WAY_X" "[I") (.int 1)) (.int (1))) (by decide +kernel))
    | 2, _ => exact va_eqt (hflat (.eq (.elem (Term.static "MarkCabinet$Grid" "WAY_X" "[I") (.int 2)) (.int (0))) (by decide +kernel))
    | 3, _ => exact va_eqt (hflat (.eq (.elem (Term.static "MarkCabinet$Grid" "WAY_X" "[I") (.int 3)) (.int (-1))) (by decide +kernel))
    | 4, _ => exact va_eqt (hflat (.eq (.elem (Term.static "MarkCabinet$Grid" "WAY_X" "[I") (.int 4)) (.int (1))) (by decide +kernel))
    | 5, _ => exact va_eqt (hflat (.eq (.elem (Term.static "MarkCabinet$Grid" "WAY_X" "[I") (.int 5)) (.int (1))) (by decide +kernel))
    | 6, _ => exact va_eqt (hflat (.eq (.elem (Term.static "MarkCabinet$Grid" "WAY_X" "[I") (.int 6)) (.int (-1))) (by decide +kernel))
    | 7, _ => exact va_eqt (hflat (.eq (.elem (Term.static "MarkCabinet$Grid" "WAY_X" "[I") (.int 7)) (.int (-1))) (by decide +kernel))
    | j + 8, h => exact absurd h (by omega)) hA
  have Zt1 := va_Zref (A := fun q : Nat => s.heap.size ≤ q) (hts (.laysStatic "MarkCabinet$Grid" "WAY_X" "[I") (List.mem_of_getElem? (i := 376) (by decide +kernel))) (hts (.initialized "MarkCabinet$Grid") (List.mem_of_getElem? (i := 41) (by decide +kernel))) ht1 hA
  obtain ⟨t2, ht2, Ht2⟩ := va_Tof (args := #[Value.ref b]) (s := s) (tm := (Term.static "MarkCabinet$Grid" "WAY_Y" "[I")) (ty := .int) (N := 8) (f := fun j => .int (f2w j)) (A := fun q : Nat => s.heap.size ≤ q) (by decide) (hflat (.arrayOf (Term.static "MarkCabinet$Grid" "WAY_Y" "[I") .int) (by decide +kernel)) (va_eqt (hflat (.eq (.length (Term.static "MarkCabinet$Grid" "WAY_Y" "[I")) (.int 8)) (by decide +kernel))) (fun j hj => by
    match j, hj with
    | 0, _ => exact va_eqt (hflat (.eq (.elem (Term.static "MarkCabinet$Grid" "WAY_Y" "[I") (.int 0)) (.int (-1))) (by decide +kernel))
    | 1, _ => exact va_eqt (hflat (.eq (.elem (Term.static "MarkCabinet$Grid" "WAY_Y" "[I") (.int 1)) (.int (0))) (by decide +kernel))
    | 2, _ => exact va_eqt (hflat (.eq (.elem (Term.static "MarkCabinet$Grid" "WAY_Y" "[I") (.int 2)) (.int (1))) (by decide +kernel))
    | 3, _ => exact va_eqt (hflat (.eq (.elem (Term.static "MarkCabinet$Grid" "WAY_Y" "[I") (.int 3)) (.int (0))) (by decide +kernel))
    | 4, _ => exact va_eqt (hflat (.eq (.elem (Term.static "MarkCabinet$Grid" "WAY_Y" "[I") (.int 4)) (.int (-1))) (by decide +kernel))
    | 5, _ => exact va_eqt (hflat (.eq (.elem (Term.static "MarkCabinet$Grid" "WAY_Y" "[I") (.int 5)) (.int (1))) (by decide +kernel))
    | 6, _ => exact va_eqt (hflat (.eq (.elem (Term.static "MarkCabinet$Grid" "WAY_Y" "[I") (.int 6)) (.int (1))) (by decide +kernel))
    | 7, _ => exact va_eqt (hflat (.eq (.elem (Term.static "MarkCabinet$Grid" "WAY_Y" "[I") (.int 7)) (.int (-1))) (by decide +kernel))
    | j + 8, h => exact absurd h (by omega)) hA
  have Zt2 := va_Zref (A := fun q : Nat => s.heap.size ≤ q) (hts (.laysStatic "MarkCabinet$Grid" "WAY_Y" "[I") (List.mem_of_getElem? (i := 378) (by decide +kernel))) (hts (.initialized "MarkCabinet$Grid") (List.mem_of_getElem? (i := 41) (by decide +kernel))) ht2 hA
  obtain ⟨G, g1, g2, g3, g4, g5⟩ : ∃ G : zc_G, G.1 = s.heap ∧ G.2.1 = (dC, dI) ∧ (G.2.2.1 0 = cI ∧ G.2.2.1 1 = cZ ∧ G.2.2.1 2 = cP) ∧ (G.2.2.2.1 0 = b ∧ G.2.2.2.1 1 = t1 ∧ G.2.2.2.1 2 = t2) ∧ (G.2.2.2.2 0 = (L, xs) ∧ G.2.2.2.2 1 = (8, f1w) ∧ G.2.2.2.2 2 = (8, f2w)) :=
    ⟨(s.heap, (dC, dI), fun k => if k = 0 then cI else if k = 1 then cZ else cP, fun k => if k = 0 then b else if k = 1 then t1 else t2, fun k => if k = 0 then (L, xs) else if k = 1 then (8, f1w) else (8, f2w)), rfl, rfl, ⟨rfl, rfl, rfl⟩, ⟨rfl, rfl, rfl⟩, ⟨rfl, rfl, rfl⟩⟩
  have hK : zc_K G s := by
    unfold zc_K
    rw [g2, g3.1, g3.2.1, g3.2.2, g4.2.1, g4.2.2, g1]
    refine ⟨⟨hKc, fun k q hq => ?_⟩, fun k hk => ?_, ?_, ?_, fun w hw => zc_nest_of hw (hts w (List.mem_filter.mp hw).1)⟩
    · match k, hq with
      | 0, hq => cases hq; exact ⟨fun n z => ⟨fun k h => (by cases h), kI_, i2, cmI, i3⟩, i1⟩
      | 1, hq => cases hq; exact ⟨fun n z => ⟨fun k h => (by cases h), kZ_, j2, cmZ, j3⟩, j1⟩
      | 2, hq => cases hq; exact ⟨fun n z => ⟨fun k h => (by cases h), kP_, p3, cmP, p4⟩, kP_, cmP, p3, p4, p1, p5⟩
      | k + 3, hq => cases hq
    · unfold zc_ro
      rw [g1]
      have hk3 : k = 0 ∨ k = 1 ∨ k = 2 := by omega
      rcases hk3 with rfl | rfl | rfl
      · rw [g4.1, g5.1]
        obtain ⟨scr, x1, x2, x3, x4, x5⟩ := hX
        exact ⟨scr, x1, x2, x3, Nat.le_of_eq x4.symm, by rw [x4], x5⟩
      · rw [g4.2.1, g5.2.1]
        obtain ⟨cell, x1, x2, x3, x4, x5, x6, x7⟩ := Ht1
        exact ⟨cell, x1, x2, x3, x4, x5, x6⟩
      · rw [g4.2.2, g5.2.2]
        obtain ⟨cell, x1, x2, x3, x4, x5, x6, x7⟩ := Ht2
        exact ⟨cell, x1, x2, x3, x4, x5, x6⟩
    · unfold zc_A
      rw [g1]
      exact Zt1
    · unfold zc_A
      rw [g1]
      exact Zt2
  obtain ⟨σ0, s0, s1, s2⟩ : ∃ σ0 : zc_N, σ0 0 = xs ∧ σ0 1 = f1w ∧ σ0 2 = f2w := ⟨fun k => if k = 0 then xs else if k = 1 then f1w else f2w, rfl, rfl, rfl⟩
  have hR : zc_R G (3, SH (zP0 L), σ0) s.heap := by
    refine ⟨Nat.le_refl 3, by rw [g1], fun q hq => by rw [g1], fun k h1 h2 => absurd (show k < 3 from h2) (by omega), fun k hk => ?_⟩
    have hk3 : k = 0 ∨ k = 1 ∨ k = 2 := by omega
    rcases hk3 with rfl | rfl | rfl
    · rw [g5.1]; exact ⟨rfl, rfl, s0⟩
    · rw [g5.2.1]; exact ⟨rfl, rfl, s1⟩
    · rw [g5.2.2]; exact ⟨rfl, rfl, s2⟩
  have hW : iW σ0 := by
    unfold iW
    rw [s1, s2]
    exact ⟨fun w _ => rfl, fun w _ => rfl⟩
  have hl := lv_entry ([.ref b]) (n := 4) (Nat.le_of_ble_eq_true rfl)
  rw [lg_entry_eq]
  have key := lw_main (G := G) (nm := meth.name) (Q := fun r _ => r = some (.int 1)) (fun _ => rfl) hL hW
  refine key p l e room_1 s m #[Value.ref b] below meth c (lw_Z below #[Value.ref b] s) ⟨⟨hx, hb, hml, hown, rfl⟩, hts', ⟨by decide, by decide, by decide, by decide⟩, hK, by rw [g1]; exact Nat.le_refl _, ?_⟩ s.heap [] _ hR va_S.rf ⟨_, hl, fun i v hi => ?_⟩
  · intro r h H locs pc ls hq hR' hS hrt
    have hq : r = some (.int 1) := hq
    subst hq
    obtain ⟨hd, -⟩ := hrt
    refine va_forget (fun q hq => by have := hS.2.2 q hq; unfold zc_A at this; rw [g1] at this; exact this) ?_
    exact lw_ret hx hb hr hlocks hd
  · match i, hi with
    | 0, hi =>
      cases hi
      refine ⟨?_, rfl⟩
      have e : zc_cv G (.ref 0) = .ref b := by
        show Value.ref (zc_ad G 0) = _
        unfold zc_ad
        rw [if_pos (by decide), g4.1]
      rw [e]
      exact List.mem_cons_self
    | 1, hi => cases hi
    | 2, hi => cases hi
    | 3, hi => cases hi
    | i + 4, hi => cases hi
-- ===== YOUR PART ENDS =====
set_option maxHeartbeats 4000000 in
theorem lw_walk (l : Launch) (b : Addr) (xs : List Int32) : MetFree l x (headSpec (Jvm.Cond.code x code maxLocals ret :: tables_1) room_1) (lw_P b xs) (fun _ _ _ _ _ => True) lw_Q := by
  refine MetFree.of_bodyS (code := code) (maxLocals := maxLocals) (ret := ret) (by decide) ?_ ?_
  · intro args s m h hn
    obtain ⟨meth, c, h1, h2, h3, h4, h5, h6, -, -⟩ := Cond.code_spec hn (atoms_spec (ws := Jvm.Cond.code x code maxLocals ret :: tables_1) h _ List.mem_cons_self)
    exact ⟨meth, c, h1, h2, h3, h4, h5, h6⟩
  · intro p e s m args below meth c s₁ B hml0 hP _
    obtain ⟨rfl, hx, hbd, hgv⟩ := hP
    obtain ⟨scr, harrAt, hlist, hof, hsmall⟩ := hx
    obtain ⟨hcb, hkn, -, -⟩ := State.arrayAt?_spec harrAt
    have hown : s.vm.findClass R_law = some m.cls := findClass_of_methodNamed B.named
    have hts0 : ∀ c ∈ (Jvm.Cond.code x code maxLocals ret :: tables_1), c.before #[Value.ref b] s = true := atoms_spec (ws := Jvm.Cond.code x code maxLocals ret :: tables_1) B.pre
    have hts : ∀ w ∈ lw_tbl, w.before #[Value.ref b] s = true := k2_hts_sels lw_privs (fun w hw => hts0 w (List.mem_cons_of_mem _ hw)) lw_privs_ok
    have hml : c.maxLocals = 4 := B.maxLocals_eq (hts0 _ List.mem_cons_self)
    have X₀ : Stand p l e room_1 s m #[Value.ref b] below meth c s₁ [] 0 0 := Stand.of_body B
    have hh0 : s₁.heap = s.heap := by rw [B.state]; rfl
    have hsz : scr.slots.size = xs.length := by rw [← Array.length_toList, hlist, List.length_map]
    have hval : ∀ j : Nat, j < xs.length → scr.slots[j]? = some (.int (xs.getD j 0)) := fun j hj => by
      rw [← Array.getElem?_toList, hlist]
      simp [hj]
    have hbl : b < s.heap.size := (Array.getElem?_eq_some_iff.mp hcb).1
    have hX : va_X b xs.length (fun j => xs.getD j 0) s s.heap := ⟨scr, hcb, hof, hkn, hsz, hval⟩
    have K : W p l e room_1 s m #[Value.ref b] below meth c s₁.heap [] 0 0 (lw_Z below #[Value.ref b] s) (entryFrame m ([Value.ref b] : List Value).toArray 4) := by
      rw [hh0]
      exact whole_start l hbd ⟨B.exec, B.bytes, B.returns, hml, hown, hts, hX, hbl, B.notSynchronized, hgv⟩
    obtain ⟨t, a1, o, b1, b2, b3⟩ := K s₁ rfl X₀
    exact ⟨t, o, a1, b1, b2, b3⟩
theorem lw_pre_spec {args : Array Value} {s : State} (h : (Jvm.Cond.and given_1 narrow_1).before args s = true) (hr : rest_1_c.before args s = true) : ∃ (b : Addr) (xs : List Int32), lw_P b xs args s := by
  have hs := flat_of_before _ h
  have hq := flat_of_before _ hr
  have hc : (Cond.count 1).before args s = true := hs _ (by decide +kernel)
  have harr : (Cond.arrayOf (.arg 0) .int).before args s = true := hs _ (by decide +kernel)
  have hle : (Cond.le (.length (.arg 0)) (.int 3072)).before args s = true := hs _ (by decide +kernel)
  have hlen : (Cond.isInt (.length (.arg 0))).before args s = true := hq _ (by decide +kernel)
  have hall : (Cond.all (.arg 0) (.isInt (.elem (.arg 0) (.index 0)))).before args s = true := hq _ (by decide +kernel)
  obtain ⟨b, xs, hb, hx⟩ := State.ints_of_pre rfl harr hlen hall
  have hsm : xs.length < 2 ^ 31 := hx.choose_spec.2.2.2
  have hev : (Term.length (.arg 0)).eval args s none [] s = some (.int xs.length.toInt32) := hx.length_eval hb
  have hv := Cond.le_ints hev (show (Term.int 3072).eval args s none [] s = some (.int 3072) from rfl)
  have hd : xs.length.toInt32 ≤ 3072 := by
    simpa [Cond.before, Cond.holds, hv] using hle
  have hN : xs.length ≤ 3072 := (Int32.ofNat_le_ofNat hsm (by decide)).mp (show Int32.ofNat xs.length ≤ Int32.ofNat 3072 from hd)
  exact ⟨b, xs, Cond.one_arg hc (show args[0]? = some (.ref b) from hb), hx, hN, h⟩
theorem lw_comes (l : Launch) : Comes l x (Jvm.Cond.code x code maxLocals ret :: tables_1) room_1 (fun tb e args s => Calls_1 tb e args s ∧ rest_1 tb e args s ∧ Pre_1 tb e args s)
    (fun _ _ args s o t => lw_Q args s o t) := by
  intro p e ha hc hk s m args below hf hfit hheap happ hpre
  obtain ⟨b, xs, hP⟩ := lw_pre_spec hpre.2.2 hpre.2.1
  obtain ⟨k, o, h1, h2, h3, hQ⟩ := lw_walk l b xs p e ha hc hk s m args below hf ((Spec.applies_iff_loose hf).mp happ).1 hP trivial
  exact ⟨k, o, h1, h2, h3, hQ⟩
theorem lw_frame {s t : State} {o : Outcome} {args : Array Value} (h : Framed s o t [] 600000 7302250) :
    Framed s o t (fieldLocs frame_1_writes args s ++ arrayLocs frame_1_arrays args s ++ staticLocs frame_1_statics s) 600000 7302250 := h
theorem lw_limb (L : Cond) (hL : ∀ (args : Array Value) (s t : State), L.after args s (.returned (some (.int 1))) t = true) :
    ArmFor flags0 classFile x code maxLocals ret World_1 tables_1 room_1 Calls_1 rest_1 Pre_1
      (fun tb e a s o t => postC L tb e a s o t ∧ Framed s o t (fieldLocs frame_1_writes a s ++ arrayLocs frame_1_arrays a s ++ staticLocs frame_1_statics s) 600000 7302250) := by
  intro l _ _ _ p e ha hc hk s m args below hf hfit hheap happ hpre
  obtain ⟨k, o, h1, h2, h3, rfl, hF⟩ := lw_comes l p e ha hc hk s m args below hf hfit hheap happ hpre
  exact ⟨k, _, h1, h2, h3, hL args s _, lw_frame hF⟩
theorem i_vc : Claimed_1_1 ∧ Claimed_1_2 := ⟨lw_limb limb_1_1 (fun args s t => by simp [limb_1_1, Cond.after, Cond.holds, Cond.value]), lw_limb limb_1_2 (fun args s t => Cond.after_iff.mpr (by
  first | (rw [show limb_1_2 = Cond.eq .result (.int 1) from rfl, Cond.eq_ints (x := 1) (y := 1) rfl rfl]; simp; done) | (simp [limb_1_2, Cond.value, Term.eval]; done)))⟩
