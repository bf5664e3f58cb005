/-! ===== printed by wip/whole/p14.py: loops that go on till something holds ===== -/
def zit {α : Type} (f : α → α) : Nat → α → α
  | 0, a => a
  | n + 1, a => f (zit f n a)
noncomputable def zwn (E : Nat → Prop) : Nat := Classical.epsilon (fun k => E k ∧ ∀ j, j < k → ¬ E j)
theorem zwn_spec {E : Nat → Prop} (h : ∃ n, E n) : E (zwn E) ∧ ∀ j, j < zwn E → ¬ E j := by
  obtain ⟨k, hk, hm⟩ := pk_least E h
  exact Classical.epsilon_spec (p := fun k => E k ∧ ∀ j, j < k → ¬ E j) ⟨k, hk, hm⟩
theorem zit_Z {α : Type} (Z : α → Prop) (f : α → α) (N : Nat) (a : α) (hs : ∀ i : Nat, i < N → Z (f (zit f i a)) → Z (zit f i a)) (hx : Z (zit f N a)) : Z a := by
  have key : ∀ k : Nat, k ≤ N → Z (zit f k a) := by
    intro k hk
    obtain ⟨j, rfl⟩ : ∃ j, N = k + j := ⟨N - k, by omega⟩
    induction j generalizing k with
    | zero => exact hx
    | succ j ih =>
      refine hs k (by omega) ?_
      have e : k + (j + 1) = k + 1 + j := by omega
      exact ih (k + 1) (fun i hi => hs i (by omega)) (by rw [← e]; exact hx) (by omega)
  exact key 0 (Nat.zero_le N)
theorem ex_l {c A B : Prop} (h : (c ∧ A) ∨ (¬ c ∧ B)) (hc : c) : A := by
  rcases h with h | h
  · exact h.2
  · exact absurd hc h.1
theorem ex_r {c A B : Prop} (h : (c ∧ A) ∨ (¬ c ∧ B)) (hc : ¬ c) : B := by
  rcases h with h | h
  · exact absurd h.1 hc
  · exact h.2

theorem dX9_hangTogether_80 : decode cX9_hangTogether 80 = .ok (.iload 7, 2) := by decide +kernel
theorem dX9_hangTogether_82 : decode cX9_hangTogether 82 = .ok (.bipush 8, 2) := by decide +kernel
theorem dX9_hangTogether_84 : decode cX9_hangTogether 84 = .ok (.if_icmp .ge 114, 3) := by decide +kernel
theorem dX9_hangTogether_87 : decode cX9_hangTogether 87 = .ok (.iload 6, 2) := by decide +kernel
theorem dX9_hangTogether_89 : decode cX9_hangTogether 89 = .ok (.invokestatic 109, 3) := by decide +kernel
theorem dX9_hangTogether_92 : decode cX9_hangTogether 92 = .ok (.iload 7, 2) := by decide +kernel
theorem dX9_hangTogether_94 : decode cX9_hangTogether 94 = .ok (.invokestatic 109, 3) := by decide +kernel
theorem dX9_hangTogether_97 : decode cX9_hangTogether 97 = .ok (.isub, 1) := by decide +kernel
theorem dX9_hangTogether_98 : decode cX9_hangTogether 98 = .ok (.istore 8, 2) := by decide +kernel
theorem dX9_hangTogether_100 : decode cX9_hangTogether 100 = .ok (.iload 6, 2) := by decide +kernel
theorem dX9_hangTogether_102 : decode cX9_hangTogether 102 = .ok (.invokestatic 113, 3) := by decide +kernel
theorem dX9_hangTogether_105 : decode cX9_hangTogether 105 = .ok (.iload 7, 2) := by decide +kernel
theorem dX9_hangTogether_107 : decode cX9_hangTogether 107 = .ok (.invokestatic 113, 3) := by decide +kernel
theorem dX9_hangTogether_110 : decode cX9_hangTogether 110 = .ok (.isub, 1) := by decide +kernel
theorem dX9_hangTogether_111 : decode cX9_hangTogether 111 = .ok (.istore 9, 2) := by decide +kernel
theorem dX9_hangTogether_113 : decode cX9_hangTogether 113 = .ok (.iload 8, 2) := by decide +kernel
theorem dX9_hangTogether_115 : decode cX9_hangTogether 115 = .ok (.iconst (-1), 1) := by decide +kernel
theorem dX9_hangTogether_116 : decode cX9_hangTogether 116 = .ok (.if_icmp .lt 25, 3) := by decide +kernel
theorem dX9_hangTogether_119 : decode cX9_hangTogether 119 = .ok (.iload 8, 2) := by decide +kernel
theorem dX9_hangTogether_121 : decode cX9_hangTogether 121 = .ok (.iconst 1, 1) := by decide +kernel
theorem dX9_hangTogether_122 : decode cX9_hangTogether 122 = .ok (.if_icmp .gt 19, 3) := by decide +kernel
theorem dX9_hangTogether_125 : decode cX9_hangTogether 125 = .ok (.iload 9, 2) := by decide +kernel
theorem dX9_hangTogether_127 : decode cX9_hangTogether 127 = .ok (.iconst (-1), 1) := by decide +kernel
theorem dX9_hangTogether_128 : decode cX9_hangTogether 128 = .ok (.if_icmp .lt 13, 3) := by decide +kernel
theorem dX9_hangTogether_131 : decode cX9_hangTogether 131 = .ok (.iload 9, 2) := by decide +kernel
theorem dX9_hangTogether_133 : decode cX9_hangTogether 133 = .ok (.iconst 1, 1) := by decide +kernel
theorem dX9_hangTogether_134 : decode cX9_hangTogether 134 = .ok (.if_icmp .gt 7, 3) := by decide +kernel
theorem dX9_hangTogether_137 : decode cX9_hangTogether 137 = .ok (.iconst 1, 1) := by decide +kernel
theorem dX9_hangTogether_138 : decode cX9_hangTogether 138 = .ok (.goto 4, 3) := by decide +kernel
theorem dX9_hangTogether_141 : decode cX9_hangTogether 141 = .ok (.iconst 0, 1) := by decide +kernel
theorem dX9_hangTogether_142 : decode cX9_hangTogether 142 = .ok (.istore 10, 2) := by decide +kernel
theorem dX9_hangTogether_144 : decode cX9_hangTogether 144 = .ok (.iload 4, 2) := by decide +kernel
theorem dX9_hangTogether_146 : decode cX9_hangTogether 146 = .ok (.iload 6, 2) := by decide +kernel
theorem dX9_hangTogether_148 : decode cX9_hangTogether 148 = .ok (.ishr, 1) := by decide +kernel
theorem dX9_hangTogether_149 : decode cX9_hangTogether 149 = .ok (.iconst 1, 1) := by decide +kernel
theorem dX9_hangTogether_150 : decode cX9_hangTogether 150 = .ok (.iand, 1) := by decide +kernel
theorem dX9_hangTogether_151 : decode cX9_hangTogether 151 = .ok (.iconst 1, 1) := by decide +kernel
theorem dX9_hangTogether_152 : decode cX9_hangTogether 152 = .ok (.if_icmp .ne 40, 3) := by decide +kernel
theorem dX9_hangTogether_155 : decode cX9_hangTogether 155 = .ok (.iload_n 3, 1) := by decide +kernel
theorem dX9_hangTogether_156 : decode cX9_hangTogether 156 = .ok (.iload 7, 2) := by decide +kernel
theorem dX9_hangTogether_158 : decode cX9_hangTogether 158 = .ok (.ishr, 1) := by decide +kernel
theorem dX9_hangTogether_159 : decode cX9_hangTogether 159 = .ok (.iconst 1, 1) := by decide +kernel
theorem dX9_hangTogether_160 : decode cX9_hangTogether 160 = .ok (.iand, 1) := by decide +kernel
theorem dX9_hangTogether_161 : decode cX9_hangTogether 161 = .ok (.iconst 1, 1) := by decide +kernel
theorem dX9_hangTogether_162 : decode cX9_hangTogether 162 = .ok (.if_icmp .ne 30, 3) := by decide +kernel
theorem dX9_hangTogether_165 : decode cX9_hangTogether 165 = .ok (.iload 4, 2) := by decide +kernel
theorem dX9_hangTogether_167 : decode cX9_hangTogether 167 = .ok (.iload 7, 2) := by decide +kernel
theorem dX9_hangTogether_169 : decode cX9_hangTogether 169 = .ok (.ishr, 1) := by decide +kernel
theorem dX9_hangTogether_170 : decode cX9_hangTogether 170 = .ok (.iconst 1, 1) := by decide +kernel
theorem dX9_hangTogether_171 : decode cX9_hangTogether 171 = .ok (.iand, 1) := by decide +kernel
theorem dX9_hangTogether_172 : decode cX9_hangTogether 172 = .ok (.ifCond .ne 20, 3) := by decide +kernel
theorem dX9_hangTogether_175 : decode cX9_hangTogether 175 = .ok (.iload 10, 2) := by decide +kernel
theorem dX9_hangTogether_177 : decode cX9_hangTogether 177 = .ok (.ifCond .eq 15, 3) := by decide +kernel
theorem dX9_hangTogether_180 : decode cX9_hangTogether 180 = .ok (.iload 4, 2) := by decide +kernel
theorem dX9_hangTogether_182 : decode cX9_hangTogether 182 = .ok (.iconst 1, 1) := by decide +kernel
theorem dX9_hangTogether_183 : decode cX9_hangTogether 183 = .ok (.iload 7, 2) := by decide +kernel
theorem dX9_hangTogether_185 : decode cX9_hangTogether 185 = .ok (.ishl, 1) := by decide +kernel
theorem dX9_hangTogether_186 : decode cX9_hangTogether 186 = .ok (.ior, 1) := by decide +kernel
theorem dX9_hangTogether_187 : decode cX9_hangTogether 187 = .ok (.istore 4, 2) := by decide +kernel
theorem dX9_hangTogether_189 : decode cX9_hangTogether 189 = .ok (.iconst 1, 1) := by decide +kernel
theorem dX9_hangTogether_190 : decode cX9_hangTogether 190 = .ok (.istore 5, 2) := by decide +kernel
theorem dX9_hangTogether_192 : decode cX9_hangTogether 192 = .ok (.iinc 7 1, 3) := by decide +kernel
theorem dX9_hangTogether_195 : decode cX9_hangTogether 195 = .ok (.goto (-115), 3) := by decide +kernel
theorem dX9_hangTogether_198 : decode cX9_hangTogether 198 = .ok (.iinc 6 1, 3) := by decide +kernel
theorem dX9_hangTogether_201 : decode cX9_hangTogether 201 = .ok (.goto (-131), 3) := by decide +kernel
noncomputable def fX9_hangTogether_80 (l3 : Int32) (l6 : Int32) (i_ : Nat) (a_ : Int32 × Int32) : Int32 × Int32 := ((if ((zshr a_.1 l6) &&& (1 : Int32)) = (1 : Int32) then (if ((zshr l3 (nI i_)) &&& (1 : Int32)) = (1 : Int32) then (if ((zshr a_.1 (nI i_)) &&& (1 : Int32)) = (0 : Int32) then (if (if ((rX9_stepX l6) - (rX9_stepX (nI i_))) < (-1 : Int32) then (0 : Int32) else (if (1 : Int32) < ((rX9_stepX l6) - (rX9_stepX (nI i_))) then (0 : Int32) else (if ((rX9_stepY l6) - (rX9_stepY (nI i_))) < (-1 : Int32) then (0 : Int32) else (if (1 : Int32) < ((rX9_stepY l6) - (rX9_stepY (nI i_))) then (0 : Int32) else (1 : Int32))))) = (0 : Int32) then a_.1 else (a_.1 ||| (zshl (1 : Int32) (nI i_)))) else a_.1) else a_.1) else a_.1), (if ((zshr a_.1 l6) &&& (1 : Int32)) = (1 : Int32) then (if ((zshr l3 (nI i_)) &&& (1 : Int32)) = (1 : Int32) then (if ((zshr a_.1 (nI i_)) &&& (1 : Int32)) = (0 : Int32) then (if (if ((rX9_stepX l6) - (rX9_stepX (nI i_))) < (-1 : Int32) then (0 : Int32) else (if (1 : Int32) < ((rX9_stepX l6) - (rX9_stepX (nI i_))) then (0 : Int32) else (if ((rX9_stepY l6) - (rX9_stepY (nI i_))) < (-1 : Int32) then (0 : Int32) else (if (1 : Int32) < ((rX9_stepY l6) - (rX9_stepY (nI i_))) then (0 : Int32) else (1 : Int32))))) = (0 : Int32) then a_.2 else (1 : Int32)) else a_.2) else a_.2) else a_.2))
set_option maxHeartbeats 2000000 in
theorem lpX9_hangTogether_80 {G : zc_G} {Q : Option Value → zc_H → Prop} (P : zp) (σ : zc_N) (l3 : Int32) (l4 : Int32) (l5 : Int32) (l6 : Int32)
    (W2_ : zz G mX9_hangTogether 1 0 0 Q 198 [none, none, none, some (.int l3), some (.int (zfor (fX9_hangTogether_80 l3 l6) 8 (l4, l5)).1), some (.int (zfor (fX9_hangTogether_80 l3 l6) 8 (l4, l5)).2), some (.int l6), none, none, none, none] [] (hh P σ) 0 0) :
    zz G mX9_hangTogether 1 0 0 Q 80 [none, none, none, some (.int l3), some (.int l4), some (.int l5), some (.int l6), some (.int (nI 0)), none, none, none] [] (hh P σ) 0 0 := by
  refine zfor_nI (fun i_ a_ => zz G mX9_hangTogether 1 0 0 Q 80 [none, none, none, some (.int l3), some (.int a_.1), some (.int a_.2), some (.int l6), some (.int i_), none, none, none] [] (hh P σ) 0 0) (fX9_hangTogether_80 l3 l6) 8 (l4, l5) (fun i_ hi_ k_ => ?_) ?_
  all_goals try dsimp only
  · generalize zfor (fX9_hangTogether_80 l3 l6) i_ (l4, l5) = g_ at k_ ⊢
    obtain ⟨x0_, x1_⟩ := g_
    dsimp only at k_ ⊢
    rw [fX9_hangTogether_80] at k_
    dsimp only at k_
    refine z_iload dX9_hangTogether_80 rfl ?_
    refine z_bipush dX9_hangTogether_82 k_bipush_8 ?_
    refine z_icmp_ge (tgt := 198) dX9_hangTogether_84 (by decide) (fun c_ => absurd c_ (nI_ge hi_ (by decide))) (fun c_ => ?_)
    refine z_iload dX9_hangTogether_87 rfl ?_
    refine z_callS (As := [.int l6]) (rest := []) (ctX9_stepX P σ l6) dX9_hangTogether_89 lk_X9_109 ls_X9_stepX rfl (Nat.le_of_ble_eq_true rfl) (Nat.le_of_ble_eq_true rfl) (Nat.le_of_ble_eq_true rfl) (Nat.le_of_ble_eq_true rfl) (fun r_ h_ e_ => ?_)
    obtain ⟨e1_, e2_⟩ := e_
    subst e1_
    subst e2_
    show zz G mX9_hangTogether 1 0 0 Q 92 [none, none, none, some (.int l3), some (.int x0_), some (.int x1_), some (.int l6), some (.int (nI i_)), none, none, none] [.int (rX9_stepX l6)] (hh P σ) 0 0
    refine z_iload dX9_hangTogether_92 rfl ?_
    refine z_callS (As := [.int (nI i_)]) (rest := [.int (rX9_stepX l6)]) (ctX9_stepX P σ (nI i_)) dX9_hangTogether_94 lk_X9_109 ls_X9_stepX rfl (Nat.le_of_ble_eq_true rfl) (Nat.le_of_ble_eq_true rfl) (Nat.le_of_ble_eq_true rfl) (Nat.le_of_ble_eq_true rfl) (fun r_ h_ e_ => ?_)
    obtain ⟨e1_, e2_⟩ := e_
    subst e1_
    subst e2_
    show zz G mX9_hangTogether 1 0 0 Q 97 [none, none, none, some (.int l3), some (.int x0_), some (.int x1_), some (.int l6), some (.int (nI i_)), none, none, none] [.int (rX9_stepX (nI i_)), .int (rX9_stepX l6)] (hh P σ) 0 0
    refine z_isub (v := ((rX9_stepX l6) - (rX9_stepX (nI i_)))) dX9_hangTogether_97 rfl ?_
    refine z_istore (lv' := [none, none, none, some (.int l3), some (.int x0_), some (.int x1_), some (.int l6), some (.int (nI i_)), some (.int ((rX9_stepX l6) - (rX9_stepX (nI i_)))), none, none]) dX9_hangTogether_98 (Nat.le_of_ble_eq_true rfl) rfl ?_
    refine z_iload dX9_hangTogether_100 rfl ?_
    refine z_callS (As := [.int l6]) (rest := []) (ctX9_stepY P σ l6) dX9_hangTogether_102 lk_X9_113 ls_X9_stepY rfl (Nat.le_of_ble_eq_true rfl) (Nat.le_of_ble_eq_true rfl) (Nat.le_of_ble_eq_true rfl) (Nat.le_of_ble_eq_true rfl) (fun r_ h_ e_ => ?_)
    obtain ⟨e1_, e2_⟩ := e_
    subst e1_
    subst e2_
    show zz G mX9_hangTogether 1 0 0 Q 105 [none, none, none, some (.int l3), some (.int x0_), some (.int x1_), some (.int l6), some (.int (nI i_)), some (.int ((rX9_stepX l6) - (rX9_stepX (nI i_)))), none, none] [.int (rX9_stepY l6)] (hh P σ) 0 0
    refine z_iload dX9_hangTogether_105 rfl ?_
    refine z_callS (As := [.int (nI i_)]) (rest := [.int (rX9_stepY l6)]) (ctX9_stepY P σ (nI i_)) dX9_hangTogether_107 lk_X9_113 ls_X9_stepY rfl (Nat.le_of_ble_eq_true rfl) (Nat.le_of_ble_eq_true rfl) (Nat.le_of_ble_eq_true rfl) (Nat.le_of_ble_eq_true rfl) (fun r_ h_ e_ => ?_)
    obtain ⟨e1_, e2_⟩ := e_
    subst e1_
    subst e2_
    show zz G mX9_hangTogether 1 0 0 Q 110 [none, none, none, some (.int l3), some (.int x0_), some (.int x1_), some (.int l6), some (.int (nI i_)), some (.int ((rX9_stepX l6) - (rX9_stepX (nI i_)))), none, none] [.int (rX9_stepY (nI i_)), .int (rX9_stepY l6)] (hh P σ) 0 0
    refine z_isub (v := ((rX9_stepY l6) - (rX9_stepY (nI i_)))) dX9_hangTogether_110 rfl ?_
    refine z_istore (lv' := [none, none, none, some (.int l3), some (.int x0_), some (.int x1_), some (.int l6), some (.int (nI i_)), some (.int ((rX9_stepX l6) - (rX9_stepX (nI i_)))), some (.int ((rX9_stepY l6) - (rX9_stepY (nI i_)))), none]) dX9_hangTogether_111 (Nat.le_of_ble_eq_true rfl) rfl ?_
    refine z_iload dX9_hangTogether_113 rfl ?_
    refine z_iconst dX9_hangTogether_115 k_iconst_m1 ?_
    have K_1 : zz G mX9_hangTogether 1 0 0 Q 142 [none, none, none, some (.int l3), some (.int x0_), some (.int x1_), some (.int l6), some (.int (nI i_)), none, none, none] [.int (if ((rX9_stepX l6) - (rX9_stepX (nI i_))) < (-1 : Int32) then (0 : Int32) else (if (1 : Int32) < ((rX9_stepX l6) - (rX9_stepX (nI i_))) then (0 : Int32) else (if ((rX9_stepY l6) - (rX9_stepY (nI i_))) < (-1 : Int32) then (0 : Int32) else (if (1 : Int32) < ((rX9_stepY l6) - (rX9_stepY (nI i_))) then (0 : Int32) else (1 : Int32)))))] (hh P σ) 0 0 := by
      refine z_istore (lv' := [none, none, none, some (.int l3), some (.int x0_), some (.int x1_), some (.int l6), some (.int (nI i_)), none, none, some (.int (if ((rX9_stepX l6) - (rX9_stepX (nI i_))) < (-1 : Int32) then (0 : Int32) else (if (1 : Int32) < ((rX9_stepX l6) - (rX9_stepX (nI i_))) then (0 : Int32) else (if ((rX9_stepY l6) - (rX9_stepY (nI i_))) < (-1 : Int32) then (0 : Int32) else (if (1 : Int32) < ((rX9_stepY l6) - (rX9_stepY (nI i_))) then (0 : Int32) else (1 : Int32))))))]) dX9_hangTogether_142 (Nat.le_of_ble_eq_true rfl) rfl ?_
      refine z_iload dX9_hangTogether_144 rfl ?_
      refine z_iload dX9_hangTogether_146 rfl ?_
      refine z_ishr (v := (zshr x0_ l6)) dX9_hangTogether_148 rfl ?_
      refine z_iconst dX9_hangTogether_149 k_iconst_1 ?_
      refine z_iand (v := ((zshr x0_ l6) &&& (1 : Int32))) dX9_hangTogether_150 rfl ?_
      refine z_iconst dX9_hangTogether_151 k_iconst_1 ?_
      have K_2 : zz G mX9_hangTogether 1 0 0 Q 192 [none, none, none, some (.int l3), some (.int (if ((zshr x0_ l6) &&& (1 : Int32)) = (1 : Int32) then (if ((zshr l3 (nI i_)) &&& (1 : Int32)) = (1 : Int32) then (if ((zshr x0_ (nI i_)) &&& (1 : Int32)) = (0 : Int32) then (if (if ((rX9_stepX l6) - (rX9_stepX (nI i_))) < (-1 : Int32) then (0 : Int32) else (if (1 : Int32) < ((rX9_stepX l6) - (rX9_stepX (nI i_))) then (0 : Int32) else (if ((rX9_stepY l6) - (rX9_stepY (nI i_))) < (-1 : Int32) then (0 : Int32) else (if (1 : Int32) < ((rX9_stepY l6) - (rX9_stepY (nI i_))) then (0 : Int32) else (1 : Int32))))) = (0 : Int32) then x0_ else (x0_ ||| (zshl (1 : Int32) (nI i_)))) else x0_) else x0_) else x0_)), some (.int (if ((zshr x0_ l6) &&& (1 : Int32)) = (1 : Int32) then (if ((zshr l3 (nI i_)) &&& (1 : Int32)) = (1 : Int32) then (if ((zshr x0_ (nI i_)) &&& (1 : Int32)) = (0 : Int32) then (if (if ((rX9_stepX l6) - (rX9_stepX (nI i_))) < (-1 : Int32) then (0 : Int32) else (if (1 : Int32) < ((rX9_stepX l6) - (rX9_stepX (nI i_))) then (0 : Int32) else (if ((rX9_stepY l6) - (rX9_stepY (nI i_))) < (-1 : Int32) then (0 : Int32) else (if (1 : Int32) < ((rX9_stepY l6) - (rX9_stepY (nI i_))) then (0 : Int32) else (1 : Int32))))) = (0 : Int32) then x1_ else (1 : Int32)) else x1_) else x1_) else x1_)), some (.int l6), some (.int (nI i_)), none, none, none] [] (hh P σ) 0 0 := by
        refine z_iinc (v := ((nI i_) + (1 : Int32))) (lv' := [none, none, none, some (.int l3), some (.int (if ((zshr x0_ l6) &&& (1 : Int32)) = (1 : Int32) then (if ((zshr l3 (nI i_)) &&& (1 : Int32)) = (1 : Int32) then (if ((zshr x0_ (nI i_)) &&& (1 : Int32)) = (0 : Int32) then (if (if ((rX9_stepX l6) - (rX9_stepX (nI i_))) < (-1 : Int32) then (0 : Int32) else (if (1 : Int32) < ((rX9_stepX l6) - (rX9_stepX (nI i_))) then (0 : Int32) else (if ((rX9_stepY l6) - (rX9_stepY (nI i_))) < (-1 : Int32) then (0 : Int32) else (if (1 : Int32) < ((rX9_stepY l6) - (rX9_stepY (nI i_))) then (0 : Int32) else (1 : Int32))))) = (0 : Int32) then x0_ else (x0_ ||| (zshl (1 : Int32) (nI i_)))) else x0_) else x0_) else x0_)), some (.int (if ((zshr x0_ l6) &&& (1 : Int32)) = (1 : Int32) then (if ((zshr l3 (nI i_)) &&& (1 : Int32)) = (1 : Int32) then (if ((zshr x0_ (nI i_)) &&& (1 : Int32)) = (0 : Int32) then (if (if ((rX9_stepX l6) - (rX9_stepX (nI i_))) < (-1 : Int32) then (0 : Int32) else (if (1 : Int32) < ((rX9_stepX l6) - (rX9_stepX (nI i_))) then (0 : Int32) else (if ((rX9_stepY l6) - (rX9_stepY (nI i_))) < (-1 : Int32) then (0 : Int32) else (if (1 : Int32) < ((rX9_stepY l6) - (rX9_stepY (nI i_))) then (0 : Int32) else (1 : Int32))))) = (0 : Int32) then x1_ else (1 : Int32)) else x1_) else x1_) else x1_)), some (.int l6), some (.int ((nI i_) + (1 : Int32))), none, none, none]) dX9_hangTogether_192 (Nat.le_of_ble_eq_true rfl) rfl (by rw [k_iconst_1]) rfl ?_
        refine z_goto (tgt := 80) dX9_hangTogether_195 (by decide) ?_
        rw [nI_1]
        exact k_
      refine z_icmp_ne (tgt := 192) dX9_hangTogether_152 (by decide) (fun c_6 => ?_) (fun c_6 => ?_)
      · refine zz_sub (lv' := [none, none, none, some (.int l3), some (.int x0_), some (.int x1_), some (.int l6), some (.int (nI i_)), none, none, none]) ⟨rfl, ⟨rfl, ⟨rfl, ⟨rfl, ⟨rfl, trivial⟩⟩⟩⟩⟩ ?_
        rw [show (if ((zshr x0_ l6) &&& (1 : Int32)) = (1 : Int32) then (if ((zshr l3 (nI i_)) &&& (1 : Int32)) = (1 : Int32) then (if ((zshr x0_ (nI i_)) &&& (1 : Int32)) = (0 : Int32) then (if (if ((rX9_stepX l6) - (rX9_stepX (nI i_))) < (-1 : Int32) then (0 : Int32) else (if (1 : Int32) < ((rX9_stepX l6) - (rX9_stepX (nI i_))) then (0 : Int32) else (if ((rX9_stepY l6) - (rX9_stepY (nI i_))) < (-1 : Int32) then (0 : Int32) else (if (1 : Int32) < ((rX9_stepY l6) - (rX9_stepY (nI i_))) then (0 : Int32) else (1 : Int32))))) = (0 : Int32) then x0_ else (x0_ ||| (zshl (1 : Int32) (nI i_)))) else x0_) else x0_) else x0_) = x0_ from (if_neg c_6)] at K_2
        rw [show (if ((zshr x0_ l6) &&& (1 : Int32)) = (1 : Int32) then (if ((zshr l3 (nI i_)) &&& (1 : Int32)) = (1 : Int32) then (if ((zshr x0_ (nI i_)) &&& (1 : Int32)) = (0 : Int32) then (if (if ((rX9_stepX l6) - (rX9_stepX (nI i_))) < (-1 : Int32) then (0 : Int32) else (if (1 : Int32) < ((rX9_stepX l6) - (rX9_stepX (nI i_))) then (0 : Int32) else (if ((rX9_stepY l6) - (rX9_stepY (nI i_))) < (-1 : Int32) then (0 : Int32) else (if (1 : Int32) < ((rX9_stepY l6) - (rX9_stepY (nI i_))) then (0 : Int32) else (1 : Int32))))) = (0 : Int32) then x1_ else (1 : Int32)) else x1_) else x1_) else x1_) = x1_ from (if_neg c_6)] at K_2
        exact K_2
      · refine z_iload_n dX9_hangTogether_155 rfl ?_
        refine z_iload dX9_hangTogether_156 rfl ?_
        refine z_ishr (v := (zshr l3 (nI i_))) dX9_hangTogether_158 rfl ?_
        refine z_iconst dX9_hangTogether_159 k_iconst_1 ?_
        refine z_iand (v := ((zshr l3 (nI i_)) &&& (1 : Int32))) dX9_hangTogether_160 rfl ?_
        refine z_iconst dX9_hangTogether_161 k_iconst_1 ?_
        refine z_icmp_ne (tgt := 192) dX9_hangTogether_162 (by decide) (fun c_7 => ?_) (fun c_7 => ?_)
        · refine zz_sub (lv' := [none, none, none, some (.int l3), some (.int x0_), some (.int x1_), some (.int l6), some (.int (nI i_)), none, none, none]) ⟨rfl, ⟨rfl, ⟨rfl, ⟨rfl, ⟨rfl, trivial⟩⟩⟩⟩⟩ ?_
          rw [show (if ((zshr x0_ l6) &&& (1 : Int32)) = (1 : Int32) then (if ((zshr l3 (nI i_)) &&& (1 : Int32)) = (1 : Int32) then (if ((zshr x0_ (nI i_)) &&& (1 : Int32)) = (0 : Int32) then (if (if ((rX9_stepX l6) - (rX9_stepX (nI i_))) < (-1 : Int32) then (0 : Int32) else (if (1 : Int32) < ((rX9_stepX l6) - (rX9_stepX (nI i_))) then (0 : Int32) else (if ((rX9_stepY l6) - (rX9_stepY (nI i_))) < (-1 : Int32) then (0 : Int32) else (if (1 : Int32) < ((rX9_stepY l6) - (rX9_stepY (nI i_))) then (0 : Int32) else (1 : Int32))))) = (0 : Int32) then x0_ else (x0_ ||| (zshl (1 : Int32) (nI i_)))) else x0_) else x0_) else x0_) = x0_ from ((if_pos c_6).trans (if_neg c_7))] at K_2
          rw [show (if ((zshr x0_ l6) &&& (1 : Int32)) = (1 : Int32) then (if ((zshr l3 (nI i_)) &&& (1 : Int32)) = (1 : Int32) then (if ((zshr x0_ (nI i_)) &&& (1 : Int32)) = (0 : Int32) then (if (if ((rX9_stepX l6) - (rX9_stepX (nI i_))) < (-1 : Int32) then (0 : Int32) else (if (1 : Int32) < ((rX9_stepX l6) - (rX9_stepX (nI i_))) then (0 : Int32) else (if ((rX9_stepY l6) - (rX9_stepY (nI i_))) < (-1 : Int32) then (0 : Int32) else (if (1 : Int32) < ((rX9_stepY l6) - (rX9_stepY (nI i_))) then (0 : Int32) else (1 : Int32))))) = (0 : Int32) then x1_ else (1 : Int32)) else x1_) else x1_) else x1_) = x1_ from ((if_pos c_6).trans (if_neg c_7))] at K_2
          exact K_2
        · refine z_iload dX9_hangTogether_165 rfl ?_
          refine z_iload dX9_hangTogether_167 rfl ?_
          refine z_ishr (v := (zshr x0_ (nI i_))) dX9_hangTogether_169 rfl ?_
          refine z_iconst dX9_hangTogether_170 k_iconst_1 ?_
          refine z_iand (v := ((zshr x0_ (nI i_)) &&& (1 : Int32))) dX9_hangTogether_171 rfl ?_
          refine z_if_ne (tgt := 192) dX9_hangTogether_172 (by decide) (fun c_8 => ?_) (fun c_8 => ?_)
          · refine zz_sub (lv' := [none, none, none, some (.int l3), some (.int x0_), some (.int x1_), some (.int l6), some (.int (nI i_)), none, none, none]) ⟨rfl, ⟨rfl, ⟨rfl, ⟨rfl, ⟨rfl, trivial⟩⟩⟩⟩⟩ ?_
            rw [show (if ((zshr x0_ l6) &&& (1 : Int32)) = (1 : Int32) then (if ((zshr l3 (nI i_)) &&& (1 : Int32)) = (1 : Int32) then (if ((zshr x0_ (nI i_)) &&& (1 : Int32)) = (0 : Int32) then (if (if ((rX9_stepX l6) - (rX9_stepX (nI i_))) < (-1 : Int32) then (0 : Int32) else (if (1 : Int32) < ((rX9_stepX l6) - (rX9_stepX (nI i_))) then (0 : Int32) else (if ((rX9_stepY l6) - (rX9_stepY (nI i_))) < (-1 : Int32) then (0 : Int32) else (if (1 : Int32) < ((rX9_stepY l6) - (rX9_stepY (nI i_))) then (0 : Int32) else (1 : Int32))))) = (0 : Int32) then x0_ else (x0_ ||| (zshl (1 : Int32) (nI i_)))) else x0_) else x0_) else x0_) = x0_ from ((if_pos c_6).trans ((if_pos c_7).trans (if_neg c_8)))] at K_2
            rw [show (if ((zshr x0_ l6) &&& (1 : Int32)) = (1 : Int32) then (if ((zshr l3 (nI i_)) &&& (1 : Int32)) = (1 : Int32) then (if ((zshr x0_ (nI i_)) &&& (1 : Int32)) = (0 : Int32) then (if (if ((rX9_stepX l6) - (rX9_stepX (nI i_))) < (-1 : Int32) then (0 : Int32) else (if (1 : Int32) < ((rX9_stepX l6) - (rX9_stepX (nI i_))) then (0 : Int32) else (if ((rX9_stepY l6) - (rX9_stepY (nI i_))) < (-1 : Int32) then (0 : Int32) else (if (1 : Int32) < ((rX9_stepY l6) - (rX9_stepY (nI i_))) then (0 : Int32) else (1 : Int32))))) = (0 : Int32) then x1_ else (1 : Int32)) else x1_) else x1_) else x1_) = x1_ from ((if_pos c_6).trans ((if_pos c_7).trans (if_neg c_8)))] at K_2
            exact K_2
          · refine z_iload dX9_hangTogether_175 rfl ?_
            refine z_if_eq (tgt := 192) dX9_hangTogether_177 (by decide) (fun c_9 => ?_) (fun c_9 => ?_)
            · refine zz_sub (lv' := [none, none, none, some (.int l3), some (.int x0_), some (.int x1_), some (.int l6), some (.int (nI i_)), none, none, none]) ⟨rfl, ⟨rfl, ⟨rfl, ⟨rfl, ⟨rfl, trivial⟩⟩⟩⟩⟩ ?_
              rw [show (if ((zshr x0_ l6) &&& (1 : Int32)) = (1 : Int32) then (if ((zshr l3 (nI i_)) &&& (1 : Int32)) = (1 : Int32) then (if ((zshr x0_ (nI i_)) &&& (1 : Int32)) = (0 : Int32) then (if (if ((rX9_stepX l6) - (rX9_stepX (nI i_))) < (-1 : Int32) then (0 : Int32) else (if (1 : Int32) < ((rX9_stepX l6) - (rX9_stepX (nI i_))) then (0 : Int32) else (if ((rX9_stepY l6) - (rX9_stepY (nI i_))) < (-1 : Int32) then (0 : Int32) else (if (1 : Int32) < ((rX9_stepY l6) - (rX9_stepY (nI i_))) then (0 : Int32) else (1 : Int32))))) = (0 : Int32) then x0_ else (x0_ ||| (zshl (1 : Int32) (nI i_)))) else x0_) else x0_) else x0_) = x0_ from ((if_pos c_6).trans ((if_pos c_7).trans ((if_pos c_8).trans (if_pos c_9))))] at K_2
              rw [show (if ((zshr x0_ l6) &&& (1 : Int32)) = (1 : Int32) then (if ((zshr l3 (nI i_)) &&& (1 : Int32)) = (1 : Int32) then (if ((zshr x0_ (nI i_)) &&& (1 : Int32)) = (0 : Int32) then (if (if ((rX9_stepX l6) - (rX9_stepX (nI i_))) < (-1 : Int32) then (0 : Int32) else (if (1 : Int32) < ((rX9_stepX l6) - (rX9_stepX (nI i_))) then (0 : Int32) else (if ((rX9_stepY l6) - (rX9_stepY (nI i_))) < (-1 : Int32) then (0 : Int32) else (if (1 : Int32) < ((rX9_stepY l6) - (rX9_stepY (nI i_))) then (0 : Int32) else (1 : Int32))))) = (0 : Int32) then x1_ else (1 : Int32)) else x1_) else x1_) else x1_) = x1_ from ((if_pos c_6).trans ((if_pos c_7).trans ((if_pos c_8).trans (if_pos c_9))))] at K_2
              exact K_2
            · refine z_iload dX9_hangTogether_180 rfl ?_
              refine z_iconst dX9_hangTogether_182 k_iconst_1 ?_
              refine z_iload dX9_hangTogether_183 rfl ?_
              refine z_ishl (v := (zshl (1 : Int32) (nI i_))) dX9_hangTogether_185 rfl ?_
              refine z_ior (v := (x0_ ||| (zshl (1 : Int32) (nI i_)))) dX9_hangTogether_186 rfl ?_
              refine z_istore (lv' := [none, none, none, some (.int l3), some (.int (x0_ ||| (zshl (1 : Int32) (nI i_)))), some (.int x1_), some (.int l6), some (.int (nI i_)), none, none, some (.int (if ((rX9_stepX l6) - (rX9_stepX (nI i_))) < (-1 : Int32) then (0 : Int32) else (if (1 : Int32) < ((rX9_stepX l6) - (rX9_stepX (nI i_))) then (0 : Int32) else (if ((rX9_stepY l6) - (rX9_stepY (nI i_))) < (-1 : Int32) then (0 : Int32) else (if (1 : Int32) < ((rX9_stepY l6) - (rX9_stepY (nI i_))) then (0 : Int32) else (1 : Int32))))))]) dX9_hangTogether_187 (Nat.le_of_ble_eq_true rfl) rfl ?_
              refine z_iconst dX9_hangTogether_189 k_iconst_1 ?_
              refine z_istore (lv' := [none, none, none, some (.int l3), some (.int (x0_ ||| (zshl (1 : Int32) (nI i_)))), some (.int (1 : Int32)), some (.int l6), some (.int (nI i_)), none, none, some (.int (if ((rX9_stepX l6) - (rX9_stepX (nI i_))) < (-1 : Int32) then (0 : Int32) else (if (1 : Int32) < ((rX9_stepX l6) - (rX9_stepX (nI i_))) then (0 : Int32) else (if ((rX9_stepY l6) - (rX9_stepY (nI i_))) < (-1 : Int32) then (0 : Int32) else (if (1 : Int32) < ((rX9_stepY l6) - (rX9_stepY (nI i_))) then (0 : Int32) else (1 : Int32))))))]) dX9_hangTogether_190 (Nat.le_of_ble_eq_true rfl) rfl ?_
              refine zz_sub (lv' := [none, none, none, some (.int l3), some (.int (x0_ ||| (zshl (1 : Int32) (nI i_)))), some (.int (1 : Int32)), some (.int l6), some (.int (nI i_)), none, none, none]) ⟨rfl, ⟨rfl, ⟨rfl, ⟨rfl, ⟨rfl, trivial⟩⟩⟩⟩⟩ ?_
              rw [show (if ((zshr x0_ l6) &&& (1 : Int32)) = (1 : Int32) then (if ((zshr l3 (nI i_)) &&& (1 : Int32)) = (1 : Int32) then (if ((zshr x0_ (nI i_)) &&& (1 : Int32)) = (0 : Int32) then (if (if ((rX9_stepX l6) - (rX9_stepX (nI i_))) < (-1 : Int32) then (0 : Int32) else (if (1 : Int32) < ((rX9_stepX l6) - (rX9_stepX (nI i_))) then (0 : Int32) else (if ((rX9_stepY l6) - (rX9_stepY (nI i_))) < (-1 : Int32) then (0 : Int32) else (if (1 : Int32) < ((rX9_stepY l6) - (rX9_stepY (nI i_))) then (0 : Int32) else (1 : Int32))))) = (0 : Int32) then x0_ else (x0_ ||| (zshl (1 : Int32) (nI i_)))) else x0_) else x0_) else x0_) = (x0_ ||| (zshl (1 : Int32) (nI i_))) from ((if_pos c_6).trans ((if_pos c_7).trans ((if_pos c_8).trans (if_neg c_9))))] at K_2
              rw [show (if ((zshr x0_ l6) &&& (1 : Int32)) = (1 : Int32) then (if ((zshr l3 (nI i_)) &&& (1 : Int32)) = (1 : Int32) then (if ((zshr x0_ (nI i_)) &&& (1 : Int32)) = (0 : Int32) then (if (if ((rX9_stepX l6) - (rX9_stepX (nI i_))) < (-1 : Int32) then (0 : Int32) else (if (1 : Int32) < ((rX9_stepX l6) - (rX9_stepX (nI i_))) then (0 : Int32) else (if ((rX9_stepY l6) - (rX9_stepY (nI i_))) < (-1 : Int32) then (0 : Int32) else (if (1 : Int32) < ((rX9_stepY l6) - (rX9_stepY (nI i_))) then (0 : Int32) else (1 : Int32))))) = (0 : Int32) then x1_ else (1 : Int32)) else x1_) else x1_) else x1_) = (1 : Int32) from ((if_pos c_6).trans ((if_pos c_7).trans ((if_pos c_8).trans (if_neg c_9))))] at K_2
              exact K_2
    refine z_icmp_lt (tgt := 141) dX9_hangTogether_116 (by decide) (fun c_2 => ?_) (fun c_2 => ?_)
    · refine z_iconst dX9_hangTogether_141 k_iconst_0 ?_
      refine zz_sub (lv' := [none, none, none, some (.int l3), some (.int x0_), some (.int x1_), some (.int l6), some (.int (nI i_)), none, none, none]) ⟨rfl, ⟨rfl, ⟨rfl, ⟨rfl, ⟨rfl, trivial⟩⟩⟩⟩⟩ ?_
      rw [show (if ((rX9_stepX l6) - (rX9_stepX (nI i_))) < (-1 : Int32) then (0 : Int32) else (if (1 : Int32) < ((rX9_stepX l6) - (rX9_stepX (nI i_))) then (0 : Int32) else (if ((rX9_stepY l6) - (rX9_stepY (nI i_))) < (-1 : Int32) then (0 : Int32) else (if (1 : Int32) < ((rX9_stepY l6) - (rX9_stepY (nI i_))) then (0 : Int32) else (1 : Int32))))) = (0 : Int32) from (if_pos c_2)] at K_1
      exact K_1
    · refine z_iload dX9_hangTogether_119 rfl ?_
      refine z_iconst dX9_hangTogether_121 k_iconst_1 ?_
      refine z_icmp_gt (tgt := 141) dX9_hangTogether_122 (by decide) (fun c_3 => ?_) (fun c_3 => ?_)
      · refine z_iconst dX9_hangTogether_141 k_iconst_0 ?_
        refine zz_sub (lv' := [none, none, none, some (.int l3), some (.int x0_), some (.int x1_), some (.int l6), some (.int (nI i_)), none, none, none]) ⟨rfl, ⟨rfl, ⟨rfl, ⟨rfl, ⟨rfl, trivial⟩⟩⟩⟩⟩ ?_
        rw [show (if ((rX9_stepX l6) - (rX9_stepX (nI i_))) < (-1 : Int32) then (0 : Int32) else (if (1 : Int32) < ((rX9_stepX l6) - (rX9_stepX (nI i_))) then (0 : Int32) else (if ((rX9_stepY l6) - (rX9_stepY (nI i_))) < (-1 : Int32) then (0 : Int32) else (if (1 : Int32) < ((rX9_stepY l6) - (rX9_stepY (nI i_))) then (0 : Int32) else (1 : Int32))))) = (0 : Int32) from ((if_neg c_2).trans (if_pos c_3))] at K_1
        exact K_1
      · refine z_iload dX9_hangTogether_125 rfl ?_
        refine z_iconst dX9_hangTogether_127 k_iconst_m1 ?_
        refine z_icmp_lt (tgt := 141) dX9_hangTogether_128 (by decide) (fun c_4 => ?_) (fun c_4 => ?_)
        · refine z_iconst dX9_hangTogether_141 k_iconst_0 ?_
          refine zz_sub (lv' := [none, none, none, some (.int l3), some (.int x0_), some (.int x1_), some (.int l6), some (.int (nI i_)), none, none, none]) ⟨rfl, ⟨rfl, ⟨rfl, ⟨rfl, ⟨rfl, trivial⟩⟩⟩⟩⟩ ?_
          rw [show (if ((rX9_stepX l6) - (rX9_stepX (nI i_))) < (-1 : Int32) then (0 : Int32) else (if (1 : Int32) < ((rX9_stepX l6) - (rX9_stepX (nI i_))) then (0 : Int32) else (if ((rX9_stepY l6) - (rX9_stepY (nI i_))) < (-1 : Int32) then (0 : Int32) else (if (1 : Int32) < ((rX9_stepY l6) - (rX9_stepY (nI i_))) then (0 : Int32) else (1 : Int32))))) = (0 : Int32) from ((if_neg c_2).trans ((if_neg c_3).trans (if_pos c_4)))] at K_1
          exact K_1
        · refine z_iload dX9_hangTogether_131 rfl ?_
          refine z_iconst dX9_hangTogether_133 k_iconst_1 ?_
          refine z_icmp_gt (tgt := 141) dX9_hangTogether_134 (by decide) (fun c_5 => ?_) (fun c_5 => ?_)
          · refine z_iconst dX9_hangTogether_141 k_iconst_0 ?_
            refine zz_sub (lv' := [none, none, none, some (.int l3), some (.int x0_), some (.int x1_), some (.int l6), some (.int (nI i_)), none, none, none]) ⟨rfl, ⟨rfl, ⟨rfl, ⟨rfl, ⟨rfl, trivial⟩⟩⟩⟩⟩ ?_
            rw [show (if ((rX9_stepX l6) - (rX9_stepX (nI i_))) < (-1 : Int32) then (0 : Int32) else (if (1 : Int32) < ((rX9_stepX l6) - (rX9_stepX (nI i_))) then (0 : Int32) else (if ((rX9_stepY l6) - (rX9_stepY (nI i_))) < (-1 : Int32) then (0 : Int32) else (if (1 : Int32) < ((rX9_stepY l6) - (rX9_stepY (nI i_))) then (0 : Int32) else (1 : Int32))))) = (0 : Int32) from ((if_neg c_2).trans ((if_neg c_3).trans ((if_neg c_4).trans (if_pos c_5))))] at K_1
            exact K_1
          · refine z_iconst dX9_hangTogether_137 k_iconst_1 ?_
            refine z_goto (tgt := 142) dX9_hangTogether_138 (by decide) ?_
            refine zz_sub (lv' := [none, none, none, some (.int l3), some (.int x0_), some (.int x1_), some (.int l6), some (.int (nI i_)), none, none, none]) ⟨rfl, ⟨rfl, ⟨rfl, ⟨rfl, ⟨rfl, trivial⟩⟩⟩⟩⟩ ?_
            rw [show (if ((rX9_stepX l6) - (rX9_stepX (nI i_))) < (-1 : Int32) then (0 : Int32) else (if (1 : Int32) < ((rX9_stepX l6) - (rX9_stepX (nI i_))) then (0 : Int32) else (if ((rX9_stepY l6) - (rX9_stepY (nI i_))) < (-1 : Int32) then (0 : Int32) else (if (1 : Int32) < ((rX9_stepY l6) - (rX9_stepY (nI i_))) then (0 : Int32) else (1 : Int32))))) = (1 : Int32) from ((if_neg c_2).trans ((if_neg c_3).trans ((if_neg c_4).trans (if_neg c_5))))] at K_1
            exact K_1
  · generalize zfor (fX9_hangTogether_80 l3 l6) 8 (l4, l5) = g_ at W2_ ⊢
    obtain ⟨x0_, x1_⟩ := g_
    dsimp only at W2_ ⊢
    refine z_iload dX9_hangTogether_80 rfl ?_
    refine z_bipush dX9_hangTogether_82 k_bipush_8 ?_
    refine z_icmp_ge (tgt := 198) dX9_hangTogether_84 (by decide) (fun c_ => ?_) (fun c_ => absurd (by decide) c_)
    exact zz_sub (lv' := [none, none, none, some (.int l3), some (.int x0_), some (.int x1_), some (.int l6), none, none, none, none]) ⟨rfl, ⟨rfl, ⟨rfl, ⟨rfl, trivial⟩⟩⟩⟩ W2_

theorem dX9_hangTogether_70 : decode cX9_hangTogether 70 = .ok (.iload 6, 2) := by decide +kernel
theorem dX9_hangTogether_72 : decode cX9_hangTogether 72 = .ok (.bipush 8, 2) := by decide +kernel
theorem dX9_hangTogether_74 : decode cX9_hangTogether 74 = .ok (.if_icmp .ge 130, 3) := by decide +kernel
theorem dX9_hangTogether_77 : decode cX9_hangTogether 77 = .ok (.iconst 0, 1) := by decide +kernel
theorem dX9_hangTogether_78 : decode cX9_hangTogether 78 = .ok (.istore 7, 2) := by decide +kernel
theorem dX9_hangTogether_204 : decode cX9_hangTogether 204 = .ok (.goto (-145), 3) := by decide +kernel
noncomputable def fX9_hangTogether_70 (l3 : Int32) (i_ : Nat) (a_ : Int32 × Int32) : Int32 × Int32 := ((zfor (fX9_hangTogether_80 l3 (nI i_)) 8 (a_.1, a_.2)).1, (zfor (fX9_hangTogether_80 l3 (nI i_)) 8 (a_.1, a_.2)).2)
set_option maxHeartbeats 2000000 in
theorem lpX9_hangTogether_70 {G : zc_G} {Q : Option Value → zc_H → Prop} (P : zp) (σ : zc_N) (l3 : Int32) (l4 : Int32) (l5 : Int32)
    (W2_ : zz G mX9_hangTogether 1 0 0 Q 204 [none, none, none, some (.int l3), some (.int (zfor (fX9_hangTogether_70 l3) 8 (l4, l5)).1), some (.int (zfor (fX9_hangTogether_70 l3) 8 (l4, l5)).2), none, none, none, none, none] [] (hh P σ) 0 0) :
    zz G mX9_hangTogether 1 0 0 Q 70 [none, none, none, some (.int l3), some (.int l4), some (.int l5), some (.int (nI 0)), none, none, none, none] [] (hh P σ) 0 0 := by
  refine zfor_nI (fun i_ a_ => zz G mX9_hangTogether 1 0 0 Q 70 [none, none, none, some (.int l3), some (.int a_.1), some (.int a_.2), some (.int i_), none, none, none, none] [] (hh P σ) 0 0) (fX9_hangTogether_70 l3) 8 (l4, l5) (fun i_ hi_ k_ => ?_) ?_
  all_goals try dsimp only
  · generalize zfor (fX9_hangTogether_70 l3) i_ (l4, l5) = g_ at k_ ⊢
    obtain ⟨x0_, x1_⟩ := g_
    dsimp only at k_ ⊢
    rw [fX9_hangTogether_70] at k_
    dsimp only at k_
    refine z_iload dX9_hangTogether_70 rfl ?_
    refine z_bipush dX9_hangTogether_72 k_bipush_8 ?_
    refine z_icmp_ge (tgt := 204) dX9_hangTogether_74 (by decide) (fun c_ => absurd c_ (nI_ge hi_ (by decide))) (fun c_ => ?_)
    refine z_iconst dX9_hangTogether_77 k_iconst_0 ?_
    refine z_istore (lv' := [none, none, none, some (.int l3), some (.int x0_), some (.int x1_), some (.int (nI i_)), some (.int (0 : Int32)), none, none, none]) dX9_hangTogether_78 (Nat.le_of_ble_eq_true rfl) rfl ?_
    refine lpX9_hangTogether_80 P σ l3 x0_ x1_ (nI i_) ?_
    show zz G mX9_hangTogether 1 0 0 Q 198 [none, none, none, some (.int l3), some (.int (zfor (fX9_hangTogether_80 l3 (nI i_)) 8 (x0_, x1_)).1), some (.int (zfor (fX9_hangTogether_80 l3 (nI i_)) 8 (x0_, x1_)).2), some (.int (nI i_)), none, none, none, none] [] (hh P σ) 0 0
    refine z_iinc (v := ((nI i_) + (1 : Int32))) (lv' := [none, none, none, some (.int l3), some (.int (zfor (fX9_hangTogether_80 l3 (nI i_)) 8 (x0_, x1_)).1), some (.int (zfor (fX9_hangTogether_80 l3 (nI i_)) 8 (x0_, x1_)).2), some (.int ((nI i_) + (1 : Int32))), none, none, none, none]) dX9_hangTogether_198 (Nat.le_of_ble_eq_true rfl) rfl (by rw [k_iconst_1]) rfl ?_
    refine z_goto (tgt := 70) dX9_hangTogether_201 (by decide) ?_
    rw [nI_1]
    exact k_
  · generalize zfor (fX9_hangTogether_70 l3) 8 (l4, l5) = g_ at W2_ ⊢
    obtain ⟨x0_, x1_⟩ := g_
    dsimp only at W2_ ⊢
    refine z_iload dX9_hangTogether_70 rfl ?_
    refine z_bipush dX9_hangTogether_72 k_bipush_8 ?_
    refine z_icmp_ge (tgt := 204) dX9_hangTogether_74 (by decide) (fun c_ => ?_) (fun c_ => absurd (by decide) c_)
    exact zz_sub (lv' := [none, none, none, some (.int l3), some (.int x0_), some (.int x1_), none, none, none, none, none]) ⟨rfl, ⟨rfl, ⟨rfl, trivial⟩⟩⟩ W2_

theorem dX9_hangTogether_5 : decode cX9_hangTogether 5 = .ok (.iload 4, 2) := by decide +kernel
theorem dX9_hangTogether_7 : decode cX9_hangTogether 7 = .ok (.bipush 8, 2) := by decide +kernel
theorem dX9_hangTogether_9 : decode cX9_hangTogether 9 = .ok (.if_icmp .ge 41, 3) := by decide +kernel
theorem dX9_hangTogether_12 : decode cX9_hangTogether 12 = .ok (.iload_n 3, 1) := by decide +kernel
theorem dX9_hangTogether_13 : decode cX9_hangTogether 13 = .ok (.aload_n 0, 1) := by decide +kernel
theorem dX9_hangTogether_14 : decode cX9_hangTogether 14 = .ok (.iload_n 1, 1) := by decide +kernel
theorem dX9_hangTogether_15 : decode cX9_hangTogether 15 = .ok (.iload 4, 2) := by decide +kernel
theorem dX9_hangTogether_17 : decode cX9_hangTogether 17 = .ok (.invokestatic 109, 3) := by decide +kernel
theorem dX9_hangTogether_20 : decode cX9_hangTogether 20 = .ok (.iadd, 1) := by decide +kernel
theorem dX9_hangTogether_21 : decode cX9_hangTogether 21 = .ok (.iload_n 2, 1) := by decide +kernel
theorem dX9_hangTogether_22 : decode cX9_hangTogether 22 = .ok (.iload 4, 2) := by decide +kernel
theorem dX9_hangTogether_24 : decode cX9_hangTogether 24 = .ok (.invokestatic 113, 3) := by decide +kernel
theorem dX9_hangTogether_27 : decode cX9_hangTogether 27 = .ok (.iadd, 1) := by decide +kernel
theorem dX9_hangTogether_28 : decode cX9_hangTogether 28 = .ok (.invokevirtual 105, 3) := by decide +kernel
theorem dX9_hangTogether_31 : decode cX9_hangTogether 31 = .ok (.ifCond .eq 10, 3) := by decide +kernel
theorem dX9_hangTogether_34 : decode cX9_hangTogether 34 = .ok (.iconst 1, 1) := by decide +kernel
theorem dX9_hangTogether_35 : decode cX9_hangTogether 35 = .ok (.iload 4, 2) := by decide +kernel
theorem dX9_hangTogether_37 : decode cX9_hangTogether 37 = .ok (.ishl, 1) := by decide +kernel
theorem dX9_hangTogether_38 : decode cX9_hangTogether 38 = .ok (.goto 4, 3) := by decide +kernel
theorem dX9_hangTogether_41 : decode cX9_hangTogether 41 = .ok (.iconst 0, 1) := by decide +kernel
theorem dX9_hangTogether_42 : decode cX9_hangTogether 42 = .ok (.ior, 1) := by decide +kernel
theorem dX9_hangTogether_43 : decode cX9_hangTogether 43 = .ok (.istore_n 3, 1) := by decide +kernel
theorem dX9_hangTogether_44 : decode cX9_hangTogether 44 = .ok (.iinc 4 1, 3) := by decide +kernel
theorem dX9_hangTogether_47 : decode cX9_hangTogether 47 = .ok (.goto (-42), 3) := by decide +kernel
theorem dX9_hangTogether_50 : decode cX9_hangTogether 50 = .ok (.iload_n 3, 1) := by decide +kernel
theorem dX9_hangTogether_51 : decode cX9_hangTogether 51 = .ok (.iload_n 3, 1) := by decide +kernel
theorem dX9_hangTogether_52 : decode cX9_hangTogether 52 = .ok (.ineg, 1) := by decide +kernel
theorem dX9_hangTogether_53 : decode cX9_hangTogether 53 = .ok (.iand, 1) := by decide +kernel
theorem dX9_hangTogether_54 : decode cX9_hangTogether 54 = .ok (.istore 4, 2) := by decide +kernel
theorem dX9_hangTogether_56 : decode cX9_hangTogether 56 = .ok (.iconst 1, 1) := by decide +kernel
theorem dX9_hangTogether_57 : decode cX9_hangTogether 57 = .ok (.istore 5, 2) := by decide +kernel
noncomputable def vX9_hangTogether_2 (l1 : Int32) (l2 : Int32) (l3 : Int32) (l4 : Int32) (σ : zc_N) : Int32 := (l3 ||| (if (rX9_isDark σ (l1 + (rX9_stepX l4)) (l2 + (rX9_stepY l4))) = (0 : Int32) then (0 : Int32) else (zshl (1 : Int32) l4)))
noncomputable def fX9_hangTogether_5 (σ : zc_N) (l1 : Int32) (l2 : Int32) (i_ : Nat) (a_ : Int32) : Int32 := (vX9_hangTogether_2 l1 l2 a_ (nI i_) σ)
set_option maxHeartbeats 2000000 in
theorem lpX9_hangTogether_5 {G : zc_G} {Q : Option Value → zc_H → Prop} (P : zp) (σ : zc_N) (l1 : Int32) (l2 : Int32) (l3 : Int32)
    (W2_ : zz G mX9_hangTogether 1 0 0 Q 50 [none, none, none, some (.int (zfor (fX9_hangTogether_5 σ l1 l2) 8 l3)), none, none, none, none, none, none, none] [] (hh P σ) 0 0) :
    zz G mX9_hangTogether 1 0 0 Q 5 [some (.ref 32), some (.int l1), some (.int l2), some (.int l3), some (.int (nI 0)), none, none, none, none, none, none] [] (hh P σ) 0 0 := by
  refine zfor_nI (fun i_ a_ => zz G mX9_hangTogether 1 0 0 Q 5 [some (.ref 32), some (.int l1), some (.int l2), some (.int a_), some (.int i_), none, none, none, none, none, none] [] (hh P σ) 0 0) (fX9_hangTogether_5 σ l1 l2) 8 l3 (fun i_ hi_ k_ => ?_) ?_
  · generalize zfor (fX9_hangTogether_5 σ l1 l2) i_ l3 = g_ at k_ ⊢
    rw [fX9_hangTogether_5] at k_
    refine z_iload dX9_hangTogether_5 rfl ?_
    refine z_bipush dX9_hangTogether_7 k_bipush_8 ?_
    refine z_icmp_ge (tgt := 50) dX9_hangTogether_9 (by decide) (fun c_ => absurd c_ (nI_ge hi_ (by decide))) (fun c_ => ?_)
    refine z_iload_n dX9_hangTogether_12 rfl ?_
    refine z_aloadr_n dX9_hangTogether_13 rfl ?_
    refine z_iload_n dX9_hangTogether_14 rfl ?_
    refine z_iload dX9_hangTogether_15 rfl ?_
    refine z_callS (As := [.int (nI i_)]) (rest := [.int l1, .ref 32, .int g_]) (ctX9_stepX P σ (nI i_)) dX9_hangTogether_17 lk_X9_109 ls_X9_stepX rfl (Nat.le_of_ble_eq_true rfl) (Nat.le_of_ble_eq_true rfl) (Nat.le_of_ble_eq_true rfl) (Nat.le_of_ble_eq_true rfl) (fun r_ h_ e_ => ?_)
    obtain ⟨e1_, e2_⟩ := e_
    subst e1_
    subst e2_
    show zz G mX9_hangTogether 1 0 0 Q 20 [some (.ref 32), some (.int l1), some (.int l2), some (.int g_), some (.int (nI i_)), none, none, none, none, none, none] [.int (rX9_stepX (nI i_)), .int l1, .ref 32, .int g_] (hh P σ) 0 0
    refine z_iadd (v := (l1 + (rX9_stepX (nI i_)))) dX9_hangTogether_20 rfl ?_
    refine z_iload_n dX9_hangTogether_21 rfl ?_
    refine z_iload dX9_hangTogether_22 rfl ?_
    refine z_callS (As := [.int (nI i_)]) (rest := [.int l2, .int (l1 + (rX9_stepX (nI i_))), .ref 32, .int g_]) (ctX9_stepY P σ (nI i_)) dX9_hangTogether_24 lk_X9_113 ls_X9_stepY rfl (Nat.le_of_ble_eq_true rfl) (Nat.le_of_ble_eq_true rfl) (Nat.le_of_ble_eq_true rfl) (Nat.le_of_ble_eq_true rfl) (fun r_ h_ e_ => ?_)
    obtain ⟨e1_, e2_⟩ := e_
    subst e1_
    subst e2_
    show zz G mX9_hangTogether 1 0 0 Q 27 [some (.ref 32), some (.int l1), some (.int l2), some (.int g_), some (.int (nI i_)), none, none, none, none, none, none] [.int (rX9_stepY (nI i_)), .int l2, .int (l1 + (rX9_stepX (nI i_))), .ref 32, .int g_] (hh P σ) 0 0
    refine z_iadd (v := (l2 + (rX9_stepY (nI i_)))) dX9_hangTogether_27 rfl ?_
    refine z_callV (ci := 9) (r := (RX9, TX9, 38)) (b := 32) (As := [.int (l1 + (rX9_stepX (nI i_))), .int (l2 + (rX9_stepY (nI i_)))]) (rest := [.int g_]) (ctX9_isDark P σ (l1 + (rX9_stepX (nI i_))) (l2 + (rX9_stepY (nI i_))) (pzX9_isDark P σ (l1 + (rX9_stepX (nI i_))) (l2 + (rX9_stepY (nI i_))))) dX9_hangTogether_28 lk_X9_105 lv_X9_isDark (Nat.le_of_ble_eq_true rfl) (zN rfl) rfl rfl rfl rfl (Nat.le_of_ble_eq_true rfl) (Nat.le_of_ble_eq_true rfl) (Nat.le_of_ble_eq_true rfl) (Nat.le_of_ble_eq_true rfl) (fun r_ h_ e_ => ?_)
    obtain ⟨e1_, e2_⟩ := e_
    subst e1_
    subst e2_
    show zz G mX9_hangTogether 1 0 0 Q 31 [some (.ref 32), some (.int l1), some (.int l2), some (.int g_), some (.int (nI i_)), none, none, none, none, none, none] [.int (rX9_isDark σ (l1 + (rX9_stepX (nI i_))) (l2 + (rX9_stepY (nI i_)))), .int g_] (hh P σ) 0 0
    have K_1 : zz G mX9_hangTogether 1 0 0 Q 42 [some (.ref 32), some (.int l1), some (.int l2), none, some (.int (nI i_)), none, none, none, none, none, none] [.int (if (rX9_isDark σ (l1 + (rX9_stepX (nI i_))) (l2 + (rX9_stepY (nI i_)))) = (0 : Int32) then (0 : Int32) else (zshl (1 : Int32) (nI i_))), .int g_] (hh P σ) 0 0 := by
      refine z_ior (v := (g_ ||| (if (rX9_isDark σ (l1 + (rX9_stepX (nI i_))) (l2 + (rX9_stepY (nI i_)))) = (0 : Int32) then (0 : Int32) else (zshl (1 : Int32) (nI i_))))) dX9_hangTogether_42 rfl ?_
      refine z_istore_n (lv' := [some (.ref 32), some (.int l1), some (.int l2), some (.int (vX9_hangTogether_2 l1 l2 g_ (nI i_) σ)), some (.int (nI i_)), none, none, none, none, none, none]) dX9_hangTogether_43 (Nat.le_of_ble_eq_true rfl) rfl ?_
      refine z_iinc (v := ((nI i_) + (1 : Int32))) (lv' := [some (.ref 32), some (.int l1), some (.int l2), some (.int (vX9_hangTogether_2 l1 l2 g_ (nI i_) σ)), some (.int ((nI i_) + (1 : Int32))), none, none, none, none, none, none]) dX9_hangTogether_44 (Nat.le_of_ble_eq_true rfl) rfl (by rw [k_iconst_1]) rfl ?_
      refine z_goto (tgt := 5) dX9_hangTogether_47 (by decide) ?_
      rw [nI_1]
      exact k_
    refine z_if_eq (tgt := 41) dX9_hangTogether_31 (by decide) (fun c_2 => ?_) (fun c_2 => ?_)
    · refine z_iconst dX9_hangTogether_41 k_iconst_0 ?_
      refine zz_sub (lv' := [some (.ref 32), some (.int l1), some (.int l2), none, some (.int (nI i_)), none, none, none, none, none, none]) ⟨rfl, ⟨rfl, ⟨rfl, ⟨rfl, trivial⟩⟩⟩⟩ ?_
      rw [show (if (rX9_isDark σ (l1 + (rX9_stepX (nI i_))) (l2 + (rX9_stepY (nI i_)))) = (0 : Int32) then (0 : Int32) else (zshl (1 : Int32) (nI i_))) = (0 : Int32) from (if_pos c_2)] at K_1
      exact K_1
    · refine z_iconst dX9_hangTogether_34 k_iconst_1 ?_
      refine z_iload dX9_hangTogether_35 rfl ?_
      refine z_ishl (v := (zshl (1 : Int32) (nI i_))) dX9_hangTogether_37 rfl ?_
      refine z_goto (tgt := 42) dX9_hangTogether_38 (by decide) ?_
      refine zz_sub (lv' := [some (.ref 32), some (.int l1), some (.int l2), none, some (.int (nI i_)), none, none, none, none, none, none]) ⟨rfl, ⟨rfl, ⟨rfl, ⟨rfl, trivial⟩⟩⟩⟩ ?_
      rw [show (if (rX9_isDark σ (l1 + (rX9_stepX (nI i_))) (l2 + (rX9_stepY (nI i_)))) = (0 : Int32) then (0 : Int32) else (zshl (1 : Int32) (nI i_))) = (zshl (1 : Int32) (nI i_)) from (if_neg c_2)] at K_1
      exact K_1
  · generalize zfor (fX9_hangTogether_5 σ l1 l2) 8 l3 = g_ at W2_ ⊢
    refine z_iload dX9_hangTogether_5 rfl ?_
    refine z_bipush dX9_hangTogether_7 k_bipush_8 ?_
    refine z_icmp_ge (tgt := 50) dX9_hangTogether_9 (by decide) (fun c_ => ?_) (fun c_ => absurd (by decide) c_)
    exact zz_sub (lv' := [none, none, none, some (.int g_), none, none, none, none, none, none, none]) ⟨rfl, trivial⟩ W2_

theorem dX9_hangTogether_59 : decode cX9_hangTogether 59 = .ok (.iload 5, 2) := by decide +kernel
theorem dX9_hangTogether_61 : decode cX9_hangTogether 61 = .ok (.ifCond .eq 146, 3) := by decide +kernel
theorem dX9_hangTogether_64 : decode cX9_hangTogether 64 = .ok (.iconst 0, 1) := by decide +kernel
theorem dX9_hangTogether_65 : decode cX9_hangTogether 65 = .ok (.istore 5, 2) := by decide +kernel
theorem dX9_hangTogether_67 : decode cX9_hangTogether 67 = .ok (.iconst 0, 1) := by decide +kernel
theorem dX9_hangTogether_68 : decode cX9_hangTogether 68 = .ok (.istore 6, 2) := by decide +kernel
theorem dX9_hangTogether_207 : decode cX9_hangTogether 207 = .ok (.iload 4, 2) := by decide +kernel
theorem dX9_hangTogether_209 : decode cX9_hangTogether 209 = .ok (.iload_n 3, 1) := by decide +kernel
theorem dX9_hangTogether_213 : decode cX9_hangTogether 213 = .ok (.iconst 1, 1) := by decide +kernel
theorem dX9_hangTogether_214 : decode cX9_hangTogether 214 = .ok (.goto 4, 3) := by decide +kernel
theorem dX9_hangTogether_217 : decode cX9_hangTogether 217 = .ok (.iconst 0, 1) := by decide +kernel
noncomputable def fX9_hangTogether_59 (l3 : Int32) (a_ : Int32 × Int32) : Int32 × Int32 := ((zfor (fX9_hangTogether_70 l3) 8 (a_.1, (0 : Int32))).1, (zfor (fX9_hangTogether_70 l3) 8 (a_.1, (0 : Int32))).2)
def eX9_hangTogether_59 (a_ : Int32 × Int32) : Prop := ((a_.2 = (0 : Int32) ∧ True) ∨ (¬ a_.2 = (0 : Int32) ∧ False))
noncomputable def wX9_hangTogether_59 (l3 : Int32) (a_ : Int32 × Int32) : Int32 × Int32 := zit (fX9_hangTogether_59 l3) (zwn (fun n_ => eX9_hangTogether_59 (zit (fX9_hangTogether_59 l3) n_ a_))) a_
set_option maxHeartbeats 2000000 in
theorem whX9_hangTogether_59 {G : zc_G} {Q : Option Value → zc_H → Prop} (P : zp) (σ : zc_N) (l3 : Int32) (l4 : Int32) (l5 : Int32)
    (hT_ : ∃ n_ : Nat, eX9_hangTogether_59 (zit (fX9_hangTogether_59 l3) n_ (l4, l5)))
    (W2_ : eX9_hangTogether_59 (wX9_hangTogether_59 l3 (l4, l5)) → zz G mX9_hangTogether 1 0 0 Q 59 [none, none, none, some (.int l3), some (.int (wX9_hangTogether_59 l3 (l4, l5)).1), some (.int (wX9_hangTogether_59 l3 (l4, l5)).2), none, none, none, none, none] [] (hh P σ) 0 0) :
    zz G mX9_hangTogether 1 0 0 Q 59 [none, none, none, some (.int l3), some (.int l4), some (.int l5), none, none, none, none, none] [] (hh P σ) 0 0 := by
  unfold wX9_hangTogether_59 at W2_
  have hs_ := zwn_spec hT_
  refine zit_Z (fun a_ => zz G mX9_hangTogether 1 0 0 Q 59 [none, none, none, some (.int l3), some (.int a_.1), some (.int a_.2), none, none, none, none, none] [] (hh P σ) 0 0) (fX9_hangTogether_59 l3) (zwn (fun n_ => eX9_hangTogether_59 (zit (fX9_hangTogether_59 l3) n_ (l4, l5)))) (l4, l5) (fun i_ hi_ k_ => ?_) (W2_ hs_.1)
  have hn_ := hs_.2 i_ hi_
  generalize zit (fX9_hangTogether_59 l3) i_ (l4, l5) = g_ at k_ hn_ ⊢
  obtain ⟨x0_, x1_⟩ := g_
  try dsimp only at k_ hn_ ⊢
  rw [fX9_hangTogether_59] at k_
  rw [eX9_hangTogether_59] at hn_
  try dsimp only at k_ hn_
  refine z_iload dX9_hangTogether_59 rfl ?_
  refine z_if_eq (tgt := 207) dX9_hangTogether_61 (by decide) (fun c_1 => ?_) (fun c_1 => ?_)
  · exact absurd (Or.inl ⟨c_1, trivial⟩) hn_
  · refine z_iconst dX9_hangTogether_64 k_iconst_0 ?_
    refine z_istore (lv' := [none, none, none, some (.int l3), some (.int x0_), some (.int (0 : Int32)), none, none, none, none, none]) dX9_hangTogether_65 (Nat.le_of_ble_eq_true rfl) rfl ?_
    refine z_iconst dX9_hangTogether_67 k_iconst_0 ?_
    refine z_istore (lv' := [none, none, none, some (.int l3), some (.int x0_), some (.int (0 : Int32)), some (.int (0 : Int32)), none, none, none, none]) dX9_hangTogether_68 (Nat.le_of_ble_eq_true rfl) rfl ?_
    refine lpX9_hangTogether_70 P σ l3 x0_ (0 : Int32) ?_
    show zz G mX9_hangTogether 1 0 0 Q 204 [none, none, none, some (.int l3), some (.int (zfor (fX9_hangTogether_70 l3) 8 (x0_, (0 : Int32))).1), some (.int (zfor (fX9_hangTogether_70 l3) 8 (x0_, (0 : Int32))).2), none, none, none, none, none] [] (hh P σ) 0 0
    refine z_goto (tgt := 59) dX9_hangTogether_204 (by decide) ?_
    simpa only [if_neg c_1] using k_

theorem dX9_hangTogether_0 : decode cX9_hangTogether 0 = .ok (.iconst 0, 1) := by decide +kernel
theorem dX9_hangTogether_1 : decode cX9_hangTogether 1 = .ok (.istore_n 3, 1) := by decide +kernel
theorem dX9_hangTogether_2 : decode cX9_hangTogether 2 = .ok (.iconst 0, 1) := by decide +kernel
theorem dX9_hangTogether_3 : decode cX9_hangTogether 3 = .ok (.istore 4, 2) := by decide +kernel
theorem dX9_hangTogether_210 : decode cX9_hangTogether 210 = .ok (.if_icmp .ne 7, 3) := by decide +kernel
theorem dX9_hangTogether_218 : decode cX9_hangTogether 218 = .ok (.ireturn, 1) := by decide +kernel
noncomputable def vX9_hangTogether_3 (a1 : Int32) (a2 : Int32) (σ : zc_N) : Int32 := (wX9_hangTogether_59 (zfor (fX9_hangTogether_5 σ a1 a2) 8 (0 : Int32)) (((zfor (fX9_hangTogether_5 σ a1 a2) 8 (0 : Int32)) &&& (-(zfor (fX9_hangTogether_5 σ a1 a2) 8 (0 : Int32)))), (1 : Int32))).1
noncomputable def vX9_hangTogether_4 (a1 : Int32) (a2 : Int32) (σ : zc_N) : Int32 := (wX9_hangTogether_59 (zfor (fX9_hangTogether_5 σ a1 a2) 8 (0 : Int32)) (((zfor (fX9_hangTogether_5 σ a1 a2) 8 (0 : Int32)) &&& (-(zfor (fX9_hangTogether_5 σ a1 a2) 8 (0 : Int32)))), (1 : Int32))).2
noncomputable def vX9_hangTogether_5 (a1 : Int32) (a2 : Int32) (σ : zc_N) : Int32 := (zfor (fX9_hangTogether_70 (zfor (fX9_hangTogether_5 σ a1 a2) 8 (0 : Int32))) 8 ((vX9_hangTogether_3 a1 a2 σ), (0 : Int32))).1
noncomputable def vX9_hangTogether_6 (a1 : Int32) (a2 : Int32) (σ : zc_N) : Int32 := (zfor (fX9_hangTogether_70 (zfor (fX9_hangTogether_5 σ a1 a2) 8 (0 : Int32))) 8 ((vX9_hangTogether_3 a1 a2 σ), (0 : Int32))).2
def pX9_hangTogether (σ : zc_N) (a1 : Int32) (a2 : Int32) : Prop := (∃ n_ : Nat, eX9_hangTogether_59 (zit (fX9_hangTogether_59 (zfor (fX9_hangTogether_5 σ a1 a2) 8 (0 : Int32))) n_ (((zfor (fX9_hangTogether_5 σ a1 a2) 8 (0 : Int32)) &&& (-(zfor (fX9_hangTogether_5 σ a1 a2) 8 (0 : Int32)))), (1 : Int32))))
noncomputable def rX9_hangTogether (σ : zc_N) (a1 : Int32) (a2 : Int32) : Int32 := (if (vX9_hangTogether_3 a1 a2 σ) = (zfor (fX9_hangTogether_5 σ a1 a2) 8 (0 : Int32)) then (1 : Int32) else (0 : Int32))
set_option maxHeartbeats 1000000 in
theorem ctX9_hangTogether (P : zp) (σ : zc_N) (a1 : Int32) (a2 : Int32) (W_ : (pX9_hangTogether σ a1 a2)) : sp mX9_hangTogether 1 0 0 [.ref 32, .int a1, .int a2] (hh P σ) (fun r_ h_ => r_ = some (.int (rX9_hangTogether σ a1 a2)) ∧ h_ = hh P σ) := by
  refine sp_of (lv := [some (.ref 32), some (.int a1), some (.int a2), none, none, none, none, none, none, none, none]) (by decide) (zcats_ok _ rfl) (Nat.le_of_ble_eq_true rfl) (zlv_ok _ 8 rfl) (fun G => ?_)
  generalize hQ_ : (fun (r_ : Option Value) (h_ : zc_H) => r_ = some (.int (rX9_hangTogether σ a1 a2)) ∧ h_ = hh P σ) = Q_
  unfold pX9_hangTogether at W_
  refine z_iconst dX9_hangTogether_0 k_iconst_0 ?_
  refine z_istore_n (lv' := [some (.ref 32), some (.int a1), some (.int a2), some (.int (0 : Int32)), none, none, none, none, none, none, none]) dX9_hangTogether_1 (Nat.le_of_ble_eq_true rfl) rfl ?_
  refine z_iconst dX9_hangTogether_2 k_iconst_0 ?_
  refine z_istore (lv' := [some (.ref 32), some (.int a1), some (.int a2), some (.int (0 : Int32)), some (.int (0 : Int32)), none, none, none, none, none, none]) dX9_hangTogether_3 (Nat.le_of_ble_eq_true rfl) rfl ?_
  refine lpX9_hangTogether_5 P σ a1 a2 (0 : Int32) ?_
  show zz G mX9_hangTogether 1 0 0 Q_ 50 [none, none, none, some (.int (zfor (fX9_hangTogether_5 σ a1 a2) 8 (0 : Int32))), none, none, none, none, none, none, none] [] (hh P σ) 0 0
  refine z_iload_n dX9_hangTogether_50 rfl ?_
  refine z_iload_n dX9_hangTogether_51 rfl ?_
  refine z_ineg (v := (-(zfor (fX9_hangTogether_5 σ a1 a2) 8 (0 : Int32)))) dX9_hangTogether_52 rfl ?_
  refine z_iand (v := ((zfor (fX9_hangTogether_5 σ a1 a2) 8 (0 : Int32)) &&& (-(zfor (fX9_hangTogether_5 σ a1 a2) 8 (0 : Int32))))) dX9_hangTogether_53 rfl ?_
  refine z_istore (lv' := [none, none, none, some (.int (zfor (fX9_hangTogether_5 σ a1 a2) 8 (0 : Int32))), some (.int ((zfor (fX9_hangTogether_5 σ a1 a2) 8 (0 : Int32)) &&& (-(zfor (fX9_hangTogether_5 σ a1 a2) 8 (0 : Int32))))), none, none, none, none, none, none]) dX9_hangTogether_54 (Nat.le_of_ble_eq_true rfl) rfl ?_
  refine z_iconst dX9_hangTogether_56 k_iconst_1 ?_
  refine z_istore (lv' := [none, none, none, some (.int (zfor (fX9_hangTogether_5 σ a1 a2) 8 (0 : Int32))), some (.int ((zfor (fX9_hangTogether_5 σ a1 a2) 8 (0 : Int32)) &&& (-(zfor (fX9_hangTogether_5 σ a1 a2) 8 (0 : Int32))))), some (.int (1 : Int32)), none, none, none, none, none]) dX9_hangTogether_57 (Nat.le_of_ble_eq_true rfl) rfl ?_
  refine whX9_hangTogether_59 P σ (zfor (fX9_hangTogether_5 σ a1 a2) 8 (0 : Int32)) ((zfor (fX9_hangTogether_5 σ a1 a2) 8 (0 : Int32)) &&& (-(zfor (fX9_hangTogether_5 σ a1 a2) 8 (0 : Int32)))) (1 : Int32) W_ (fun hX59_ => ?_)
  rw [eX9_hangTogether_59] at hX59_
  try dsimp only at hX59_
  show zz G mX9_hangTogether 1 0 0 Q_ 59 [none, none, none, some (.int (zfor (fX9_hangTogether_5 σ a1 a2) 8 (0 : Int32))), some (.int (vX9_hangTogether_3 a1 a2 σ)), some (.int (vX9_hangTogether_4 a1 a2 σ)), none, none, none, none, none] [] (hh P σ) 0 0
  refine z_iload dX9_hangTogether_59 rfl ?_
  refine z_if_eq (tgt := 207) dX9_hangTogether_61 (by decide) (fun c_1 => ?_) (fun c_1 => ?_)
  · refine z_iload dX9_hangTogether_207 rfl ?_
    refine z_iload_n dX9_hangTogether_209 rfl ?_
    have K_1 : zz G mX9_hangTogether 1 0 0 Q_ 218 [none, none, none, none, none, none, none, none, none, none, none] [.int (if (vX9_hangTogether_3 a1 a2 σ) = (zfor (fX9_hangTogether_5 σ a1 a2) 8 (0 : Int32)) then (1 : Int32) else (0 : Int32))] (hh P σ) 0 0 := by
      exact z_ireturn dX9_hangTogether_218 rfl (by (repeat' split) <;> rfl) (Nat.le_of_ble_eq_true rfl) (Nat.le_of_ble_eq_true rfl) (by rw [← hQ_]; exact ⟨(by rw [rX9_hangTogether]; try simp only [if_pos c_1]), rfl⟩)
    refine z_icmp_ne (tgt := 217) dX9_hangTogether_210 (by decide) (fun c_2 => ?_) (fun c_2 => ?_)
    · refine z_iconst dX9_hangTogether_217 k_iconst_0 ?_
      refine zz_sub (lv' := [none, none, none, none, none, none, none, none, none, none, none]) trivial ?_
      rw [show (if (vX9_hangTogether_3 a1 a2 σ) = (zfor (fX9_hangTogether_5 σ a1 a2) 8 (0 : Int32)) then (1 : Int32) else (0 : Int32)) = (0 : Int32) from (if_neg c_2)] at K_1
      exact K_1
    · refine z_iconst dX9_hangTogether_213 k_iconst_1 ?_
      refine z_goto (tgt := 218) dX9_hangTogether_214 (by decide) ?_
      refine zz_sub (lv' := [none, none, none, none, none, none, none, none, none, none, none]) trivial ?_
      rw [show (if (vX9_hangTogether_3 a1 a2 σ) = (zfor (fX9_hangTogether_5 σ a1 a2) 8 (0 : Int32)) then (1 : Int32) else (0 : Int32)) = (1 : Int32) from (if_pos c_2)] at K_1
      exact K_1
  · refine z_iconst dX9_hangTogether_64 k_iconst_0 ?_
    refine z_istore (lv' := [none, none, none, some (.int (zfor (fX9_hangTogether_5 σ a1 a2) 8 (0 : Int32))), some (.int (vX9_hangTogether_3 a1 a2 σ)), some (.int (0 : Int32)), none, none, none, none, none]) dX9_hangTogether_65 (Nat.le_of_ble_eq_true rfl) rfl ?_
    refine z_iconst dX9_hangTogether_67 k_iconst_0 ?_
    refine z_istore (lv' := [none, none, none, some (.int (zfor (fX9_hangTogether_5 σ a1 a2) 8 (0 : Int32))), some (.int (vX9_hangTogether_3 a1 a2 σ)), some (.int (0 : Int32)), some (.int (0 : Int32)), none, none, none, none]) dX9_hangTogether_68 (Nat.le_of_ble_eq_true rfl) rfl ?_
    refine lpX9_hangTogether_70 P σ (zfor (fX9_hangTogether_5 σ a1 a2) 8 (0 : Int32)) (vX9_hangTogether_3 a1 a2 σ) (0 : Int32) ?_
    show zz G mX9_hangTogether 1 0 0 Q_ 204 [none, none, none, some (.int (zfor (fX9_hangTogether_5 σ a1 a2) 8 (0 : Int32))), some (.int (vX9_hangTogether_5 a1 a2 σ)), some (.int (vX9_hangTogether_6 a1 a2 σ)), none, none, none, none, none] [] (hh P σ) 0 0
    refine z_goto (tgt := 59) dX9_hangTogether_204 (by decide) ?_
    exact (ex_r hX59_ c_1).elim

theorem dX9_thin_12 : decode cX9_thin 12 = .ok (.iload_n 3, 1) := by decide +kernel
theorem dX9_thin_13 : decode cX9_thin 13 = .ok (.sipush 256, 3) := by decide +kernel
theorem dX9_thin_16 : decode cX9_thin 16 = .ok (.if_icmp .ge 129, 3) := by decide +kernel
theorem dX9_thin_19 : decode cX9_thin 19 = .ok (.iload_n 3, 1) := by decide +kernel
theorem dX9_thin_20 : decode cX9_thin 20 = .ok (.bipush 16, 2) := by decide +kernel
theorem dX9_thin_22 : decode cX9_thin 22 = .ok (.irem, 1) := by decide +kernel
theorem dX9_thin_23 : decode cX9_thin 23 = .ok (.istore 4, 2) := by decide +kernel
theorem dX9_thin_25 : decode cX9_thin 25 = .ok (.iload_n 3, 1) := by decide +kernel
theorem dX9_thin_26 : decode cX9_thin 26 = .ok (.bipush 16, 2) := by decide +kernel
theorem dX9_thin_28 : decode cX9_thin 28 = .ok (.idiv, 1) := by decide +kernel
theorem dX9_thin_29 : decode cX9_thin 29 = .ok (.istore 5, 2) := by decide +kernel
theorem dX9_thin_31 : decode cX9_thin 31 = .ok (.aload_n 0, 1) := by decide +kernel
theorem dX9_thin_32 : decode cX9_thin 32 = .ok (.iload 4, 2) := by decide +kernel
theorem dX9_thin_34 : decode cX9_thin 34 = .ok (.iconst 1, 1) := by decide +kernel
theorem dX9_thin_35 : decode cX9_thin 35 = .ok (.isub, 1) := by decide +kernel
theorem dX9_thin_36 : decode cX9_thin 36 = .ok (.iload 5, 2) := by decide +kernel
theorem dX9_thin_38 : decode cX9_thin 38 = .ok (.invokevirtual 105, 3) := by decide +kernel
theorem dX9_thin_41 : decode cX9_thin 41 = .ok (.ifCond .eq 42, 3) := by decide +kernel
theorem dX9_thin_44 : decode cX9_thin 44 = .ok (.aload_n 0, 1) := by decide +kernel
theorem dX9_thin_45 : decode cX9_thin 45 = .ok (.iload 4, 2) := by decide +kernel
theorem dX9_thin_47 : decode cX9_thin 47 = .ok (.iconst 1, 1) := by decide +kernel
theorem dX9_thin_48 : decode cX9_thin 48 = .ok (.iadd, 1) := by decide +kernel
theorem dX9_thin_49 : decode cX9_thin 49 = .ok (.iload 5, 2) := by decide +kernel
theorem dX9_thin_51 : decode cX9_thin 51 = .ok (.invokevirtual 105, 3) := by decide +kernel
theorem dX9_thin_54 : decode cX9_thin 54 = .ok (.ifCond .eq 29, 3) := by decide +kernel
theorem dX9_thin_57 : decode cX9_thin 57 = .ok (.aload_n 0, 1) := by decide +kernel
theorem dX9_thin_58 : decode cX9_thin 58 = .ok (.iload 4, 2) := by decide +kernel
theorem dX9_thin_60 : decode cX9_thin 60 = .ok (.iload 5, 2) := by decide +kernel
theorem dX9_thin_62 : decode cX9_thin 62 = .ok (.iconst 1, 1) := by decide +kernel
theorem dX9_thin_63 : decode cX9_thin 63 = .ok (.isub, 1) := by decide +kernel
theorem dX9_thin_64 : decode cX9_thin 64 = .ok (.invokevirtual 105, 3) := by decide +kernel
theorem dX9_thin_67 : decode cX9_thin 67 = .ok (.ifCond .eq 16, 3) := by decide +kernel
theorem dX9_thin_70 : decode cX9_thin 70 = .ok (.aload_n 0, 1) := by decide +kernel
theorem dX9_thin_71 : decode cX9_thin 71 = .ok (.iload 4, 2) := by decide +kernel
theorem dX9_thin_73 : decode cX9_thin 73 = .ok (.iload 5, 2) := by decide +kernel
theorem dX9_thin_75 : decode cX9_thin 75 = .ok (.iconst 1, 1) := by decide +kernel
theorem dX9_thin_76 : decode cX9_thin 76 = .ok (.iadd, 1) := by decide +kernel
theorem dX9_thin_77 : decode cX9_thin 77 = .ok (.invokevirtual 105, 3) := by decide +kernel
theorem dX9_thin_80 : decode cX9_thin 80 = .ok (.ifCond .ne 7, 3) := by decide +kernel
theorem dX9_thin_83 : decode cX9_thin 83 = .ok (.iconst 1, 1) := by decide +kernel
theorem dX9_thin_84 : decode cX9_thin 84 = .ok (.goto 4, 3) := by decide +kernel
theorem dX9_thin_87 : decode cX9_thin 87 = .ok (.iconst 0, 1) := by decide +kernel
theorem dX9_thin_88 : decode cX9_thin 88 = .ok (.istore 6, 2) := by decide +kernel
theorem dX9_thin_90 : decode cX9_thin 90 = .ok (.aload_n 0, 1) := by decide +kernel
theorem dX9_thin_91 : decode cX9_thin 91 = .ok (.getfield 9, 3) := by decide +kernel
theorem dX9_thin_94 : decode cX9_thin 94 = .ok (.iload_n 3, 1) := by decide +kernel
theorem dX9_thin_95 : decode cX9_thin 95 = .ok (.baload, 1) := by decide +kernel
theorem dX9_thin_96 : decode cX9_thin 96 = .ok (.ifCond .eq 43, 3) := by decide +kernel
theorem dX9_thin_99 : decode cX9_thin 99 = .ok (.iload 6, 2) := by decide +kernel
theorem dX9_thin_101 : decode cX9_thin 101 = .ok (.ifCond .eq 38, 3) := by decide +kernel
theorem dX9_thin_104 : decode cX9_thin 104 = .ok (.aload_n 0, 1) := by decide +kernel
theorem dX9_thin_105 : decode cX9_thin 105 = .ok (.iload 4, 2) := by decide +kernel
theorem dX9_thin_107 : decode cX9_thin 107 = .ok (.iload 5, 2) := by decide +kernel
theorem dX9_thin_109 : decode cX9_thin 109 = .ok (.invokevirtual 116, 3) := by decide +kernel
theorem dX9_thin_112 : decode cX9_thin 112 = .ok (.iconst 2, 1) := by decide +kernel
theorem dX9_thin_113 : decode cX9_thin 113 = .ok (.if_icmp .lt 26, 3) := by decide +kernel
theorem dX9_thin_116 : decode cX9_thin 116 = .ok (.aload_n 0, 1) := by decide +kernel
theorem dX9_thin_117 : decode cX9_thin 117 = .ok (.iload 4, 2) := by decide +kernel
theorem dX9_thin_119 : decode cX9_thin 119 = .ok (.iload 5, 2) := by decide +kernel
theorem dX9_thin_121 : decode cX9_thin 121 = .ok (.invokevirtual 120, 3) := by decide +kernel
theorem dX9_thin_124 : decode cX9_thin 124 = .ok (.ifCond .eq 15, 3) := by decide +kernel
theorem dX9_thin_127 : decode cX9_thin 127 = .ok (.aload_n 0, 1) := by decide +kernel
theorem dX9_thin_128 : decode cX9_thin 128 = .ok (.getfield 9, 3) := by decide +kernel
theorem dX9_thin_131 : decode cX9_thin 131 = .ok (.iload_n 3, 1) := by decide +kernel
theorem dX9_thin_132 : decode cX9_thin 132 = .ok (.iconst 0, 1) := by decide +kernel
theorem dX9_thin_133 : decode cX9_thin 133 = .ok (.bastore, 1) := by decide +kernel
theorem dX9_thin_134 : decode cX9_thin 134 = .ok (.iinc 1 1, 3) := by decide +kernel
theorem dX9_thin_137 : decode cX9_thin 137 = .ok (.iconst 1, 1) := by decide +kernel
theorem dX9_thin_138 : decode cX9_thin 138 = .ok (.istore_n 2, 1) := by decide +kernel
theorem dX9_thin_139 : decode cX9_thin 139 = .ok (.iinc 3 1, 3) := by decide +kernel
theorem dX9_thin_142 : decode cX9_thin 142 = .ok (.goto (-130), 3) := by decide +kernel
theorem dX9_thin_145 : decode cX9_thin 145 = .ok (.goto (-141), 3) := by decide +kernel
noncomputable def fX9_thin_12 (i_ : Nat) (a_ : Int32 × Int32 × zc_N) : Int32 × Int32 × zc_N := ((if ((a_.2.2 33) (nI i_).toNatClampNeg) = (0 : Int32) then a_.1 else (if (if (rX9_isDark a_.2.2 (((nI i_) - (nI i_) / (16 : Int32) * (16 : Int32)) - (1 : Int32)) ((nI i_) / (16 : Int32))) = (0 : Int32) then (1 : Int32) else (if (rX9_isDark a_.2.2 (((nI i_) - (nI i_) / (16 : Int32) * (16 : Int32)) + (1 : Int32)) ((nI i_) / (16 : Int32))) = (0 : Int32) then (1 : Int32) else (if (rX9_isDark a_.2.2 ((nI i_) - (nI i_) / (16 : Int32) * (16 : Int32)) (((nI i_) / (16 : Int32)) - (1 : Int32))) = (0 : Int32) then (1 : Int32) else (if (rX9_isDark a_.2.2 ((nI i_) - (nI i_) / (16 : Int32) * (16 : Int32)) (((nI i_) / (16 : Int32)) + (1 : Int32))) = (0 : Int32) then (1 : Int32) else (0 : Int32))))) = (0 : Int32) then a_.1 else (if (rX9_neighbours a_.2.2 ((nI i_) - (nI i_) / (16 : Int32) * (16 : Int32)) ((nI i_) / (16 : Int32))) < (2 : Int32) then a_.1 else (if (rX9_hangTogether a_.2.2 ((nI i_) - (nI i_) / (16 : Int32) * (16 : Int32)) ((nI i_) / (16 : Int32))) = (0 : Int32) then a_.1 else (a_.1 + (1 : Int32)))))), (if ((a_.2.2 33) (nI i_).toNatClampNeg) = (0 : Int32) then a_.2.1 else (if (if (rX9_isDark a_.2.2 (((nI i_) - (nI i_) / (16 : Int32) * (16 : Int32)) - (1 : Int32)) ((nI i_) / (16 : Int32))) = (0 : Int32) then (1 : Int32) else (if (rX9_isDark a_.2.2 (((nI i_) - (nI i_) / (16 : Int32) * (16 : Int32)) + (1 : Int32)) ((nI i_) / (16 : Int32))) = (0 : Int32) then (1 : Int32) else (if (rX9_isDark a_.2.2 ((nI i_) - (nI i_) / (16 : Int32) * (16 : Int32)) (((nI i_) / (16 : Int32)) - (1 : Int32))) = (0 : Int32) then (1 : Int32) else (if (rX9_isDark a_.2.2 ((nI i_) - (nI i_) / (16 : Int32) * (16 : Int32)) (((nI i_) / (16 : Int32)) + (1 : Int32))) = (0 : Int32) then (1 : Int32) else (0 : Int32))))) = (0 : Int32) then a_.2.1 else (if (rX9_neighbours a_.2.2 ((nI i_) - (nI i_) / (16 : Int32) * (16 : Int32)) ((nI i_) / (16 : Int32))) < (2 : Int32) then a_.2.1 else (if (rX9_hangTogether a_.2.2 ((nI i_) - (nI i_) / (16 : Int32) * (16 : Int32)) ((nI i_) / (16 : Int32))) = (0 : Int32) then a_.2.1 else (1 : Int32))))), (if ((a_.2.2 33) (nI i_).toNatClampNeg) = (0 : Int32) then a_.2.2 else (if (if (rX9_isDark a_.2.2 (((nI i_) - (nI i_) / (16 : Int32) * (16 : Int32)) - (1 : Int32)) ((nI i_) / (16 : Int32))) = (0 : Int32) then (1 : Int32) else (if (rX9_isDark a_.2.2 (((nI i_) - (nI i_) / (16 : Int32) * (16 : Int32)) + (1 : Int32)) ((nI i_) / (16 : Int32))) = (0 : Int32) then (1 : Int32) else (if (rX9_isDark a_.2.2 ((nI i_) - (nI i_) / (16 : Int32) * (16 : Int32)) (((nI i_) / (16 : Int32)) - (1 : Int32))) = (0 : Int32) then (1 : Int32) else (if (rX9_isDark a_.2.2 ((nI i_) - (nI i_) / (16 : Int32) * (16 : Int32)) (((nI i_) / (16 : Int32)) + (1 : Int32))) = (0 : Int32) then (1 : Int32) else (0 : Int32))))) = (0 : Int32) then a_.2.2 else (if (rX9_neighbours a_.2.2 ((nI i_) - (nI i_) / (16 : Int32) * (16 : Int32)) ((nI i_) / (16 : Int32))) < (2 : Int32) then a_.2.2 else (if (rX9_hangTogether a_.2.2 ((nI i_) - (nI i_) / (16 : Int32) * (16 : Int32)) ((nI i_) / (16 : Int32))) = (0 : Int32) then a_.2.2 else (zu a_.2.2 33 (zu (a_.2.2 33) (nI i_).toNatClampNeg (0 : Int32))))))))
def qX9_thin_12 (i_ : Nat) (a_ : Int32 × Int32 × zc_N) : Prop := ((((a_.2.2 33) (nI i_).toNatClampNeg) = (0 : Int32) → True) ∧ (¬ ((a_.2.2 33) (nI i_).toNatClampNeg) = (0 : Int32) → (((if (rX9_isDark a_.2.2 (((nI i_) - (nI i_) / (16 : Int32) * (16 : Int32)) - (1 : Int32)) ((nI i_) / (16 : Int32))) = (0 : Int32) then (1 : Int32) else (if (rX9_isDark a_.2.2 (((nI i_) - (nI i_) / (16 : Int32) * (16 : Int32)) + (1 : Int32)) ((nI i_) / (16 : Int32))) = (0 : Int32) then (1 : Int32) else (if (rX9_isDark a_.2.2 ((nI i_) - (nI i_) / (16 : Int32) * (16 : Int32)) (((nI i_) / (16 : Int32)) - (1 : Int32))) = (0 : Int32) then (1 : Int32) else (if (rX9_isDark a_.2.2 ((nI i_) - (nI i_) / (16 : Int32) * (16 : Int32)) (((nI i_) / (16 : Int32)) + (1 : Int32))) = (0 : Int32) then (1 : Int32) else (0 : Int32))))) = (0 : Int32) → True) ∧ (¬ (if (rX9_isDark a_.2.2 (((nI i_) - (nI i_) / (16 : Int32) * (16 : Int32)) - (1 : Int32)) ((nI i_) / (16 : Int32))) = (0 : Int32) then (1 : Int32) else (if (rX9_isDark a_.2.2 (((nI i_) - (nI i_) / (16 : Int32) * (16 : Int32)) + (1 : Int32)) ((nI i_) / (16 : Int32))) = (0 : Int32) then (1 : Int32) else (if (rX9_isDark a_.2.2 ((nI i_) - (nI i_) / (16 : Int32) * (16 : Int32)) (((nI i_) / (16 : Int32)) - (1 : Int32))) = (0 : Int32) then (1 : Int32) else (if (rX9_isDark a_.2.2 ((nI i_) - (nI i_) / (16 : Int32) * (16 : Int32)) (((nI i_) / (16 : Int32)) + (1 : Int32))) = (0 : Int32) then (1 : Int32) else (0 : Int32))))) = (0 : Int32) → ((pX9_neighbours a_.2.2 ((nI i_) - (nI i_) / (16 : Int32) * (16 : Int32)) ((nI i_) / (16 : Int32))) ∧ (((rX9_neighbours a_.2.2 ((nI i_) - (nI i_) / (16 : Int32) * (16 : Int32)) ((nI i_) / (16 : Int32))) < (2 : Int32) → True) ∧ (¬ (rX9_neighbours a_.2.2 ((nI i_) - (nI i_) / (16 : Int32) * (16 : Int32)) ((nI i_) / (16 : Int32))) < (2 : Int32) → (pX9_hangTogether a_.2.2 ((nI i_) - (nI i_) / (16 : Int32) * (16 : Int32)) ((nI i_) / (16 : Int32))))))))))
set_option maxHeartbeats 2000000 in
theorem lpX9_thin_12 {G : zc_G} {Q : Option Value → zc_H → Prop} (P : zp) (σ : zc_N) (l1 : Int32) (l2 : Int32) (W1_ : ∀ i12_ : Nat, i12_ < 256 → qX9_thin_12 i12_ (zfor fX9_thin_12 i12_ (l1, l2, σ)))
    (W2_ : zz G mX9_thin 3 0 0 Q 145 [some (.ref 32), some (.int (zfor fX9_thin_12 256 (l1, l2, σ)).1), some (.int (zfor fX9_thin_12 256 (l1, l2, σ)).2.1), none, none, none, none] [] (hh P (zfor fX9_thin_12 256 (l1, l2, σ)).2.2) 0 0) :
    zz G mX9_thin 3 0 0 Q 12 [some (.ref 32), some (.int l1), some (.int l2), some (.int (nI 0)), none, none, none] [] (hh P σ) 0 0 := by
  refine zfor_nI (fun i_ a_ => zz G mX9_thin 3 0 0 Q 12 [some (.ref 32), some (.int a_.1), some (.int a_.2.1), some (.int i_), none, none, none] [] (hh P a_.2.2) 0 0) fX9_thin_12 256 (l1, l2, σ) (fun i_ hi_ k_ => ?_) ?_
  all_goals try dsimp only
  · have W3_ := W1_ i_ hi_
    generalize zfor fX9_thin_12 i_ (l1, l2, σ) = g_ at k_ W3_ ⊢
    obtain ⟨x0_, x1_, x2_⟩ := g_
    dsimp only at k_ W3_ ⊢
    rw [fX9_thin_12] at k_
    rw [qX9_thin_12] at W3_
    try dsimp only at W3_
    dsimp only at k_
    refine z_iload_n dX9_thin_12 rfl ?_
    refine z_sipush dX9_thin_13 k_sipush_256 ?_
    refine z_icmp_ge (tgt := 145) dX9_thin_16 (by decide) (fun c_ => absurd c_ (nI_ge hi_ (by decide))) (fun c_ => ?_)
    refine z_iload_n dX9_thin_19 rfl ?_
    refine z_bipush dX9_thin_20 k_bipush_16 ?_
    refine z_irem (v := ((nI i_) - (nI i_) / (16 : Int32) * (16 : Int32))) dX9_thin_22 (by decide) rfl ?_
    refine z_istore (lv' := [some (.ref 32), some (.int x0_), some (.int x1_), some (.int (nI i_)), some (.int ((nI i_) - (nI i_) / (16 : Int32) * (16 : Int32))), none, none]) dX9_thin_23 (Nat.le_of_ble_eq_true rfl) rfl ?_
    refine z_iload_n dX9_thin_25 rfl ?_
    refine z_bipush dX9_thin_26 k_bipush_16 ?_
    refine z_idiv (v := ((nI i_) / (16 : Int32))) dX9_thin_28 (by decide) rfl ?_
    refine z_istore (lv' := [some (.ref 32), some (.int x0_), some (.int x1_), some (.int (nI i_)), some (.int ((nI i_) - (nI i_) / (16 : Int32) * (16 : Int32))), some (.int ((nI i_) / (16 : Int32))), none]) dX9_thin_29 (Nat.le_of_ble_eq_true rfl) rfl ?_
    refine z_aloadr_n dX9_thin_31 rfl ?_
    refine z_iload dX9_thin_32 rfl ?_
    refine z_iconst dX9_thin_34 k_iconst_1 ?_
    refine z_isub (v := (((nI i_) - (nI i_) / (16 : Int32) * (16 : Int32)) - (1 : Int32))) dX9_thin_35 rfl ?_
    refine z_iload dX9_thin_36 rfl ?_
    refine z_callV (ci := 9) (r := (RX9, TX9, 38)) (b := 32) (As := [.int (((nI i_) - (nI i_) / (16 : Int32) * (16 : Int32)) - (1 : Int32)), .int ((nI i_) / (16 : Int32))]) (rest := []) (ctX9_isDark P x2_ (((nI i_) - (nI i_) / (16 : Int32) * (16 : Int32)) - (1 : Int32)) ((nI i_) / (16 : Int32)) (pzX9_isDark P x2_ (((nI i_) - (nI i_) / (16 : Int32) * (16 : Int32)) - (1 : Int32)) ((nI i_) / (16 : Int32)))) dX9_thin_38 lk_X9_105 lv_X9_isDark (Nat.le_of_ble_eq_true rfl) (zN rfl) rfl rfl rfl rfl (Nat.le_of_ble_eq_true rfl) (Nat.le_of_ble_eq_true rfl) (Nat.le_of_ble_eq_true rfl) (Nat.le_of_ble_eq_true rfl) (fun r_ h_ e_ => ?_)
    obtain ⟨e1_, e2_⟩ := e_
    subst e1_
    subst e2_
    show zz G mX9_thin 3 0 0 Q 41 [some (.ref 32), some (.int x0_), some (.int x1_), some (.int (nI i_)), some (.int ((nI i_) - (nI i_) / (16 : Int32) * (16 : Int32))), some (.int ((nI i_) / (16 : Int32))), none] [.int (rX9_isDark x2_ (((nI i_) - (nI i_) / (16 : Int32) * (16 : Int32)) - (1 : Int32)) ((nI i_) / (16 : Int32)))] (hh P x2_) 0 0
    have K_1 : zz G mX9_thin 3 0 0 Q 88 [some (.ref 32), some (.int x0_), some (.int x1_), some (.int (nI i_)), some (.int ((nI i_) - (nI i_) / (16 : Int32) * (16 : Int32))), some (.int ((nI i_) / (16 : Int32))), none] [.int (if (rX9_isDark x2_ (((nI i_) - (nI i_) / (16 : Int32) * (16 : Int32)) - (1 : Int32)) ((nI i_) / (16 : Int32))) = (0 : Int32) then (1 : Int32) else (if (rX9_isDark x2_ (((nI i_) - (nI i_) / (16 : Int32) * (16 : Int32)) + (1 : Int32)) ((nI i_) / (16 : Int32))) = (0 : Int32) then (1 : Int32) else (if (rX9_isDark x2_ ((nI i_) - (nI i_) / (16 : Int32) * (16 : Int32)) (((nI i_) / (16 : Int32)) - (1 : Int32))) = (0 : Int32) then (1 : Int32) else (if (rX9_isDark x2_ ((nI i_) - (nI i_) / (16 : Int32) * (16 : Int32)) (((nI i_) / (16 : Int32)) + (1 : Int32))) = (0 : Int32) then (1 : Int32) else (0 : Int32)))))] (hh P x2_) 0 0 := by
      refine z_istore (lv' := [some (.ref 32), some (.int x0_), some (.int x1_), some (.int (nI i_)), some (.int ((nI i_) - (nI i_) / (16 : Int32) * (16 : Int32))), some (.int ((nI i_) / (16 : Int32))), some (.int (if (rX9_isDark x2_ (((nI i_) - (nI i_) / (16 : Int32) * (16 : Int32)) - (1 : Int32)) ((nI i_) / (16 : Int32))) = (0 : Int32) then (1 : Int32) else (if (rX9_isDark x2_ (((nI i_) - (nI i_) / (16 : Int32) * (16 : Int32)) + (1 : Int32)) ((nI i_) / (16 : Int32))) = (0 : Int32) then (1 : Int32) else (if (rX9_isDark x2_ ((nI i_) - (nI i_) / (16 : Int32) * (16 : Int32)) (((nI i_) / (16 : Int32)) - (1 : Int32))) = (0 : Int32) then (1 : Int32) else (if (rX9_isDark x2_ ((nI i_) - (nI i_) / (16 : Int32) * (16 : Int32)) (((nI i_) / (16 : Int32)) + (1 : Int32))) = (0 : Int32) then (1 : Int32) else (0 : Int32))))))]) dX9_thin_88 (Nat.le_of_ble_eq_true rfl) rfl ?_
      refine z_aloadr_n dX9_thin_90 rfl ?_
      refine z_get (ci := 9) (r := (RX9, TX9, 38)) (j := 0) (v := .ref 33) dX9_thin_91 (Nat.le_of_ble_eq_true rfl) (zN rfl) rfl rfl (Nat.le_of_ble_eq_true rfl) fl_X9_9 rfl ?_
      refine z_iload_n dX9_thin_94 rfl ?_
      refine z_bald (v := ((x2_ 33) (nI i_).toNatClampNeg)) dX9_thin_95 (Nat.le_of_ble_eq_true rfl) (zN rfl) rfl (vp_in_nI (Nat.lt_of_lt_of_le hi_ (Nat.le_of_ble_eq_true rfl)) (by decide)) rfl ?_
      refine z_if_eq (tgt := 139) dX9_thin_96 (by decide) (fun c_6 => ?_) (fun c_6 => ?_)
      · refine z_iinc (v := ((nI i_) + (1 : Int32))) (lv' := [some (.ref 32), some (.int x0_), some (.int x1_), some (.int ((nI i_) + (1 : Int32))), some (.int ((nI i_) - (nI i_) / (16 : Int32) * (16 : Int32))), some (.int ((nI i_) / (16 : Int32))), some (.int (if (rX9_isDark x2_ (((nI i_) - (nI i_) / (16 : Int32) * (16 : Int32)) - (1 : Int32)) ((nI i_) / (16 : Int32))) = (0 : Int32) then (1 : Int32) else (if (rX9_isDark x2_ (((nI i_) - (nI i_) / (16 : Int32) * (16 : Int32)) + (1 : Int32)) ((nI i_) / (16 : Int32))) = (0 : Int32) then (1 : Int32) else (if (rX9_isDark x2_ ((nI i_) - (nI i_) / (16 : Int32) * (16 : Int32)) (((nI i_) / (16 : Int32)) - (1 : Int32))) = (0 : Int32) then (1 : Int32) else (if (rX9_isDark x2_ ((nI i_) - (nI i_) / (16 : Int32) * (16 : Int32)) (((nI i_) / (16 : Int32)) + (1 : Int32))) = (0 : Int32) then (1 : Int32) else (0 : Int32))))))]) dX9_thin_139 (Nat.le_of_ble_eq_true rfl) rfl (by rw [k_iconst_1]) rfl ?_
        refine z_goto (tgt := 12) dX9_thin_142 (by decide) ?_
        refine zz_sub (lv' := [some (.ref 32), some (.int x0_), some (.int x1_), some (.int ((nI i_) + (1 : Int32))), none, none, none]) ⟨rfl, ⟨rfl, ⟨rfl, ⟨rfl, trivial⟩⟩⟩⟩ ?_
        rw [nI_1]
        simpa only [if_pos c_6] using k_
      · refine z_iload dX9_thin_99 rfl ?_
        refine z_if_eq (tgt := 139) dX9_thin_101 (by decide) (fun c_7 => ?_) (fun c_7 => ?_)
        · refine z_iinc (v := ((nI i_) + (1 : Int32))) (lv' := [some (.ref 32), some (.int x0_), some (.int x1_), some (.int ((nI i_) + (1 : Int32))), some (.int ((nI i_) - (nI i_) / (16 : Int32) * (16 : Int32))), some (.int ((nI i_) / (16 : Int32))), some (.int (if (rX9_isDark x2_ (((nI i_) - (nI i_) / (16 : Int32) * (16 : Int32)) - (1 : Int32)) ((nI i_) / (16 : Int32))) = (0 : Int32) then (1 : Int32) else (if (rX9_isDark x2_ (((nI i_) - (nI i_) / (16 : Int32) * (16 : Int32)) + (1 : Int32)) ((nI i_) / (16 : Int32))) = (0 : Int32) then (1 : Int32) else (if (rX9_isDark x2_ ((nI i_) - (nI i_) / (16 : Int32) * (16 : Int32)) (((nI i_) / (16 : Int32)) - (1 : Int32))) = (0 : Int32) then (1 : Int32) else (if (rX9_isDark x2_ ((nI i_) - (nI i_) / (16 : Int32) * (16 : Int32)) (((nI i_) / (16 : Int32)) + (1 : Int32))) = (0 : Int32) then (1 : Int32) else (0 : Int32))))))]) dX9_thin_139 (Nat.le_of_ble_eq_true rfl) rfl (by rw [k_iconst_1]) rfl ?_
          refine z_goto (tgt := 12) dX9_thin_142 (by decide) ?_
          refine zz_sub (lv' := [some (.ref 32), some (.int x0_), some (.int x1_), some (.int ((nI i_) + (1 : Int32))), none, none, none]) ⟨rfl, ⟨rfl, ⟨rfl, ⟨rfl, trivial⟩⟩⟩⟩ ?_
          rw [nI_1]
          simpa only [if_neg c_6, if_pos c_7] using k_
        · refine z_aloadr_n dX9_thin_104 rfl ?_
          refine z_iload dX9_thin_105 rfl ?_
          refine z_iload dX9_thin_107 rfl ?_
          refine z_callV (ci := 9) (r := (RX9, TX9, 38)) (b := 32) (As := [.int ((nI i_) - (nI i_) / (16 : Int32) * (16 : Int32)), .int ((nI i_) / (16 : Int32))]) (rest := []) (ctX9_neighbours P x2_ ((nI i_) - (nI i_) / (16 : Int32) * (16 : Int32)) ((nI i_) / (16 : Int32)) (((W3_.2 c_6).2 c_7).1)) dX9_thin_109 lk_X9_116 lv_X9_neighbours (Nat.le_of_ble_eq_true rfl) (zN rfl) rfl rfl rfl rfl (Nat.le_of_ble_eq_true rfl) (Nat.le_of_ble_eq_true rfl) (Nat.le_of_ble_eq_true rfl) (Nat.le_of_ble_eq_true rfl) (fun r_ h_ e_ => ?_)
          obtain ⟨e1_, e2_⟩ := e_
          subst e1_
          subst e2_
          show zz G mX9_thin 3 0 0 Q 112 [some (.ref 32), some (.int x0_), some (.int x1_), some (.int (nI i_)), some (.int ((nI i_) - (nI i_) / (16 : Int32) * (16 : Int32))), some (.int ((nI i_) / (16 : Int32))), some (.int (if (rX9_isDark x2_ (((nI i_) - (nI i_) / (16 : Int32) * (16 : Int32)) - (1 : Int32)) ((nI i_) / (16 : Int32))) = (0 : Int32) then (1 : Int32) else (if (rX9_isDark x2_ (((nI i_) - (nI i_) / (16 : Int32) * (16 : Int32)) + (1 : Int32)) ((nI i_) / (16 : Int32))) = (0 : Int32) then (1 : Int32) else (if (rX9_isDark x2_ ((nI i_) - (nI i_) / (16 : Int32) * (16 : Int32)) (((nI i_) / (16 : Int32)) - (1 : Int32))) = (0 : Int32) then (1 : Int32) else (if (rX9_isDark x2_ ((nI i_) - (nI i_) / (16 : Int32) * (16 : Int32)) (((nI i_) / (16 : Int32)) + (1 : Int32))) = (0 : Int32) then (1 : Int32) else (0 : Int32))))))] [.int (rX9_neighbours x2_ ((nI i_) - (nI i_) / (16 : Int32) * (16 : Int32)) ((nI i_) / (16 : Int32)))] (hh P x2_) 0 0
          refine z_iconst dX9_thin_112 k_iconst_2 ?_
          refine z_icmp_lt (tgt := 139) dX9_thin_113 (by decide) (fun c_8 => ?_) (fun c_8 => ?_)
          · refine z_iinc (v := ((nI i_) + (1 : Int32))) (lv' := [some (.ref 32), some (.int x0_), some (.int x1_), some (.int ((nI i_) + (1 : Int32))), some (.int ((nI i_) - (nI i_) / (16 : Int32) * (16 : Int32))), some (.int ((nI i_) / (16 : Int32))), some (.int (if (rX9_isDark x2_ (((nI i_) - (nI i_) / (16 : Int32) * (16 : Int32)) - (1 : Int32)) ((nI i_) / (16 : Int32))) = (0 : Int32) then (1 : Int32) else (if (rX9_isDark x2_ (((nI i_) - (nI i_) / (16 : Int32) * (16 : Int32)) + (1 : Int32)) ((nI i_) / (16 : Int32))) = (0 : Int32) then (1 : Int32) else (if (rX9_isDark x2_ ((nI i_) - (nI i_) / (16 : Int32) * (16 : Int32)) (((nI i_) / (16 : Int32)) - (1 : Int32))) = (0 : Int32) then (1 : Int32) else (if (rX9_isDark x2_ ((nI i_) - (nI i_) / (16 : Int32) * (16 : Int32)) (((nI i_) / (16 : Int32)) + (1 : Int32))) = (0 : Int32) then (1 : Int32) else (0 : Int32))))))]) dX9_thin_139 (Nat.le_of_ble_eq_true rfl) rfl (by rw [k_iconst_1]) rfl ?_
            refine z_goto (tgt := 12) dX9_thin_142 (by decide) ?_
            refine zz_sub (lv' := [some (.ref 32), some (.int x0_), some (.int x1_), some (.int ((nI i_) + (1 : Int32))), none, none, none]) ⟨rfl, ⟨rfl, ⟨rfl, ⟨rfl, trivial⟩⟩⟩⟩ ?_
            rw [nI_1]
            simpa only [if_neg c_6, if_neg c_7, if_pos c_8] using k_
          · refine z_aloadr_n dX9_thin_116 rfl ?_
            refine z_iload dX9_thin_117 rfl ?_
            refine z_iload dX9_thin_119 rfl ?_
            refine z_callV (ci := 9) (r := (RX9, TX9, 38)) (b := 32) (As := [.int ((nI i_) - (nI i_) / (16 : Int32) * (16 : Int32)), .int ((nI i_) / (16 : Int32))]) (rest := []) (ctX9_hangTogether P x2_ ((nI i_) - (nI i_) / (16 : Int32) * (16 : Int32)) ((nI i_) / (16 : Int32)) (((W3_.2 c_6).2 c_7).2.2 c_8)) dX9_thin_121 lk_X9_120 lv_X9_hangTogether (Nat.le_of_ble_eq_true rfl) (zN rfl) rfl rfl rfl rfl (Nat.le_of_ble_eq_true rfl) (Nat.le_of_ble_eq_true rfl) (Nat.le_of_ble_eq_true rfl) (Nat.le_of_ble_eq_true rfl) (fun r_ h_ e_ => ?_)
            obtain ⟨e1_, e2_⟩ := e_
            subst e1_
            subst e2_
            show zz G mX9_thin 3 0 0 Q 124 [some (.ref 32), some (.int x0_), some (.int x1_), some (.int (nI i_)), some (.int ((nI i_) - (nI i_) / (16 : Int32) * (16 : Int32))), some (.int ((nI i_) / (16 : Int32))), some (.int (if (rX9_isDark x2_ (((nI i_) - (nI i_) / (16 : Int32) * (16 : Int32)) - (1 : Int32)) ((nI i_) / (16 : Int32))) = (0 : Int32) then (1 : Int32) else (if (rX9_isDark x2_ (((nI i_) - (nI i_) / (16 : Int32) * (16 : Int32)) + (1 : Int32)) ((nI i_) / (16 : Int32))) = (0 : Int32) then (1 : Int32) else (if (rX9_isDark x2_ ((nI i_) - (nI i_) / (16 : Int32) * (16 : Int32)) (((nI i_) / (16 : Int32)) - (1 : Int32))) = (0 : Int32) then (1 : Int32) else (if (rX9_isDark x2_ ((nI i_) - (nI i_) / (16 : Int32) * (16 : Int32)) (((nI i_) / (16 : Int32)) + (1 : Int32))) = (0 : Int32) then (1 : Int32) else (0 : Int32))))))] [.int (rX9_hangTogether x2_ ((nI i_) - (nI i_) / (16 : Int32) * (16 : Int32)) ((nI i_) / (16 : Int32)))] (hh P x2_) 0 0
            refine z_if_eq (tgt := 139) dX9_thin_124 (by decide) (fun c_9 => ?_) (fun c_9 => ?_)
            · refine z_iinc (v := ((nI i_) + (1 : Int32))) (lv' := [some (.ref 32), some (.int x0_), some (.int x1_), some (.int ((nI i_) + (1 : Int32))), some (.int ((nI i_) - (nI i_) / (16 : Int32) * (16 : Int32))), some (.int ((nI i_) / (16 : Int32))), some (.int (if (rX9_isDark x2_ (((nI i_) - (nI i_) / (16 : Int32) * (16 : Int32)) - (1 : Int32)) ((nI i_) / (16 : Int32))) = (0 : Int32) then (1 : Int32) else (if (rX9_isDark x2_ (((nI i_) - (nI i_) / (16 : Int32) * (16 : Int32)) + (1 : Int32)) ((nI i_) / (16 : Int32))) = (0 : Int32) then (1 : Int32) else (if (rX9_isDark x2_ ((nI i_) - (nI i_) / (16 : Int32) * (16 : Int32)) (((nI i_) / (16 : Int32)) - (1 : Int32))) = (0 : Int32) then (1 : Int32) else (if (rX9_isDark x2_ ((nI i_) - (nI i_) / (16 : Int32) * (16 : Int32)) (((nI i_) / (16 : Int32)) + (1 : Int32))) = (0 : Int32) then (1 : Int32) else (0 : Int32))))))]) dX9_thin_139 (Nat.le_of_ble_eq_true rfl) rfl (by rw [k_iconst_1]) rfl ?_
              refine z_goto (tgt := 12) dX9_thin_142 (by decide) ?_
              refine zz_sub (lv' := [some (.ref 32), some (.int x0_), some (.int x1_), some (.int ((nI i_) + (1 : Int32))), none, none, none]) ⟨rfl, ⟨rfl, ⟨rfl, ⟨rfl, trivial⟩⟩⟩⟩ ?_
              rw [nI_1]
              simpa only [if_neg c_6, if_neg c_7, if_neg c_8, if_pos c_9] using k_
            · refine z_aloadr_n dX9_thin_127 rfl ?_
              refine z_get (ci := 9) (r := (RX9, TX9, 38)) (j := 0) (v := .ref 33) dX9_thin_128 (Nat.le_of_ble_eq_true rfl) (zN rfl) rfl rfl (Nat.le_of_ble_eq_true rfl) fl_X9_9 rfl ?_
              refine z_iload_n dX9_thin_131 rfl ?_
              refine z_iconst dX9_thin_132 k_iconst_0 ?_
              refine z_bast (σ' := (zu x2_ 33 (zu (x2_ 33) (nI i_).toNatClampNeg (0 : Int32)))) dX9_thin_133 (Nat.le_of_ble_eq_true rfl) (zN rfl) rfl (vp_in_nI (Nat.lt_of_lt_of_le hi_ (Nat.le_of_ble_eq_true rfl)) (by decide)) rfl rfl ?_
              refine z_iinc (v := (x0_ + (1 : Int32))) (lv' := [some (.ref 32), some (.int (x0_ + (1 : Int32))), some (.int x1_), some (.int (nI i_)), some (.int ((nI i_) - (nI i_) / (16 : Int32) * (16 : Int32))), some (.int ((nI i_) / (16 : Int32))), some (.int (if (rX9_isDark x2_ (((nI i_) - (nI i_) / (16 : Int32) * (16 : Int32)) - (1 : Int32)) ((nI i_) / (16 : Int32))) = (0 : Int32) then (1 : Int32) else (if (rX9_isDark x2_ (((nI i_) - (nI i_) / (16 : Int32) * (16 : Int32)) + (1 : Int32)) ((nI i_) / (16 : Int32))) = (0 : Int32) then (1 : Int32) else (if (rX9_isDark x2_ ((nI i_) - (nI i_) / (16 : Int32) * (16 : Int32)) (((nI i_) / (16 : Int32)) - (1 : Int32))) = (0 : Int32) then (1 : Int32) else (if (rX9_isDark x2_ ((nI i_) - (nI i_) / (16 : Int32) * (16 : Int32)) (((nI i_) / (16 : Int32)) + (1 : Int32))) = (0 : Int32) then (1 : Int32) else (0 : Int32))))))]) dX9_thin_134 (Nat.le_of_ble_eq_true rfl) rfl (by rw [k_iconst_1]) rfl ?_
              refine z_iconst dX9_thin_137 k_iconst_1 ?_
              refine z_istore_n (lv' := [some (.ref 32), some (.int (x0_ + (1 : Int32))), some (.int (1 : Int32)), some (.int (nI i_)), some (.int ((nI i_) - (nI i_) / (16 : Int32) * (16 : Int32))), some (.int ((nI i_) / (16 : Int32))), some (.int (if (rX9_isDark x2_ (((nI i_) - (nI i_) / (16 : Int32) * (16 : Int32)) - (1 : Int32)) ((nI i_) / (16 : Int32))) = (0 : Int32) then (1 : Int32) else (if (rX9_isDark x2_ (((nI i_) - (nI i_) / (16 : Int32) * (16 : Int32)) + (1 : Int32)) ((nI i_) / (16 : Int32))) = (0 : Int32) then (1 : Int32) else (if (rX9_isDark x2_ ((nI i_) - (nI i_) / (16 : Int32) * (16 : Int32)) (((nI i_) / (16 : Int32)) - (1 : Int32))) = (0 : Int32) then (1 : Int32) else (if (rX9_isDark x2_ ((nI i_) - (nI i_) / (16 : Int32) * (16 : Int32)) (((nI i_) / (16 : Int32)) + (1 : Int32))) = (0 : Int32) then (1 : Int32) else (0 : Int32))))))]) dX9_thin_138 (Nat.le_of_ble_eq_true rfl) rfl ?_
              refine z_iinc (v := ((nI i_) + (1 : Int32))) (lv' := [some (.ref 32), some (.int (x0_ + (1 : Int32))), some (.int (1 : Int32)), some (.int ((nI i_) + (1 : Int32))), some (.int ((nI i_) - (nI i_) / (16 : Int32) * (16 : Int32))), some (.int ((nI i_) / (16 : Int32))), some (.int (if (rX9_isDark x2_ (((nI i_) - (nI i_) / (16 : Int32) * (16 : Int32)) - (1 : Int32)) ((nI i_) / (16 : Int32))) = (0 : Int32) then (1 : Int32) else (if (rX9_isDark x2_ (((nI i_) - (nI i_) / (16 : Int32) * (16 : Int32)) + (1 : Int32)) ((nI i_) / (16 : Int32))) = (0 : Int32) then (1 : Int32) else (if (rX9_isDark x2_ ((nI i_) - (nI i_) / (16 : Int32) * (16 : Int32)) (((nI i_) / (16 : Int32)) - (1 : Int32))) = (0 : Int32) then (1 : Int32) else (if (rX9_isDark x2_ ((nI i_) - (nI i_) / (16 : Int32) * (16 : Int32)) (((nI i_) / (16 : Int32)) + (1 : Int32))) = (0 : Int32) then (1 : Int32) else (0 : Int32))))))]) dX9_thin_139 (Nat.le_of_ble_eq_true rfl) rfl (by rw [k_iconst_1]) rfl ?_
              refine z_goto (tgt := 12) dX9_thin_142 (by decide) ?_
              refine zz_sub (lv' := [some (.ref 32), some (.int (x0_ + (1 : Int32))), some (.int (1 : Int32)), some (.int ((nI i_) + (1 : Int32))), none, none, none]) ⟨rfl, ⟨rfl, ⟨rfl, ⟨rfl, trivial⟩⟩⟩⟩ ?_
              rw [nI_1]
              simpa only [if_neg c_6, if_neg c_7, if_neg c_8, if_neg c_9] using k_
    refine z_if_eq (tgt := 83) dX9_thin_41 (by decide) (fun c_2 => ?_) (fun c_2 => ?_)
    · refine z_iconst dX9_thin_83 k_iconst_1 ?_
      refine z_goto (tgt := 88) dX9_thin_84 (by decide) ?_
      rw [show (if (rX9_isDark x2_ (((nI i_) - (nI i_) / (16 : Int32) * (16 : Int32)) - (1 : Int32)) ((nI i_) / (16 : Int32))) = (0 : Int32) then (1 : Int32) else (if (rX9_isDark x2_ (((nI i_) - (nI i_) / (16 : Int32) * (16 : Int32)) + (1 : Int32)) ((nI i_) / (16 : Int32))) = (0 : Int32) then (1 : Int32) else (if (rX9_isDark x2_ ((nI i_) - (nI i_) / (16 : Int32) * (16 : Int32)) (((nI i_) / (16 : Int32)) - (1 : Int32))) = (0 : Int32) then (1 : Int32) else (if (rX9_isDark x2_ ((nI i_) - (nI i_) / (16 : Int32) * (16 : Int32)) (((nI i_) / (16 : Int32)) + (1 : Int32))) = (0 : Int32) then (1 : Int32) else (0 : Int32))))) = (1 : Int32) from (if_pos c_2)] at K_1
      exact K_1
    · refine z_aloadr_n dX9_thin_44 rfl ?_
      refine z_iload dX9_thin_45 rfl ?_
      refine z_iconst dX9_thin_47 k_iconst_1 ?_
      refine z_iadd (v := (((nI i_) - (nI i_) / (16 : Int32) * (16 : Int32)) + (1 : Int32))) dX9_thin_48 rfl ?_
      refine z_iload dX9_thin_49 rfl ?_
      refine z_callV (ci := 9) (r := (RX9, TX9, 38)) (b := 32) (As := [.int (((nI i_) - (nI i_) / (16 : Int32) * (16 : Int32)) + (1 : Int32)), .int ((nI i_) / (16 : Int32))]) (rest := []) (ctX9_isDark P x2_ (((nI i_) - (nI i_) / (16 : Int32) * (16 : Int32)) + (1 : Int32)) ((nI i_) / (16 : Int32)) (pzX9_isDark P x2_ (((nI i_) - (nI i_) / (16 : Int32) * (16 : Int32)) + (1 : Int32)) ((nI i_) / (16 : Int32)))) dX9_thin_51 lk_X9_105 lv_X9_isDark (Nat.le_of_ble_eq_true rfl) (zN rfl) rfl rfl rfl rfl (Nat.le_of_ble_eq_true rfl) (Nat.le_of_ble_eq_true rfl) (Nat.le_of_ble_eq_true rfl) (Nat.le_of_ble_eq_true rfl) (fun r_ h_ e_ => ?_)
      obtain ⟨e1_, e2_⟩ := e_
      subst e1_
      subst e2_
      show zz G mX9_thin 3 0 0 Q 54 [some (.ref 32), some (.int x0_), some (.int x1_), some (.int (nI i_)), some (.int ((nI i_) - (nI i_) / (16 : Int32) * (16 : Int32))), some (.int ((nI i_) / (16 : Int32))), none] [.int (rX9_isDark x2_ (((nI i_) - (nI i_) / (16 : Int32) * (16 : Int32)) + (1 : Int32)) ((nI i_) / (16 : Int32)))] (hh P x2_) 0 0
      refine z_if_eq (tgt := 83) dX9_thin_54 (by decide) (fun c_3 => ?_) (fun c_3 => ?_)
      · refine z_iconst dX9_thin_83 k_iconst_1 ?_
        refine z_goto (tgt := 88) dX9_thin_84 (by decide) ?_
        rw [show (if (rX9_isDark x2_ (((nI i_) - (nI i_) / (16 : Int32) * (16 : Int32)) - (1 : Int32)) ((nI i_) / (16 : Int32))) = (0 : Int32) then (1 : Int32) else (if (rX9_isDark x2_ (((nI i_) - (nI i_) / (16 : Int32) * (16 : Int32)) + (1 : Int32)) ((nI i_) / (16 : Int32))) = (0 : Int32) then (1 : Int32) else (if (rX9_isDark x2_ ((nI i_) - (nI i_) / (16 : Int32) * (16 : Int32)) (((nI i_) / (16 : Int32)) - (1 : Int32))) = (0 : Int32) then (1 : Int32) else (if (rX9_isDark x2_ ((nI i_) - (nI i_) / (16 : Int32) * (16 : Int32)) (((nI i_) / (16 : Int32)) + (1 : Int32))) = (0 : Int32) then (1 : Int32) else (0 : Int32))))) = (1 : Int32) from ((if_neg c_2).trans (if_pos c_3))] at K_1
        exact K_1
      · refine z_aloadr_n dX9_thin_57 rfl ?_
        refine z_iload dX9_thin_58 rfl ?_
        refine z_iload dX9_thin_60 rfl ?_
        refine z_iconst dX9_thin_62 k_iconst_1 ?_
        refine z_isub (v := (((nI i_) / (16 : Int32)) - (1 : Int32))) dX9_thin_63 rfl ?_
        refine z_callV (ci := 9) (r := (RX9, TX9, 38)) (b := 32) (As := [.int ((nI i_) - (nI i_) / (16 : Int32) * (16 : Int32)), .int (((nI i_) / (16 : Int32)) - (1 : Int32))]) (rest := []) (ctX9_isDark P x2_ ((nI i_) - (nI i_) / (16 : Int32) * (16 : Int32)) (((nI i_) / (16 : Int32)) - (1 : Int32)) (pzX9_isDark P x2_ ((nI i_) - (nI i_) / (16 : Int32) * (16 : Int32)) (((nI i_) / (16 : Int32)) - (1 : Int32)))) dX9_thin_64 lk_X9_105 lv_X9_isDark (Nat.le_of_ble_eq_true rfl) (zN rfl) rfl rfl rfl rfl (Nat.le_of_ble_eq_true rfl) (Nat.le_of_ble_eq_true rfl) (Nat.le_of_ble_eq_true rfl) (Nat.le_of_ble_eq_true rfl) (fun r_ h_ e_ => ?_)
        obtain ⟨e1_, e2_⟩ := e_
        subst e1_
        subst e2_
        show zz G mX9_thin 3 0 0 Q 67 [some (.ref 32), some (.int x0_), some (.int x1_), some (.int (nI i_)), some (.int ((nI i_) - (nI i_) / (16 : Int32) * (16 : Int32))), some (.int ((nI i_) / (16 : Int32))), none] [.int (rX9_isDark x2_ ((nI i_) - (nI i_) / (16 : Int32) * (16 : Int32)) (((nI i_) / (16 : Int32)) - (1 : Int32)))] (hh P x2_) 0 0
        refine z_if_eq (tgt := 83) dX9_thin_67 (by decide) (fun c_4 => ?_) (fun c_4 => ?_)
        · refine z_iconst dX9_thin_83 k_iconst_1 ?_
          refine z_goto (tgt := 88) dX9_thin_84 (by decide) ?_
          rw [show (if (rX9_isDark x2_ (((nI i_) - (nI i_) / (16 : Int32) * (16 : Int32)) - (1 : Int32)) ((nI i_) / (16 : Int32))) = (0 : Int32) then (1 : Int32) else (if (rX9_isDark x2_ (((nI i_) - (nI i_) / (16 : Int32) * (16 : Int32)) + (1 : Int32)) ((nI i_) / (16 : Int32))) = (0 : Int32) then (1 : Int32) else (if (rX9_isDark x2_ ((nI i_) - (nI i_) / (16 : Int32) * (16 : Int32)) (((nI i_) / (16 : Int32)) - (1 : Int32))) = (0 : Int32) then (1 : Int32) else (if (rX9_isDark x2_ ((nI i_) - (nI i_) / (16 : Int32) * (16 : Int32)) (((nI i_) / (16 : Int32)) + (1 : Int32))) = (0 : Int32) then (1 : Int32) else (0 : Int32))))) = (1 : Int32) from ((if_neg c_2).trans ((if_neg c_3).trans (if_pos c_4)))] at K_1
          exact K_1
        · refine z_aloadr_n dX9_thin_70 rfl ?_
          refine z_iload dX9_thin_71 rfl ?_
          refine z_iload dX9_thin_73 rfl ?_
          refine z_iconst dX9_thin_75 k_iconst_1 ?_
          refine z_iadd (v := (((nI i_) / (16 : Int32)) + (1 : Int32))) dX9_thin_76 rfl ?_
          refine z_callV (ci := 9) (r := (RX9, TX9, 38)) (b := 32) (As := [.int ((nI i_) - (nI i_) / (16 : Int32) * (16 : Int32)), .int (((nI i_) / (16 : Int32)) + (1 : Int32))]) (rest := []) (ctX9_isDark P x2_ ((nI i_) - (nI i_) / (16 : Int32) * (16 : Int32)) (((nI i_) / (16 : Int32)) + (1 : Int32)) (pzX9_isDark P x2_ ((nI i_) - (nI i_) / (16 : Int32) * (16 : Int32)) (((nI i_) / (16 : Int32)) + (1 : Int32)))) dX9_thin_77 lk_X9_105 lv_X9_isDark (Nat.le_of_ble_eq_true rfl) (zN rfl) rfl rfl rfl rfl (Nat.le_of_ble_eq_true rfl) (Nat.le_of_ble_eq_true rfl) (Nat.le_of_ble_eq_true rfl) (Nat.le_of_ble_eq_true rfl) (fun r_ h_ e_ => ?_)
          obtain ⟨e1_, e2_⟩ := e_
          subst e1_
          subst e2_
          show zz G mX9_thin 3 0 0 Q 80 [some (.ref 32), some (.int x0_), some (.int x1_), some (.int (nI i_)), some (.int ((nI i_) - (nI i_) / (16 : Int32) * (16 : Int32))), some (.int ((nI i_) / (16 : Int32))), none] [.int (rX9_isDark x2_ ((nI i_) - (nI i_) / (16 : Int32) * (16 : Int32)) (((nI i_) / (16 : Int32)) + (1 : Int32)))] (hh P x2_) 0 0
          refine z_if_ne (tgt := 87) dX9_thin_80 (by decide) (fun c_5 => ?_) (fun c_5 => ?_)
          · refine z_iconst dX9_thin_87 k_iconst_0 ?_
            rw [show (if (rX9_isDark x2_ (((nI i_) - (nI i_) / (16 : Int32) * (16 : Int32)) - (1 : Int32)) ((nI i_) / (16 : Int32))) = (0 : Int32) then (1 : Int32) else (if (rX9_isDark x2_ (((nI i_) - (nI i_) / (16 : Int32) * (16 : Int32)) + (1 : Int32)) ((nI i_) / (16 : Int32))) = (0 : Int32) then (1 : Int32) else (if (rX9_isDark x2_ ((nI i_) - (nI i_) / (16 : Int32) * (16 : Int32)) (((nI i_) / (16 : Int32)) - (1 : Int32))) = (0 : Int32) then (1 : Int32) else (if (rX9_isDark x2_ ((nI i_) - (nI i_) / (16 : Int32) * (16 : Int32)) (((nI i_) / (16 : Int32)) + (1 : Int32))) = (0 : Int32) then (1 : Int32) else (0 : Int32))))) = (0 : Int32) from ((if_neg c_2).trans ((if_neg c_3).trans ((if_neg c_4).trans (if_neg c_5))))] at K_1
            exact K_1
          · refine z_iconst dX9_thin_83 k_iconst_1 ?_
            refine z_goto (tgt := 88) dX9_thin_84 (by decide) ?_
            rw [show (if (rX9_isDark x2_ (((nI i_) - (nI i_) / (16 : Int32) * (16 : Int32)) - (1 : Int32)) ((nI i_) / (16 : Int32))) = (0 : Int32) then (1 : Int32) else (if (rX9_isDark x2_ (((nI i_) - (nI i_) / (16 : Int32) * (16 : Int32)) + (1 : Int32)) ((nI i_) / (16 : Int32))) = (0 : Int32) then (1 : Int32) else (if (rX9_isDark x2_ ((nI i_) - (nI i_) / (16 : Int32) * (16 : Int32)) (((nI i_) / (16 : Int32)) - (1 : Int32))) = (0 : Int32) then (1 : Int32) else (if (rX9_isDark x2_ ((nI i_) - (nI i_) / (16 : Int32) * (16 : Int32)) (((nI i_) / (16 : Int32)) + (1 : Int32))) = (0 : Int32) then (1 : Int32) else (0 : Int32))))) = (1 : Int32) from ((if_neg c_2).trans ((if_neg c_3).trans ((if_neg c_4).trans (if_pos c_5))))] at K_1
            exact K_1
  · generalize zfor fX9_thin_12 256 (l1, l2, σ) = g_ at W2_ ⊢
    obtain ⟨x0_, x1_, x2_⟩ := g_
    dsimp only at W2_ ⊢
    refine z_iload_n dX9_thin_12 rfl ?_
    refine z_sipush dX9_thin_13 k_sipush_256 ?_
    refine z_icmp_ge (tgt := 145) dX9_thin_16 (by decide) (fun c_ => ?_) (fun c_ => absurd (by decide) c_)
    exact zz_sub (lv' := [some (.ref 32), some (.int x0_), some (.int x1_), none, none, none, none]) ⟨rfl, ⟨rfl, ⟨rfl, trivial⟩⟩⟩ W2_

theorem dX9_thin_4 : decode cX9_thin 4 = .ok (.iload_n 2, 1) := by decide +kernel
theorem dX9_thin_5 : decode cX9_thin 5 = .ok (.ifCond .eq 143, 3) := by decide +kernel
theorem dX9_thin_8 : decode cX9_thin 8 = .ok (.iconst 0, 1) := by decide +kernel
theorem dX9_thin_9 : decode cX9_thin 9 = .ok (.istore_n 2, 1) := by decide +kernel
theorem dX9_thin_10 : decode cX9_thin 10 = .ok (.iconst 0, 1) := by decide +kernel
theorem dX9_thin_11 : decode cX9_thin 11 = .ok (.istore_n 3, 1) := by decide +kernel
theorem dX9_thin_148 : decode cX9_thin 148 = .ok (.iload_n 1, 1) := by decide +kernel
noncomputable def fX9_thin_4 (a_ : Int32 × Int32 × zc_N) : Int32 × Int32 × zc_N := ((zfor fX9_thin_12 256 (a_.1, (0 : Int32), a_.2.2)).1, (zfor fX9_thin_12 256 (a_.1, (0 : Int32), a_.2.2)).2.1, (zfor fX9_thin_12 256 (a_.1, (0 : Int32), a_.2.2)).2.2)
def eX9_thin_4 (a_ : Int32 × Int32 × zc_N) : Prop := ((a_.2.1 = (0 : Int32) ∧ True) ∨ (¬ a_.2.1 = (0 : Int32) ∧ False))
def qX9_thin_4 (a_ : Int32 × Int32 × zc_N) : Prop := ((a_.2.1 = (0 : Int32) → True) ∧ (¬ a_.2.1 = (0 : Int32) → (∀ i12_ : Nat, i12_ < 256 → qX9_thin_12 i12_ (zfor fX9_thin_12 i12_ (a_.1, (0 : Int32), a_.2.2)))))
noncomputable def wX9_thin_4 (a_ : Int32 × Int32 × zc_N) : Int32 × Int32 × zc_N := zit fX9_thin_4 (zwn (fun n_ => eX9_thin_4 (zit fX9_thin_4 n_ a_))) a_
set_option maxHeartbeats 2000000 in
theorem whX9_thin_4 {G : zc_G} {Q : Option Value → zc_H → Prop} (P : zp) (σ : zc_N) (l1 : Int32) (l2 : Int32)
    (hT_ : ∃ n_ : Nat, eX9_thin_4 (zit fX9_thin_4 n_ (l1, l2, σ))) (W1_ : ∀ i4_ : Nat, i4_ < (zwn (fun n_ => eX9_thin_4 (zit fX9_thin_4 n_ (l1, l2, σ)))) → qX9_thin_4 (zit fX9_thin_4 i4_ (l1, l2, σ)))
    (W2_ : eX9_thin_4 (wX9_thin_4 (l1, l2, σ)) → zz G mX9_thin 3 0 0 Q 4 [some (.ref 32), some (.int (wX9_thin_4 (l1, l2, σ)).1), some (.int (wX9_thin_4 (l1, l2, σ)).2.1), none, none, none, none] [] (hh P (wX9_thin_4 (l1, l2, σ)).2.2) 0 0) :
    zz G mX9_thin 3 0 0 Q 4 [some (.ref 32), some (.int l1), some (.int l2), none, none, none, none] [] (hh P σ) 0 0 := by
  unfold wX9_thin_4 at W2_
  have hs_ := zwn_spec hT_
  refine zit_Z (fun a_ => zz G mX9_thin 3 0 0 Q 4 [some (.ref 32), some (.int a_.1), some (.int a_.2.1), none, none, none, none] [] (hh P a_.2.2) 0 0) fX9_thin_4 (zwn (fun n_ => eX9_thin_4 (zit fX9_thin_4 n_ (l1, l2, σ)))) (l1, l2, σ) (fun i_ hi_ k_ => ?_) (W2_ hs_.1)
  have hn_ := hs_.2 i_ hi_
  have W3_ := W1_ i_ hi_
  generalize zit fX9_thin_4 i_ (l1, l2, σ) = g_ at k_ hn_ W3_ ⊢
  obtain ⟨x0_, x1_, x2_⟩ := g_
  try dsimp only at k_ hn_ W3_ ⊢
  rw [fX9_thin_4] at k_
  rw [eX9_thin_4] at hn_
  try dsimp only at k_ hn_
  rw [qX9_thin_4] at W3_
  try dsimp only at W3_
  refine z_iload_n dX9_thin_4 rfl ?_
  refine z_if_eq (tgt := 148) dX9_thin_5 (by decide) (fun c_1 => ?_) (fun c_1 => ?_)
  · exact absurd (Or.inl ⟨c_1, trivial⟩) hn_
  · refine z_iconst dX9_thin_8 k_iconst_0 ?_
    refine z_istore_n (lv' := [some (.ref 32), some (.int x0_), some (.int (0 : Int32)), none, none, none, none]) dX9_thin_9 (Nat.le_of_ble_eq_true rfl) rfl ?_
    refine z_iconst dX9_thin_10 k_iconst_0 ?_
    refine z_istore_n (lv' := [some (.ref 32), some (.int x0_), some (.int (0 : Int32)), some (.int (0 : Int32)), none, none, none]) dX9_thin_11 (Nat.le_of_ble_eq_true rfl) rfl ?_
    refine lpX9_thin_12 P x2_ x0_ (0 : Int32) (W3_.2 c_1) ?_
    show zz G mX9_thin 3 0 0 Q 145 [some (.ref 32), some (.int (zfor fX9_thin_12 256 (x0_, (0 : Int32), x2_)).1), some (.int (zfor fX9_thin_12 256 (x0_, (0 : Int32), x2_)).2.1), none, none, none, none] [] (hh P (zfor fX9_thin_12 256 (x0_, (0 : Int32), x2_)).2.2) 0 0
    refine z_goto (tgt := 4) dX9_thin_145 (by decide) ?_
    simpa only [if_neg c_1] using k_

theorem dX9_thin_0 : decode cX9_thin 0 = .ok (.iconst 0, 1) := by decide +kernel
theorem dX9_thin_1 : decode cX9_thin 1 = .ok (.istore_n 1, 1) := by decide +kernel
theorem dX9_thin_2 : decode cX9_thin 2 = .ok (.iconst 1, 1) := by decide +kernel
theorem dX9_thin_3 : decode cX9_thin 3 = .ok (.istore_n 2, 1) := by decide +kernel
theorem dX9_thin_149 : decode cX9_thin 149 = .ok (.ireturn, 1) := by decide +kernel
noncomputable def vX9_thin_1 (σ : zc_N) : zc_N := (zfor fX9_thin_12 256 (((wX9_thin_4 ((0 : Int32), (1 : Int32), σ)).1), (0 : Int32), ((wX9_thin_4 ((0 : Int32), (1 : Int32), σ)).2.2))).2.2
noncomputable def vX9_thin_2 (σ : zc_N) : Int32 := (zfor fX9_thin_12 256 (((wX9_thin_4 ((0 : Int32), (1 : Int32), σ)).1), (0 : Int32), ((wX9_thin_4 ((0 : Int32), (1 : Int32), σ)).2.2))).1
noncomputable def vX9_thin_3 (σ : zc_N) : Int32 := (zfor fX9_thin_12 256 (((wX9_thin_4 ((0 : Int32), (1 : Int32), σ)).1), (0 : Int32), ((wX9_thin_4 ((0 : Int32), (1 : Int32), σ)).2.2))).2.1
def pX9_thin (σ : zc_N) : Prop := (((∃ n_ : Nat, eX9_thin_4 (zit fX9_thin_4 n_ ((0 : Int32), (1 : Int32), σ))) ∧ (∀ i4_ : Nat, i4_ < (zwn (fun n_ => eX9_thin_4 (zit fX9_thin_4 n_ ((0 : Int32), (1 : Int32), σ)))) → qX9_thin_4 (zit fX9_thin_4 i4_ ((0 : Int32), (1 : Int32), σ)))) ∧ (((wX9_thin_4 ((0 : Int32), (1 : Int32), σ)).2.1 = (0 : Int32) → True) ∧ (¬ (wX9_thin_4 ((0 : Int32), (1 : Int32), σ)).2.1 = (0 : Int32) → (∀ i12_ : Nat, i12_ < 256 → qX9_thin_12 i12_ (zfor fX9_thin_12 i12_ (((wX9_thin_4 ((0 : Int32), (1 : Int32), σ)).1), (0 : Int32), ((wX9_thin_4 ((0 : Int32), (1 : Int32), σ)).2.2)))))))
noncomputable def rX9_thin (σ : zc_N) : Int32 := (wX9_thin_4 ((0 : Int32), (1 : Int32), σ)).1
noncomputable def sX9_thin (σ : zc_N) : zc_N := (wX9_thin_4 ((0 : Int32), (1 : Int32), σ)).2.2
set_option maxHeartbeats 1000000 in
theorem ctX9_thin (P : zp) (σ : zc_N) (W_ : (pX9_thin σ)) : sp mX9_thin 3 0 0 [.ref 32] (hh P σ) (fun r_ h_ => r_ = some (.int (rX9_thin σ)) ∧ h_ = hh P (sX9_thin σ)) := by
  refine sp_of (lv := [some (.ref 32), none, none, none, none, none, none]) (by decide) (zcats_ok _ rfl) (Nat.le_of_ble_eq_true rfl) (zlv_ok _ 6 rfl) (fun G => ?_)
  generalize hQ_ : (fun (r_ : Option Value) (h_ : zc_H) => r_ = some (.int (rX9_thin σ)) ∧ h_ = hh P (sX9_thin σ)) = Q_
  unfold pX9_thin at W_
  refine z_iconst dX9_thin_0 k_iconst_0 ?_
  refine z_istore_n (lv' := [some (.ref 32), some (.int (0 : Int32)), none, none, none, none, none]) dX9_thin_1 (Nat.le_of_ble_eq_true rfl) rfl ?_
  refine z_iconst dX9_thin_2 k_iconst_1 ?_
  refine z_istore_n (lv' := [some (.ref 32), some (.int (0 : Int32)), some (.int (1 : Int32)), none, none, none, none]) dX9_thin_3 (Nat.le_of_ble_eq_true rfl) rfl ?_
  refine whX9_thin_4 P σ (0 : Int32) (1 : Int32) W_.1.1 W_.1.2 (fun hX4_ => ?_)
  rw [eX9_thin_4] at hX4_
  try dsimp only at hX4_
  show zz G mX9_thin 3 0 0 Q_ 4 [some (.ref 32), some (.int (wX9_thin_4 ((0 : Int32), (1 : Int32), σ)).1), some (.int (wX9_thin_4 ((0 : Int32), (1 : Int32), σ)).2.1), none, none, none, none] [] (hh P (wX9_thin_4 ((0 : Int32), (1 : Int32), σ)).2.2) 0 0
  refine z_iload_n dX9_thin_4 rfl ?_
  refine z_if_eq (tgt := 148) dX9_thin_5 (by decide) (fun c_1 => ?_) (fun c_1 => ?_)
  · refine z_iload_n dX9_thin_148 rfl ?_
    exact z_ireturn dX9_thin_149 rfl rfl (Nat.le_of_ble_eq_true rfl) (Nat.le_of_ble_eq_true rfl) (by rw [← hQ_]; exact ⟨(by rw [rX9_thin]), (by rw [sX9_thin])⟩)
  · refine z_iconst dX9_thin_8 k_iconst_0 ?_
    refine z_istore_n (lv' := [some (.ref 32), some (.int (wX9_thin_4 ((0 : Int32), (1 : Int32), σ)).1), some (.int (0 : Int32)), none, none, none, none]) dX9_thin_9 (Nat.le_of_ble_eq_true rfl) rfl ?_
    refine z_iconst dX9_thin_10 k_iconst_0 ?_
    refine z_istore_n (lv' := [some (.ref 32), some (.int (wX9_thin_4 ((0 : Int32), (1 : Int32), σ)).1), some (.int (0 : Int32)), some (.int (0 : Int32)), none, none, none]) dX9_thin_11 (Nat.le_of_ble_eq_true rfl) rfl ?_
    refine lpX9_thin_12 P ((wX9_thin_4 ((0 : Int32), (1 : Int32), σ)).2.2) ((wX9_thin_4 ((0 : Int32), (1 : Int32), σ)).1) (0 : Int32) (W_.2.2 c_1) ?_
    show zz G mX9_thin 3 0 0 Q_ 145 [some (.ref 32), some (.int (vX9_thin_2 σ)), some (.int (vX9_thin_3 σ)), none, none, none, none] [] (hh P (vX9_thin_1 σ)) 0 0
    refine z_goto (tgt := 4) dX9_thin_145 (by decide) ?_
    exact (ex_r hX4_ c_1).elim

theorem dX1_takeThinned_4 : decode cX1_takeThinned 4 = .ok (.iload_n 2, 1) := by decide +kernel
theorem dX1_takeThinned_5 : decode cX1_takeThinned 5 = .ok (.sipush 256, 3) := by decide +kernel
theorem dX1_takeThinned_8 : decode cX1_takeThinned 8 = .ok (.if_icmp .gt 25, 3) := by decide +kernel
theorem dX1_takeThinned_11 : decode cX1_takeThinned 11 = .ok (.aload_n 0, 1) := by decide +kernel
theorem dX1_takeThinned_12 : decode cX1_takeThinned 12 = .ok (.invokevirtual 27, 3) := by decide +kernel
theorem dX1_takeThinned_15 : decode cX1_takeThinned 15 = .ok (.istore_n 3, 1) := by decide +kernel
theorem dX1_takeThinned_16 : decode cX1_takeThinned 16 = .ok (.iload_n 3, 1) := by decide +kernel
theorem dX1_takeThinned_17 : decode cX1_takeThinned 17 = .ok (.ifCond .ne 6, 3) := by decide +kernel
theorem dX1_takeThinned_20 : decode cX1_takeThinned 20 = .ok (.goto 13, 3) := by decide +kernel
theorem dX1_takeThinned_23 : decode cX1_takeThinned 23 = .ok (.iload_n 1, 1) := by decide +kernel
theorem dX1_takeThinned_24 : decode cX1_takeThinned 24 = .ok (.iload_n 3, 1) := by decide +kernel
theorem dX1_takeThinned_25 : decode cX1_takeThinned 25 = .ok (.iadd, 1) := by decide +kernel
theorem dX1_takeThinned_26 : decode cX1_takeThinned 26 = .ok (.istore_n 1, 1) := by decide +kernel
theorem dX1_takeThinned_27 : decode cX1_takeThinned 27 = .ok (.iinc 2 1, 3) := by decide +kernel
theorem dX1_takeThinned_30 : decode cX1_takeThinned 30 = .ok (.goto (-26), 3) := by decide +kernel
theorem dX1_takeThinned_33 : decode cX1_takeThinned 33 = .ok (.iload_n 1, 1) := by decide +kernel
noncomputable def fX1_takeThinned_4 (a_ : Int32 × Int32 × zc_N) : Int32 × Int32 × zc_N := ((a_.1 + (rX1_sweepOnce a_.2.2)), (a_.2.1 + (1 : Int32)), (sX1_sweepOnce a_.2.2))
def eX1_takeThinned_4 (a_ : Int32 × Int32 × zc_N) : Prop := (((256 : Int32) < a_.2.1 ∧ True) ∨ (¬ (256 : Int32) < a_.2.1 ∧ (((rX1_sweepOnce a_.2.2) = (0 : Int32) ∧ True) ∨ (¬ (rX1_sweepOnce a_.2.2) = (0 : Int32) ∧ False))))
def qX1_takeThinned_4 (a_ : Int32 × Int32 × zc_N) : Prop := (((256 : Int32) < a_.2.1 → True) ∧ (¬ (256 : Int32) < a_.2.1 → (pX1_sweepOnce a_.2.2)))
noncomputable def wX1_takeThinned_4 (a_ : Int32 × Int32 × zc_N) : Int32 × Int32 × zc_N := zit fX1_takeThinned_4 (zwn (fun n_ => eX1_takeThinned_4 (zit fX1_takeThinned_4 n_ a_))) a_
set_option maxHeartbeats 2000000 in
theorem whX1_takeThinned_4 {G : zc_G} {Q : Option Value → zc_H → Prop} (P : zp) (σ : zc_N) (l1 : Int32) (l2 : Int32)
    (hT_ : ∃ n_ : Nat, eX1_takeThinned_4 (zit fX1_takeThinned_4 n_ (l1, l2, σ))) (W1_ : ∀ i4_ : Nat, i4_ < (zwn (fun n_ => eX1_takeThinned_4 (zit fX1_takeThinned_4 n_ (l1, l2, σ)))) → qX1_takeThinned_4 (zit fX1_takeThinned_4 i4_ (l1, l2, σ)))
    (W2_ : eX1_takeThinned_4 (wX1_takeThinned_4 (l1, l2, σ)) → zz G mX1_takeThinned 4 0 0 Q 4 [some (.ref 4), some (.int (wX1_takeThinned_4 (l1, l2, σ)).1), some (.int (wX1_takeThinned_4 (l1, l2, σ)).2.1), none] [] (hh P (wX1_takeThinned_4 (l1, l2, σ)).2.2) 0 0) :
    zz G mX1_takeThinned 4 0 0 Q 4 [some (.ref 4), some (.int l1), some (.int l2), none] [] (hh P σ) 0 0 := by
  unfold wX1_takeThinned_4 at W2_
  have hs_ := zwn_spec hT_
  refine zit_Z (fun a_ => zz G mX1_takeThinned 4 0 0 Q 4 [some (.ref 4), some (.int a_.1), some (.int a_.2.1), none] [] (hh P a_.2.2) 0 0) fX1_takeThinned_4 (zwn (fun n_ => eX1_takeThinned_4 (zit fX1_takeThinned_4 n_ (l1, l2, σ)))) (l1, l2, σ) (fun i_ hi_ k_ => ?_) (W2_ hs_.1)
  have hn_ := hs_.2 i_ hi_
  have W3_ := W1_ i_ hi_
  generalize zit fX1_takeThinned_4 i_ (l1, l2, σ) = g_ at k_ hn_ W3_ ⊢
  obtain ⟨x0_, x1_, x2_⟩ := g_
  try dsimp only at k_ hn_ W3_ ⊢
  rw [fX1_takeThinned_4] at k_
  rw [eX1_takeThinned_4] at hn_
  try dsimp only at k_ hn_
  rw [qX1_takeThinned_4] at W3_
  try dsimp only at W3_
  refine z_iload_n dX1_takeThinned_4 rfl ?_
  refine z_sipush dX1_takeThinned_5 k_sipush_256 ?_
  refine z_icmp_gt (tgt := 33) dX1_takeThinned_8 (by decide) (fun c_1 => ?_) (fun c_1 => ?_)
  · exact absurd (Or.inl ⟨c_1, trivial⟩) hn_
  · refine z_aloadr_n dX1_takeThinned_11 rfl ?_
    refine z_callV (ci := 1) (r := (RX1, TX1, 3)) (b := 4) (As := []) (rest := []) (ctX1_sweepOnce P x2_ (W3_.2 c_1)) dX1_takeThinned_12 lk_X1_27 lv_X1_sweepOnce (Nat.le_of_ble_eq_true rfl) (zN rfl) rfl rfl rfl rfl (Nat.le_of_ble_eq_true rfl) (Nat.le_of_ble_eq_true rfl) (Nat.le_of_ble_eq_true rfl) (Nat.le_of_ble_eq_true rfl) (fun r_ h_ e_ => ?_)
    obtain ⟨e1_, e2_⟩ := e_
    subst e1_
    subst e2_
    show zz G mX1_takeThinned 4 0 0 Q 15 [some (.ref 4), some (.int x0_), some (.int x1_), none] [.int (rX1_sweepOnce x2_)] (hh P (sX1_sweepOnce x2_)) 0 0
    refine z_istore_n (lv' := [some (.ref 4), some (.int x0_), some (.int x1_), some (.int (rX1_sweepOnce x2_))]) dX1_takeThinned_15 (Nat.le_of_ble_eq_true rfl) rfl ?_
    refine z_iload_n dX1_takeThinned_16 rfl ?_
    refine z_if_ne (tgt := 23) dX1_takeThinned_17 (by decide) (fun c_2 => ?_) (fun c_2 => ?_)
    · refine z_iload_n dX1_takeThinned_23 rfl ?_
      refine z_iload_n dX1_takeThinned_24 rfl ?_
      refine z_iadd (v := (x0_ + (rX1_sweepOnce x2_))) dX1_takeThinned_25 rfl ?_
      refine z_istore_n (lv' := [some (.ref 4), some (.int (x0_ + (rX1_sweepOnce x2_))), some (.int x1_), some (.int (rX1_sweepOnce x2_))]) dX1_takeThinned_26 (Nat.le_of_ble_eq_true rfl) rfl ?_
      refine z_iinc (v := (x1_ + (1 : Int32))) (lv' := [some (.ref 4), some (.int (x0_ + (rX1_sweepOnce x2_))), some (.int (x1_ + (1 : Int32))), some (.int (rX1_sweepOnce x2_))]) dX1_takeThinned_27 (Nat.le_of_ble_eq_true rfl) rfl (by rw [k_iconst_1]) rfl ?_
      refine z_goto (tgt := 4) dX1_takeThinned_30 (by decide) ?_
      refine zz_sub (lv' := [some (.ref 4), some (.int (x0_ + (rX1_sweepOnce x2_))), some (.int (x1_ + (1 : Int32))), none]) ⟨rfl, ⟨rfl, ⟨rfl, trivial⟩⟩⟩ ?_
      simpa only [if_neg c_1, if_neg c_2] using k_
    · exact absurd (Or.inr ⟨c_1, (Or.inl ⟨c_2, trivial⟩)⟩) hn_

theorem dX1_takeThinned_0 : decode cX1_takeThinned 0 = .ok (.iconst 0, 1) := by decide +kernel
theorem dX1_takeThinned_1 : decode cX1_takeThinned 1 = .ok (.istore_n 1, 1) := by decide +kernel
theorem dX1_takeThinned_2 : decode cX1_takeThinned 2 = .ok (.iconst 0, 1) := by decide +kernel
theorem dX1_takeThinned_3 : decode cX1_takeThinned 3 = .ok (.istore_n 2, 1) := by decide +kernel
theorem dX1_takeThinned_34 : decode cX1_takeThinned 34 = .ok (.ireturn, 1) := by decide +kernel
noncomputable def vX1_takeThinned_1 (σ : zc_N) : Int32 := ((wX1_takeThinned_4 ((0 : Int32), (0 : Int32), σ)).1 + (rX1_sweepOnce ((wX1_takeThinned_4 ((0 : Int32), (0 : Int32), σ)).2.2)))
def pX1_takeThinned (σ : zc_N) : Prop := (((∃ n_ : Nat, eX1_takeThinned_4 (zit fX1_takeThinned_4 n_ ((0 : Int32), (0 : Int32), σ))) ∧ (∀ i4_ : Nat, i4_ < (zwn (fun n_ => eX1_takeThinned_4 (zit fX1_takeThinned_4 n_ ((0 : Int32), (0 : Int32), σ)))) → qX1_takeThinned_4 (zit fX1_takeThinned_4 i4_ ((0 : Int32), (0 : Int32), σ)))) ∧ (((256 : Int32) < (wX1_takeThinned_4 ((0 : Int32), (0 : Int32), σ)).2.1 → True) ∧ (¬ (256 : Int32) < (wX1_takeThinned_4 ((0 : Int32), (0 : Int32), σ)).2.1 → (pX1_sweepOnce ((wX1_takeThinned_4 ((0 : Int32), (0 : Int32), σ)).2.2)))))
noncomputable def rX1_takeThinned (σ : zc_N) : Int32 := (wX1_takeThinned_4 ((0 : Int32), (0 : Int32), σ)).1
noncomputable def sX1_takeThinned (σ : zc_N) : zc_N := (if (256 : Int32) < (wX1_takeThinned_4 ((0 : Int32), (0 : Int32), σ)).2.1 then (wX1_takeThinned_4 ((0 : Int32), (0 : Int32), σ)).2.2 else (sX1_sweepOnce ((wX1_takeThinned_4 ((0 : Int32), (0 : Int32), σ)).2.2)))
set_option maxHeartbeats 1000000 in
theorem ctX1_takeThinned (P : zp) (σ : zc_N) (W_ : (pX1_takeThinned σ)) : sp mX1_takeThinned 4 0 0 [.ref 4] (hh P σ) (fun r_ h_ => r_ = some (.int (rX1_takeThinned σ)) ∧ h_ = hh P (sX1_takeThinned σ)) := by
  refine sp_of (lv := [some (.ref 4), none, none, none]) (by decide) (zcats_ok _ rfl) (Nat.le_of_ble_eq_true rfl) (zlv_ok _ 3 rfl) (fun G => ?_)
  generalize hQ_ : (fun (r_ : Option Value) (h_ : zc_H) => r_ = some (.int (rX1_takeThinned σ)) ∧ h_ = hh P (sX1_takeThinned σ)) = Q_
  unfold pX1_takeThinned at W_
  refine z_iconst dX1_takeThinned_0 k_iconst_0 ?_
  refine z_istore_n (lv' := [some (.ref 4), some (.int (0 : Int32)), none, none]) dX1_takeThinned_1 (Nat.le_of_ble_eq_true rfl) rfl ?_
  refine z_iconst dX1_takeThinned_2 k_iconst_0 ?_
  refine z_istore_n (lv' := [some (.ref 4), some (.int (0 : Int32)), some (.int (0 : Int32)), none]) dX1_takeThinned_3 (Nat.le_of_ble_eq_true rfl) rfl ?_
  refine whX1_takeThinned_4 P σ (0 : Int32) (0 : Int32) W_.1.1 W_.1.2 (fun hX4_ => ?_)
  rw [eX1_takeThinned_4] at hX4_
  try dsimp only at hX4_
  show zz G mX1_takeThinned 4 0 0 Q_ 4 [some (.ref 4), some (.int (wX1_takeThinned_4 ((0 : Int32), (0 : Int32), σ)).1), some (.int (wX1_takeThinned_4 ((0 : Int32), (0 : Int32), σ)).2.1), none] [] (hh P (wX1_takeThinned_4 ((0 : Int32), (0 : Int32), σ)).2.2) 0 0
  refine z_iload_n dX1_takeThinned_4 rfl ?_
  refine z_sipush dX1_takeThinned_5 k_sipush_256 ?_
  refine z_icmp_gt (tgt := 33) dX1_takeThinned_8 (by decide) (fun c_1 => ?_) (fun c_1 => ?_)
  · refine z_iload_n dX1_takeThinned_33 rfl ?_
    exact z_ireturn dX1_takeThinned_34 rfl rfl (Nat.le_of_ble_eq_true rfl) (Nat.le_of_ble_eq_true rfl) (by rw [← hQ_]; exact ⟨(by rw [rX1_takeThinned]), (by rw [sX1_takeThinned]; try simp only [if_pos c_1])⟩)
  · refine z_aloadr_n dX1_takeThinned_11 rfl ?_
    refine z_callV (ci := 1) (r := (RX1, TX1, 3)) (b := 4) (As := []) (rest := []) (ctX1_sweepOnce P ((wX1_takeThinned_4 ((0 : Int32), (0 : Int32), σ)).2.2) (W_.2.2 c_1)) dX1_takeThinned_12 lk_X1_27 lv_X1_sweepOnce (Nat.le_of_ble_eq_true rfl) (zN rfl) rfl rfl rfl rfl (Nat.le_of_ble_eq_true rfl) (Nat.le_of_ble_eq_true rfl) (Nat.le_of_ble_eq_true rfl) (Nat.le_of_ble_eq_true rfl) (fun r_ h_ e_ => ?_)
    obtain ⟨e1_, e2_⟩ := e_
    subst e1_
    subst e2_
    show zz G mX1_takeThinned 4 0 0 Q_ 15 [some (.ref 4), some (.int (wX1_takeThinned_4 ((0 : Int32), (0 : Int32), σ)).1), some (.int (wX1_takeThinned_4 ((0 : Int32), (0 : Int32), σ)).2.1), none] [.int (rX1_sweepOnce ((wX1_takeThinned_4 ((0 : Int32), (0 : Int32), σ)).2.2))] (hh P (sX1_sweepOnce ((wX1_takeThinned_4 ((0 : Int32), (0 : Int32), σ)).2.2))) 0 0
    refine z_istore_n (lv' := [some (.ref 4), some (.int (wX1_takeThinned_4 ((0 : Int32), (0 : Int32), σ)).1), some (.int (wX1_takeThinned_4 ((0 : Int32), (0 : Int32), σ)).2.1), some (.int (rX1_sweepOnce ((wX1_takeThinned_4 ((0 : Int32), (0 : Int32), σ)).2.2)))]) dX1_takeThinned_15 (Nat.le_of_ble_eq_true rfl) rfl ?_
    refine z_iload_n dX1_takeThinned_16 rfl ?_
    refine z_if_ne (tgt := 23) dX1_takeThinned_17 (by decide) (fun c_2 => ?_) (fun c_2 => ?_)
    · refine z_iload_n dX1_takeThinned_23 rfl ?_
      refine z_iload_n dX1_takeThinned_24 rfl ?_
      refine z_iadd (v := ((wX1_takeThinned_4 ((0 : Int32), (0 : Int32), σ)).1 + (rX1_sweepOnce ((wX1_takeThinned_4 ((0 : Int32), (0 : Int32), σ)).2.2)))) dX1_takeThinned_25 rfl ?_
      refine z_istore_n (lv' := [some (.ref 4), some (.int (vX1_takeThinned_1 σ)), some (.int (wX1_takeThinned_4 ((0 : Int32), (0 : Int32), σ)).2.1), some (.int (rX1_sweepOnce ((wX1_takeThinned_4 ((0 : Int32), (0 : Int32), σ)).2.2)))]) dX1_takeThinned_26 (Nat.le_of_ble_eq_true rfl) rfl ?_
      refine z_iinc (v := ((wX1_takeThinned_4 ((0 : Int32), (0 : Int32), σ)).2.1 + (1 : Int32))) (lv' := [some (.ref 4), some (.int (vX1_takeThinned_1 σ)), some (.int ((wX1_takeThinned_4 ((0 : Int32), (0 : Int32), σ)).2.1 + (1 : Int32))), some (.int (rX1_sweepOnce ((wX1_takeThinned_4 ((0 : Int32), (0 : Int32), σ)).2.2)))]) dX1_takeThinned_27 (Nat.le_of_ble_eq_true rfl) rfl (by rw [k_iconst_1]) rfl ?_
      refine z_goto (tgt := 4) dX1_takeThinned_30 (by decide) ?_
      exact (ex_r (ex_r hX4_ c_1) c_2).elim
    · refine z_goto (tgt := 33) dX1_takeThinned_20 (by decide) ?_
      refine z_iload_n dX1_takeThinned_33 rfl ?_
      exact z_ireturn dX1_takeThinned_34 rfl rfl (Nat.le_of_ble_eq_true rfl) (Nat.le_of_ble_eq_true rfl) (by rw [← hQ_]; exact ⟨(by rw [rX1_takeThinned]), (by rw [sX1_takeThinned]; try simp only [if_neg c_1, if_pos c_2])⟩)

theorem dX9_spread_18 : decode cX9_spread 18 = .ok (.iload 4, 2) := by decide +kernel
theorem dX9_spread_20 : decode cX9_spread 20 = .ok (.sipush 256, 3) := by decide +kernel
theorem dX9_spread_23 : decode cX9_spread 23 = .ok (.if_icmp .ge 50, 3) := by decide +kernel
theorem dX9_spread_26 : decode cX9_spread 26 = .ok (.aload_n 0, 1) := by decide +kernel
theorem dX9_spread_27 : decode cX9_spread 27 = .ok (.getfield 9, 3) := by decide +kernel
theorem dX9_spread_30 : decode cX9_spread 30 = .ok (.iload 4, 2) := by decide +kernel
theorem dX9_spread_32 : decode cX9_spread 32 = .ok (.baload, 1) := by decide +kernel
theorem dX9_spread_33 : decode cX9_spread 33 = .ok (.iload_n 2, 1) := by decide +kernel
theorem dX9_spread_34 : decode cX9_spread 34 = .ok (.if_icmp .ne 33, 3) := by decide +kernel
theorem dX9_spread_37 : decode cX9_spread 37 = .ok (.aload_n 0, 1) := by decide +kernel
theorem dX9_spread_38 : decode cX9_spread 38 = .ok (.getfield 13, 3) := by decide +kernel
theorem dX9_spread_41 : decode cX9_spread 41 = .ok (.iload 4, 2) := by decide +kernel
theorem dX9_spread_43 : decode cX9_spread 43 = .ok (.baload, 1) := by decide +kernel
theorem dX9_spread_44 : decode cX9_spread 44 = .ok (.ifCond .ne 23, 3) := by decide +kernel
theorem dX9_spread_47 : decode cX9_spread 47 = .ok (.aload_n 0, 1) := by decide +kernel
theorem dX9_spread_48 : decode cX9_spread 48 = .ok (.iload 4, 2) := by decide +kernel
theorem dX9_spread_50 : decode cX9_spread 50 = .ok (.iload_n 2, 1) := by decide +kernel
theorem dX9_spread_51 : decode cX9_spread 51 = .ok (.invokevirtual 123, 3) := by decide +kernel
theorem dX9_spread_54 : decode cX9_spread 54 = .ok (.ifCond .eq 13, 3) := by decide +kernel
theorem dX9_spread_57 : decode cX9_spread 57 = .ok (.aload_n 0, 1) := by decide +kernel
theorem dX9_spread_58 : decode cX9_spread 58 = .ok (.getfield 13, 3) := by decide +kernel
theorem dX9_spread_61 : decode cX9_spread 61 = .ok (.iload 4, 2) := by decide +kernel
theorem dX9_spread_63 : decode cX9_spread 63 = .ok (.iconst 1, 1) := by decide +kernel
theorem dX9_spread_64 : decode cX9_spread 64 = .ok (.bastore, 1) := by decide +kernel
theorem dX9_spread_65 : decode cX9_spread 65 = .ok (.iconst 1, 1) := by decide +kernel
theorem dX9_spread_66 : decode cX9_spread 66 = .ok (.istore_n 3, 1) := by decide +kernel
theorem dX9_spread_67 : decode cX9_spread 67 = .ok (.iinc 4 1, 3) := by decide +kernel
theorem dX9_spread_70 : decode cX9_spread 70 = .ok (.goto (-52), 3) := by decide +kernel
theorem dX9_spread_73 : decode cX9_spread 73 = .ok (.goto (-64), 3) := by decide +kernel
noncomputable def fX9_spread_18 (l2 : Int32) (i_ : Nat) (a_ : Int32 × zc_N) : Int32 × zc_N := ((if ((a_.2 33) (nI i_).toNatClampNeg) = l2 then (if ((a_.2 34) (nI i_).toNatClampNeg) = (0 : Int32) then (if (rX9_besideSeen a_.2 (nI i_) l2) = (0 : Int32) then a_.1 else (1 : Int32)) else a_.1) else a_.1), (if ((a_.2 33) (nI i_).toNatClampNeg) = l2 then (if ((a_.2 34) (nI i_).toNatClampNeg) = (0 : Int32) then (if (rX9_besideSeen a_.2 (nI i_) l2) = (0 : Int32) then a_.2 else (zu a_.2 34 (zu (a_.2 34) (nI i_).toNatClampNeg (1 : Int32)))) else a_.2) else a_.2))
def qX9_spread_18 (l2 : Int32) (i_ : Nat) (a_ : Int32 × zc_N) : Prop := ((((a_.2 33) (nI i_).toNatClampNeg) = l2 → ((((a_.2 34) (nI i_).toNatClampNeg) = (0 : Int32) → (pX9_besideSeen a_.2 (nI i_) l2)) ∧ (¬ ((a_.2 34) (nI i_).toNatClampNeg) = (0 : Int32) → True))) ∧ (¬ ((a_.2 33) (nI i_).toNatClampNeg) = l2 → True))
set_option maxHeartbeats 2000000 in
theorem lpX9_spread_18 {G : zc_G} {Q : Option Value → zc_H → Prop} (P : zp) (σ : zc_N) (l2 : Int32) (l3 : Int32) (W1_ : ∀ i18_ : Nat, i18_ < 256 → qX9_spread_18 l2 i18_ (zfor (fX9_spread_18 l2) i18_ (l3, σ)))
    (W2_ : zz G mX9_spread 2 0 0 Q 73 [some (.ref 32), none, some (.int l2), some (.int (zfor (fX9_spread_18 l2) 256 (l3, σ)).1), none] [] (hh P (zfor (fX9_spread_18 l2) 256 (l3, σ)).2) 0 0) :
    zz G mX9_spread 2 0 0 Q 18 [some (.ref 32), none, some (.int l2), some (.int l3), some (.int (nI 0))] [] (hh P σ) 0 0 := by
  refine zfor_nI (fun i_ a_ => zz G mX9_spread 2 0 0 Q 18 [some (.ref 32), none, some (.int l2), some (.int a_.1), some (.int i_)] [] (hh P a_.2) 0 0) (fX9_spread_18 l2) 256 (l3, σ) (fun i_ hi_ k_ => ?_) ?_
  all_goals try dsimp only
  · have W3_ := W1_ i_ hi_
    generalize zfor (fX9_spread_18 l2) i_ (l3, σ) = g_ at k_ W3_ ⊢
    obtain ⟨x0_, x1_⟩ := g_
    dsimp only at k_ W3_ ⊢
    rw [fX9_spread_18] at k_
    rw [qX9_spread_18] at W3_
    try dsimp only at W3_
    dsimp only at k_
    refine z_iload dX9_spread_18 rfl ?_
    refine z_sipush dX9_spread_20 k_sipush_256 ?_
    refine z_icmp_ge (tgt := 73) dX9_spread_23 (by decide) (fun c_ => absurd c_ (nI_ge hi_ (by decide))) (fun c_ => ?_)
    refine z_aloadr_n dX9_spread_26 rfl ?_
    refine z_get (ci := 9) (r := (RX9, TX9, 38)) (j := 0) (v := .ref 33) dX9_spread_27 (Nat.le_of_ble_eq_true rfl) (zN rfl) rfl rfl (Nat.le_of_ble_eq_true rfl) fl_X9_9 rfl ?_
    refine z_iload dX9_spread_30 rfl ?_
    refine z_bald (v := ((x1_ 33) (nI i_).toNatClampNeg)) dX9_spread_32 (Nat.le_of_ble_eq_true rfl) (zN rfl) rfl (vp_in_nI (Nat.lt_of_lt_of_le hi_ (Nat.le_of_ble_eq_true rfl)) (by decide)) rfl ?_
    refine z_iload_n dX9_spread_33 rfl ?_
    refine z_icmp_ne (tgt := 67) dX9_spread_34 (by decide) (fun c_2 => ?_) (fun c_2 => ?_)
    · refine z_iinc (v := ((nI i_) + (1 : Int32))) (lv' := [some (.ref 32), none, some (.int l2), some (.int x0_), some (.int ((nI i_) + (1 : Int32)))]) dX9_spread_67 (Nat.le_of_ble_eq_true rfl) rfl (by rw [k_iconst_1]) rfl ?_
      refine z_goto (tgt := 18) dX9_spread_70 (by decide) ?_
      rw [nI_1]
      simpa only [if_neg c_2] using k_
    · refine z_aloadr_n dX9_spread_37 rfl ?_
      refine z_get (ci := 9) (r := (RX9, TX9, 38)) (j := 1) (v := .ref 34) dX9_spread_38 (Nat.le_of_ble_eq_true rfl) (zN rfl) rfl rfl (Nat.le_of_ble_eq_true rfl) fl_X9_13 rfl ?_
      refine z_iload dX9_spread_41 rfl ?_
      refine z_bald (v := ((x1_ 34) (nI i_).toNatClampNeg)) dX9_spread_43 (Nat.le_of_ble_eq_true rfl) (zN rfl) rfl (vp_in_nI (Nat.lt_of_lt_of_le hi_ (Nat.le_of_ble_eq_true rfl)) (by decide)) rfl ?_
      refine z_if_ne (tgt := 67) dX9_spread_44 (by decide) (fun c_3 => ?_) (fun c_3 => ?_)
      · refine z_iinc (v := ((nI i_) + (1 : Int32))) (lv' := [some (.ref 32), none, some (.int l2), some (.int x0_), some (.int ((nI i_) + (1 : Int32)))]) dX9_spread_67 (Nat.le_of_ble_eq_true rfl) rfl (by rw [k_iconst_1]) rfl ?_
        refine z_goto (tgt := 18) dX9_spread_70 (by decide) ?_
        rw [nI_1]
        simpa only [if_pos c_2, if_neg c_3] using k_
      · refine z_aloadr_n dX9_spread_47 rfl ?_
        refine z_iload dX9_spread_48 rfl ?_
        refine z_iload_n dX9_spread_50 rfl ?_
        refine z_callV (ci := 9) (r := (RX9, TX9, 38)) (b := 32) (As := [.int (nI i_), .int l2]) (rest := []) (ctX9_besideSeen P x1_ (nI i_) l2 ((W3_.1 c_2).1 c_3)) dX9_spread_51 lk_X9_123 lv_X9_besideSeen (Nat.le_of_ble_eq_true rfl) (zN rfl) rfl rfl rfl rfl (Nat.le_of_ble_eq_true rfl) (Nat.le_of_ble_eq_true rfl) (Nat.le_of_ble_eq_true rfl) (Nat.le_of_ble_eq_true rfl) (fun r_ h_ e_ => ?_)
        obtain ⟨e1_, e2_⟩ := e_
        subst e1_
        subst e2_
        show zz G mX9_spread 2 0 0 Q 54 [some (.ref 32), none, some (.int l2), some (.int x0_), some (.int (nI i_))] [.int (rX9_besideSeen x1_ (nI i_) l2)] (hh P x1_) 0 0
        refine z_if_eq (tgt := 67) dX9_spread_54 (by decide) (fun c_4 => ?_) (fun c_4 => ?_)
        · refine z_iinc (v := ((nI i_) + (1 : Int32))) (lv' := [some (.ref 32), none, some (.int l2), some (.int x0_), some (.int ((nI i_) + (1 : Int32)))]) dX9_spread_67 (Nat.le_of_ble_eq_true rfl) rfl (by rw [k_iconst_1]) rfl ?_
          refine z_goto (tgt := 18) dX9_spread_70 (by decide) ?_
          rw [nI_1]
          simpa only [if_pos c_2, if_pos c_3, if_pos c_4] using k_
        · refine z_aloadr_n dX9_spread_57 rfl ?_
          refine z_get (ci := 9) (r := (RX9, TX9, 38)) (j := 1) (v := .ref 34) dX9_spread_58 (Nat.le_of_ble_eq_true rfl) (zN rfl) rfl rfl (Nat.le_of_ble_eq_true rfl) fl_X9_13 rfl ?_
          refine z_iload dX9_spread_61 rfl ?_
          refine z_iconst dX9_spread_63 k_iconst_1 ?_
          refine z_bast (σ' := (zu x1_ 34 (zu (x1_ 34) (nI i_).toNatClampNeg (1 : Int32)))) dX9_spread_64 (Nat.le_of_ble_eq_true rfl) (zN rfl) rfl (vp_in_nI (Nat.lt_of_lt_of_le hi_ (Nat.le_of_ble_eq_true rfl)) (by decide)) rfl rfl ?_
          refine z_iconst dX9_spread_65 k_iconst_1 ?_
          refine z_istore_n (lv' := [some (.ref 32), none, some (.int l2), some (.int (1 : Int32)), some (.int (nI i_))]) dX9_spread_66 (Nat.le_of_ble_eq_true rfl) rfl ?_
          refine z_iinc (v := ((nI i_) + (1 : Int32))) (lv' := [some (.ref 32), none, some (.int l2), some (.int (1 : Int32)), some (.int ((nI i_) + (1 : Int32)))]) dX9_spread_67 (Nat.le_of_ble_eq_true rfl) rfl (by rw [k_iconst_1]) rfl ?_
          refine z_goto (tgt := 18) dX9_spread_70 (by decide) ?_
          rw [nI_1]
          simpa only [if_pos c_2, if_pos c_3, if_neg c_4] using k_
  · generalize zfor (fX9_spread_18 l2) 256 (l3, σ) = g_ at W2_ ⊢
    obtain ⟨x0_, x1_⟩ := g_
    dsimp only at W2_ ⊢
    refine z_iload dX9_spread_18 rfl ?_
    refine z_sipush dX9_spread_20 k_sipush_256 ?_
    refine z_icmp_ge (tgt := 73) dX9_spread_23 (by decide) (fun c_ => ?_) (fun c_ => absurd (by decide) c_)
    exact zz_sub (lv' := [some (.ref 32), none, some (.int l2), some (.int x0_), none]) ⟨rfl, ⟨rfl, ⟨rfl, trivial⟩⟩⟩ W2_

theorem dX9_spread_9 : decode cX9_spread 9 = .ok (.iload_n 3, 1) := by decide +kernel
theorem dX9_spread_10 : decode cX9_spread 10 = .ok (.ifCond .eq 66, 3) := by decide +kernel
theorem dX9_spread_13 : decode cX9_spread 13 = .ok (.iconst 0, 1) := by decide +kernel
theorem dX9_spread_14 : decode cX9_spread 14 = .ok (.istore_n 3, 1) := by decide +kernel
theorem dX9_spread_15 : decode cX9_spread 15 = .ok (.iconst 0, 1) := by decide +kernel
theorem dX9_spread_16 : decode cX9_spread 16 = .ok (.istore 4, 2) := by decide +kernel
noncomputable def fX9_spread_9 (l2 : Int32) (a_ : Int32 × zc_N) : Int32 × zc_N := ((zfor (fX9_spread_18 l2) 256 ((0 : Int32), a_.2)).1, (zfor (fX9_spread_18 l2) 256 ((0 : Int32), a_.2)).2)
def eX9_spread_9 (a_ : Int32 × zc_N) : Prop := ((a_.1 = (0 : Int32) ∧ True) ∨ (¬ a_.1 = (0 : Int32) ∧ False))
def qX9_spread_9 (l2 : Int32) (a_ : Int32 × zc_N) : Prop := ((a_.1 = (0 : Int32) → True) ∧ (¬ a_.1 = (0 : Int32) → (∀ i18_ : Nat, i18_ < 256 → qX9_spread_18 l2 i18_ (zfor (fX9_spread_18 l2) i18_ ((0 : Int32), a_.2)))))
noncomputable def wX9_spread_9 (l2 : Int32) (a_ : Int32 × zc_N) : Int32 × zc_N := zit (fX9_spread_9 l2) (zwn (fun n_ => eX9_spread_9 (zit (fX9_spread_9 l2) n_ a_))) a_
set_option maxHeartbeats 2000000 in
theorem whX9_spread_9 {G : zc_G} {Q : Option Value → zc_H → Prop} (P : zp) (σ : zc_N) (l2 : Int32) (l3 : Int32)
    (hT_ : ∃ n_ : Nat, eX9_spread_9 (zit (fX9_spread_9 l2) n_ (l3, σ))) (W1_ : ∀ i9_ : Nat, i9_ < (zwn (fun n_ => eX9_spread_9 (zit (fX9_spread_9 l2) n_ (l3, σ)))) → qX9_spread_9 l2 (zit (fX9_spread_9 l2) i9_ (l3, σ)))
    (W2_ : eX9_spread_9 (wX9_spread_9 l2 (l3, σ)) → zz G mX9_spread 2 0 0 Q 9 [some (.ref 32), none, some (.int l2), some (.int (wX9_spread_9 l2 (l3, σ)).1), none] [] (hh P (wX9_spread_9 l2 (l3, σ)).2) 0 0) :
    zz G mX9_spread 2 0 0 Q 9 [some (.ref 32), none, some (.int l2), some (.int l3), none] [] (hh P σ) 0 0 := by
  unfold wX9_spread_9 at W2_
  have hs_ := zwn_spec hT_
  refine zit_Z (fun a_ => zz G mX9_spread 2 0 0 Q 9 [some (.ref 32), none, some (.int l2), some (.int a_.1), none] [] (hh P a_.2) 0 0) (fX9_spread_9 l2) (zwn (fun n_ => eX9_spread_9 (zit (fX9_spread_9 l2) n_ (l3, σ)))) (l3, σ) (fun i_ hi_ k_ => ?_) (W2_ hs_.1)
  have hn_ := hs_.2 i_ hi_
  have W3_ := W1_ i_ hi_
  generalize zit (fX9_spread_9 l2) i_ (l3, σ) = g_ at k_ hn_ W3_ ⊢
  obtain ⟨x0_, x1_⟩ := g_
  try dsimp only at k_ hn_ W3_ ⊢
  rw [fX9_spread_9] at k_
  rw [eX9_spread_9] at hn_
  try dsimp only at k_ hn_
  rw [qX9_spread_9] at W3_
  try dsimp only at W3_
  refine z_iload_n dX9_spread_9 rfl ?_
  refine z_if_eq (tgt := 76) dX9_spread_10 (by decide) (fun c_1 => ?_) (fun c_1 => ?_)
  · exact absurd (Or.inl ⟨c_1, trivial⟩) hn_
  · refine z_iconst dX9_spread_13 k_iconst_0 ?_
    refine z_istore_n (lv' := [some (.ref 32), none, some (.int l2), some (.int (0 : Int32)), none]) dX9_spread_14 (Nat.le_of_ble_eq_true rfl) rfl ?_
    refine z_iconst dX9_spread_15 k_iconst_0 ?_
    refine z_istore (lv' := [some (.ref 32), none, some (.int l2), some (.int (0 : Int32)), some (.int (0 : Int32))]) dX9_spread_16 (Nat.le_of_ble_eq_true rfl) rfl ?_
    refine lpX9_spread_18 P x1_ l2 (0 : Int32) (W3_.2 c_1) ?_
    show zz G mX9_spread 2 0 0 Q 73 [some (.ref 32), none, some (.int l2), some (.int (zfor (fX9_spread_18 l2) 256 ((0 : Int32), x1_)).1), none] [] (hh P (zfor (fX9_spread_18 l2) 256 ((0 : Int32), x1_)).2) 0 0
    refine z_goto (tgt := 9) dX9_spread_73 (by decide) ?_
    simpa only [if_neg c_1] using k_

theorem dX9_spread_0 : decode cX9_spread 0 = .ok (.aload_n 0, 1) := by decide +kernel
theorem dX9_spread_1 : decode cX9_spread 1 = .ok (.getfield 13, 3) := by decide +kernel
theorem dX9_spread_4 : decode cX9_spread 4 = .ok (.iload_n 1, 1) := by decide +kernel
theorem dX9_spread_5 : decode cX9_spread 5 = .ok (.iconst 1, 1) := by decide +kernel
theorem dX9_spread_6 : decode cX9_spread 6 = .ok (.bastore, 1) := by decide +kernel
theorem dX9_spread_7 : decode cX9_spread 7 = .ok (.iconst 1, 1) := by decide +kernel
theorem dX9_spread_8 : decode cX9_spread 8 = .ok (.istore_n 3, 1) := by decide +kernel
theorem dX9_spread_76 : decode cX9_spread 76 = .ok (.return_, 1) := by decide +kernel
noncomputable def vX9_spread_1 (a1 : Int32) (a2 : Int32) (σ : zc_N) : zc_N := (zfor (fX9_spread_18 a2) 256 ((0 : Int32), ((wX9_spread_9 a2 ((1 : Int32), (zu σ 34 (zu (σ 34) a1.toNatClampNeg (1 : Int32))))).2))).2
noncomputable def vX9_spread_2 (a1 : Int32) (a2 : Int32) (σ : zc_N) : Int32 := (zfor (fX9_spread_18 a2) 256 ((0 : Int32), ((wX9_spread_9 a2 ((1 : Int32), (zu σ 34 (zu (σ 34) a1.toNatClampNeg (1 : Int32))))).2))).1
def pX9_spread (σ : zc_N) (a1 : Int32) (a2 : Int32) : Prop := (vp_in a1 256 ∧ (((∃ n_ : Nat, eX9_spread_9 (zit (fX9_spread_9 a2) n_ ((1 : Int32), (zu σ 34 (zu (σ 34) a1.toNatClampNeg (1 : Int32)))))) ∧ (∀ i9_ : Nat, i9_ < (zwn (fun n_ => eX9_spread_9 (zit (fX9_spread_9 a2) n_ ((1 : Int32), (zu σ 34 (zu (σ 34) a1.toNatClampNeg (1 : Int32))))))) → qX9_spread_9 a2 (zit (fX9_spread_9 a2) i9_ ((1 : Int32), (zu σ 34 (zu (σ 34) a1.toNatClampNeg (1 : Int32))))))) ∧ (((wX9_spread_9 a2 ((1 : Int32), (zu σ 34 (zu (σ 34) a1.toNatClampNeg (1 : Int32))))).1 = (0 : Int32) → True) ∧ (¬ (wX9_spread_9 a2 ((1 : Int32), (zu σ 34 (zu (σ 34) a1.toNatClampNeg (1 : Int32))))).1 = (0 : Int32) → (∀ i18_ : Nat, i18_ < 256 → qX9_spread_18 a2 i18_ (zfor (fX9_spread_18 a2) i18_ ((0 : Int32), ((wX9_spread_9 a2 ((1 : Int32), (zu σ 34 (zu (σ 34) a1.toNatClampNeg (1 : Int32))))).2))))))))
noncomputable def sX9_spread (σ : zc_N) (a1 : Int32) (a2 : Int32) : zc_N := (wX9_spread_9 a2 ((1 : Int32), (zu σ 34 (zu (σ 34) a1.toNatClampNeg (1 : Int32))))).2
set_option maxHeartbeats 1000000 in
theorem ctX9_spread (P : zp) (σ : zc_N) (a1 : Int32) (a2 : Int32) (W_ : (pX9_spread σ a1 a2)) : sp mX9_spread 2 0 0 [.ref 32, .int a1, .int a2] (hh P σ) (fun r_ h_ => r_ = none ∧ h_ = hh P (sX9_spread σ a1 a2)) := by
  refine sp_of (lv := [some (.ref 32), some (.int a1), some (.int a2), none, none]) (by decide) (zcats_ok _ rfl) (Nat.le_of_ble_eq_true rfl) (zlv_ok _ 2 rfl) (fun G => ?_)
  generalize hQ_ : (fun (r_ : Option Value) (h_ : zc_H) => r_ = none ∧ h_ = hh P (sX9_spread σ a1 a2)) = Q_
  unfold pX9_spread at W_
  refine z_aloadr_n dX9_spread_0 rfl ?_
  refine z_get (ci := 9) (r := (RX9, TX9, 38)) (j := 1) (v := .ref 34) dX9_spread_1 (Nat.le_of_ble_eq_true rfl) (zN rfl) rfl rfl (Nat.le_of_ble_eq_true rfl) fl_X9_13 rfl ?_
  refine z_iload_n dX9_spread_4 rfl ?_
  refine z_iconst dX9_spread_5 k_iconst_1 ?_
  refine z_bast (σ' := (zu σ 34 (zu (σ 34) a1.toNatClampNeg (1 : Int32)))) dX9_spread_6 (Nat.le_of_ble_eq_true rfl) (zN rfl) rfl W_.1 rfl rfl ?_
  refine z_iconst dX9_spread_7 k_iconst_1 ?_
  refine z_istore_n (lv' := [some (.ref 32), some (.int a1), some (.int a2), some (.int (1 : Int32)), none]) dX9_spread_8 (Nat.le_of_ble_eq_true rfl) rfl ?_
  refine zz_sub (lv' := [some (.ref 32), none, some (.int a2), some (.int (1 : Int32)), none]) ⟨rfl, ⟨rfl, ⟨rfl, trivial⟩⟩⟩ ?_
  refine whX9_spread_9 P (zu σ 34 (zu (σ 34) a1.toNatClampNeg (1 : Int32))) a2 (1 : Int32) W_.2.1.1 W_.2.1.2 (fun hX9_ => ?_)
  rw [eX9_spread_9] at hX9_
  try dsimp only at hX9_
  show zz G mX9_spread 2 0 0 Q_ 9 [some (.ref 32), none, some (.int a2), some (.int (wX9_spread_9 a2 ((1 : Int32), (zu σ 34 (zu (σ 34) a1.toNatClampNeg (1 : Int32))))).1), none] [] (hh P (wX9_spread_9 a2 ((1 : Int32), (zu σ 34 (zu (σ 34) a1.toNatClampNeg (1 : Int32))))).2) 0 0
  refine z_iload_n dX9_spread_9 rfl ?_
  refine z_if_eq (tgt := 76) dX9_spread_10 (by decide) (fun c_1 => ?_) (fun c_1 => ?_)
  · exact z_return dX9_spread_76 rfl (Nat.le_of_ble_eq_true rfl) (Nat.le_of_ble_eq_true rfl) (by rw [← hQ_]; exact ⟨rfl, (by rw [sX9_spread])⟩)
  · refine z_iconst dX9_spread_13 k_iconst_0 ?_
    refine z_istore_n (lv' := [some (.ref 32), none, some (.int a2), some (.int (0 : Int32)), none]) dX9_spread_14 (Nat.le_of_ble_eq_true rfl) rfl ?_
    refine z_iconst dX9_spread_15 k_iconst_0 ?_
    refine z_istore (lv' := [some (.ref 32), none, some (.int a2), some (.int (0 : Int32)), some (.int (0 : Int32))]) dX9_spread_16 (Nat.le_of_ble_eq_true rfl) rfl ?_
    refine lpX9_spread_18 P ((wX9_spread_9 a2 ((1 : Int32), (zu σ 34 (zu (σ 34) a1.toNatClampNeg (1 : Int32))))).2) a2 (0 : Int32) (W_.2.2.2 c_1) ?_
    show zz G mX9_spread 2 0 0 Q_ 73 [some (.ref 32), none, some (.int a2), some (.int (vX9_spread_2 a1 a2 σ)), none] [] (hh P (vX9_spread_1 a1 a2 σ)) 0 0
    refine z_goto (tgt := 9) dX9_spread_73 (by decide) ?_
    exact (ex_r hX9_ c_1).elim
