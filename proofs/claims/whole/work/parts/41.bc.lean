/-! ===== pure rows: counts of bits; feed and row ===== -/
def bcN (n : Nat) : Nat :=
  let a := n - ((n / 2) &&& 1431655765)
  let b := (a &&& 858993459) + ((a / 4) &&& 858993459)
  let c := (b + b / 16) &&& 252645135
  let d := c + c / 256
  (d + d / 65536) &&& 63
theorem bc_n {n : Nat} (hn : n < 2 ^ 20) : rJ6_bitCount_0f7a4 (nI n) = nI (bcN n) := by
  have h1 : (n / 2) &&& 1431655765 ≤ n := Nat.le_trans Nat.and_le_left (Nat.div_le_self _ _)
  have u1 : zushr (nI n) (1 : Int32) = nI (n / 2) := by
    have := zushr_n (n := n) (k := 1) (by omega) (by decide)
    exact this
  unfold rJ6_bitCount_0f7a4 vJ6_bitCount_0f7a4_2 vJ6_bitCount_0f7a4_1
  rw [u1, show (1431655765 : Int32) = nI 1431655765 from rfl, and_n, sub_n h1]
  have ha : n - (n / 2 &&& 1431655765) < 2 ^ 20 := by omega
  unfold bcN
  generalize n - (n / 2 &&& 1431655765) = a at ha ⊢
  have u2 : zushr (nI a) (2 : Int32) = nI (a / 4) := zushr_n (n := a) (k := 2) (by omega) (by decide)
  dsimp only
  rw [u2, show (858993459 : Int32) = nI 858993459 from rfl, and_n, and_n, nI_add]
  have hb : (a &&& 858993459) + (a / 4 &&& 858993459) < 2 ^ 22 := by
    have g1 : (a &&& 858993459) ≤ a := Nat.and_le_left
    have g2 : (a / 4 &&& 858993459) ≤ a / 4 := Nat.and_le_left
    omega
  generalize (a &&& 858993459) + (a / 4 &&& 858993459) = b at hb ⊢
  have u3 : zushr (nI b) (4 : Int32) = nI (b / 16) := zushr_n (n := b) (k := 4) (by omega) (by decide)
  rw [u3, nI_add, show (252645135 : Int32) = nI 252645135 from rfl, and_n]
  have hc : (b + b / 16) &&& 252645135 < 2 ^ 24 := by
    have g1 : (b + b / 16) &&& 252645135 ≤ b + b / 16 := Nat.and_le_left
    omega
  generalize (b + b / 16) &&& 252645135 = c at hc ⊢
  have u4 : zushr (nI c) (8 : Int32) = nI (c / 256) := zushr_n (n := c) (k := 8) (by omega) (by decide)
  rw [u4, nI_add]
  have hd : c + c / 256 < 2 ^ 26 := by omega
  generalize c + c / 256 = d at hd ⊢
  have u5 : zushr (nI d) (16 : Int32) = nI (d / 65536) := zushr_n (n := d) (k := 16) (by omega) (by decide)
  rw [u5, nI_add, show (63 : Int32) = nI 63 from rfl, and_n]
theorem bcN_12 : ∀ a, a < 64 → ∀ b, b < 64 → bcN (64 * a + b) = pcn 12 (64 * a + b) := by decide +kernel
set_option maxRecDepth 100000 in
theorem bcN_16 : ∀ a, a < 256 → ∀ b, b < 256 → bcN (2 * (a * 256 + b)) = pcn 8 a + pcn 8 b := by decide +kernel
