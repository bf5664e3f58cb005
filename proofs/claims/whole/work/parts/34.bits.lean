/-! ===== bits: small facts that are decided ===== -/
def pcn : Nat → Nat → Nat
  | 0, _ => 0
  | k + 1, n => n % 2 + pcn k (n / 2)
set_option maxRecDepth 100000 in
theorem bc8 : ∀ n, n < 256 → rJ6_bitCount_0f7a4 (nI n) = nI (pcn 8 n) := by decide +kernel
