/-! whose mind counts how often -/
def xN (k j : Nat) : Nat := if k / 2 ^ j % 2 = 0 then k + 2 ^ j else k - 2 ^ j
def oN (k j : Nat) : Nat := if k / 2 ^ j % 2 = 0 then k + 2 ^ j else k
theorem or_all : ∀ a b : Fin 64, ∀ j : Fin 12, (nI (64 * a.val + b.val) ||| xi_shl 1 (nI j.val)) = nI (oN (64 * a.val + b.val) j.val) := by decide +kernel
theorem xr_all : ∀ a b : Fin 64, ∀ j : Fin 12, (nI (64 * a.val + b.val) ^^^ xi_shl 1 (nI j.val)) = nI (xN (64 * a.val + b.val) j.val) := by decide +kernel
