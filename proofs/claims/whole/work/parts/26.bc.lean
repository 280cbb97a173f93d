/-! counting bits -/
def pcn (k : Nat) : Nat := zcnt (fun i => k.testBit i) 12
theorem bc_all : ∀ a b : Fin 64, sp_J6_bitCount_0f7a4 (nI (64 * a.val + b.val)) = nI (pcn (64 * a.val + b.val)) := by decide +kernel
def bsL : Nat → Int32 → Int32 → Option Int32
  | 0, _, _ => none
  | n + 1, u1, u2 => if u2 = 0 then some u1 else bsL n (u1 + 1) (u2 &&& (u2 - 1))
theorem bs_all : ∀ a b : Fin 64, bsL 20 0 (nI (64 * a.val + b.val)) = some (nI (pcn (64 * a.val + b.val))) := by decide +kernel
theorem bs_up : ∀ (n m : Nat) (u1 u2 r : Int32), n ≤ m → bsL n u1 u2 = some r → sp_X6_bitsOf_4 m u1 u2 = some r := by
  intro n
  induction n with
  | zero => intro m u1 u2 r _ h; exact absurd h (by simp [bsL])
  | succ n ih =>
    intro m u1 u2 r hm h
    obtain ⟨q, rfl⟩ : ∃ q, m = q + 1 := ⟨m - 1, by omega⟩
    rw [bsL] at h
    rw [sp_X6_bitsOf_4]
    by_cases z : u2 = 0
    · rw [if_pos z] at h
      rw [if_pos z]
      exact h
    · rw [if_neg z] at h
      rw [if_neg z]
      exact ih q _ _ _ (by omega) h
theorem bc1 {k : Nat} (h : k < 4096) : sp_J6_bitCount_0f7a4 (nI k) = nI (pcn k) := by
  have := bc_all ⟨k / 64, by omega⟩ ⟨k % 64, by omega⟩
  simp only at this
  rw [show 64 * (k / 64) + k % 64 = k by omega] at this
  exact this
theorem bc6 {k : Nat} (h : k < 4096) : sp_X6_bitsOf (nI k) = some (nI (pcn k)) := by
  have := bs_all ⟨k / 64, by omega⟩ ⟨k % 64, by omega⟩
  simp only at this
  rw [show 64 * (k / 64) + k % 64 = k by omega] at this
  exact bs_up 20 5000 _ _ _ (by omega) this
theorem tb_nI {k : Nat} (h : k < 2 ^ 32) (i : Nat) : tb (nI k) i = k.testBit i := by
  unfold tb
  rw [← BitVec.testBit_toNat, pk_tn h]
theorem nI_toNat (x : Int32) : nI x.toBitVec.toNat = x := by
  apply Int32.toBitVec_inj.mp
  apply BitVec.eq_of_toNat_eq
  rw [pk_tn x.toBitVec.isLt]
theorem set12 {x : Int32} {n : Nat} (hn : n ≤ 12) (h : ∀ i, tb x i = true → i < n) : ∃ k, k < 2 ^ n ∧ k < 4096 ∧ x = nI k := by
  have h1 : x.toBitVec.toNat < 2 ^ n := by
    apply Nat.lt_pow_two_of_testBit
    intro i hi
    rw [BitVec.testBit_toNat]
    by_cases q : tb x i = true
    · exact absurd (h i q) (by omega)
    · have : tb x i = false := by revert q; cases tb x i <;> simp
      exact this
  have h2 : 2 ^ n ≤ 2 ^ 12 := Nat.pow_le_pow_right (by decide) hn
  exact ⟨x.toBitVec.toNat, h1, by omega, (nI_toNat x).symm⟩
theorem bc_both {x : Int32} {n : Nat} (hn : n ≤ 12) (h : ∀ i, tb x i = true → i < n) : sp_X6_bitsOf x = some (sp_J6_bitCount_0f7a4 x) := by
  obtain ⟨k, _, h2, rfl⟩ := set12 hn h
  rw [bc1 h2, bc6 h2]
theorem bc_val {x : Int32} {n : Nat} (hn : n ≤ 12) (h : ∀ i, tb x i = true → i < n) : sp_J6_bitCount_0f7a4 x = nI (zcnt (tb x) n) := by
  obtain ⟨k, h1, h2, rfl⟩ := set12 hn h
  rw [bc1 h2]
  congr 1
  unfold pcn
  have e : ∀ i, tb (nI k) i = k.testBit i := tb_nI (by omega)
  rw [zcnt_same (a := n) 12 hn]
  · apply zcnt_congr
    intro j _
    rw [e]
  · intro j h3 h4
    rw [← e]
    by_cases q : tb (nI k) j = true
    · exact absurd (h j q) (by omega)
    · revert q; cases tb (nI k) j <;> simp
