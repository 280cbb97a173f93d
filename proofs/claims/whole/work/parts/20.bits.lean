/-! bits of ints -/
def tb (x : Int32) (i : Nat) : Bool := x.toBitVec.getLsbD i
theorem tb_or (x y : Int32) (i : Nat) : tb (x ||| y) i = (tb x i || tb y i) := BitVec.getLsbD_or
theorem tb_and (x y : Int32) (i : Nat) : tb (x &&& y) i = (tb x i && tb y i) := BitVec.getLsbD_and
theorem tb_xor (x y : Int32) (i : Nat) : tb (x ^^^ y) i = (tb x i ^^ tb y i) := BitVec.getLsbD_xor
theorem tb_big (x : Int32) {i : Nat} (h : 32 ≤ i) : tb x i = false := BitVec.getLsbD_of_ge _ _ h
theorem tb_ext {x y : Int32} (h : ∀ i, i < 32 → tb x i = tb y i) : x = y := Int32.toBitVec_inj.mp (BitVec.eq_of_getLsbD_eq (fun i hi => h i hi))
theorem tb_0 (i : Nat) : tb 0 i = false := by
  show (0#32).getLsbD i = false
  exact BitVec.getLsbD_zero
theorem tb_1 (i : Nat) : tb 1 i = decide (i = 0) := by
  show (1#32).getLsbD i = decide (i = 0)
  rw [BitVec.getLsbD_one]
  simp
theorem tb_m1 (i : Nat) : tb (-1) i = decide (i < 32) := by
  show (BitVec.allOnes 32).getLsbD i = _
  exact BitVec.getLsbD_allOnes
theorem sh_amt : ∀ k : Fin 32, ((nI k &&& 31).toBitVec.smod 32) = BitVec.ofNat 32 k := by decide +kernel
theorem sh_amu : ∀ k : Fin 32, (((nI k).toUInt32 &&& Int32.toUInt32 31).toBitVec % 32) = BitVec.ofNat 32 k := by decide +kernel
theorem tb_shl (x : Int32) {k : Nat} (hk : k < 32) (i : Nat) : tb (xi_shl x (nI k)) i = (decide (i < 32) && !decide (i < k) && tb x (i - k)) := by
  have h := sh_amt ⟨k, hk⟩
  simp only at h
  show (x.toBitVec <<< ((nI k &&& 31).toBitVec.smod 32)).getLsbD i = _
  rw [h, BitVec.shiftLeft_eq', BitVec.getLsbD_shiftLeft, BitVec.toNat_ofNat, Nat.mod_eq_of_lt (by omega)]
  rfl
theorem tb_ushr (x : Int32) {k : Nat} (hk : k < 32) (i : Nat) : tb (xi_ushr x (nI k)) i = tb x (k + i) := by
  have h := sh_amu ⟨k, hk⟩
  simp only at h
  show (x.toBitVec >>> (((nI k).toUInt32 &&& Int32.toUInt32 31).toBitVec % 32)).getLsbD i = _
  rw [h, BitVec.ushiftRight_eq', BitVec.getLsbD_ushiftRight, BitVec.toNat_ofNat, Nat.mod_eq_of_lt (by omega)]
  rfl
theorem tb_shr0 (x : Int32) {k : Nat} (hk : k < 32) : tb (xi_shr x (nI k)) 0 = tb x k := by
  have h := sh_amt ⟨k, hk⟩
  simp only at h
  show (x.toBitVec.sshiftRight' ((nI k &&& 31).toBitVec.smod 32)).getLsbD 0 = _
  rw [h, BitVec.sshiftRight_eq', BitVec.getLsbD_sshiftRight, BitVec.toNat_ofNat, Nat.mod_eq_of_lt (by omega)]
  simp [hk]
  rfl
/-- a bit as an int -/
def bI (b : Bool) : Int32 := if b then 1 else 0
theorem and_1 (x : Int32) : x &&& 1 = bI (tb x 0) := by
  apply tb_ext
  intro i hi
  rw [tb_and, tb_1]
  unfold bI
  by_cases h : i = 0
  · subst h
    cases tb x 0 <;> simp [tb_0, tb_1]
  · cases tb x 0 <;> simp [tb_0, tb_1, h]
theorem bit_nI (x : Int32) {k : Nat} (hk : k < 32) : sp_X5_bit x (nI k) = bI (tb x k) := by
  unfold sp_X5_bit
  rw [and_1, tb_ushr x hk]
  rfl
theorem shr_nI (x : Int32) {k : Nat} (hk : k < 32) : (xi_shr x (nI k)) &&& 1 = bI (tb x k) := by
  rw [and_1, tb_shr0 x hk]
theorem bI_1 (b : Bool) : bI b = 1 ↔ b = true := by cases b <;> simp [bI]
theorem bI_0 (b : Bool) : bI b = 0 ↔ b = false := by cases b <;> simp [bI]
theorem tb_one {k : Nat} (hk : k < 32) (i : Nat) : tb (xi_shl 1 (nI k)) i = decide (i = k) := by
  rw [tb_shl 1 hk, tb_1]
  by_cases h : i = k
  · subst h; simp [hk]
  · by_cases h2 : i < k
    · simp [h, h2]
    · have : ¬ i - k = 0 := by omega
      simp [h, this]
theorem tb_bIs (b : Bool) {k : Nat} (hk : k < 32) (i : Nat) : tb (xi_shl (bI b) (nI k)) i = (decide (i = k) && b) := by
  cases b with
  | true => show tb (xi_shl 1 (nI k)) i = _; rw [tb_one hk]; simp
  | false =>
    show tb (xi_shl 0 (nI k)) i = _
    rw [tb_shl 0 hk, tb_0]
    simp
theorem eq0_iff (x : Int32) : x = 0 ↔ ∀ i, i < 32 → tb x i = false := by
  constructor
  · intro h i _; rw [h, tb_0]
  · intro h
    apply tb_ext
    intro i hi
    rw [h i hi, tb_0]
