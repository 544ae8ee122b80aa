/-! numbers of orders -/
theorem i32n {z : Int} (z0 : 0 ≤ z) (z1 : z < 2147483648) : (Int32.ofInt z).toBitVec.toNat = z.toNat := by
  have h2 : (Int32.ofInt z).toInt = z := i32i ⟨by omega, by omega⟩
  have h3 : (Int32.ofInt z).toBitVec.toInt = z := h2
  rw [BitVec.toInt_eq_toNat_cond] at h3
  split at h3
  · omega
  · have := (Int32.ofInt z).toBitVec.isLt; omega
theorem qor_add {a b : Int} {k : Nat} (hk : k < 31) (a0 : 0 ≤ a) (hs : a * (2 ^ k : Nat) < 2147483648) (b0 : 0 ≤ b) (b1 : b < (2 ^ k : Nat)) (hr : a * (2 ^ k : Nat) + b < 2147483648) : iBin 4 (a * (2 ^ k : Nat)) b = a * (2 ^ k : Nat) + b := by
  have hp : (0 : Int) ≤ a * (2 ^ k : Nat) := Int.mul_nonneg a0 (Int.natCast_nonneg _)
  have e1 := i32n hp hs
  have e2 := i32n (z := b) b0 (by omega)
  have ea : (a * (2 ^ k : Nat)).toNat = a.toNat <<< k := by
    rw [Nat.shiftLeft_eq, Int.toNat_mul a0 (Int.natCast_nonneg _), Int.toNat_natCast]
  have eo : (a * (2 ^ k : Nat)).toNat ||| b.toNat = (a * (2 ^ k : Nat)).toNat + b.toNat := by
    rw [ea]
    exact (Nat.shiftLeft_add_eq_or_of_lt (by omega) _).symm
  show ((Int32.ofInt _).toBitVec ||| (Int32.ofInt b).toBitVec).toInt = _
  rw [BitVec.toInt_eq_toNat_cond, BitVec.toNat_or, e1, e2, eo, if_pos (by omega)]
  omega
theorem qshl {a b : Int} {k : Nat} (e : (Int32.ofInt b &&& 31).toBitVec.smod 32 = BitVec.ofNat 32 k) (hk : k < 31) (a0 : 0 ≤ a) (hr : a * (2 ^ k : Nat) < 2147483648) : iBin 6 a b = a * (2 ^ k : Nat) := by
  have hp : (0 : Int) ≤ a * (2 ^ k : Nat) := Int.mul_nonneg a0 (Int.natCast_nonneg _)
  have h1 : (1 : Int) ≤ (2 ^ k : Nat) := by have := Nat.two_pow_pos k; omega
  have ha : a ≤ a * (2 ^ k : Nat) := by
    have := Int.mul_le_mul_of_nonneg_left h1 a0
    omega
  have e1 := i32n (z := a) a0 (by omega)
  have ea : a.toNat <<< k = (a * (2 ^ k : Nat)).toNat := by
    rw [Nat.shiftLeft_eq, Int.toNat_mul a0 (Int.natCast_nonneg _), Int.toNat_natCast]
  show ((Int32.ofInt a).toBitVec <<< ((Int32.ofInt b &&& 31).toBitVec.smod 32)).toInt = _
  rw [e, BitVec.shiftLeft_eq', BitVec.toInt_eq_toNat_cond, BitVec.toNat_shiftLeft, e1, BitVec.toNat_ofNat, Nat.mod_eq_of_lt (show k < 2 ^ 32 by omega), ea, Nat.mod_eq_of_lt (by omega), if_pos (by omega)]
  omega
theorem qshr {a b : Int} {k : Nat} (e : (Int32.ofInt b &&& 31).toBitVec.smod 32 = BitVec.ofNat 32 k) (hk : k < 31) (a0 : 0 ≤ a) (a1 : a < 2147483648) : iBin 7 a b = a / (2 ^ k : Nat) := by
  have h2 : (Int32.ofInt a).toBitVec.toInt = a := i32i ⟨by omega, a1⟩
  show ((Int32.ofInt a).toBitVec.sshiftRight' ((Int32.ofInt b &&& 31).toBitVec.smod 32)).toInt = _
  rw [e, BitVec.sshiftRight_eq', BitVec.toInt_sshiftRight, h2, BitVec.toNat_ofNat, Nat.mod_eq_of_lt (show k < 2 ^ 32 by omega), Int.shiftRight_eq_div_pow]
theorem qand {a b : Int} {k : Nat} (hk : k < 31) (hb : b = (2 ^ k : Nat) - 1) (a0 : 0 ≤ a) (a1 : a < 2147483648) : iBin 3 a b = a % (2 ^ k : Nat) := by
  have hp := Nat.two_pow_pos k
  have hl : 2 ^ k ≤ 2 ^ 30 := Nat.pow_le_pow_right (by omega) (by omega)
  have e1 := i32n (z := a) a0 a1
  have e2 := i32n (z := b) (by omega) (by omega)
  have eb : b.toNat = 2 ^ k - 1 := by omega
  have hm := Nat.mod_lt a.toNat hp
  show ((Int32.ofInt a).toBitVec &&& (Int32.ofInt b).toBitVec).toInt = _
  rw [BitVec.toInt_eq_toNat_cond, BitVec.toNat_and, e1, e2, eb, Nat.and_two_pow_sub_one_eq_mod, if_pos (by omega), Int.natCast_emod, Int.toNat_of_nonneg a0]
/-- who is left -/
def uz (us : Int) (n : Nat) : Nat := ((List.range n).filter (fun k : Nat => decide (bt us (k : Int) = 0))).length
def chkU (us : Nat) : Bool := (List.range 7).all (fun n => !decide (us < 2 ^ n) || (decide (uz (us : Int) n = 0 ↔ (us : Int) = iBin 6 1 (n : Int) - 1) && (List.range n).all (fun i => decide (bt (us : Int) (i : Int) = 0 ∨ bt (us : Int) (i : Int) = 1) && decide (bt (iBin 6 1 (n : Int) - 1 - (us : Int)) (i : Int) = 1 - bt (us : Int) (i : Int)) && (!decide (bt (us : Int) (i : Int) = 0) || (decide (0 ≤ iBin 4 (us : Int) (iBin 6 1 (i : Int))) && decide (iBin 4 (us : Int) (iBin 6 1 (i : Int)) < (2 ^ n : Nat)) && decide (uz (iBin 4 (us : Int) (iBin 6 1 (i : Int))) n + 1 = uz (us : Int) n) && decide (iBin 3 (iBin 6 1 (n : Int) - 1 - (us : Int)) (iBin 5 (iBin 6 1 (i : Int)) (-1)) = iBin 6 1 (n : Int) - 1 - iBin 4 (us : Int) (iBin 6 1 (i : Int))))))))
theorem chkU_all : (List.range 64).all (fun n => chkU n) = true := by decide +kernel
theorem uz_of {us : Int} {n : Nat} (hn : n ≤ 6) (u0 : 0 ≤ us) (u1 : us < (2 ^ n : Nat)) : (uz us n = 0 ↔ us = iBin 6 1 (n : Int) - 1) ∧ ∀ i : Int, 0 ≤ i → i < n → (bt us i = 0 ∨ bt us i = 1) ∧ bt (iBin 6 1 (n : Int) - 1 - us) i = 1 - bt us i ∧ (bt us i = 0 → (0 ≤ iBin 4 us (iBin 6 1 i) ∧ iBin 4 us (iBin 6 1 i) < (2 ^ n : Nat)) ∧ uz (iBin 4 us (iBin 6 1 i)) n + 1 = uz us n ∧ iBin 3 (iBin 6 1 (n : Int) - 1 - us) (iBin 5 (iBin 6 1 i) (-1)) = iBin 6 1 (n : Int) - 1 - iBin 4 us (iBin 6 1 i)) := by
  have hl : 2 ^ n ≤ 2 ^ 6 := Nat.pow_le_pow_right (by omega) hn
  have h := List.all_eq_true.mp chkU_all us.toNat (List.mem_range.mpr (by omega))
  unfold chkU at h
  have h2 := List.all_eq_true.mp h n (List.mem_range.mpr (by omega))
  rw [Int.toNat_of_nonneg u0] at h2
  simp only [Bool.or_eq_true, Bool.not_eq_true', decide_eq_false_iff_not, Bool.and_eq_true, decide_eq_true_eq, List.all_eq_true] at h2
  have h3 := h2.resolve_left (fun q => q (by omega))
  refine ⟨h3.1, fun i i0 i1 => ?_⟩
  have h4 := h3.2 i.toNat (List.mem_range.mpr (by omega))
  rw [Int.toNat_of_nonneg i0] at h4
  refine ⟨h4.1.1, h4.1.2, fun q => ?_⟩
  have h5 := h4.2.resolve_left (fun z => z q)
  exact ⟨h5.1.1, h5.1.2, h5.2⟩
