/-! rests of whole numbers by a positive one, as the machine takes them -/
def iZ (z : Int) : Int32 := Int32.ofInt z
theorem iZ_nat (n : Nat) : iZ (n : Int) = nI n := Int32.ofInt_eq_ofNat
theorem iZ_sub (x y : Int) : iZ x - iZ y = iZ (x - y) := (Int32.ofInt_sub x y).symm
theorem iZ_add (x y : Int) : iZ x + iZ y = iZ (x + y) := (Int32.ofInt_add x y).symm
theorem iZ_mul (x y : Int) : iZ x * iZ y = iZ (x * y) := (Int32.ofInt_mul x y).symm
theorem iZ_toInt {z : Int} (h1 : -(2 ^ 31) ≤ z) (h2 : z < 2 ^ 31) : (iZ z).toInt = z := Int32.toInt_ofInt_of_le (by omega) (by omega)
theorem iZ_of (x : Int32) : iZ x.toInt = x := Int32.ofInt_toInt x

theorem ir_nem1 {m : Nat} (hm : m < 2 ^ 31) : nI m ≠ -1 := fun h => by
  have h1 := congrArg Int32.toInt h
  rw [nI_toInt hm] at h1
  have h9 : (-1 : Int32).toInt = -1 := by decide
  omega
theorem ir_quo {x : Int32} {m : Nat} (hm : m < 2 ^ 31) : x / nI m = iZ (x.toInt.tdiv m) := by
  rw [← iZ_of (x / nI m), Int32.toInt_div_of_ne_right _ _ (ir_nem1 hm), nI_toInt hm]
theorem ir_rem {x : Int32} {m : Nat} (hm : m < 2 ^ 31) : x - x / nI m * nI m = iZ (x.toInt.tmod m) := by
  rw [ir_quo hm]
  conv => lhs; lhs; rw [← iZ_of x]
  rw [← iZ_nat m, iZ_mul, iZ_sub, Int.tmod_def, Int.mul_comm]
theorem ir_xor {x : Int32} {m : Nat} (hm : m < 2 ^ 31) : 0 ≤ x ^^^ nI m ↔ 0 ≤ x := by
  have a := BitVec.msb_eq_toInt (x := (x ^^^ nI m).toBitVec)
  have b := BitVec.msb_eq_toInt (x := x.toBitVec)
  have c := BitVec.msb_eq_toInt (x := (nI m).toBitVec)
  have d : (nI m).toBitVec.toInt = (m : Int) := nI_toInt hm
  rw [d] at c
  rw [Int32.toBitVec_xor, BitVec.msb_xor, b, c, decide_eq_false (show ¬ ((m : Int) < 0) by omega), Bool.xor_false, decide_eq_decide, ← Int32.toBitVec_xor] at a
  have a' : x.toInt < 0 ↔ (x ^^^ nI m).toInt < 0 := a
  rw [Int32.le_iff_toInt_le, Int32.le_iff_toInt_le]
  have h9 : (0 : Int32).toInt = 0 := rfl
  omega
theorem ir_tb {z : Int} {m : Nat} (h0 : 0 < m) : -(m : Int) < z.tmod m ∧ z.tmod m < m := by
  have h1 := Int.emod_nonneg z (show (m : Int) ≠ 0 by omega)
  have h2 := Int.emod_lt_of_pos z (show (0 : Int) < m by omega)
  rw [Int.tmod_eq_emod]
  have h3 : ((m : Int).natAbs : Int) = m := by simp
  split <;> omega
/-- the rest, not below 0 -/
theorem ir_pos {x : Int32} {m : Nat} (h0 : 0 < m) (hx : 0 ≤ x) : iZ (x.toInt.tmod m) = nI (x.toInt % m).toNat := by
  have hx' : 0 ≤ x.toInt := by
    rw [Int32.le_iff_toInt_le] at hx
    exact hx
  rw [Int.tmod_eq_emod_of_nonneg hx', ← iZ_nat, Int.toNat_of_nonneg (Int.emod_nonneg _ (by omega))]
theorem ir_tz {z : Int} {m : Nat} (h0 : 0 < m) (hm : m < 2 ^ 31) (h : iZ (z.tmod m) = 0) : z.tmod m = 0 := by
  have h1 := ir_tb (z := z) h0
  have h2 := congrArg Int32.toInt h
  rw [iZ_toInt (by omega) (by omega)] at h2
  exact h2
theorem ir_neg0 {x : Int32} {m : Nat} (h0 : 0 < m) (hm : m < 2 ^ 31) (h : iZ (x.toInt.tmod m) = 0) : iZ (x.toInt.tmod m) = nI (x.toInt % m).toNat := by
  have h2 := ir_tz h0 hm h
  rw [h2, Int.emod_eq_zero_of_dvd (Int.dvd_of_tmod_eq_zero h2)]
  rfl
theorem ir_neg {x : Int32} {m : Nat} (h0 : 0 < m) (hx : ¬ 0 ≤ x) (h : ¬ iZ (x.toInt.tmod m) = 0) : iZ (x.toInt.tmod m) + nI m = nI (x.toInt % m).toNat := by
  have hx' : x.toInt < 0 := by
    rw [Int32.le_iff_toInt_le] at hx
    have h9 : (0 : Int32).toInt = 0 := rfl
    omega
  have e : x.toInt % m = x.toInt.tmod m + m := by
    rw [Int.emod_eq_tmod, if_neg]
    · simp
    · rintro (h1 | h1)
      · omega
      · exact h (by rw [Int.tmod_eq_zero_of_dvd h1]; rfl)
  rw [← iZ_nat, ← iZ_nat, Int.toNat_of_nonneg (Int.emod_nonneg _ (by omega)), iZ_add, e]

theorem lr_nem1 {m : Nat} (hm : m < 2 ^ 31) : lN m ≠ -1 := fun h => by
  have h1 := congrArg Int64.toInt h
  rw [lN_toInt hm] at h1
  have h9 : (-1 : Int64).toInt = -1 := by decide
  omega
theorem lr_quo {x : Int64} {m : Nat} (hm : m < 2 ^ 31) : x / lN m = lZ (x.toInt.tdiv m) := by
  rw [← lZ_of (x / lN m), Int64.toInt_div_of_ne_right _ _ (lr_nem1 hm), lN_toInt hm]
theorem lr_rem {x : Int64} {m : Nat} (hm : m < 2 ^ 31) : x - x / lN m * lN m = lZ (x.toInt.tmod m) := by
  rw [lr_quo hm]
  conv => lhs; lhs; rw [← lZ_of x]
  rw [← lZ_nat m, lZ_mul, lZ_sub, Int.tmod_def, Int.mul_comm]
theorem lr_xor {x : Int64} {m : Nat} (hm : m < 2 ^ 31) : 0 ≤ x ^^^ lN m ↔ 0 ≤ x := by
  have a := BitVec.msb_eq_toInt (x := (x ^^^ lN m).toBitVec)
  have b := BitVec.msb_eq_toInt (x := x.toBitVec)
  have c := BitVec.msb_eq_toInt (x := (lN m).toBitVec)
  have d : (lN m).toBitVec.toInt = (m : Int) := lN_toInt hm
  rw [d] at c
  rw [Int64.toBitVec_xor, BitVec.msb_xor, b, c, decide_eq_false (show ¬ ((m : Int) < 0) by omega), Bool.xor_false, decide_eq_decide, ← Int64.toBitVec_xor] at a
  have a' : x.toInt < 0 ↔ (x ^^^ lN m).toInt < 0 := a
  rw [Int64.le_iff_toInt_le, Int64.le_iff_toInt_le]
  have h9 : (0 : Int64).toInt = 0 := rfl
  omega
theorem lr_tb {z : Int} {m : Nat} (h0 : 0 < m) : -(m : Int) < z.tmod m ∧ z.tmod m < m := by
  have h1 := Int.emod_nonneg z (show (m : Int) ≠ 0 by omega)
  have h2 := Int.emod_lt_of_pos z (show (0 : Int) < m by omega)
  rw [Int.tmod_eq_emod]
  have h3 : ((m : Int).natAbs : Int) = m := by simp
  split <;> omega
/-- the rest, not below 0 -/
theorem lr_pos {x : Int64} {m : Nat} (h0 : 0 < m) (hx : 0 ≤ x) : lZ (x.toInt.tmod m) = lN (x.toInt % m).toNat := by
  have hx' : 0 ≤ x.toInt := by
    rw [Int64.le_iff_toInt_le] at hx
    exact hx
  rw [Int.tmod_eq_emod_of_nonneg hx', ← lZ_nat, Int.toNat_of_nonneg (Int.emod_nonneg _ (by omega))]
theorem lr_tz {z : Int} {m : Nat} (h0 : 0 < m) (hm : m < 2 ^ 31) (h : lZ (z.tmod m) = 0) : z.tmod m = 0 := by
  have h1 := lr_tb (z := z) h0
  have h2 := congrArg Int64.toInt h
  rw [lZ_toInt (by omega) (by omega)] at h2
  exact h2
theorem lr_neg0 {x : Int64} {m : Nat} (h0 : 0 < m) (hm : m < 2 ^ 31) (h : lZ (x.toInt.tmod m) = 0) : lZ (x.toInt.tmod m) = lN (x.toInt % m).toNat := by
  have h2 := lr_tz h0 hm h
  rw [h2, Int.emod_eq_zero_of_dvd (Int.dvd_of_tmod_eq_zero h2)]
  rfl
theorem lr_neg {x : Int64} {m : Nat} (h0 : 0 < m) (hx : ¬ 0 ≤ x) (h : ¬ lZ (x.toInt.tmod m) = 0) : lZ (x.toInt.tmod m) + lN m = lN (x.toInt % m).toNat := by
  have hx' : x.toInt < 0 := by
    rw [Int64.le_iff_toInt_le] at hx
    have h9 : (0 : Int64).toInt = 0 := rfl
    omega
  have e : x.toInt % m = x.toInt.tmod m + m := by
    rw [Int.emod_eq_tmod, if_neg]
    · simp
    · rintro (h1 | h1)
      · omega
      · exact h (by rw [Int.tmod_eq_zero_of_dvd h1]; rfl)
  rw [← lZ_nat, ← lZ_nat, Int.toNat_of_nonneg (Int.emod_nonneg _ (by omega)), lZ_add, e]
