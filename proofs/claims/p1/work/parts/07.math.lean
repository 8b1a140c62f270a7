/-! pure: primes by trial, the greatest one not above a number, inverses by Euclid's steps -/
def isPr (n : Nat) : Prop := 2 ≤ n ∧ ∀ d, 2 ≤ d → d * d ≤ n → n % d ≠ 0
theorem pr_exit {N d : Nat} (hN : 2 ≤ N) (h : ∀ e, 2 ≤ e → e < d → N % e ≠ 0) (hd : N < d * d) : isPr N :=
  ⟨hN, fun e h2 he => h e h2 (Nat.lt_of_not_le fun hle => by
    have := Nat.mul_le_mul hle hle
    omega)⟩
theorem pr_no {N d : Nat} (h2 : 2 ≤ d) (hle : d * d ≤ N) (h0 : N % d = 0) : ¬ isPr N := fun h => h.2 d h2 hle h0
theorem pr_two : isPr 2 := ⟨Nat.le_refl 2, fun d h2 hd => by
  have := Nat.mul_le_mul h2 h2
  omega⟩
theorem pr_step {N d : Nat} (hodd : N % 2 ≠ 0) (hd : d % 2 = 1) (h : ∀ e, 2 ≤ e → e < d → N % e ≠ 0) (h0 : N % d ≠ 0) : ∀ e, 2 ≤ e → e < d + 2 → N % e ≠ 0 := by
  intro e h2 he hz
  by_cases h1 : e < d
  · exact h e h2 h1 hz
  · by_cases h3 : e = d
    · subst h3; exact h0 hz
    · have h4 : e = d + 1 := by omega
      obtain ⟨k, hk⟩ := Nat.dvd_of_mod_eq_zero hz
      obtain ⟨j, hj⟩ : ∃ j, e = 2 * j := ⟨(d + 1) / 2, by omega⟩
      apply hodd
      rw [hk, hj, Nat.mul_assoc]
      exact Nat.mul_mod_right 2 _
theorem pr_step1 {N d : Nat} (h : ∀ e, 2 ≤ e → e < d → N % e ≠ 0) (h0 : N % d ≠ 0) : ∀ e, 2 ≤ e → e < d + 1 → N % e ≠ 0 := by
  intro e h2 he hz
  by_cases h1 : e < d
  · exact h e h2 h1 hz
  · have h3 : e = d := by omega
    subst h3
    exact h0 hz
/-- the greatest prime that isn't above the number; 2 if that is below 2 -/
def gpOf (x : Int32) (q : Nat) : Prop := isPr q ∧ q < 2 ^ 31 ∧ ((x.toInt < 2 ∧ q = 2) ∨ ((q : Int) ≤ x.toInt ∧ ∀ k : Nat, q < k → (k : Int) ≤ x.toInt → ¬ isPr k))
theorem gp_uniq {x : Int32} {q q' : Nat} (h : gpOf x q) (h' : gpOf x q') : q = q' := by
  obtain ⟨h1, -, h2⟩ := h
  obtain ⟨h1', -, h2'⟩ := h'
  have e2 := h1.1
  have e2' := h1'.1
  rcases h2 with ⟨h3, h4⟩ | ⟨h3, h4⟩ <;> rcases h2' with ⟨h3', h4'⟩ | ⟨h3', h4'⟩
  · omega
  · omega
  · omega
  · rcases Nat.lt_trichotomy q q' with h | h | h
    · exact absurd h1' (h4 q' h h3')
    · exact h
    · exact absurd h1 (h4' q h h3)
theorem pr_gcd {m v : Nat} (hp : isPr m) (h0 : 0 < v) (hv : v < m) : Nat.gcd m v = 1 := by
  have hg1 : Nat.gcd m v ∣ m := Nat.gcd_dvd_left m v
  have hg2 : Nat.gcd m v ∣ v := Nat.gcd_dvd_right m v
  have hle : Nat.gcd m v ≤ v := Nat.le_of_dvd h0 hg2
  have hpos : 0 < Nat.gcd m v := Nat.gcd_pos_of_pos_right m h0
  generalize Nat.gcd m v = g at *
  by_cases h1 : g = 1
  · exact h1
  · exfalso
    have hg : 2 ≤ g := by omega
    obtain ⟨k, hk⟩ := hg1
    have hk2 : 2 ≤ k := by
      rcases Nat.lt_or_ge k 2 with q | q
      · have : k = 0 ∨ k = 1 := by omega
        rcases this with rfl | rfl
        · omega
        · omega
      · exact q
    by_cases hc : g ≤ k
    · exact hp.2 g hg (by rw [hk]; exact Nat.mul_le_mul_left g hc) (by rw [hk]; exact Nat.mul_mod_right g k)
    · exact hp.2 k hk2 (by rw [hk]; exact Nat.mul_le_mul_right k (by omega)) (by rw [hk]; exact Nat.mul_mod_left g k)
/-- q times v is 1 modulo m -/
def invOf (m v q : Nat) : Prop := q < m ∧ (m : Int) ∣ (q : Int) * v - 1
theorem inv_uniq {m v q q' : Nat} (h : invOf m v q) (h' : invOf m v q') : q = q' := by
  obtain ⟨h1, h2⟩ := h
  obtain ⟨h1', h2'⟩ := h'
  have e : (q : Int) - q' = (q' : Int) * ((q : Int) * v - 1) - (q : Int) * ((q' : Int) * v - 1) := by grind
  have hd : (m : Int) ∣ (q : Int) - q' := by
    rw [e]
    exact Int.dvd_sub (Int.dvd_mul_of_dvd_right h2) (Int.dvd_mul_of_dvd_right h2')
  have h3 : (q : Int) % m = q' % m := Int.emod_eq_emod_iff_emod_sub_eq_zero.mpr (Int.emod_eq_zero_of_dvd hd)
  rw [Int.emod_eq_of_lt (by omega) (by omega), Int.emod_eq_of_lt (by omega) (by omega)] at h3
  omega
/-- where Euclid's steps stand: rests a, b, and what times v each is -/
def euI (m v a b : Nat) (x y : Int) : Prop := ∃ (X Y : Nat) (sg : Int), (sg = 1 ∨ sg = -1) ∧ x = sg * X ∧ y = -(sg * Y) ∧ X * b + Y * a = m ∧ b < a ∧ Nat.gcd a b = 1 ∧ (m : Int) ∣ x * v - a ∧ (m : Int) ∣ y * v - b ∧ 2 * X ≤ m
theorem eu_start {m v : Nat} (hvm : v < m) (hg : Nat.gcd m v = 1) : euI m v m v 0 1 :=
  ⟨0, 1, -1, Or.inr rfl, by omega, by omega, by omega, hvm, hg, ⟨-1, by omega⟩, ⟨0, by omega⟩, by omega⟩
theorem eu_step {m v a b : Nat} {x y : Int} (h : euI m v a b x y) (hb : 0 < b) : euI m v b (a % b) y (x - ((a / b : Nat) : Int) * y) := by
  obtain ⟨X, Y, sg, hs, hx, hy, hm, hlt, hg, d1, d2, hX⟩ := h
  have hdm : b * (a / b) + a % b = a := Nat.div_add_mod a b
  refine ⟨Y, X + (a / b) * Y, -sg, by omega, by rw [hy]; grind, by rw [hx, hy]; push_cast; grind, ?_, Nat.mod_lt a hb, ?_, d2, ?_, ?_⟩
  · rw [← hm]
    conv => rhs; rw [← hdm]
    grind
  · rw [Nat.gcd_comm, ← Nat.gcd_rec, Nat.gcd_comm]; exact hg
  · have e : (x - ((a / b : Nat) : Int) * y) * v - ((a % b : Nat) : Int) = (x * v - a) - ((a / b : Nat) : Int) * (y * v - b) := by
      have h9 : (b : Int) * ((a / b : Nat) : Int) + ((a % b : Nat) : Int) = a := by exact_mod_cast hdm
      grind
    rw [e]
    exact Int.dvd_sub d1 (Int.dvd_mul_of_dvd_right d2)
  · have h1 : Y * 2 ≤ Y * a := Nat.mul_le_mul_left Y (by omega)
    omega
theorem eu_nz {m v a b : Nat} {x y : Int} (h : euI m v a b x y) (hb : 2 ≤ b) : 0 < a % b := by
  obtain ⟨X, Y, sg, hs, hx, hy, hm, hlt, hg, -⟩ := h
  rcases Nat.eq_zero_or_pos (a % b) with h0 | h0
  · rw [Nat.gcd_comm, Nat.gcd_rec, h0, Nat.gcd_zero_left] at hg
    omega
  · exact h0
theorem eu_lt {m v a b : Nat} {x y : Int} (h : euI m v a b x y) : b < a := h.choose_spec.choose_spec.choose_spec.2.2.2.2.1
/-- the steps end soon: the product of the rests halves -/
theorem eu_half {a b k : Nat} (hb : 0 < b) (hlt : b < a) (h : a * b * 2 ^ k ≤ 2 ^ 62) : b * (a % b) * 2 ^ (k + 1) ≤ 2 ^ 62 := by
  have h1 : a % b * 2 ≤ a := by
    have h2 := Nat.mod_lt a hb
    have h3 := Nat.div_add_mod a b
    have h4 : 1 ≤ a / b := (Nat.one_le_div_iff hb).mpr (by omega)
    have h5 : b * 1 ≤ b * (a / b) := Nat.mul_le_mul_left b h4
    omega
  calc b * (a % b) * 2 ^ (k + 1) = (a % b * 2) * b * 2 ^ k := by rw [Nat.pow_succ]; grind
    _ ≤ a * b * 2 ^ k := Nat.mul_le_mul_right _ (Nat.mul_le_mul_right _ h1)
    _ ≤ 2 ^ 62 := h
theorem eu_fuel {a b k : Nat} (hb : 0 < b) (hlt : b < a) (h : a * b * 2 ^ k ≤ 2 ^ 62) : k < 63 := by
  rcases Nat.lt_or_ge k 63 with q | q
  · exact q
  · exfalso
    have h1 : 1 ≤ a * b := Nat.mul_pos (by omega) hb
    have h2 : 2 ^ 63 ≤ 2 ^ k := Nat.pow_le_pow_right (by omega) q
    have h3 : 1 * 2 ^ 63 ≤ a * b * 2 ^ k := Nat.mul_le_mul h1 h2
    omega
theorem eu_one {m v a : Nat} {x y : Int} (hm0 : 0 < m) (h : euI m v a 1 x y) : (m : Int) ∣ y * v - 1 ∧ -(m : Int) < y ∧ y < m := by
  obtain ⟨X, Y, sg, hs, hx, hy, hm, hlt, hg, d1, d2, hX⟩ := h
  have h1 : Y * 2 ≤ Y * a := Nat.mul_le_mul_left Y (by omega)
  refine ⟨by simpa using d2, ?_, ?_⟩ <;> rcases hs with rfl | rfl <;> omega
theorem eu_zero {m v a : Nat} {x y : Int} (hm0 : 0 < m) (h : euI m v a 0 x y) : (m : Int) ∣ x * v - 1 ∧ -(m : Int) < x ∧ x < m := by
  obtain ⟨X, Y, sg, hs, hx, hy, hm, hlt, hg, d1, d2, hX⟩ := h
  rw [Nat.gcd_zero_right] at hg
  subst hg
  refine ⟨by simpa using d1, ?_, ?_⟩ <;> rcases hs with rfl | rfl <;> omega
theorem inv_of {m v : Nat} {z : Int} (hm : 0 < m) (h : (m : Int) ∣ z * v - 1) : invOf m v (z % m).toNat := by
  have h0 : 0 ≤ z % (m : Int) := Int.emod_nonneg z (by omega)
  have h1 : z % (m : Int) < m := Int.emod_lt_of_pos z (by omega)
  refine ⟨by omega, ?_⟩
  rw [Int.toNat_of_nonneg h0]
  have e : z % (m : Int) * v - 1 = (z * v - 1) - m * (z / m * v) := by
    have h9 := Int.mul_ediv_add_emod z m
    grind
  rw [e]
  exact Int.dvd_sub h ⟨_, rfl⟩
/-- whole numbers as longs -/
def lZ (z : Int) : Int64 := Int64.ofInt z
theorem lZ_nat (n : Nat) : lZ (n : Int) = lN n := by
  unfold lZ lN
  exact Int64.ofInt_eq_ofNat
theorem lZ_sub (x y : Int) : lZ x - lZ y = lZ (x - y) := (Int64.ofInt_sub x y).symm
theorem lZ_add (x y : Int) : lZ x + lZ y = lZ (x + y) := (Int64.ofInt_add x y).symm
theorem lZ_mul (x y : Int) : lZ x * lZ y = lZ (x * y) := (Int64.ofInt_mul x y).symm
theorem lZ_toInt {z : Int} (h1 : -(2 ^ 62) ≤ z) (h2 : z < 2 ^ 62) : (lZ z).toInt = z := Int64.toInt_ofInt_of_le (by omega) (by omega)
theorem lZ_of (x : Int64) : lZ x.toInt = x := Int64.ofInt_toInt x
