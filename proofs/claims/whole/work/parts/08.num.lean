/-! ===== NUMBERS: powers of 65536, digits, lengths (own work) ===== -/
def tp (i : Nat) : Nat := 65536 ^ i
theorem tp_pos (i : Nat) : 0 < tp i := Nat.pow_pos (by decide)
theorem tp_0 : tp 0 = 1 := rfl
theorem tp_1 : tp 1 = 65536 := rfl
theorem tp_succ (i : Nat) : tp (i + 1) = tp i * 65536 := Nat.pow_succ _ _
theorem tp_add (i j : Nat) : tp (i + j) = tp i * tp j := Nat.pow_add ..
theorem tp_mono {i j : Nat} (h : i ≤ j) : tp i ≤ tp j := Nat.pow_le_pow_right (by decide) h
theorem tp_lt {i j : Nat} (h : i < j) : tp i < tp j := Nat.pow_lt_pow_right (by decide) h
theorem tp_two (i : Nat) : tp i = 2 ^ (16 * i) := by
  rw [Nat.pow_mul]; rfl
def dg (x i : Nat) : Nat := x / tp i % 65536
theorem dg_lt (x i : Nat) : dg x i < 65536 := Nat.mod_lt _ (by decide)
theorem mod_tp_succ (x i : Nat) : x % tp (i + 1) = x % tp i + dg x i * tp i := by
  unfold tp dg
  rw [Nat.mod_pow_succ]
  unfold tp
  rw [Nat.mul_comm]
theorem dg_0 (i : Nat) : dg 0 i = 0 := by
  unfold dg; rw [Nat.zero_div]
def ln (x : Nat) : Nat := if x = 0 then 0 else Nat.log2 x / 16 + 1
theorem ln_0 : ln 0 = 0 := rfl
theorem ln_le {x n : Nat} : ln x ≤ n ↔ x < tp n := by
  unfold ln
  by_cases hx : x = 0
  · subst hx
    simp [tp_pos]
  · rw [if_neg hx, tp_two, ← Nat.log2_lt hx]
    omega
theorem lt_ln (x : Nat) : x < tp (ln x) := ln_le.mp (Nat.le_refl _)
theorem ln_pos {x : Nat} (h : x ≠ 0) : 0 < ln x := by
  unfold ln; rw [if_neg h]; omega
theorem ln_eq_0 {x : Nat} (h : ln x = 0) : x = 0 := by
  by_cases hx : x = 0
  · exact hx
  · have := ln_pos hx; omega
theorem ln_mono {x y : Nat} (h : x ≤ y) : ln x ≤ ln y := ln_le.mpr (Nat.lt_of_le_of_lt h (lt_ln y))
theorem tp_le_of_lt_ln {x n : Nat} (h : n < ln x) : tp n ≤ x := by
  rcases Nat.lt_or_ge x (tp n) with q | q
  · have := ln_le.mpr q; omega
  · exact q
theorem dg_ge {x i : Nat} (h : x < tp i) : dg x i = 0 := by
  unfold dg; rw [Nat.div_eq_of_lt h]
theorem dg_ge_ln {x i : Nat} (h : ln x ≤ i) : dg x i = 0 := dg_ge (ln_le.mp h)
theorem dg_top {x n : Nat} (h : ln x = n + 1) : dg x n ≠ 0 := by
  have h1 : tp n ≤ x := tp_le_of_lt_ln (by omega)
  have h2 : x < tp (n + 1) := ln_le.mp (by omega)
  rw [tp_succ] at h2
  unfold dg
  have h3 : 0 < x / tp n := Nat.div_pos h1 (tp_pos n)
  have h4 : x / tp n < 65536 := (Nat.div_lt_iff_lt_mul (tp_pos n)).mpr (by rw [Nat.mul_comm]; exact h2)
  rw [Nat.mod_eq_of_lt h4]
  omega
theorem ln_eq {x n : Nat} (h1 : tp n ≤ x) (h2 : x < tp (n + 1)) : ln x = n + 1 := by
  have a := ln_le.mpr h2
  rcases Nat.lt_or_ge n (ln x) with q | q
  · omega
  · have := ln_le.mp q; omega
theorem mod_small {x n : Nat} (h : x < tp n) : x % tp n = x := Nat.mod_eq_of_lt h
/-- the number of a row of digits -/
def vl (d : Nat → Nat) : Nat → Nat
  | 0 => 0
  | n + 1 => vl d n + d n * tp n
theorem vl_congr {d f : Nat → Nat} {n : Nat} (h : ∀ i, i < n → d i = f i) : vl d n = vl f n := by
  induction n with
  | zero => rfl
  | succ n ih => simp only [vl]; rw [ih (fun i hi => h i (by omega)), h n (by omega)]
theorem vl_lt {d : Nat → Nat} {n : Nat} (h : ∀ i, i < n → d i < 65536) : vl d n < tp n := by
  induction n with
  | zero => simp [vl, tp]
  | succ n ih =>
    have h1 := ih (fun i hi => h i (by omega))
    have h2 := h n (by omega)
    simp only [vl, tp_succ]
    have h3 : d n * tp n ≤ 65535 * tp n := Nat.mul_le_mul_right _ (by omega)
    omega
theorem vl_dg (x n : Nat) : vl (dg x) n = x % tp n := by
  induction n with
  | zero => simp [vl, tp, Nat.mod_one]
  | succ n ih => simp only [vl]; rw [ih, mod_tp_succ]
theorem dg_vl {d : Nat → Nat} {n : Nat} (h : ∀ i, i < n → d i < 65536) {i : Nat} (hi : i < n) : dg (vl d n) i = d i := by
  induction n with
  | zero => omega
  | succ n ih =>
    have hl := vl_lt (d := d) (n := n) (fun i hi => h i (by omega))
    by_cases hin : i < n
    · have h1 := ih (fun i hi => h i (by omega)) hin
      rw [← h1]
      simp only [vl]
      unfold dg
      obtain ⟨k, hk⟩ : ∃ k, n = i + 1 + k := ⟨n - (i + 1), by omega⟩
      have e : d n * tp n = tp i * (65536 * (tp k * d n)) := by
        rw [hk, tp_add, tp_succ]
        simp only [Nat.mul_assoc, Nat.mul_comm, Nat.mul_left_comm]
      rw [e, Nat.add_mul_div_left _ _ (tp_pos i), Nat.add_mul_mod_self_left]
    · have : i = n := by omega
      subst this
      simp only [vl]
      unfold dg
      rw [Nat.mul_comm (d i), Nat.add_mul_div_left _ _ (tp_pos i), Nat.div_eq_of_lt hl, Nat.zero_add, Nat.mod_eq_of_lt (h i (by omega))]
theorem vl_up {d : Nat → Nat} {k n v : Nat} (hk : k < n) : vl (va_up d k v) n + d k * tp k = vl d n + v * tp k := by
  induction n with
  | zero => omega
  | succ n ih =>
    simp only [vl]
    by_cases h : k = n
    · subst h
      rw [va_up_self, vl_congr (f := d) (fun i hi => va_up_ne d v (by omega))]
      omega
    · have := ih (by omega)
      rw [va_up_ne d v (by omega)]
      omega
theorem vl_up_ge {d : Nat → Nat} {k n v : Nat} (hk : n ≤ k) : vl (va_up d k v) n = vl d n := vl_congr (fun i hi => va_up_ne d v (by omega))
theorem vl_zero {d : Nat → Nat} {n m : Nat} (hnm : n ≤ m) (h : ∀ i, n ≤ i → i < m → d i = 0) : vl d m = vl d n := by
  obtain ⟨k, rfl⟩ : ∃ k, m = n + k := ⟨m - n, by omega⟩
  induction k with
  | zero => rfl
  | succ k ih =>
    rw [← Nat.add_assoc]
    simp only [vl]
    rw [ih (by omega) (fun i h1 h2 => h i h1 (by omega)), h (n + k) (by omega) (by omega), Nat.zero_mul, Nat.add_zero]
/-! ===== Int32 and Int64 as numbers ===== -/
def iI (z : Int) : Int32 := Int32.ofInt z
def lI (z : Int) : Int64 := Int64.ofInt z
theorem nI_iI (n : Nat) : nI n = iI (n : Int) := by
  apply Int32.toInt_inj.mp
  unfold nI iI
  rw [Int32.toInt_ofNat', Int32.toInt_ofInt]
theorem lN_lI (n : Nat) : lN n = lI (n : Int) := by
  apply Int64.toInt_inj.mp
  unfold lN lI
  rw [Int64.toInt_ofNat', Int64.toInt_ofInt]
theorem iI_add (a b : Int) : iI a + iI b = iI (a + b) := (Int32.ofInt_add a b).symm
theorem iI_sub (a b : Int) : iI a - iI b = iI (a - b) := (Int32.ofInt_sub a b).symm
theorem iI_mul (a b : Int) : iI a * iI b = iI (a * b) := (Int32.ofInt_mul a b).symm
theorem iI_neg (a : Int) : -iI a = iI (-a) := (Int32.ofInt_neg a).symm
theorem lI_add (a b : Int) : lI a + lI b = lI (a + b) := (Int64.ofInt_add a b).symm
theorem lI_sub (a b : Int) : lI a - lI b = lI (a - b) := (Int64.ofInt_sub a b).symm
theorem lI_mul (a b : Int) : lI a * lI b = lI (a * b) := (Int64.ofInt_mul a b).symm
theorem lI_neg (a : Int) : -lI a = lI (-a) := (Int64.ofInt_neg a).symm
theorem iI_toInt {z : Int} (h1 : -2147483648 ≤ z) (h2 : z < 2147483648) : (iI z).toInt = z := Int32.toInt_ofInt_of_le (by simpa using h1) (by simpa using h2)
theorem lI_toInt {z : Int} (h1 : -9223372036854775808 ≤ z) (h2 : z < 9223372036854775808) : (lI z).toInt = z := Int64.toInt_ofInt_of_le (by simpa using h1) (by simpa using h2)
theorem iI_lt {a b : Int} (ha : -2147483648 ≤ a ∧ a < 2147483648) (hb : -2147483648 ≤ b ∧ b < 2147483648) : iI a < iI b ↔ a < b := by
  rw [Int32.lt_iff_toInt_lt, iI_toInt ha.1 ha.2, iI_toInt hb.1 hb.2]
theorem iI_le {a b : Int} (ha : -2147483648 ≤ a ∧ a < 2147483648) (hb : -2147483648 ≤ b ∧ b < 2147483648) : iI a ≤ iI b ↔ a ≤ b := by
  rw [Int32.le_iff_toInt_le, iI_toInt ha.1 ha.2, iI_toInt hb.1 hb.2]
theorem iI_eq {a b : Int} (ha : -2147483648 ≤ a ∧ a < 2147483648) (hb : -2147483648 ≤ b ∧ b < 2147483648) : iI a = iI b ↔ a = b := by
  rw [← Int32.toInt_inj, iI_toInt ha.1 ha.2, iI_toInt hb.1 hb.2]
theorem lI_lt {a b : Int} (ha : -9223372036854775808 ≤ a ∧ a < 9223372036854775808) (hb : -9223372036854775808 ≤ b ∧ b < 9223372036854775808) : lI a < lI b ↔ a < b := by
  rw [Int64.lt_iff_toInt_lt, lI_toInt ha.1 ha.2, lI_toInt hb.1 hb.2]
theorem lI_le {a b : Int} (ha : -9223372036854775808 ≤ a ∧ a < 9223372036854775808) (hb : -9223372036854775808 ≤ b ∧ b < 9223372036854775808) : lI a ≤ lI b ↔ a ≤ b := by
  rw [Int64.le_iff_toInt_le, lI_toInt ha.1 ha.2, lI_toInt hb.1 hb.2]
theorem lI_eq {a b : Int} (ha : -9223372036854775808 ≤ a ∧ a < 9223372036854775808) (hb : -9223372036854775808 ≤ b ∧ b < 9223372036854775808) : lI a = lI b ↔ a = b := by
  rw [← Int64.toInt_inj, lI_toInt ha.1 ha.2, lI_toInt hb.1 hb.2]
theorem iI_l {z : Int} (h1 : -2147483648 ≤ z) (h2 : z < 2147483648) : (iI z).toInt64 = lI z := by
  apply Int64.toInt_inj.mp
  rw [Int32.toInt_toInt64, iI_toInt h1 h2, lI_toInt (by omega) (by omega)]
theorem lI_i (z : Int) : (lI z).toInt32 = iI z := by
  unfold lI iI
  first | exact Int64.toInt32_ofInt | simp
theorem iI_bv (z : Int) : (iI z).toBitVec.toNat = (z % 4294967296).toNat := by
  unfold iI
  have : (Int32.ofInt z).toBitVec = BitVec.ofInt 32 z := rfl
  rw [this, BitVec.toNat_ofInt]
  rfl
theorem iI_and16 (z : Int) : iI z &&& 65535 = nI (z % 65536).toNat := by
  rw [pk_and (iI z) 16 (by decide), iI_bv]
  congr 1
  omega
theorem iI_shr16 {z : Int} (h1 : -2147483648 ≤ z) (h2 : z < 2147483648) : iI z >>> ((16 : Int32) &&& 31) = iI (z / 65536) := by
  apply Int32.toInt_inj.mp
  rw [pk_shr (iI z) _ 16 (by decide), iI_toInt h1 h2, Int.shiftRight_eq_div_pow, iI_toInt (by omega) (by omega)]
  rfl
theorem lI_bv (z : Int) : (lI z).toBitVec.toNat = (z % 18446744073709551616).toNat := by
  unfold lI
  have : (Int64.ofInt z).toBitVec = BitVec.ofInt 64 z := rfl
  rw [this, BitVec.toNat_ofInt]
  rfl
theorem lI_and16 (z : Int) : lI z &&& 65535 = lI (z % 65536) := by
  apply Int64.toBitVec_inj.mp
  apply BitVec.eq_of_toNat_eq
  rw [Int64.toBitVec_and, BitVec.toNat_and, lI_bv, lI_bv, show ((65535 : Int64).toBitVec.toNat) = 2 ^ 16 - 1 from by decide, Nat.and_two_pow_sub_one_eq_mod]
  omega
theorem lI_shr16 {z : Int} (h1 : -9223372036854775808 ≤ z) (h2 : z < 9223372036854775808) : lI z >>> ((16 : Int32).toInt64 &&& 63) = lI (z / 65536) := by
  apply Int64.toInt_inj.mp
  have e : (lI z >>> ((16 : Int32).toInt64 &&& 63)).toInt = (lI z).toInt >>> 16 := by
    show ((lI z).toBitVec.sshiftRight ((((16 : Int32).toInt64 &&& 63)).toBitVec.smod 64).toNat).toInt = _
    rw [show ((((16 : Int32).toInt64 &&& 63)).toBitVec.smod 64).toNat = 16 from by decide, BitVec.toInt_sshiftRight]
    rfl
  rw [e, lI_toInt h1 h2, Int.shiftRight_eq_div_pow, lI_toInt (by omega) (by omega)]
  rfl
theorem lI_shl16 (z : Int) : lI z <<< ((16 : Int32).toInt64 &&& 63) = lI (z * 65536) := by
  apply Int64.toBitVec_inj.mp
  apply BitVec.eq_of_toNat_eq
  rw [Int64.toBitVec_shiftLeft, show (((16 : Int32).toInt64 &&& 63).toBitVec.smod 64) = 16#64 from by decide, BitVec.shiftLeft_eq', BitVec.toNat_shiftLeft, lI_bv, lI_bv, show (16#64).toNat = 16 from rfl, Nat.shiftLeft_eq]
  omega
theorem i_l (n : Nat) (h : n < 2147483648) : (nI n).toInt64 = lI n := by
  rw [nI_iI, iI_l (by omega) (by omega)]
theorem l_i (n : Nat) : (lI n).toInt32 = nI n := by
  rw [lI_i, nI_iI]
/-! ===== carries and borrows ===== -/
theorem add_carry (x y i : Nat) : dg (x + y) i = (dg x i + dg y i + (x % tp i + y % tp i) / tp i) % 65536 ∧ (x % tp (i + 1) + y % tp (i + 1)) / tp (i + 1) = (dg x i + dg y i + (x % tp i + y % tp i) / tp i) / 65536 := by
  have hP := tp_pos i
  constructor
  · unfold dg
    have e : x + y = (x % tp i + y % tp i) + tp i * (x / tp i + y / tp i) := by
      have a := Nat.div_add_mod x (tp i)
      have b := Nat.div_add_mod y (tp i)
      rw [Nat.mul_add]
      omega
    rw [e, Nat.add_mul_div_left _ _ hP]
    have e1 : (x % tp i + y % tp i + tp i * (x / tp i + y / tp i)) = x + y := e.symm
    omega
  · rw [mod_tp_succ, mod_tp_succ, tp_succ, ← Nat.div_div_eq_div_mul]
    have e : x % tp i + dg x i * tp i + (y % tp i + dg y i * tp i) = (x % tp i + y % tp i) + tp i * (dg x i + dg y i) := by
      rw [Nat.mul_add, Nat.mul_comm (tp i), Nat.mul_comm (tp i)]
      omega
    rw [e, Nat.add_mul_div_left _ _ hP]
    congr 1
    omega
def bo (x y i : Nat) : Nat := if x % tp i < y % tp i then 1 else 0
theorem sub_borrow {x y : Nat} (h : y ≤ x) (i : Nat) : dg (x - y) i = (((dg x i : Int) - dg y i - bo x y i) % 65536).toNat ∧ (bo x y (i + 1) = if ((dg x i : Int) - dg y i - bo x y i) < 0 then 1 else 0) := by
  have hP := tp_pos i
  have a := Nat.div_add_mod x (tp i)
  have b := Nat.div_add_mod y (tp i)
  have ha := Nat.mod_lt x hP
  have hb := Nat.mod_lt y hP
  constructor
  · unfold dg bo
    by_cases hc : x % tp i < y % tp i
    · rw [if_pos hc]
      have h1 : y / tp i + 1 ≤ x / tp i := by
        rcases Nat.lt_or_ge (y / tp i) (x / tp i) with q | q
        · exact q
        · have := Nat.mul_le_mul_left (tp i) q
          omega
      obtain ⟨k, hk⟩ : ∃ k, x / tp i = y / tp i + 1 + k := ⟨x / tp i - (y / tp i + 1), by omega⟩
      have e : x - y = (tp i + x % tp i - y % tp i) + tp i * k := by
        have := congrArg (fun z => tp i * z) hk
        simp only [Nat.mul_add, Nat.mul_one] at this
        omega
      rw [e, Nat.add_mul_div_left _ _ hP, Nat.div_eq_of_lt (by omega), Nat.zero_add, hk]
      omega
    · rw [if_neg hc]
      have h1 : y / tp i ≤ x / tp i := Nat.div_le_div_right h
      obtain ⟨k, hk⟩ : ∃ k, x / tp i = y / tp i + k := ⟨x / tp i - y / tp i, by omega⟩
      have e : x - y = (x % tp i - y % tp i) + tp i * k := by
        have := congrArg (fun z => tp i * z) hk
        simp only [Nat.mul_add] at this
        omega
      rw [e, Nat.add_mul_div_left _ _ hP, Nat.div_eq_of_lt (by omega), Nat.zero_add, hk]
      omega
  · unfold bo
    rw [mod_tp_succ, mod_tp_succ]
    have h1 : ∀ p q : Nat, p < q → p * tp i + tp i ≤ q * tp i := fun p q hpq => by
      have := Nat.mul_le_mul_right (tp i) (show p + 1 ≤ q from hpq)
      rw [Nat.add_mul, Nat.one_mul] at this
      exact this
    rcases Nat.lt_trichotomy (dg x i) (dg y i) with q | q | q
    · have := h1 _ _ q
      split <;> split <;> split <;> omega
    · rw [q]
      split <;> split <;> split <;> omega
    · have := h1 _ _ q
      split <;> split <;> split <;> omega
theorem bo_0 (x y : Nat) : bo x y 0 = 0 := by
  unfold bo
  rw [tp_0, Nat.mod_one, Nat.mod_one]
  rfl
theorem div_tp (x i : Nat) : x / tp i = x / tp (i + 1) * 65536 + dg x i := by
  unfold dg
  rw [tp_succ, ← Nat.div_div_eq_div_mul]
  omega
theorem lt_of_dg {x y i : Nat} (h : x / tp (i + 1) = y / tp (i + 1)) (hd : dg x i < dg y i) : x < y := by
  have h1 := div_tp x i
  have h2 := div_tp y i
  rcases Nat.lt_or_ge x y with q | q
  · exact q
  · have := Nat.div_le_div_right (c := tp i) q
    omega
theorem lt_of_ln {x y : Nat} (h : ln x < ln y) : x < y := Nat.lt_of_lt_of_le (lt_ln x) (tp_le_of_lt_ln h)
theorem m1_iI : ((-1 : Int32)) = iI (-1) := by decide
theorem n_m1 (n : Nat) : nI n + (-1) = nI n - 1 := by
  rw [Int32.sub_eq_add_neg]
theorem n0_lt : nI 0 - 1 < 0 := by decide
