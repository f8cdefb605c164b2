/-! NUMBERS: bit operations on small naturals; sets of things as naturals below 256 -/
theorem gI_bv {a : Nat} (h : a < 2 ^ 32) : (gI (a : Int)).toBitVec.toNat = a := by
  show (Int32.ofInt (a : Int)).toBitVec.toNat = a
  rw [show Int32.ofInt (a : Int) = Int32.ofNat a from Int32.ofInt_eq_ofNat]
  show (BitVec.ofNat 32 a).toNat = a
  rw [BitVec.toNat_ofNat, Nat.mod_eq_of_lt h]
theorem i32_toInt_of_bv {x : Int32} {n : Nat} (h : x.toBitVec.toNat = n) (hn : n < 2 ^ 31) : x.toInt = (n : Int) := by
  show x.toBitVec.toInt = (n : Int)
  rw [BitVec.toInt_eq_toNat_of_lt (by omega), h]
theorem zand_nat {a b : Nat} (ha : a < 2 ^ 31) (hb : b < 2 ^ 31) : zand a b = ((a &&& b : Nat) : Int) := by
  refine i32_toInt_of_bv ?_ (Nat.lt_of_le_of_lt Nat.and_le_left ha)
  rw [Int32.toBitVec_and, BitVec.toNat_and, gI_bv (by omega), gI_bv (by omega)]
theorem zor_nat {a b : Nat} (ha : a < 2 ^ 31) (hb : b < 2 ^ 31) : zor a b = ((a ||| b : Nat) : Int) := by
  refine i32_toInt_of_bv ?_ (Nat.or_lt_two_pow ha hb)
  rw [Int32.toBitVec_or, BitVec.toNat_or, gI_bv (by omega), gI_bv (by omega)]
theorem sh_and {i : Nat} (h : i < 32) : gI (i : Int) &&& 31 = gI (i : Int) := by
  have key : ∀ i : Nat, i < 32 → gI (i : Int) &&& 31 = gI (i : Int) := by decide +kernel
  exact key i h
theorem zshl_one {i : Nat} (h : i < 31) : zshl 1 i = ((2 ^ i : Nat) : Int) := by
  have key : ∀ i : Nat, i < 31 → zshl 1 i = ((2 ^ i : Nat) : Int) := by decide +kernel
  exact key i h
theorem zshr_nat {a i : Nat} (ha : a < 2 ^ 31) (hi : i < 32) : zshr a i = ((a >>> i : Nat) : Int) := by
  show (gI (a : Int) >>> (gI (i : Int) &&& 31)).toInt = _
  have h1 : gI (a : Int) = nI a := Int32.ofInt_eq_ofNat
  have h2 : (gI (i : Int) &&& 31 : Int32).toBitVec.smod 32 = BitVec.ofNat 32 i := by
    have key : ∀ i : Nat, i < 32 → (gI (i : Int) &&& 31 : Int32).toBitVec.smod 32 = BitVec.ofNat 32 i := by decide +kernel
    exact key i hi
  rw [h1, pk_shrN ha _ i (by rw [h2, BitVec.toNat_ofNat, Nat.mod_eq_of_lt (by omega)]), Nat.shiftRight_eq_div_pow]
  exact nI_toInt (Nat.lt_of_le_of_lt (Nat.div_le_self _ _) ha)
theorem bit_iff {a i : Nat} (ha : a < 2 ^ 31) (hi : i < 32) : zand (zshr a i) 1 = (if a.testBit i then 1 else 0 : Int) := by
  rw [zshr_nat ha hi, show (1 : Int) = ((1 : Nat) : Int) from rfl, zand_nat (Nat.lt_of_le_of_lt (Nat.shiftRight_le _ _) ha) (by decide)]
  have : (a >>> i) &&& 1 = if a.testBit i then 1 else 0 := by
    rw [Nat.and_one_is_mod, Nat.testBit_eq_decide_div_mod_eq, Nat.shiftRight_eq_div_pow]
    rcases Nat.mod_two_eq_zero_or_one (a / 2 ^ i) with h | h <;> simp [h]
  rw [this]
  cases a.testBit i <;> rfl
theorem bit_is {a i : Nat} (ha : a < 2 ^ 31) (hi : i < 32) : zand (zshr a i) 1 = 1 ↔ a.testBit i = true := by
  rw [bit_iff ha hi]
  cases a.testBit i <;> simp
/-- a, but what is in b -/
def ndf (a b : Nat) : Nat := a ^^^ (a &&& b)
theorem ndf_bit (a b i : Nat) : (ndf a b).testBit i = (a.testBit i && !b.testBit i) := by
  unfold ndf
  rw [Nat.testBit_xor, Nat.testBit_and]
  cases a.testBit i <;> cases b.testBit i <;> rfl
theorem ndf_le (a b : Nat) : ndf a b ≤ a := by
  have h : ndf a b &&& a = ndf a b := Nat.eq_of_testBit_eq fun i => by
    rw [Nat.testBit_and, ndf_bit]
    cases a.testBit i <;> cases b.testBit i <;> rfl
  rw [← h]
  exact Nat.and_le_right
theorem zandn_nat {a b : Nat} (ha : a < 2 ^ 31) (hb : b < 2 ^ 31) : zand a (zxor b (-1)) = ((ndf a b : Nat) : Int) := by
  show (gI (a : Int) &&& gI (gI (b : Int) ^^^ gI (-1)).toInt).toInt = _
  rw [gI_of]
  refine i32_toInt_of_bv ?_ (Nat.lt_of_le_of_lt (ndf_le a b) ha)
  rw [Int32.toBitVec_and, Int32.toBitVec_xor, BitVec.toNat_and, BitVec.toNat_xor, gI_bv (by omega), gI_bv (by omega)]
  have h1 : (gI (-1)).toBitVec.toNat = 2 ^ 32 - 1 := by decide +kernel
  rw [h1]
  apply Nat.eq_of_testBit_eq
  intro i
  rw [Nat.testBit_and, Nat.testBit_xor, Nat.testBit_two_pow_sub_one, ndf_bit]
  by_cases hi : i < 32
  · simp [hi]
  · have : a.testBit i = false := Nat.testBit_lt_two_pow (Nat.lt_of_lt_of_le ha (Nat.pow_le_pow_right (by decide) (by omega)))
    simp [this]
/-- the set of those below n of which p -/
def bsN : Nat → (Nat → Bool) → Nat
  | 0, _ => 0
  | n + 1, p => bsN n p + if p n then 2 ^ n else 0
theorem bsN_lt (p : Nat → Bool) : ∀ n, bsN n p < 2 ^ n
  | 0 => by show (0 : Nat) < 1; decide
  | n + 1 => by
    have h := bsN_lt p n
    show bsN n p + (if p n then 2 ^ n else 0) < 2 ^ (n + 1)
    rw [Nat.pow_succ]
    split <;> omega
theorem bsN_or (p : Nat → Bool) (n : Nat) : bsN n p ||| 2 ^ n = bsN n p + 2 ^ n := by
  rw [Nat.or_comm, Nat.add_comm]
  have := Nat.two_pow_add_eq_or_of_lt (bsN_lt p n) 1
  rw [Nat.mul_one] at this
  exact this.symm
theorem bsN_bit (p : Nat → Bool) : ∀ n i, (bsN n p).testBit i = (decide (i < n) && p i)
  | 0, i => by simp [bsN]
  | n + 1, i => by
    have ih := bsN_bit p n i
    by_cases hp : p n = true
    · have e : bsN (n + 1) p = bsN n p ||| 2 ^ n := by rw [bsN_or]; show bsN n p + (if p n then 2 ^ n else 0) = _; rw [if_pos hp]
      rw [e, Nat.testBit_or, ih, Nat.testBit_two_pow]
      by_cases hi : i = n
      · subst hi; simp [hp]
      · have : (decide (n = i)) = false := by simp; omega
        rw [this, Bool.or_false]
        congr 1
        simp; omega
    · have e : bsN (n + 1) p = bsN n p := by show bsN n p + (if p n then 2 ^ n else 0) = _; rw [if_neg hp]; rfl
      rw [e, ih]
      by_cases hi : i = n
      · subst hi
        have : p i = false := by simpa using hp
        simp [this]
      · congr 1
        simp; omega
theorem bsN_congr {p q : Nat → Bool} : ∀ n, (∀ t, t < n → p t = q t) → bsN n p = bsN n q
  | 0, _ => rfl
  | n + 1, h => by
    show bsN n p + _ = bsN n q + _
    rw [bsN_congr n (fun t ht => h t (by omega)), h n (by omega)]
theorem bsN_zero {p : Nat → Bool} (n : Nat) : bsN n p = 0 ↔ ∀ t, t < n → p t = false := by
  constructor
  · intro h t ht
    have := bsN_bit p n t
    rw [h] at this
    simpa [ht] using this.symm
  · intro h
    rw [bsN_congr (q := fun _ => false) n h]
    apply Nat.eq_of_testBit_eq
    intro i
    rw [bsN_bit]
    simp
theorem pow_lt8 {n : Nat} (h : n ≤ 8) : 2 ^ n ≤ 256 := Nat.pow_le_pow_right (by decide) h
theorem bsN_256 {n : Nat} (h : n ≤ 8) (p : Nat → Bool) : bsN n p < 256 := Nat.lt_of_lt_of_le (bsN_lt p n) (pow_lt8 h)
/-- how many of eight -/
def pc8 (s : Nat) : Nat := (if s.testBit 0 then 1 else 0) + (if s.testBit 1 then 1 else 0) + (if s.testBit 2 then 1 else 0) + (if s.testBit 3 then 1 else 0) + (if s.testBit 4 then 1 else 0) + (if s.testBit 5 then 1 else 0) + (if s.testBit 6 then 1 else 0) + (if s.testBit 7 then 1 else 0)
