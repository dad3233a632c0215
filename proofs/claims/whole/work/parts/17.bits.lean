/-! bits of the marks -/
theorem nat_or_add {m p : Nat} (h : m.testBit p = false) : m ||| 2 ^ p = m + 2 ^ p := by
  have e1 : m = 2 ^ (p + 1) * (m / 2 ^ (p + 1)) + m % 2 ^ (p + 1) := (Nat.div_add_mod m (2 ^ (p + 1))).symm
  have hl : m % 2 ^ (p + 1) < 2 ^ p := by
    rw [Nat.testBit_eq_decide_div_mod_eq] at h
    have h2 : m / 2 ^ p % 2 = 0 := by
      have : ¬ m / 2 ^ p % 2 = 1 := by simpa using h
      omega
    have h3 : m % 2 ^ (p + 1) = m % 2 ^ p + 2 ^ p * (m / 2 ^ p % 2) := by rw [Nat.pow_succ, Nat.mod_mul]
    rw [h3, h2, Nat.mul_zero, Nat.add_zero]
    exact Nat.mod_lt _ (Nat.pow_pos (by decide))
  generalize m / 2 ^ (p + 1) = a at *
  generalize m % 2 ^ (p + 1) = l at *
  have hp : 2 ^ (p + 1) = 2 * 2 ^ p := by rw [Nat.pow_succ]; omega
  have e2 : 2 ^ (p + 1) * a + l = 2 ^ (p + 1) * a ||| l := Nat.two_pow_add_eq_or_of_lt (by omega) a
  have e3 : 2 ^ p * 1 + l = 2 ^ p * 1 ||| l := Nat.two_pow_add_eq_or_of_lt hl 1
  have e4 : 2 ^ (p + 1) * a + (2 ^ p * 1 + l) = 2 ^ (p + 1) * a ||| (2 ^ p * 1 + l) := Nat.two_pow_add_eq_or_of_lt (by omega) a
  rw [e1, e2, Nat.or_assoc, Nat.or_comm l, ← Nat.mul_one (2 ^ p), ← e3, ← e4, ← e2]
  omega
theorem nat_xor_or {m p : Nat} (h : m.testBit p = false) : m ^^^ 2 ^ p = m ||| 2 ^ p := by
  apply Nat.eq_of_testBit_eq
  intro i
  rw [Nat.testBit_xor, Nat.testBit_or, Nat.testBit_two_pow]
  by_cases e : p = i
  · subst e; simp [h]
  · simp [e]
theorem nat_xor_sub {m p : Nat} (h : m.testBit p = true) : (m ^^^ 2 ^ p) + 2 ^ p = m := by
  have h2 : (m ^^^ 2 ^ p).testBit p = false := by rw [Nat.testBit_xor, Nat.testBit_two_pow]; simp [h]
  rw [← nat_or_add h2]
  apply Nat.eq_of_testBit_eq
  intro i
  rw [Nat.testBit_or, Nat.testBit_xor, Nat.testBit_two_pow]
  by_cases e : p = i
  · subst e; simp [h]
  · simp [e]
theorem mk_tb {m p : Int} (hm : 0 ≤ m) (hp : 0 ≤ p) : mk m p = m.toNat.testBit p.toNat := by
  rw [Nat.testBit_eq_decide_div_mod_eq]
  unfold mk
  have e : m / 2 ^ p.toNat = ((m.toNat / 2 ^ p.toNat : Nat) : Int) := by
    rw [Int.natCast_ediv, int_tn hm]; push_cast; rfl
  rw [e]
  by_cases h : m.toNat / 2 ^ p.toNat % 2 = 1
  · rw [decide_eq_true h, show ((m.toNat / 2 ^ p.toNat : Nat) : Int) % 2 = 1 by omega]; rfl
  · rw [decide_eq_false h, show ((m.toNat / 2 ^ p.toNat : Nat) : Int) % 2 = 0 by omega]; rfl
theorem shl_ok {p : Int} (hp : 0 ≤ p ∧ p < 16) : Int32.ofInt 1 <<< (Int32.ofInt p &&& 31) = nI (2 ^ p.toNat) := by
  have : ∀ n : Nat, n < 16 → Int32.ofInt 1 <<< (Int32.ofInt (n : Int) &&& 31) = nI (2 ^ n) := by decide +kernel
  have h2 := this p.toNat (by omega)
  rwa [int_tn hp.1] at h2
theorem pow16 {p : Int} (hp : 0 ≤ p ∧ p < 16) : 1 ≤ 2 ^ p.toNat ∧ 2 ^ p.toNat ≤ 32768 := by
  have : ∀ n : Nat, n < 16 → 1 ≤ 2 ^ n ∧ 2 ^ n ≤ 32768 := by decide
  exact this p.toNat (by omega)
theorem nI_nat {n : Nat} (h : n < 2147483648) : (nI n).toInt = (n : Int) := nI_toInt h
def mset (m p : Int) : Int := m + ((2 ^ p.toNat : Nat) : Int)
def mclr (m p : Int) : Int := m - ((2 ^ p.toNat : Nat) : Int)
theorem shl_int {p : Int} (hp : 0 ≤ p ∧ p < 16) : bShl 1 p = ((2 ^ p.toNat : Nat) : Int) := by
  have h := pow16 hp
  unfold bShl
  rw [shl_ok hp, nI_nat (by omega)]
theorem oiN (n : Nat) : Int32.ofInt (n : Int) = nI n := rfl
theorem lt_pow16 {a b : Nat} (ha : a < 65536) (hb : b < 65536) : (a ||| b) < 65536 ∧ (a ^^^ b) < 65536 ∧ (a &&& b) < 65536 := by
  have e : (65536 : Nat) = 2 ^ 16 := rfl
  rw [e] at *
  exact ⟨Nat.or_lt_two_pow ha hb, Nat.xor_lt_two_pow ha hb, Nat.and_lt_two_pow _ hb⟩
theorem nI_or (a b : Nat) : nI a ||| nI b = nI (a ||| b) := by
  apply Int32.toBitVec_inj.mp
  show BitVec.ofNat 32 a ||| BitVec.ofNat 32 b = BitVec.ofNat 32 (a ||| b)
  apply BitVec.eq_of_getLsbD_eq
  intro i hi
  simp [hi, Nat.testBit_or]
theorem nI_xor (a b : Nat) : nI a ^^^ nI b = nI (a ^^^ b) := by
  apply Int32.toBitVec_inj.mp
  show BitVec.ofNat 32 a ^^^ BitVec.ofNat 32 b = BitVec.ofNat 32 (a ^^^ b)
  apply BitVec.eq_of_getLsbD_eq
  intro i hi
  simp [hi, Nat.testBit_xor]
theorem bits_or {m p : Int} (hm : 0 ≤ m ∧ m < 65536) (hp : 0 ≤ p ∧ p < 16) (h : mk m p = false) : bOr m (bShl 1 p) = mset m p := by
  have hw := pow16 hp
  rw [mk_tb hm.1 hp.1] at h
  rw [shl_int hp]
  unfold bOr mset
  rw [show Int32.ofInt m = nI m.toNat from oi_nI hm.1, oiN, nI_or, nI_nat (by have := (lt_pow16 (a := m.toNat) (b := 2 ^ p.toNat) (by omega) (by omega)).1; omega), nat_or_add h]
  push_cast
  omega
theorem bits_xor0 {m p : Int} (hm : 0 ≤ m ∧ m < 65536) (hp : 0 ≤ p ∧ p < 16) (h : mk m p = false) : bXor m (bShl 1 p) = mset m p := by
  have hw := pow16 hp
  rw [mk_tb hm.1 hp.1] at h
  rw [shl_int hp]
  unfold bXor mset
  rw [show Int32.ofInt m = nI m.toNat from oi_nI hm.1, oiN, nI_xor, nI_nat (by have := (lt_pow16 (a := m.toNat) (b := 2 ^ p.toNat) (by omega) (by omega)).2.1; omega), nat_xor_or h, nat_or_add h]
  push_cast
  omega
theorem bits_xor1 {m p : Int} (hm : 0 ≤ m ∧ m < 65536) (hp : 0 ≤ p ∧ p < 16) (h : mk m p = true) : bXor m (bShl 1 p) = mclr m p := by
  have hw := pow16 hp
  rw [mk_tb hm.1 hp.1] at h
  rw [shl_int hp]
  unfold bXor mclr
  have := nat_xor_sub h
  rw [show Int32.ofInt m = nI m.toNat from oi_nI hm.1, oiN, nI_xor, nI_nat (by have := (lt_pow16 (a := m.toNat) (b := 2 ^ p.toNat) (by omega) (by omega)).2.1; omega)]
  omega
theorem bits_clr {m p : Int} (hm : 0 ≤ m ∧ m < 65536) (hp : 0 ≤ p ∧ p < 16) (h : mk m p = true) : bAnd m (bXor (bShl 1 p) (-1)) = mclr m p := by
  have hw := pow16 hp
  rw [← bits_xor1 hm hp h]
  rw [mk_tb hm.1 hp.1] at h
  rw [shl_int hp]
  unfold bAnd bXor
  rw [oi_as]
  congr 1
  rw [show Int32.ofInt m = nI m.toNat from oi_nI hm.1, oiN]
  apply Int32.toBitVec_inj.mp
  show BitVec.ofNat 32 m.toNat &&& (BitVec.ofNat 32 (2 ^ p.toNat) ^^^ BitVec.ofInt 32 (-1)) = BitVec.ofNat 32 m.toNat ^^^ BitVec.ofNat 32 (2 ^ p.toNat)
  apply BitVec.eq_of_getLsbD_eq
  intro i hi
  have e1 : (BitVec.ofInt 32 (-1)).getLsbD i = true := by
    have : ∀ i, i < 32 → (BitVec.ofInt 32 (-1)).getLsbD i = true := by decide
    exact this i hi
  rw [BitVec.getLsbD_and, BitVec.getLsbD_xor, BitVec.getLsbD_xor, e1, BitVec.getLsbD_ofNat, BitVec.getLsbD_ofNat, Nat.testBit_two_pow]
  by_cases e : p.toNat = i
  · subst e; simp [h]
  · simp [e]
theorem mset_bd {m p : Int} (hm : 0 ≤ m ∧ m < 65536) (hp : 0 ≤ p ∧ p < 16) (h : mk m p = false) : 0 ≤ mset m p ∧ mset m p < 65536 := by
  have hw := pow16 hp
  rw [mk_tb hm.1 hp.1] at h
  have h1 := nat_or_add h
  have h2 := (lt_pow16 (a := m.toNat) (b := 2 ^ p.toNat) (by omega) (by omega)).1
  unfold mset
  omega
theorem mclr_bd {m p : Int} (hm : 0 ≤ m ∧ m < 65536) (hp : 0 ≤ p ∧ p < 16) (h : mk m p = true) : 0 ≤ mclr m p ∧ mclr m p < 65536 := by
  have hw := pow16 hp
  rw [mk_tb hm.1 hp.1] at h
  have h1 := nat_xor_sub h
  unfold mclr
  omega
