/-! how many are marked; slips that fit; taps; one step more -/
def popA (n : Nat) : Nat := n - ((n >>> 1) &&& 1431655765)
def popB (n : Nat) : Nat := (n &&& 858993459) + ((n >>> 2) &&& 858993459)
def popC (n : Nat) : Nat := (n + (n >>> 4)) &&& 252645135
def popD (n : Nat) : Nat := n + (n >>> 8)
def popE (n : Nat) : Nat := n + (n >>> 16)
def pc8 (a : Nat) : Nat := a % 2 + a / 2 % 2 + a / 4 % 2 + a / 8 % 2 + a / 16 % 2 + a / 32 % 2 + a / 64 % 2 + a / 128 % 2
theorem pop_ok : ∀ a : Nat, a < 256 → ∀ b : Nat, b < 256 → popE (popD (popC (popB (popA (256 * a + b))))) &&& 63 = pc8 a + pc8 b := by decide +kernel
theorem nI_and (a b : Nat) : nI a &&& nI b = nI (a &&& b) := by
  apply Int32.toBitVec_inj.mp
  show BitVec.ofNat 32 a &&& BitVec.ofNat 32 b = BitVec.ofNat 32 (a &&& b)
  rw [BitVec.ofNat_and]
theorem bAndN {x y : Nat} (hx : x < 2147483648) : bAnd (x : Int) (y : Int) = ((x &&& y : Nat) : Int) := by
  unfold bAnd
  rw [oiN, oiN, nI_and]
  exact nI_nat (Nat.lt_of_le_of_lt Nat.and_le_left hx)
theorem bUshrN {x k : Nat} (hx : x < 2147483648) (hk : k < 32) : bUshr (x : Int) (k : Int) = ((x >>> k : Nat) : Int) := by
  have hle : x >>> k ≤ x := by rw [Nat.shiftRight_eq_div_pow]; exact Nat.div_le_self _ _
  unfold bUshr
  have e : ((Int32.ofInt (x : Int)).toUInt32 >>> ((Int32.ofInt (k : Int)).toUInt32 &&& Int32.toUInt32 31)).toInt32 = nI (x >>> k) := by
    apply Int32.toBitVec_inj.mp
    apply BitVec.eq_of_toNat_eq
    have h1 : ∀ k : Nat, k < 32 → ((Int32.ofInt (k : Int)).toUInt32 &&& Int32.toUInt32 31) = UInt32.ofNat k := by decide
    rw [h1 k hk]
    show (UInt32.ofBitVec (BitVec.ofNat 32 x) >>> UInt32.ofNat k).toNat = (x >>> k) % 2 ^ 32
    rw [UInt32.toNat_shiftRight]
    show (x % 2 ^ 32) >>> ((k % 2 ^ 32) % 32) = _
    rw [Nat.mod_eq_of_lt (show x < 2 ^ 32 by omega), Nat.mod_eq_of_lt (show k < 2 ^ 32 by omega), Nat.mod_eq_of_lt hk, Nat.mod_eq_of_lt (by omega)]
  rw [e]
  exact nI_nat (by omega)
theorem shr_le (x k : Nat) : x >>> k ≤ x := by rw [Nat.shiftRight_eq_div_pow]; exact Nat.div_le_self _ _
theorem cnt_pc {m : Nat} (h : m < 65536) : cnt (mk (m : Int)) 16 = ((pc8 (m / 256) + pc8 (m % 256) : Nat) : Int) := by
  have e : ∀ k : Nat, (if mk (m : Int) (k : Int) then 1 else 0 : Int) = ((m : Int) / 2 ^ k) % 2 := fun k => by
    have := mk_bit (m : Int) (k : Int)
    rw [Int.toNat_natCast] at this
    exact this.symm
  unfold cnt
  unfold cnt
  unfold cnt
  unfold cnt
  unfold cnt
  unfold cnt
  unfold cnt
  unfold cnt
  unfold cnt
  unfold cnt
  unfold cnt
  unfold cnt
  unfold cnt
  unfold cnt
  unfold cnt
  unfold cnt
  unfold cnt
  have e0 := e 0
  have e1 := e 1
  have e2 := e 2
  have e3 := e 3
  have e4 := e 4
  have e5 := e 5
  have e6 := e 6
  have e7 := e 7
  have e8 := e 8
  have e9 := e 9
  have e10 := e 10
  have e11 := e 11
  have e12 := e 12
  have e13 := e 13
  have e14 := e 14
  have e15 := e 15
  rw [e0, e1, e2, e3, e4, e5, e6, e7, e8, e9, e10, e11, e12, e13, e14, e15]
  unfold pc8
  omega
theorem c_bitCount {m : Int} (hm : 0 ≤ m ∧ m < 65536) (σ : St) : CIe mdJ6_bitCount_0f7a4 [vi m] σ (cnt (mk m) 16) σ := by
  refine CI_ofF (by decide +kernel) (Nat.le_of_ble_eq_true rfl) rfl (fun X hX => ?_)
  obtain ⟨n, rfl⟩ : ∃ n : Nat, m = n := ⟨m.toNat, by omega⟩
  have hn : n < 65536 := by omega
  have a1 : bUshr (n : Int) 1 = ((n >>> 1 : Nat) : Int) := bUshrN (by omega) (k := 1) (by decide)
  have l1 := shr_le n 1
  have a2 : bAnd ((n >>> 1 : Nat) : Int) 1431655765 = (((n >>> 1) &&& 1431655765 : Nat) : Int) := bAndN (y := 1431655765) (by omega)
  have l2 : (n >>> 1) &&& 1431655765 ≤ n >>> 1 := Nat.and_le_left
  have a3 : (n : Int) - (((n >>> 1) &&& 1431655765 : Nat) : Int) = ((popA n : Nat) : Int) := by unfold popA; omega
  have lA : popA n ≤ n := Nat.sub_le _ _
  generalize hA : popA n = A at *
  have a4 : bAnd (A : Int) 858993459 = ((A &&& 858993459 : Nat) : Int) := bAndN (y := 858993459) (by omega)
  have l4 : A &&& 858993459 ≤ A := Nat.and_le_left
  have a5 : bUshr (A : Int) 2 = ((A >>> 2 : Nat) : Int) := bUshrN (by omega) (k := 2) (by decide)
  have l5 := shr_le A 2
  have a6 : bAnd ((A >>> 2 : Nat) : Int) 858993459 = (((A >>> 2) &&& 858993459 : Nat) : Int) := bAndN (y := 858993459) (by omega)
  have l6 : (A >>> 2) &&& 858993459 ≤ A >>> 2 := Nat.and_le_left
  have a7 : ((A &&& 858993459 : Nat) : Int) + (((A >>> 2) &&& 858993459 : Nat) : Int) = ((popB A : Nat) : Int) := by unfold popB; omega
  have lB : popB A ≤ 131072 := by unfold popB; omega
  generalize hB : popB A = B at *
  have a8 : bUshr (B : Int) 4 = ((B >>> 4 : Nat) : Int) := bUshrN (by omega) (k := 4) (by decide)
  have l8 := shr_le B 4
  have a9 : bAnd ((B : Int) + ((B >>> 4 : Nat) : Int)) 252645135 = ((popC B : Nat) : Int) := by
    rw [show (B : Int) + ((B >>> 4 : Nat) : Int) = ((B + (B >>> 4) : Nat) : Int) by omega]
    exact bAndN (y := 252645135) (by omega)
  have lC : popC B ≤ B + (B >>> 4) := Nat.and_le_left
  generalize hC : popC B = C at *
  have a10 : bUshr (C : Int) 8 = ((C >>> 8 : Nat) : Int) := bUshrN (by omega) (k := 8) (by decide)
  have l10 := shr_le C 8
  have a11 : (C : Int) + ((C >>> 8 : Nat) : Int) = ((popD C : Nat) : Int) := by unfold popD; omega
  have lD : popD C ≤ C + C := by unfold popD; omega
  generalize hD : popD C = D at *
  have a12 : bUshr (D : Int) 16 = ((D >>> 16 : Nat) : Int) := bUshrN (by omega) (k := 16) (by decide)
  have l12 := shr_le D 16
  have a13 : (D : Int) + ((D >>> 16 : Nat) : Int) = ((popE D : Nat) : Int) := by unfold popE; omega
  have lE : popE D ≤ D + D := by unfold popE; omega
  have a14 : bAnd ((popE D : Nat) : Int) 63 = ((popE D &&& 63 : Nat) : Int) := bAndN (y := 63) (by omega)
  have fin : popE D &&& 63 = pc8 (n / 256) + pc8 (n % 256) := by
    have := pop_ok (n / 256) (by omega) (n % 256) (by omega)
    rw [show 256 * (n / 256) + n % 256 = n by omega, hA, hB, hC, hD] at this
    exact this
  have l14 : popE D &&& 63 ≤ 63 := Nat.and_le_right
  refine bJ6_bitCount_0f7a4_0 hX ?_ ⟨?_, rfl⟩
  · simp only [a1, a2, a3, a4, a5, a6, a7, a8, a9, a10, a11, a12, a13, a14]
    omega
  · simp only [a1, a2, a3, a4, a5, a6, a7, a8, a9, a10, a11, a12, a13, a14]
    rw [cnt_pc hn, fin]
