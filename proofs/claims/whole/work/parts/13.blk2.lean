/-! contracts: Block, the harder ones: spread, twist, unspread -/
theorem c_spread {b : Nat} (hb : isBk b) (σ : St) (hr : r97 32 (σ (b + 1))) {a : Int} (ha : c97 a) : CVe mdX1_spread [vr b, vi a] σ (setr σ (b + 1) (spreadF a (σ (b + 1)))) := by
  refine CV_of (by decide +kernel) (Nat.le_of_ble_eq_true rfl) rfl (fun X hX => ?_)
  refine bX1_spread_0 hb ?_
  -- one row
  have pass : ∀ (first : Int) (f : Row), first = 0 ∨ first = 16 → r97 32 f →
      G mdX1_spread X 2 [(0, vr b), (1, vi a), (2, vi (first + 16))] [] (setr σ (b + 1) (fun j => if first ≤ j ∧ j < first + 16 then (f j + a * f (prv j)) % 97 else f j)) →
      G mdX1_spread X 2 [(0, vr b), (1, vi a), (2, vi first)] [] (setr σ (b + 1) f) := by
    intro first f hf hrf k
    refine bX1_spread_2 hb (by omega) (fun q => by omega) (fun q => ?_)
    refine bX1_spread_8 hb (by omega) ?_
    rw [setr_at]
    have e0 : (fun j => if first + 15 < j ∧ j < first + 16 then (f j + a * f (j - 1)) % 97 else f j) = f := by
      funext j; rw [if_neg (by omega)]
    have key : G mdX1_spread X 24 [(0, vr b), (1, vi a), (2, vi first), (3, vi (f ((first + 16) - 1))), (4, vi 15)] [] (setr σ (b + 1) (fun j => if first + 15 < j ∧ j < first + 16 then (f j + a * f (j - 1)) % 97 else f j)) := by
      refine loopDn (Q := fun p => G mdX1_spread X 24 [(0, vr b), (1, vi a), (2, vi first), (3, vi (f ((first + 16) - 1))), (4, vi p)] [] (setr σ (b + 1) (fun j => if first + p < j ∧ j < first + 16 then (f j + a * f (j - 1)) % 97 else f j))) (a := 0) ?_ (fun p h1 h2 ih => ?_) (by decide)
      · have h1 := hrf first (by omega) (by omega)
        have h2 := hrf ((first + 16) - 1) (by omega) (by omega)
        have hm := m_bd ha h2
        refine bX1_spread_24 hb (by decide) (fun q => ?_) (fun q => by omega)
        have e1 : setr σ (b + 1) (fun j => if first + 0 < j ∧ j < first + 16 then (f j + a * f (j - 1)) % 97 else f j) (b + 1) first = f first := by rw [setr_at, if_neg (by omega)]
        refine bX1_spread_74 hb (by rw [e1]; omega) ?_
        rw [e1, wr_wr]
        have e2 : (fun j => if j = first then (f first + a * f ((first + 16) - 1)) % 97 else (if first + 0 < j ∧ j < first + 16 then (f j + a * f (j - 1)) % 97 else f j)) = (fun j => if first ≤ j ∧ j < first + 16 then (f j + a * f (prv j)) % 97 else f j) := by
          funext j
          unfold prv
          by_cases c1 : j = first
          · rw [if_pos c1, if_pos (by omega), if_pos (by omega), c1, show first + 16 - 1 = first + 15 by omega]
          · rw [if_neg c1]
            by_cases c2 : first + 0 < j ∧ j < first + 16
            · rw [if_pos c2, if_pos (by omega), if_neg (by omega)]
            · rw [if_neg c2, if_neg (by omega)]
        rw [e2]
        exact k
      · have g1 := hrf (first + p) (by omega) (by omega)
        have g2 := hrf ((first + p) - 1) (by omega) (by omega)
        have hm := m_bd ha g2
        refine bX1_spread_24 hb (by omega) (fun q => by omega) (fun q => ?_)
        have e1 : setr σ (b + 1) (fun j => if first + p < j ∧ j < first + 16 then (f j + a * f (j - 1)) % 97 else f j) (b + 1) (first + p) = f (first + p) := by rw [setr_at, if_neg (by omega)]
        have e3 : setr σ (b + 1) (fun j => if first + p < j ∧ j < first + 16 then (f j + a * f (j - 1)) % 97 else f j) (b + 1) ((first + p) - 1) = f ((first + p) - 1) := by rw [setr_at, if_neg (by omega)]
        refine bX1_spread_29 hb ⟨by omega, by omega, by rw [e1, e3]; omega⟩ ?_
        rw [e1, e3, wr_wr]
        have e2 : (fun j => if j = first + p then (f (first + p) + a * f ((first + p) - 1)) % 97 else (if first + p < j ∧ j < first + 16 then (f j + a * f (j - 1)) % 97 else f j)) = (fun j => if first + (p + (-1)) < j ∧ j < first + 16 then (f j + a * f (j - 1)) % 97 else f j) := by
          funext j
          by_cases c1 : j = first + p
          · rw [if_pos c1, if_pos (by omega), c1]
          · rw [if_neg c1]
            by_cases c2 : first + p < j ∧ j < first + 16
            · rw [if_pos c2, if_pos (by omega)]
            · rw [if_neg c2, if_neg (by omega)]
        rw [e2]
        exact ih
    rw [e0] at key
    exact key
  have h0 := pass 0 (σ (b + 1)) (Or.inl rfl) hr
  rw [setr_id] at h0
  refine h0 (pass 16 _ (Or.inr rfl) ?_ ?_)
  · intro i g1 g2
    dsimp only
    split
    · exact md97 _
    · exact hr i g1 g2
  · refine bX1_spread_2 hb (by decide) (fun q => bX1_spread_99 hX ?_) (fun q => by omega)
    congr 1
    funext j
    unfold spreadF
    by_cases c1 : 16 ≤ j ∧ j < 32
    · have c3 : prv j = j + 15 ∨ prv j = j - 1 := by unfold prv; split <;> simp
      have c4 : 16 ≤ prv j := by unfold prv; split <;> omega
      rw [if_pos (by omega), if_pos (by omega), if_neg (by omega), if_neg (by omega)]
    · by_cases c2 : 0 ≤ j ∧ j < 16
      · rw [if_pos (by omega), if_neg (by omega), if_pos (by omega)]
      · rw [if_neg (by omega), if_neg (by omega), if_neg (by omega)]
theorem c_twist {b : Nat} (hb : isBk b) (σ : St) (hr : r97 32 (σ (b + 1))) (hm : m97 (σ (b + 4))) : CVe mdX1_twist [vr b] σ (setr σ (b + 1) (twistF (σ (b + 4) 0) (σ (b + 4) 1) (σ (b + 4) 2) (σ (b + 4) 3) (σ (b + 1)))) := by
  refine CV_of (by decide +kernel) (Nat.le_of_ble_eq_true rfl) rfl (fun X hX => ?_)
  obtain ⟨m0, m1, m2, m3⟩ := hm
  refine bX1_twist_0 hb ?_
  have key : G mdX1_twist X 2 [(0, vr b), (1, vi 0)] [] (setr σ (b + 1) (fun j => if (0 ≤ j ∧ j < 0) ∨ (16 ≤ j ∧ j < 16 + 0) then twistF (σ (b + 4) 0) (σ (b + 4) 1) (σ (b + 4) 2) (σ (b + 4) 3) (σ (b + 1)) j else σ (b + 1) j)) := by
    refine loopUp (Q := fun i => G mdX1_twist X 2 [(0, vr b), (1, vi i)] [] (setr σ (b + 1) (fun j => if (0 ≤ j ∧ j < i) ∨ (16 ≤ j ∧ j < 16 + i) then twistF (σ (b + 4) 0) (σ (b + 4) 1) (σ (b + 4) 2) (σ (b + 4) 3) (σ (b + 1)) j else σ (b + 1) j))) (n := 16) ?_ (fun i h1 h2 ih => ?_) (by decide)
    · refine bX1_twist_2 hb (by decide) (fun q => bX1_twist_90 hX ?_) (fun q => by omega)
      congr 1
      funext j
      by_cases c : (0 ≤ j ∧ j < 16) ∨ (16 ≤ j ∧ j < 16 + 16)
      · rw [if_pos c]
      · rw [if_neg c]; unfold twistF; rw [if_neg (by omega), if_neg (by omega)]
    · have g1 := hr i h1 (by omega)
      have g2 := hr (16 + i) (by omega) (by omega)
      have p0 := m_bd m0 g1
      have p1 := m_bd m1 g2
      have p2 := m_bd m2 g1
      have p3 := m_bd m3 g2
      refine bX1_twist_2 hb (by omega) (fun q => by omega) (fun q => ?_)
      have e4 : ∀ f, setr σ (b + 1) f (b + 4) = σ (b + 4) := fun f => setr_ne _ _ (by omega)
      have w4 : ∀ (τ : St) (v : Int), wr τ (b + 1) i v (b + 4) = τ (b + 4) := fun τ v => wr_ne _ _ _ _ _ (by omega)
      have e1 : setr σ (b + 1) (fun j => if (0 ≤ j ∧ j < i) ∨ (16 ≤ j ∧ j < 16 + i) then twistF (σ (b + 4) 0) (σ (b + 4) 1) (σ (b + 4) 2) (σ (b + 4) 3) (σ (b + 1)) j else σ (b + 1) j) (b + 1) i = σ (b + 1) i := by rw [setr_at, if_neg (by omega)]
      have e2 : setr σ (b + 1) (fun j => if (0 ≤ j ∧ j < i) ∨ (16 ≤ j ∧ j < 16 + i) then twistF (σ (b + 4) 0) (σ (b + 4) 1) (σ (b + 4) 2) (σ (b + 4) 3) (σ (b + 1)) j else σ (b + 1) j) (b + 1) (16 + i) = σ (b + 1) (16 + i) := by rw [setr_at, if_neg (by omega)]
      refine bX1_twist_8 hb ?_ ?_
      · rw [w4, e4, e1, e2]; omega
      · rw [w4, e4, e1, e2, wr_wr, wr_wr]
        have e3 : (fun j => if j = 16 + i then (σ (b + 4) 2 * σ (b + 1) i + σ (b + 4) 3 * σ (b + 1) (16 + i)) % 97 else (if j = i then (σ (b + 4) 0 * σ (b + 1) i + σ (b + 4) 1 * σ (b + 1) (16 + i)) % 97 else (if (0 ≤ j ∧ j < i) ∨ (16 ≤ j ∧ j < 16 + i) then twistF (σ (b + 4) 0) (σ (b + 4) 1) (σ (b + 4) 2) (σ (b + 4) 3) (σ (b + 1)) j else σ (b + 1) j))) = (fun j => if (0 ≤ j ∧ j < i + 1) ∨ (16 ≤ j ∧ j < 16 + (i + 1)) then twistF (σ (b + 4) 0) (σ (b + 4) 1) (σ (b + 4) 2) (σ (b + 4) 3) (σ (b + 1)) j else σ (b + 1) j) := by
          funext j
          by_cases c1 : j = 16 + i
          · rw [if_pos c1, if_pos (by omega)]
            unfold twistF
            rw [if_neg (by omega), if_pos (by omega), c1, show 16 + i - 16 = i by omega]
          · rw [if_neg c1]
            by_cases c2 : j = i
            · rw [if_pos c2, if_pos (by omega)]
              unfold twistF
              rw [if_pos (by omega), c2]
            · rw [if_neg c2]
              by_cases c3 : (0 ≤ j ∧ j < i) ∨ (16 ≤ j ∧ j < 16 + i)
              · rw [if_pos c3, if_pos (by omega)]
              · rw [if_neg c3, if_neg (by omega)]
        rw [e3]
        exact ih
  have e : (fun j => if (0 ≤ j ∧ j < 0) ∨ (16 ≤ j ∧ j < 16 + 0) then twistF (σ (b + 4) 0) (σ (b + 4) 1) (σ (b + 4) 2) (σ (b + 4) 3) (σ (b + 1)) j else σ (b + 1) j) = σ (b + 1) := by
    funext j; rw [if_neg (by omega)]
  rw [e, setr_id] at key
  exact key
-- unspread: sums of powers
def psum (m : Int) (y : Int → Int) : Int → Nat → Int
  | _, 0 => 0
  | p, n + 1 => psum m y p n + m ^ n * y (p - n)
theorem psum_sh (m : Int) (y : Int → Int) (p : Int) : ∀ n : Nat, psum m y (p + 1) (n + 1) = y (p + 1) + m * psum m y p n
  | 0 => by simp [psum]
  | n + 1 => by
    rw [psum, psum_sh m y p n, psum, Int.mul_add, Int.pow_succ, Int.add_assoc]
    congr 2
    rw [show p + 1 - ((n + 1 : Nat) : Int) = p - n by push_cast; omega, Int.mul_comm (m ^ n) m, Int.mul_assoc]
def horn (m : Int) (y : Int → Int) : Nat → Int
  | 0 => 0
  | n + 1 => horn m y n * m + y (n + 1)
theorem horn_psum (m : Int) (y : Int → Int) : ∀ n : Nat, horn m y n = psum m y n n
  | 0 => rfl
  | n + 1 => by
    rw [horn, horn_psum m y n]
    show _ = psum m y (((n : Nat) : Int) + 1) (n + 1)
    rw [psum_sh, Int.mul_comm, Int.add_comm]
def yc (f : Row) (base j : Int) : Int := f (base + j % 16)
def unsW (a : Int) : Int := inv97 ((1 - pw a 16) % 97)
def unspreadF (a : Int) (f : Row) : Row := fun i => if 0 ≤ i ∧ i < 32 then (psum (97 - a) (yc f (i / 16 * 16)) (i % 16) 16 % 97 * unsW a) % 97 else f i
theorem inv_ok {v : Int} (h : 1 ≤ v ∧ v ≤ 96) : v * inv97 v % 97 = 1 := by
  have : ∀ n : Nat, n < 97 → n ≠ 0 → (n : Int) * inv97 (n : Int) % 97 = 1 := by decide +kernel
  have h2 := this v.toNat (by omega) (by omega)
  rwa [Int.toNat_of_nonneg (by omega)] at h2
theorem minus16 {a : Int} (h : 0 ≤ a ∧ a ≤ 96) : (97 - a) ^ 16 % 97 = pw a 16 := by
  have : ∀ n : Nat, n < 97 → (97 - (n : Int)) ^ 16 % 97 = pw (n : Int) 16 := by decide +kernel
  have h2 := this a.toNat (by omega)
  rwa [Int.toNat_of_nonneg h.1] at h2
theorem psum_next {a : Int} (h : 0 ≤ a ∧ a ≤ 96) (f : Row) (base p : Int) : psum (97 - a) (yc f base) (p + 1) 16 % 97 = ((1 - pw a 16) * yc f base (p + 1) + (97 - a) * psum (97 - a) (yc f base) p 16) % 97 := by
  have e1 : psum (97 - a) (yc f base) (p + 1) 16 = yc f base (p + 1) + (97 - a) * psum (97 - a) (yc f base) p 15 := psum_sh _ _ _ 15
  have e2 : psum (97 - a) (yc f base) p 16 = psum (97 - a) (yc f base) p 15 + (97 - a) ^ 15 * yc f base (p - 15) := rfl
  have e3 : yc f base (p - 15) = yc f base (p + 1) := by unfold yc; rw [show (p - 15) % 16 = (p + 1) % 16 by omega]
  have e4 := minus16 h
  have e5 : (97 - a) * ((97 - a) ^ 15 * yc f base (p + 1)) = (97 - a) ^ 16 * yc f base (p + 1) := by
    rw [← Int.mul_assoc, Int.pow_succ _ 15, Int.mul_comm ((97 - a) ^ 15)]
  have e6 : ((97 - a) ^ 16 * yc f base (p + 1)) % 97 = (pw a 16 * yc f base (p + 1)) % 97 := m97_mul (by rw [e4]; unfold pw; rw [m97_id]) rfl
  have e7 : (1 - pw a 16) * yc f base (p + 1) = yc f base (p + 1) - pw a 16 * yc f base (p + 1) := by rw [Int.sub_mul, Int.one_mul]
  rw [e2, e3] at *
  rw [e1, Int.mul_add, e5, e7]
  omega
theorem uns_step {a : Int} (h : 0 ≤ a ∧ a ≤ 96) (h1 : pw a 16 ≠ 1) (f : Row) (base p : Int) : (psum (97 - a) (yc f base) (p + 1) 16 % 97 * unsW a) % 97 = (yc f base (p + 1) + (97 - a) * ((psum (97 - a) (yc f base) p 16 % 97 * unsW a) % 97)) % 97 := by
  have hp := pw_bd a 16
  have hd : 1 ≤ (1 - pw a 16) % 97 ∧ (1 - pw a 16) % 97 ≤ 96 := by omega
  have hi := inv_ok hd
  have e1 : ((1 - pw a 16) * unsW a) % 97 = 1 := by
    have e0 := m97_mul (a := 1 - pw a 16) (b := (1 - pw a 16) % 97) (c := unsW a) (d := unsW a) (m97_id _).symm rfl
    rw [e0]
    exact hi
  have e2 : (psum (97 - a) (yc f base) (p + 1) 16 % 97 * unsW a) % 97 = (((1 - pw a 16) * yc f base (p + 1) + (97 - a) * psum (97 - a) (yc f base) p 16) * unsW a) % 97 := m97_mul (by rw [m97_id]; exact psum_next h f base p) rfl
  have e3 : ((1 - pw a 16) * yc f base (p + 1) + (97 - a) * psum (97 - a) (yc f base) p 16) * unsW a = (1 - pw a 16) * unsW a * yc f base (p + 1) + (97 - a) * (psum (97 - a) (yc f base) p 16 * unsW a) := by
    rw [Int.add_mul, Int.mul_assoc, Int.mul_comm (yc f base (p + 1)), ← Int.mul_assoc, Int.mul_assoc (97 - a)]
  have e4 : ((1 - pw a 16) * unsW a * yc f base (p + 1)) % 97 = yc f base (p + 1) % 97 := by
    have := m97_mul (a := (1 - pw a 16) * unsW a) (b := 1) (c := yc f base (p + 1)) (d := yc f base (p + 1)) (by rw [e1]; rfl) rfl
    rwa [Int.one_mul] at this
  have e5 : ((97 - a) * (psum (97 - a) (yc f base) p 16 * unsW a)) % 97 = ((97 - a) * ((psum (97 - a) (yc f base) p 16 % 97 * unsW a) % 97)) % 97 := by
    refine m97_mul rfl ?_
    rw [m97_id]
    exact m97_mul (m97_id _).symm rfl
  rw [e2, e3]
  omega
