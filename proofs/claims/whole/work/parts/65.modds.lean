/-! the model: odds -/
theorem com_gcd : ∀ x : Nat, x < 11 → ∀ n : Nat, n < 9 → ∀ w : Nat, w < n + 2 → comN (smN x n w) n = ((Nat.gcd (10 ^ n) (smN x n w).toNat : Nat) : Int) := by decide +kernel
def opN (x c : Int) (j : Nat) : Nat → Int
  | 0 => c
  | i + 1 => opN x c j i * (if i < j then x else 10 - x)
theorem opN_lo (x c : Int) (j : Nat) : ∀ i, i ≤ j → opN x c j i = c * x ^ i
  | 0, _ => by show c = c * x ^ 0; rw [Int.pow_zero, Int.mul_one]
  | i + 1, h => by
    show opN x c j i * (if i < j then x else 10 - x) = _
    rw [opN_lo x c j i (by omega), if_pos (by omega), Int.pow_succ, Int.mul_assoc]
theorem opN_hi (x c : Int) (j : Nat) : ∀ m, opN x c j (j + m) = c * x ^ j * (10 - x) ^ m
  | 0 => by rw [Int.pow_zero, Int.mul_one]; exact opN_lo x c j j (Nat.le_refl j)
  | m + 1 => by
    show opN x c j (j + m) * (if j + m < j then x else 10 - x) = _
    rw [opN_hi x c j m, if_neg (by omega), Int.pow_succ, Int.mul_assoc]
theorem n_odds {N : Int} {a : AS} {σ : St} (h : MR N a σ) {x n k w : Int} (hx : inI x) (hn : inI n) (hk : inI k) (hw : inI w) : CI mdX11_odds [vr 87, vi x, vi n, vi k, vi w] σ (fun z u => z = oddsV x n k w ∧ MR N a u ∧ dn σ u) := by
  refine CI_of (by decide +kernel) (Nat.le_of_ble_eq_true rfl) rfl (fun X hX => ?_)
  have bad : ¬ oddOK x n k w → G mdX11_odds X 40 [] [] σ := fun g => bX11_odds_40 hX ⟨by unfold oddsV; rw [if_neg g], h, dn.rf⟩
  refine bX11_odds_0 (m_in hx ⟨by decide, by decide⟩ ⟨by decide, by decide⟩ σ) ?_
  rintro z u hz ⟨rfl, rfl⟩
  refine bX11_odds_7 hz (fun q => bad (fun g => bI_d0 q g.1)) (fun q => ?_)
  have b1 := bI_d1 q
  refine bX11_odds_10 (m_in hn ⟨by decide, by decide⟩ ⟨by decide, by decide⟩ _) ?_
  rintro z u hz ⟨rfl, rfl⟩
  refine bX11_odds_17 hz (fun q => bad (fun g => bI_d0 q g.2.1)) (fun q => ?_)
  have b2 := bI_d1 q
  refine bX11_odds_20 (m_in hk ⟨by decide, by decide⟩ ⟨by decide, by decide⟩ _) ?_
  rintro z u hz ⟨rfl, rfl⟩
  refine bX11_odds_27 hz (fun q => bad (fun g => bI_d0 q g.2.2.1)) (fun q => ?_)
  have b3 := bI_d1 q
  refine bX11_odds_30 (m_in hw ⟨by decide, by decide⟩ ⟨by decide, by decide⟩ _) ?_
  rintro z u hz ⟨rfl, rfl⟩
  refine bX11_odds_37 hz (fun q => ?_) (fun q => bad (fun g => bI_d0 q g.2.2.2))
  have b4 := bI_d1 q
  have ev : oddsV x n k w = oddN x.toNat n.toNat k.toNat w.toNat := by unfold oddsV; rw [if_pos ⟨b1, b2, b3, b4⟩]
  rw [ev] at hX
  obtain ⟨x, rfl⟩ : ∃ m : Nat, x = m := ⟨x.toNat, by omega⟩
  obtain ⟨n, rfl⟩ : ∃ m : Nat, n = m := ⟨n.toNat, by omega⟩
  obtain ⟨k, rfl⟩ : ∃ m : Nat, k = m := ⟨k.toNat, by omega⟩
  rw [Int.toNat_natCast, Int.toNat_natCast, Int.toNat_natCast] at hX
  have hw1 : minN n k + 1 < n + 2 := by unfold minN; split <;> omega
  have s1 := sm_bd x (by omega) n (by omega) (minN n k + 1) hw1
  have s2 := com_bd x (by omega) n (by omega) (minN n k + 1) hw1
  have s3 := pw_bdO 10 (by omega) n (by omega)
  have s4 := com_gcd x (by omega) n (by omega) (minN n k + 1) hw1
  have e3 : ((10 : Nat) : Int) ^ n = 10 ^ n := rfl
  rw [e3] at s3
  obtain ⟨A, hA⟩ : ∃ A, A = smN x n (minN n k + 1) := ⟨_, rfl⟩
  obtain ⟨C, hC⟩ : ∃ C, C = comN A n := ⟨_, rfl⟩
  rw [← hA] at s1 s2 s4
  rw [← hC] at s2 s4
  -- the end
  have fin : G mdX11_odds X 185 [(4, vi w), (5, vi A), (6, vi (10 ^ n)), (8, vi C)] [] σ := by
    have dA : 0 ≤ A / C := Int.ediv_nonneg s1.1 (by omega)
    have dA2 : A / C ≤ A := Int.ediv_le_self C s1.1
    have dL : 0 ≤ 10 ^ n / C := Int.ediv_nonneg s3.1 (by omega)
    have dL2 : 10 ^ n / C ≤ 10 ^ n := Int.ediv_le_self C s3.1
    refine bX11_odds_185 hw (fun q => ?_) (fun q => ?_)
    · refine bX11_odds_198 ⟨⟨s3.1, by omega⟩, by omega, by omega⟩ (bX11_odds_203 hX ⟨by omega, by omega⟩ ⟨?_, h, dn.rf⟩)
      unfold oddN
      rw [if_neg (by omega), ← hA, ← hC]
    · refine bX11_odds_190 ⟨⟨s1.1, by omega⟩, by omega, by omega⟩ (bX11_odds_203 hX ⟨by omega, by omega⟩ ⟨?_, h, dn.rf⟩)
      unfold oddN
      rw [if_pos (by omega), ← hA, ← hC]
  -- the common divisor
  have gc : ∀ (m b c : Nat), b ≤ m → b ≤ 100000000 → c ≤ 100000000 → ((Nat.gcd b c : Nat) : Int) = C → G mdX11_odds X 162 [(4, vi w), (5, vi A), (6, vi (10 ^ n)), (8, vi (c : Int)), (9, vi (b : Int))] [] σ := by
    intro m
    induction m with
    | zero =>
      intro b c h1 h2 h3 h4
      obtain rfl : b = 0 := by omega
      rw [Nat.gcd_zero_left] at h4
      rw [h4]
      exact bX11_odds_162 ⟨by decide, by decide⟩ (fun _ => fin) (fun q => absurd rfl q)
    | succ m ih =>
      intro b c h1 h2 h3 h4
      by_cases h0 : b = 0
      · subst h0
        rw [Nat.gcd_zero_left] at h4
        rw [h4]
        exact bX11_odds_162 ⟨by decide, by decide⟩ (fun _ => fin) (fun q => absurd rfl q)
      · have hlt := Nat.mod_lt c (show 0 < b by omega)
        refine bX11_odds_162 ⟨by omega, by omega⟩ (fun q => absurd q (by omega)) (fun _ => bX11_odds_167 ⟨⟨by omega, by omega⟩, by omega, by omega⟩ ?_)
        rw [show ((c : Int) % (b : Int)) = ((c % b : Nat) : Int) by push_cast; rfl]
        refine ih (c % b) b (by omega) (by omega) h2 ?_
        rw [← Nat.gcd_rec]
        exact h4
  have at154 : G mdX11_odds X 154 [(4, vi w), (5, vi A), (6, vi (10 ^ n))] [] σ := by
    refine bX11_odds_154 ?_
    have e5 : ((10 ^ n : Nat) : Int) = 10 ^ n := by push_cast; rfl
    have := gc (10 ^ n) (10 ^ n) A.toNat (Nat.le_refl _) (by omega) (by omega) s4.symm
    rw [e5, Int.toNat_of_nonneg s1.1] at this
    exact this
  -- the power of 10
  have at132 : G mdX11_odds X 132 [(2, vi (n : Int)), (4, vi w), (5, vi A), (6, vi 1)] [] σ := by
    refine bX11_odds_132 ?_
    have key : G mdX11_odds X 135 [(2, vi (n : Int)), (4, vi w), (5, vi A), (6, vi (10 ^ (0 : Int).toNat)), (8, vi 0)] [] σ := by
      refine loopUp (Q := fun i => G mdX11_odds X 135 [(2, vi (n : Int)), (4, vi w), (5, vi A), (6, vi (10 ^ i.toNat)), (8, vi i)] [] σ) (a := 0) (n := n) ?_ (fun i h1 h2 ih => ?_) (by omega)
      · rw [Int.toNat_natCast]
        exact bX11_odds_135 ⟨⟨by omega, by omega⟩, by omega, by omega⟩ (fun _ => at154) (fun q => by omega)
      · refine bX11_odds_135 ⟨⟨by omega, by omega⟩, by omega, by omega⟩ (fun q => by omega) (fun _ => bX11_odds_141 ?_)
        rw [show (i + 1).toNat = i.toNat + 1 by omega, Int.pow_succ] at ih
        exact ih
    rw [show (0 : Int).toNat = 0 from rfl, Int.pow_zero] at key
    exact key
  refine bX11_odds_42 ?_
  have key : ∀ (d v : Nat), v + d = minN n k + 1 → G mdX11_odds X 54 [(1, vi (x : Int)), (2, vi (n : Int)), (3, vi (k : Int)), (4, vi w), (5, vi (smN x n v)), (6, vi 1), (7, vi (chN n v)), (8, vi (v : Int))] [] σ := by
    intro d
    induction d with
    | zero =>
      intro v hv
      have ea : smN x n v = A := by rw [hA, show minN n k + 1 = v by omega]
      rw [ea]
      have hv9 : v ≤ 9 := by unfold minN at hv; split at hv <;> omega
      refine bX11_odds_54 ⟨⟨by omega, by omega⟩, by omega, by omega⟩ (fun _ => at132) (fun q => ?_)
      refine bX11_odds_60 ⟨⟨by omega, by omega⟩, by omega, by omega⟩ (fun _ => at132) (fun q2 => by unfold minN at hv; split at hv <;> omega)
    | succ d ih =>
      intro v hv
      have hwn : v ≤ n ∧ v ≤ k := by unfold minN at hv; split at hv <;> omega
      have hc := ch_bd n (by omega) v (by omega)
      refine bX11_odds_54 ⟨⟨by omega, by omega⟩, by omega, by omega⟩ (fun q => by omega) (fun _ => ?_)
      refine bX11_odds_60 ⟨⟨by omega, by omega⟩, by omega, by omega⟩ (fun q => by omega) (fun _ => ?_)
      refine bX11_odds_66 ?_
      have inn : G mdX11_odds X 73 [(1, vi (x : Int)), (2, vi (n : Int)), (3, vi (k : Int)), (4, vi w), (5, vi (smN x n v)), (6, vi 1), (7, vi (chN n v)), (8, vi (v : Int)), (9, vi (opN x (chN n v) v (0 : Int).toNat)), (10, vi 0)] [] σ := by
        refine loopUp (Q := fun i => G mdX11_odds X 73 [(1, vi (x : Int)), (2, vi (n : Int)), (3, vi (k : Int)), (4, vi w), (5, vi (smN x n v)), (6, vi 1), (7, vi (chN n v)), (8, vi (v : Int)), (9, vi (opN x (chN n v) v i.toNat)), (10, vi i)] [] σ) (a := 0) (n := n) ?_ (fun i h1 h2 ih2 => ?_) (by omega)
        · rw [Int.toNat_natCast]
          refine bX11_odds_73 ⟨⟨by omega, by omega⟩, by omega, by omega⟩ (fun _ => ?_) (fun q => by omega)
          refine bX11_odds_105 ⟨⟨hc.1, by omega⟩, by omega, by omega⟩ ?_
          have := ih (v + 1) (by omega)
          have eo : opN x (chN n v) v n = chN n v * (x : Int) ^ v * (10 - (x : Int)) ^ (n - v) := by
            have := opN_hi x (chN n v) v (n - v)
            rwa [show v + (n - v) = n by omega] at this
          rw [eo]
          exact this
        · have es : opN x (chN n v) v (i + 1).toNat = opN x (chN n v) v i.toNat * (if i.toNat < v then (x : Int) else 10 - (x : Int)) := by
            rw [show (i + 1).toNat = i.toNat + 1 by omega]; rfl
          rw [es] at ih2
          refine bX11_odds_73 ⟨⟨by omega, by omega⟩, by omega, by omega⟩ (fun q => by omega) (fun _ => ?_)
          refine bX11_odds_79 ⟨⟨by omega, by omega⟩, by omega, by omega⟩ (fun q => ?_) (fun q => ?_)
          · rw [if_neg (by omega)] at ih2
            exact bX11_odds_92 (bX11_odds_96 ih2)
          · rw [if_pos (by omega)] at ih2
            exact bX11_odds_88 (bX11_odds_96 ih2)
      exact inn
  exact key _ 0 (Nat.zero_add _)
