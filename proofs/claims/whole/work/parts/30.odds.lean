/-! odds -/
theorem c_oPower {b : Int} (n : Nat) (hn : n < 1000) (hb : inI (b ^ n)) (σ : St) : CIe mdX5_power [vi b, vi (n : Int)] σ (b ^ n) σ := by
  refine CI_of (by decide +kernel) (Nat.le_of_ble_eq_true rfl) rfl (fun X hX => ?_)
  refine bX5_power_0 ?_
  have key : G mdX5_power X 4 [(0, vi b), (1, vi (n : Int)), (2, vi (b ^ (0 : Int).toNat)), (3, vi 0)] [] σ := by
    refine loopUp (Q := fun k => G mdX5_power X 4 [(0, vi b), (1, vi (n : Int)), (2, vi (b ^ k.toNat)), (3, vi k)] [] σ) (a := 0) (n := n) ?_ (fun k h1 h2 ih => ?_) (by omega)
    · rw [Int.toNat_natCast]
      exact bX5_power_4 (by omega) (fun _ => bX5_power_19 hX hb ⟨rfl, rfl⟩) (fun q => by omega)
    · refine bX5_power_4 (by omega) (fun q => by omega) (fun _ => bX5_power_9 ?_)
      rw [show (k + 1).toNat = k.toNat + 1 by omega, Int.pow_succ] at ih
      exact ih
  rw [show (0 : Int).toNat = 0 from rfl, Int.pow_zero] at key
  exact key
def chN (n : Nat) : Nat → Int
  | 0 => 1
  | w + 1 => chN n w * (n - w) / (w + 1)
def smN (x : Int) (n : Nat) : Nat → Int
  | 0 => 0
  | w + 1 => smN x n w + chN n w * x ^ w * (10 - x) ^ (n - w)
theorem ch_bd : ∀ n : Nat, n < 9 → ∀ w : Nat, w < n + 1 → 0 ≤ chN n w * (n - w) ∧ chN n w * (n - w) < 1000 := by decide +kernel
theorem sm_bd : ∀ x : Nat, x < 11 → ∀ n : Nat, n < 9 → ∀ w : Nat, w < n + 2 → 0 ≤ smN x n w ∧ smN x n w ≤ 100000000 := by decide +kernel
theorem pw_bdO : ∀ x : Nat, x < 11 → ∀ n : Nat, n < 9 → 0 ≤ (x : Int) ^ n ∧ (x : Int) ^ n ≤ 100000000 := by decide +kernel
theorem c_atMost {x n k : Nat} (hx : x < 11) (hn : n < 9) (hk : k < 9) (σ : St) : CIe mdX5_atMost [vi (x : Int), vi (n : Int), vi (k : Int)] σ (smN x n ((if n ≤ k then n else k) + 1)) σ := by
  refine CI_of (by decide +kernel) (Nat.le_of_ble_eq_true rfl) rfl (fun X hX => ?_)
  refine bX5_atMost_0 ?_
  have key : ∀ (d w : Nat), w + d = (if n ≤ k then n else k) + 1 → G mdX5_atMost X 8 [(0, vi (x : Int)), (1, vi (n : Int)), (2, vi (k : Int)), (3, vi (smN x n w)), (4, vi (chN n w)), (5, vi (w : Int))] [] σ := by
    intro d
    induction d with
    | zero =>
      intro w hw
      have hw9 : w ≤ 9 := by split at hw <;> omega
      have hs := sm_bd x hx n hn w (by split at hw <;> omega)
      have fin : G mdX5_atMost X 64 [(3, vi (smN x n w))] [] σ := bX5_atMost_64 hX ⟨by omega, by omega⟩ ⟨by rw [show (if n ≤ k then n else k) + 1 = w by omega], rfl⟩
      refine bX5_atMost_8 ⟨⟨by omega, by omega⟩, ⟨by omega, by omega⟩⟩ (fun _ => fin) (fun q => ?_)
      refine bX5_atMost_14 ⟨⟨by omega, by omega⟩, ⟨by omega, by omega⟩⟩ (fun _ => fin) (fun q2 => by split at hw <;> omega)
    | succ d ih =>
      intro w hw
      have hwn : w ≤ n ∧ w ≤ k := by split at hw <;> omega
      have hp1 := pw_bdO x hx w (by omega)
      have hp2 := pw_bdO (10 - x) (by omega) (n - w) (by omega)
      have hc := ch_bd n hn w (by omega)
      have e10 : (10 : Int) - (x : Int) = ((10 - x : Nat) : Int) := by omega
      refine bX5_atMost_8 ⟨⟨by omega, by omega⟩, ⟨by omega, by omega⟩⟩ (fun q => by omega) (fun _ => ?_)
      refine bX5_atMost_14 ⟨⟨by omega, by omega⟩, ⟨by omega, by omega⟩⟩ (fun q => by omega) (fun _ => ?_)
      refine bX5_atMost_20 (c_oPower w (by omega) ⟨by omega, by omega⟩ σ) ?_
      rintro z u hz ⟨rfl, rfl⟩
      refine bX5_atMost_29 ?_ (P := fun z u => z = (10 - (x : Int)) ^ (n - w) ∧ σ = u) ?_
      · rw [show (n : Int) - (w : Int) = ((n - w : Nat) : Int) by omega, e10]
        exact c_oPower (n - w) (by omega) ⟨by omega, by omega⟩ σ
      · rintro z u hz2 ⟨rfl, rfl⟩
        refine bX5_atMost_41 ⟨⟨hc.1, by omega⟩, ⟨by omega, by omega⟩⟩ ?_
        have := ih (w + 1) (by omega)
        exact this
  exact key _ 0 (Nat.zero_add _)
def shN (part prime : Int) : Nat → Int → Int
  | 0, d => d
  | f + 1, d => if part % (d * prime) = 0 then shN part prime f (d * prime) else d
theorem shN_bd {part prime : Int} (hp : 2 ≤ prime ∧ prime ≤ 5) : ∀ (f : Nat) (d : Int), 1 ≤ d → d * prime ^ f ≤ 1000000 → 1 ≤ shN part prime f d ∧ shN part prime f d ≤ 1000000
  | 0, d, h1, h2 => by
    rw [Int.pow_zero, Int.mul_one] at h2
    exact ⟨h1, h2⟩
  | f + 1, d, h1, h2 => by
    have hd : 1 ≤ d * prime := by have := Int.mul_le_mul h1 (show 1 ≤ prime by omega) (by decide) (by omega); omega
    have e : d * prime * prime ^ f = d * prime ^ (f + 1) := by rw [Int.pow_succ, Int.mul_assoc, Int.mul_comm prime]
    unfold shN
    split
    · exact shN_bd hp f (d * prime) hd (by rw [e]; exact h2)
    · refine ⟨h1, ?_⟩
      have hq : 1 ≤ prime ^ (f + 1) := by have g : 0 < prime ^ (f + 1) := Int.pow_pos (show 0 < prime by omega); omega
      have := Int.mul_le_mul (Int.le_refl d) hq (by decide) (by omega)
      omega
theorem c_shared {part prime : Int} (hq : 0 ≤ part ∧ part ≤ 100000000) (hp : prime = 2 ∨ prime = 5) {n : Nat} (hn : n < 9) (σ : St) : CIe mdX5_sharedPower [vi part, vi prime, vi (n : Int)] σ (shN part prime n 1) σ := by
  refine CI_of (by decide +kernel) (Nat.le_of_ble_eq_true rfl) rfl (fun X hX => ?_)
  refine bX5_sharedPower_0 ?_
  have hp2 : 2 ≤ prime ∧ prime ≤ 5 := by omega
  have bdp : ∀ m : Nat, m < 9 → prime ^ m ≤ 1000000 := by
    rcases hp with rfl | rfl
    · decide
    · decide
  have key : ∀ (f k : Nat) (d : Int), k + f = n → 1 ≤ d → d * prime ^ f ≤ 1000000 → shN part prime f d = shN part prime n 1 → G mdX5_sharedPower X 5 [(0, vi part), (1, vi prime), (2, vi (n : Int)), (3, vi d), (4, vi (k : Int))] [] σ := by
    intro f
    induction f with
    | zero =>
      intro k d h1 h2 h3 h4
      rw [Int.pow_zero, Int.mul_one] at h3
      exact bX5_sharedPower_5 ⟨⟨by omega, by omega⟩, ⟨by omega, by omega⟩⟩ (fun _ => bX5_sharedPower_29 hX ⟨by omega, by omega⟩ ⟨h4, rfl⟩) (fun q => by omega)
    | succ f ih =>
      intro k d h1 h2 h3 h4
      have hd : 1 ≤ d * prime := by have := Int.mul_le_mul h2 (show 1 ≤ prime by omega) (by decide) (by omega); omega
      have e : d * prime * prime ^ f = d * prime ^ (f + 1) := by rw [Int.pow_succ, Int.mul_assoc, Int.mul_comm prime]
      have hq1 : 1 ≤ prime ^ f := by have g : 0 < prime ^ f := Int.pow_pos (show 0 < prime by omega); omega
      have hm := Int.mul_le_mul (Int.le_refl (d * prime)) hq1 (by decide) (by omega)
      have hle : d * prime ≤ 1000000 := by rw [e] at hm; omega
      have hdl : d ≤ 1000000 := by have := Int.mul_le_mul (Int.le_refl d) (show 1 ≤ prime by omega) (by decide) (by omega); omega
      have hmod := Int.emod_nonneg part (show d * prime ≠ 0 by omega)
      have hmod2 := Int.emod_lt_of_pos part (show 0 < d * prime by omega)
      have es : shN part prime (f + 1) d = if part % (d * prime) = 0 then shN part prime f (d * prime) else d := rfl
      rw [es] at h4
      refine bX5_sharedPower_5 ⟨⟨by omega, by omega⟩, ⟨by omega, by omega⟩⟩ (fun q => by omega) (fun _ => ?_)
      refine bX5_sharedPower_11 ⟨⟨by omega, by omega⟩, ⟨by omega, by omega⟩, ⟨by omega, by omega⟩⟩ (fun q => ?_) (fun q => ?_)
      · rw [if_neg q] at h4
        exact bX5_sharedPower_29 hX ⟨by omega, by omega⟩ ⟨h4, rfl⟩
      · rw [if_pos q] at h4
        refine bX5_sharedPower_19 ?_
        exact ih (k + 1) (d * prime) (by omega) hd (by rw [e]; exact h3) h4
  exact key n 0 1 (by omega) (by decide) (by rw [Int.one_mul]; exact bdp n hn) rfl
def comN (part : Int) (n : Nat) : Int := shN part 2 n 1 * shN part 5 n 1
theorem com_bd : ∀ x : Nat, x < 11 → ∀ n : Nat, n < 9 → ∀ w : Nat, w < n + 2 → 1 ≤ comN (smN x n w) n ∧ comN (smN x n w) n ≤ 100000000 := by decide +kernel
theorem c_common {part : Int} (hq : 0 ≤ part ∧ part ≤ 100000000) {n : Nat} (hn : n < 9) (hc : 1 ≤ comN part n ∧ comN part n ≤ 100000000) (σ : St) : CIe mdX5_commonDivisor [vi part, vi (n : Int)] σ (comN part n) σ := by
  refine CI_of (by decide +kernel) (Nat.le_of_ble_eq_true rfl) rfl (fun X hX => ?_)
  refine bX5_commonDivisor_0 (c_shared hq (Or.inl rfl) hn σ) ?_
  rintro z u hz ⟨rfl, rfl⟩
  refine bX5_commonDivisor_6 (c_shared hq (Or.inr rfl) hn σ) ?_
  rintro z u hz2 ⟨rfl, rfl⟩
  refine bX5_commonDivisor_12 hX ?_ ⟨rfl, rfl⟩
  show -2147483648 ≤ comN part n ∧ comN part n < 2147483648
  omega
def minN (n k : Nat) : Nat := if n ≤ k then n else k
def oddN (x n k w : Nat) : Int := (if w = 0 then smN x n (minN n k + 1) else 10 ^ n) / comN (smN x n (minN n k + 1)) n
abbrev oddOK (x n k w : Int) : Prop := (0 ≤ x ∧ x ≤ 10) ∧ (0 ≤ n ∧ n ≤ 8) ∧ (0 ≤ k ∧ k ≤ 8) ∧ (0 ≤ w ∧ w ≤ 1)
def oddsV (x n k w : Int) : Int := if oddOK x n k w then oddN x.toNat n.toNat k.toNat w.toNat else -1
theorem k_odds {N : Int} {a : AS} {σ : St} (h : CR N a σ) {x n k w : Int} (hx : inI x) (hn : inI n) (hk : inI k) (hw : inI w) : CI mdX10_odds [vr 60, vi x, vi n, vi k, vi w] σ (fun z u => z = oddsV x n k w ∧ CR N a u ∧ up σ u) := by
  refine CI_of (by decide +kernel) (Nat.le_of_ble_eq_true rfl) rfl (fun X hX => ?_)
  have bad : ¬ oddOK x n k w → G mdX10_odds X 41 [] [] σ := fun g => bX10_odds_41 hX ⟨by unfold oddsV; rw [if_neg g], h, up.rf⟩
  refine bX10_odds_0 hx (fun q => bad (by omega)) (fun q1 => ?_)
  refine bX10_odds_4 hx (fun q => bad (by omega)) (fun q2 => ?_)
  refine bX10_odds_10 hn (fun q => bad (by omega)) (fun q3 => ?_)
  refine bX10_odds_14 hn (fun q => bad (by omega)) (fun q4 => ?_)
  refine bX10_odds_20 hk (fun q => bad (by omega)) (fun q5 => ?_)
  refine bX10_odds_24 hk (fun q => bad (by omega)) (fun q6 => ?_)
  refine bX10_odds_30 hw (fun q => bad (by omega)) (fun q7 => ?_)
  refine bX10_odds_35 hw (fun q8 => ?_) (fun q => bad (by omega))
  have ev : oddsV x n k w = oddN x.toNat n.toNat k.toNat w.toNat := by unfold oddsV; rw [if_pos (by omega)]
  rw [ev] at hX
  obtain ⟨x, rfl⟩ : ∃ m : Nat, x = m := ⟨x.toNat, by omega⟩
  obtain ⟨n, rfl⟩ : ∃ m : Nat, n = m := ⟨n.toNat, by omega⟩
  obtain ⟨k, rfl⟩ : ∃ m : Nat, k = m := ⟨k.toNat, by omega⟩
  rw [Int.toNat_natCast, Int.toNat_natCast, Int.toNat_natCast] at hX
  have hw1 : minN n k + 1 < n + 2 := by unfold minN; split <;> omega
  have s1 := sm_bd x (by omega) n (by omega) (minN n k + 1) hw1
  have s2 := com_bd x (by omega) n (by omega) (minN n k + 1) hw1
  have s3 := pw_bdO 10 (by omega) n (by omega)
  have e3 : ((10 : Nat) : Int) ^ n = 10 ^ n := rfl
  rw [e3] at s3
  refine bX10_odds_43 (c_oPower n (by omega) ⟨by omega, by omega⟩ σ) ?_
  rintro z u hz ⟨rfl, rfl⟩
  refine bX10_odds_49 (c_atMost (x := x) (n := n) (k := k) (by omega) (by omega) (by omega) σ) ?_
  rintro z u hz ⟨rfl, rfl⟩
  refine bX10_odds_57 (c_common s1 (n := n) (by omega) s2 σ) ?_
  rintro z u hz2 ⟨rfl, rfl⟩
  obtain ⟨A, hA⟩ : ∃ A, A = smN x n (minN n k + 1) := ⟨_, rfl⟩
  obtain ⟨C, hC⟩ : ∃ C, C = comN A n := ⟨_, rfl⟩
  have hfin : ∀ B : Int, 0 ≤ B → B ≤ 100000000 → B / C = oddN x n k w.toNat → G mdX10_odds X 79 [(7, vi C)] [vi B] σ := by
    intro B b1 b2 b3
    rw [← hA] at s2
    rw [← hC] at s2
    refine bX10_odds_79 (c_max ⟨by decide, by decide⟩ ⟨by omega, by omega⟩ σ) ?_
    rintro z u hz3 ⟨rfl, rfl⟩
    have em : (if C ≤ 1 then 1 else C) = C := by split <;> omega
    rw [em]
    have d1 : 0 ≤ B / C := Int.ediv_nonneg b1 (by omega)
    have d2 : B / C ≤ B := Int.ediv_le_self C b1
    exact bX10_odds_85 hX ⟨⟨b1, by omega⟩, ⟨by omega, by omega⟩, ⟨by omega, by omega⟩⟩ ⟨b3, h, up.rf⟩
  show G mdX10_odds X 65 [(4, vi w), (5, vi (10 ^ n)), (6, vi (smN x n (minN n k + 1)))] [vi (comN (smN x n (minN n k + 1)) n)] σ
  rw [← hA, ← hC]
  rw [← hA] at s1
  refine bX10_odds_65 hw (fun q => ?_) (fun q => ?_)
  · refine bX10_odds_77 (hfin _ s3.1 s3.2 ?_)
    unfold oddN
    rw [if_neg (by omega), ← hA, ← hC]
  · refine bX10_odds_72 (hfin _ s1.1 s1.2 ?_)
    unfold oddN
    rw [if_pos (by omega), ← hA, ← hC]
