/-! the orders of the stages: Arrangement -/
def riseL (c : Row) : Nat → Int
  | 0 => -1
  | k + 1 => if c (k + 1) < c k then riseL c k else k
def largeL (c : Row) (r : Int) : Nat → Int
  | 0 => 0
  | k + 1 => if r < k + 1 ∧ c (k + 1) < c r then largeL c r k else k + 1
def swapR (c : Row) (i j : Int) : Row := fun x => if x = j then c i else if x = i then c j else c x
def revL (c : Row) (lo hi : Int) : Nat → Row
  | 0 => c
  | f + 1 => if lo < hi then revL (swapR c lo hi) (lo + 1) (hi - 1) f else c
def nextR (c : Row) (n : Int) : Row := revL (swapR c (riseL c (n - 1).toNat) (largeL c (riseL c (n - 1).toNat) (n - 1).toNat)) (riseL c (n - 1).toNat + 1) (n - 1) 4
theorem riseL_bd (c : Row) : ∀ k : Nat, -1 ≤ riseL c k ∧ riseL c k < k
  | 0 => by unfold riseL; omega
  | k + 1 => by
    have h := riseL_bd c k
    unfold riseL
    split <;> omega
theorem largeL_bd (c : Row) (r : Int) : ∀ k : Nat, 0 ≤ largeL c r k ∧ largeL c r k ≤ k
  | 0 => by unfold largeL; omega
  | k + 1 => by
    have h := largeL_bd c r k
    unfold largeL
    split <;> omega
theorem riseL_z (c : Row) : riseL c 0 = -1 := rfl
theorem riseL_s (c : Row) (k : Nat) : riseL c (k + 1) = if c (k + 1) < c k then riseL c k else k := rfl
theorem largeL_z (c : Row) (r : Int) : largeL c r 0 = 0 := rfl
theorem largeL_s (c : Row) (r : Int) (k : Nat) : largeL c r (k + 1) = if r < k + 1 ∧ c (k + 1) < c r then largeL c r k else k + 1 := rfl
theorem c_aSwap (σ : St) {i j : Int} (hi : 0 ≤ i ∧ i < 4) (hj : 0 ≤ j ∧ j < 4) : CVe mdX0_swap [vr 81, vi i, vi j] σ (setr σ 82 (swapR (σ 82) i j)) := by
  refine CV_of (by decide +kernel) (Nat.le_of_ble_eq_true rfl) rfl (fun X hX => ?_)
  refine bX0_swap_0 hX ⟨hi, hj⟩ ?_
  rw [wr_setr σ, wr_wr]
  rfl
theorem c_moveOn (σ : St) {n : Int} (hn : σ 81 2 = n) (hn4 : 0 ≤ n ∧ n ≤ 4) (hc : ∀ j, 0 ≤ j → j < n → inI (σ 82 j)) : CIe mdX0_moveOn [vr 81] σ (bI (decide (0 ≤ riseL (σ 82) (n - 1).toNat))) (if 0 ≤ riseL (σ 82) (n - 1).toNat then setr σ 82 (nextR (σ 82) n) else σ) := by
  refine CI_of (by decide +kernel) (Nat.le_of_ble_eq_true rfl) rfl (fun X hX => ?_)
  have e81 : ∀ f, setr σ 82 f 81 2 = n := fun f => by rw [setr_ne σ f (by decide)]; exact hn
  refine bX0_moveOn_0 ?_
  rw [hn]
  -- behind the swap: the rest turned round
  have rev : ∀ (f : Nat) (c : Row) (lo hi : Int), 0 ≤ lo → lo ≤ 4 → -4 ≤ hi → hi < 4 → hi - lo < 2 * f → (setr σ 82 (revL c lo hi f) = if 0 ≤ riseL (σ 82) (n - 1).toNat then setr σ 82 (nextR (σ 82) n) else σ) → 0 ≤ riseL (σ 82) (n - 1).toNat → G mdX0_moveOn X 91 [(0, vr 81), (3, vi lo), (4, vi hi)] [] (setr σ 82 c) := by
    intro f
    induction f with
    | zero =>
      intro c lo hi h1 h1' h2' h2 h3 h4 h5
      exact bX0_moveOn_91 (by omega) (fun q => bX0_moveOn_113 hX ⟨by rw [decide_eq_true h5]; rfl, h4.symm⟩) (fun q => by omega)
    | succ f ih =>
      intro c lo hi h1 h1' h2' h2 h3 h4 h5
      unfold revL at h4
      refine bX0_moveOn_91 (by omega) (fun q => bX0_moveOn_113 hX ⟨by rw [decide_eq_true h5]; rfl, ?_⟩) (fun q => ?_)
      · rw [if_neg (by omega)] at h4
        exact h4.symm
      · rw [if_pos q] at h4
        refine bX0_moveOn_97 (c_aSwap _ (by omega) (by omega)) ?_
        rintro u rfl
        rw [setr_at, setr_setr]
        refine bX0_moveOn_104 ?_
        rw [show hi + (-1) = hi - 1 by omega]
        exact ih _ (lo + 1) (hi - 1) (by omega) (by omega) (by omega) (by omega) (by omega) h4 h5
  -- the place to swap with
  have large : ∀ (r : Int) (k : Nat), 0 ≤ r → r < n - 1 → (k : Int) ≤ n - 1 → r = riseL (σ 82) (n - 1).toNat → largeL (σ 82) r k = largeL (σ 82) r (n - 1).toNat → G mdX0_moveOn X 47 [(0, vr 81), (1, vi r), (2, vi (k : Int))] [] σ := by
    intro r k
    have ex : ∀ l : Int, 0 ≤ r → r < n - 1 → r = riseL (σ 82) (n - 1).toNat → l = largeL (σ 82) r (n - 1).toNat → G mdX0_moveOn X 73 [(0, vr 81), (1, vi r), (2, vi l)] [] σ := by
      intro l h0 h1 hr hl
      have hb := largeL_bd (σ 82) r (n - 1).toNat
      refine bX0_moveOn_73 (c_aSwap σ (by omega) (by omega)) ?_
      rintro u rfl
      refine bX0_moveOn_79 ?_
      rw [e81]
      refine rev 4 _ (r + 1) (n - 1) (by omega) (by omega) (by omega) (by omega) (by omega) ?_ (by omega)
      rw [if_pos (by omega)]
      unfold nextR
      rw [← hr, ← hl]
    induction k with
    | zero =>
      intro h0 h1 h2 hr hl
      exact bX0_moveOn_47 (by omega) (fun q => ex _ h0 h1 hr hl) (fun q => by omega)
    | succ k ih =>
      intro h0 h1 h2 hr hl
      rw [largeL_s (σ 82) r k] at hl
      refine bX0_moveOn_47 (by omega) (fun q => ?_) (fun q => ?_)
      · rw [if_neg (by omega)] at hl
        exact ex _ h0 h1 hr hl
      · have c1 := hc ((k + 1 : Nat) : Int) (by omega) (by omega)
        have c2 := hc r h0 (by omega)
        refine bX0_moveOn_52 ⟨by omega, by omega, c1, c2⟩ (fun q2 => ?_) (fun q2 => ?_)
        · rw [if_neg (by push_cast at q2; omega)] at hl
          exact ex _ h0 h1 hr hl
        · rw [if_pos (by push_cast at q2 q; omega)] at hl
          refine bX0_moveOn_67 ?_
          rw [show ((k + 1 : Nat) : Int) + (-1) = (k : Int) by push_cast; omega]
          exact ih h0 h1 (by omega) hr hl
  have at34 : ∀ r : Int, -4 ≤ r → r < n - 1 ∨ r < 0 → r = riseL (σ 82) (n - 1).toNat ∨ (r < 0 ∧ riseL (σ 82) (n - 1).toNat < 0) → G mdX0_moveOn X 34 [(0, vr 81), (1, vi r)] [] σ := by
    intro r h0 h1 hr
    refine bX0_moveOn_34 (by omega) (fun q => ?_) (fun q => ?_)
    · refine bX0_moveOn_40 ?_
      rw [hn]
      have e : n - 1 = (((n - 1).toNat : Nat) : Int) := by omega
      rw [e]
      exact large r _ q (by omega) (by omega) (by omega) rfl
    · exact bX0_moveOn_38 hX ⟨by rw [decide_eq_false (by omega)]; rfl, by rw [if_neg (by omega)]⟩
  have rise : ∀ k : Nat, (k : Int) ≤ n - 1 → riseL (σ 82) k = riseL (σ 82) (n - 1).toNat → G mdX0_moveOn X 7 [(0, vr 81), (1, vi ((k : Int) - 1))] [] σ := by
    intro k
    induction k with
    | zero =>
      intro h1 h2
      rw [riseL_z (σ 82)] at h2
      exact bX0_moveOn_7 (by decide) (fun q => at34 _ (by decide) (Or.inr (by decide)) (Or.inr ⟨by decide, by omega⟩)) (fun q => absurd q (by decide))
    | succ k ih =>
      intro h1 h2
      have hb := riseL_bd (σ 82) (k + 1)
      have c1 := hc (k : Int) (by omega) (by omega)
      have c2 := hc ((k : Int) + 1) (by omega) (by omega)
      rw [show ((k + 1 : Nat) : Int) - 1 = (k : Int) by push_cast; omega]
      rw [riseL_s (σ 82) k] at h2
      refine bX0_moveOn_7 (by omega) (fun q => by omega) (fun q => bX0_moveOn_11 ⟨by omega, by omega, c1, c2⟩ (fun q2 => ?_) (fun q2 => ?_))
      · rw [if_neg (by omega)] at h2
        exact at34 _ (by omega) (Or.inl (by push_cast at h1; omega)) (Or.inl h2)
      · rw [if_pos q2] at h2
        refine bX0_moveOn_28 ?_
        exact ih (by push_cast at h1; omega) h2
  by_cases h0 : n = 0
  · have hb := riseL_bd (σ 82) (n - 1).toNat
    exact bX0_moveOn_7 (by omega) (fun q => at34 _ (by omega) (Or.inr q) (Or.inr ⟨q, by omega⟩)) (fun q => by omega)
  · have h := rise (n - 1).toNat (by omega) rfl
    rw [show (((n - 1).toNat : Nat) : Int) - 1 = n - 2 by omega] at h
    exact h
theorem c_aStart (σ : St) {n : Int} (hn : 0 ≤ n ∧ n ≤ 4) : CVe mdX0_start [vr 81, vi n] σ (setr (setS σ 81 2 n) 82 (win n (fun i => i) (σ 82))) := by
  refine CV_of (by decide +kernel) (Nat.le_of_ble_eq_true rfl) rfl (fun X hX => ?_)
  refine bX0_start_0 (c_min ⟨by omega, by omega⟩ ⟨by decide, by decide⟩ σ) ?_
  rintro z u hz ⟨rfl, rfl⟩
  rw [if_pos hn.2]
  refine bX0_start_6 ?_
  rw [wr_setr]
  have e82 : setS σ 81 2 n 82 = σ 82 := setr_ne _ _ (by decide)
  have e81 : ∀ f, setr (setS σ 81 2 n) 82 f 81 2 = n := fun f => by
    rw [setr_ne _ _ (by decide)]
    unfold setS
    rw [setr_at, if_pos rfl]
  have key : G mdX0_start X 11 [(0, vr 81), (2, vi 0)] [] (setr (setS σ 81 2 n) 82 (win 0 (fun i => i) (σ 82))) := by
    refine loopUp (Q := fun i => G mdX0_start X 11 [(0, vr 81), (2, vi i)] [] (setr (setS σ 81 2 n) 82 (win i (fun i => i) (σ 82)))) (n := n) ?_ (fun i h1 h2 ih => ?_) hn.1
    · exact bX0_start_11 (by rw [e81]; omega) (fun q => bX0_start_32 hX rfl) (fun q => by rw [e81] at q; omega)
    · refine bX0_start_11 (by rw [e81]; omega) (fun q => by rw [e81] at q; omega) (fun q => bX0_start_19 (by omega) ?_)
      rw [wr_win _ _ _ _ h1 rfl]
      exact ih
  rw [win_0, ← e82, setr_id] at key
  exact key
theorem c_keepCurrent (σ : St) (hn : 0 ≤ σ 81 2 ∧ σ 81 2 ≤ 4) : CVe mdX0_keepCurrent [vr 81] σ (setr σ 83 (win (σ 81 2) (σ 82) (σ 83))) := by
  refine CV_of (by decide +kernel) (Nat.le_of_ble_eq_true rfl) rfl (fun X hX => ?_)
  refine bX0_keepCurrent_0 hX (by omega) ?_
  rw [cp_setr]
  congr 1
  funext j
  unfold win
  by_cases h : 0 ≤ j ∧ j < σ 81 2
  · rw [if_pos h, if_pos (by omega)]; congr 1; omega
  · rw [if_neg h, if_neg (by omega)]
theorem c_bestIsPresent (σ : St) {n : Int} (hn : σ 81 2 = n) (hn4 : 0 ≤ n ∧ n ≤ 4) (hc : ∀ j, 0 ≤ j → j < n → inI (σ 83 j)) : CI mdX0_bestIsPresent [vr 81] σ (fun z u => ((z = 1 ∧ ∀ j, 0 ≤ j → j < n → σ 83 j = j) ∨ (z = 0 ∧ ¬ ∀ j, 0 ≤ j → j < n → σ 83 j = j)) ∧ σ = u) := by
  refine CI_of (by decide +kernel) (Nat.le_of_ble_eq_true rfl) rfl (fun X hX => ?_)
  refine bX0_bestIsPresent_0 ?_
  have key : (∀ j, 0 ≤ j → j < 0 → σ 83 j = j) → G mdX0_bestIsPresent X 2 [(0, vr 81), (1, vi 0)] [] σ := by
    refine loopUp (Q := fun i => (∀ j, 0 ≤ j → j < i → σ 83 j = j) → G mdX0_bestIsPresent X 2 [(0, vr 81), (1, vi i)] [] σ) (n := n) ?_ (fun i h1 h2 ih => ?_) hn4.1
    · intro h
      exact bX0_bestIsPresent_2 (by rw [hn]; omega) (fun q => bX0_bestIsPresent_28 hX ⟨Or.inl ⟨rfl, h⟩, rfl⟩) (fun q => by rw [hn] at q; omega)
    · intro h
      refine bX0_bestIsPresent_2 (by rw [hn]; omega) (fun q => by rw [hn] at q; omega) (fun q => ?_)
      refine bX0_bestIsPresent_10 ⟨by omega, hc i h1 h2, by omega⟩ (fun q2 => ?_) (fun q2 => ?_)
      · refine bX0_bestIsPresent_22 (ih (fun j g1 g2 => ?_))
        by_cases e : j = i
        · rw [e]; exact q2
        · exact h j g1 (by omega)
      · exact bX0_bestIsPresent_20 hX ⟨Or.inr ⟨rfl, fun h2' => q2 (h2' i h1 h2)⟩, rfl⟩
  exact key (fun j h1 h2 => by omega)
