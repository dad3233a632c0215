/-! what the methods share -/
theorem bJ_t {p : Prop} [Decidable p] (h : p) : (1 : Int) = bI (decide p) := by rw [decide_eq_true h]; rfl
theorem bJ_f {p : Prop} [Decidable p] (h : ¬ p) : (0 : Int) = bI (decide p) := by rw [decide_eq_false h]; rfl
theorem bI_d0 {p : Prop} [Decidable p] (h : bI (decide p) = 0) : ¬ p := by
  intro hp
  rw [decide_eq_true hp] at h
  exact absurd h (by decide)
theorem bI_d1 {p : Prop} [Decidable p] (h : ¬ bI (decide p) = 0) : p := by
  by_cases hp : p
  · exact hp
  · rw [decide_eq_false hp] at h; exact absurd rfl h
theorem c_isPlace {i : Int} (hi : inI i) (σ : St) : CIe mdX10_isPlace [vi i] σ (bI (decide (0 ≤ i ∧ i < 16))) σ := by
  refine CI_of (by decide +kernel) (Nat.le_of_ble_eq_true rfl) rfl (fun X hX => ?_)
  refine bX10_isPlace_0 hi (fun q => ?_) (fun q => ?_)
  · exact bX10_isPlace_14 (bX10_isPlace_15 hX (Or.inl rfl) ⟨bJ_f (by omega), rfl⟩)
  · refine bX10_isPlace_4 hi (fun q2 => ?_) (fun q2 => ?_)
    · exact bX10_isPlace_14 (bX10_isPlace_15 hX (Or.inl rfl) ⟨bJ_f (by omega), rfl⟩)
    · exact bX10_isPlace_10 (bX10_isPlace_15 hX (Or.inr rfl) ⟨bJ_t (by omega), rfl⟩)
theorem c_isSymbol {i : Int} (hi : inI i) (σ : St) : CIe mdX10_isSymbol [vi i] σ (bI (decide (0 ≤ i ∧ i < 4))) σ := by
  refine CI_of (by decide +kernel) (Nat.le_of_ble_eq_true rfl) rfl (fun X hX => ?_)
  refine bX10_isSymbol_0 hi (fun q => ?_) (fun q => ?_)
  · exact bX10_isSymbol_13 (bX10_isSymbol_14 hX (Or.inl rfl) ⟨bJ_f (by omega), rfl⟩)
  · refine bX10_isSymbol_4 hi (fun q2 => ?_) (fun q2 => ?_)
    · exact bX10_isSymbol_13 (bX10_isSymbol_14 hX (Or.inl rfl) ⟨bJ_f (by omega), rfl⟩)
    · exact bX10_isSymbol_9 (bX10_isSymbol_14 hX (Or.inr rfl) ⟨bJ_t (by omega), rfl⟩)
theorem c_isSpot {r i : Int} (hr : inI r) (hi : inI i) (σ : St) : CIe mdX10_isSpot [vi r, vi i] σ (bI (decide ((0 ≤ r ∧ r < 2) ∧ (0 ≤ i ∧ i < 16)))) σ := by
  refine CI_of (by decide +kernel) (Nat.le_of_ble_eq_true rfl) rfl (fun X hX => ?_)
  refine bX10_isSpot_0 hr (fun q => ?_) (fun q => ?_)
  · exact bX10_isSpot_20 (bX10_isSpot_21 hX (Or.inl rfl) ⟨bJ_f (by omega), rfl⟩)
  · refine bX10_isSpot_4 hr (fun q2 => ?_) (fun q2 => ?_)
    · exact bX10_isSpot_20 (bX10_isSpot_21 hX (Or.inl rfl) ⟨bJ_f (by omega), rfl⟩)
    · refine bX10_isSpot_9 (c_isPlace hi σ) ?_
      rintro z u hz ⟨rfl, rfl⟩
      refine bX10_isSpot_13 hz (fun q3 => ?_) (fun q3 => ?_)
      · have := bI_d0 q3
        exact bX10_isSpot_20 (bX10_isSpot_21 hX (Or.inl rfl) ⟨bJ_f (by omega), rfl⟩)
      · have := bI_d1 q3
        exact bX10_isSpot_16 (bX10_isSpot_21 hX (Or.inr rfl) ⟨bJ_t (by omega), rfl⟩)
theorem c_isPair {i j : Int} (hi : inI i) (hj : inI j) (σ : St) : CIe mdX10_isPair [vi i, vi j] σ (bI (decide ((0 ≤ i ∧ i < 16) ∧ (0 ≤ j ∧ j < 16) ∧ ¬ i = j))) σ := by
  refine CI_of (by decide +kernel) (Nat.le_of_ble_eq_true rfl) rfl (fun X hX => ?_)
  refine bX10_isPair_0 (c_isPlace hi σ) ?_
  rintro z u hz ⟨rfl, rfl⟩
  refine bX10_isPair_4 hz (fun q => ?_) (fun q => ?_)
  · have := bI_d0 q
    exact bX10_isPair_23 (bX10_isPair_24 hX (Or.inl rfl) ⟨bJ_f (by omega), rfl⟩)
  · have := bI_d1 q
    refine bX10_isPair_7 (c_isPlace hj _) ?_
    rintro z u hz2 ⟨rfl, rfl⟩
    refine bX10_isPair_11 hz2 (fun q2 => ?_) (fun q2 => ?_)
    · have := bI_d0 q2
      exact bX10_isPair_23 (bX10_isPair_24 hX (Or.inl rfl) ⟨bJ_f (by omega), rfl⟩)
    · have := bI_d1 q2
      refine bX10_isPair_14 ⟨hi, hj⟩ (fun q3 => ?_) (fun q3 => ?_)
      · exact bX10_isPair_23 (bX10_isPair_24 hX (Or.inl rfl) ⟨bJ_f (by omega), rfl⟩)
      · exact bX10_isPair_19 (bX10_isPair_24 hX (Or.inr rfl) ⟨bJ_t (by omega), rfl⟩)
-- a step of five numbers
def stepR (k a b c d : Int) (g : Row) : Row := fun j => if j = 4 then d else if j = 3 then c else if j = 2 then b else if j = 1 then a else if j = 0 then k else g j
theorem c_putStep {k a b c d : Int} (σ : St) : CVe mdX10_putStep [vr 60, vi k, vi a, vi b, vi c, vi d] σ (setr σ 84 (stepR k a b c d (σ 84))) := by
  refine CV_of (by decide +kernel) (Nat.le_of_ble_eq_true rfl) rfl (fun X hX => ?_)
  refine bX10_putStep_0 hX ?_
  rw [wr_setr σ, wr_wr, wr_wr, wr_wr, wr_wr]
  rfl
/-- whether a value may stand at an index of a step -/
def alw (o : Nat) (f : Row) (i v : Int) : Bool := if i = 0 then decide (0 ≤ v ∧ v < 5) else if rot o (8 * f 0 + 2 * (i - 1)) ≤ v ∧ v ≤ rot o (8 * f 0 + 2 * (i - 1) + 1) then (if f 0 = 0 ∧ i = 1 then !decide (pw v 16 = 1) else if f 0 = 1 ∧ i = 4 then !decide ((f 1 * v - f 2 * f 3) % 97 = 0) else true) else false
theorem rot_bd : ∀ n : Nat, n < 40 → (0 ≤ rot 106 n ∧ rot 106 n ≤ 96) ∧ (0 ≤ rot 107 n ∧ rot 107 n ≤ 96) := by decide +kernel
theorem rot_tab {o : Nat} (ho : o = 106 ∨ o = 107) {z : Int} (h0 : 0 ≤ z) (h1 : z < 40) : (0 ≤ z ∧ z < rol o) ∧ 0 ≤ rot o z ∧ rot o z ≤ 96 := by
  have h := rot_bd z.toNat (by omega)
  rw [Int.toNat_of_nonneg h0] at h
  rcases ho with rfl | rfl
  · exact ⟨⟨h0, h1⟩, h.1⟩
  · exact ⟨⟨h0, h1⟩, h.2⟩
theorem c_allows {o p : Nat} (ho : o = 106 ∨ o = 107) (hp : shp p = (1, 5, [])) (σ : St) {i v : Int} (hi : 0 ≤ i ∧ i < 5) (hv : inI v) (h0 : i ≠ 0 → 0 ≤ σ p 0 ∧ σ p 0 < 5) (h4 : σ p 0 = 1 → i = 4 → c97 (σ p 1) ∧ c97 (σ p 2) ∧ c97 (σ p 3)) : CIe mdX8_allows [vr o, vr p, vi i, vi v] σ (bI (alw o (σ p) i v)) σ := by
  refine CI_of (by decide +kernel) (Nat.le_of_ble_eq_true rfl) rfl (fun X hX => ?_)
  refine bX8_allows_0 (Or.inr ho) hp (by omega) (fun q => ?_) (fun q => ?_)
  · have hk := h0 q
    have t1 := rot_tab ho (z := 8 * σ p 0 + 2 * (i - 1)) (by omega) (by omega)
    have t2 := rot_tab ho (z := 8 * σ p 0 + 2 * (i - 1) + 1) (by omega) (by omega)
    have bad : ¬ (rot o (8 * σ p 0 + 2 * (i - 1)) ≤ v ∧ v ≤ rot o (8 * σ p 0 + 2 * (i - 1) + 1)) → G mdX8_allows X 55 [] [] σ := by
      intro hn
      refine bX8_allows_55 hX ⟨?_, rfl⟩
      unfold alw
      rw [if_neg q, if_neg hn]
      rfl
    refine bX8_allows_19 (Or.inr ho) hp ⟨t1.1, hv, ⟨by omega, by omega⟩⟩ (fun q1 => bad (by omega)) (fun q1 => ?_)
    refine bX8_allows_45 (Or.inr ho) hp ⟨t2.1, hv, ⟨by omega, by omega⟩⟩ (fun q2 => ?_) (fun q2 => bad (by omega))
    have ea : alw o (σ p) i v = (if σ p 0 = 0 ∧ i = 1 then !decide (pw v 16 = 1) else if σ p 0 = 1 ∧ i = 4 then !decide ((σ p 1 * v - σ p 2 * σ p 3) % 97 = 0) else true) := by
      unfold alw
      rw [if_neg q, if_pos ⟨q1, q2⟩]
    have h121 : ¬ (σ p 0 = 0 ∧ i = 1) → ¬ (σ p 0 = 1 ∧ i = 4) → G mdX8_allows X 121 [] [] σ := by
      intro g1 g2
      refine bX8_allows_121 hX ⟨?_, rfl⟩
      rw [ea, if_neg g1, if_neg g2]
      rfl
    have h83 : ¬ (σ p 0 = 0 ∧ i = 1) → G mdX8_allows X 83 [(1, vr p), (2, vi i), (3, vi v), (4, vi (σ p 0))] [] σ := by
      intro g1
      refine bX8_allows_83 hp (by omega) (fun q3 => h121 g1 (by omega)) (fun q3 => ?_)
      refine bX8_allows_89 hp (by omega) (fun q4 => h121 g1 (by omega)) (fun q4 => ?_)
      obtain ⟨b1, b2, b3⟩ := h4 q3 q4
      have hv97 : c97 v := ⟨by omega, by omega⟩
      have m1 := m_bd b1 hv97
      have m2 := m_bd b2 b3
      refine bX8_allows_94 hp (c_floorMod (inI_sub m1 m2) σ) ?_
      rintro z u hz ⟨rfl, rfl⟩
      rw [if_neg g1, if_pos ⟨q3, q4⟩] at ea
      refine bX8_allows_112 hz (fun q5 => ?_) (fun q5 => ?_)
      · refine bX8_allows_119 (bX8_allows_120 hX (Or.inl rfl) ⟨?_, rfl⟩)
        rw [ea, decide_eq_true q5]; rfl
      · refine bX8_allows_115 (bX8_allows_120 hX (Or.inr rfl) ⟨?_, rfl⟩)
        rw [ea, decide_eq_false q5]; rfl
    refine bX8_allows_57 hp (by omega) (fun q3 => h83 (by omega)) (fun q3 => ?_)
    refine bX8_allows_62 hp (by omega) (fun q4 => h83 (by omega)) (fun q4 => ?_)
    rw [if_pos ⟨q3, q4⟩] at ea
    refine bX8_allows_67 (c_power (v := v) (by unfold c97; omega) (n := 16) (by decide) σ) ?_
    rintro z u hz ⟨rfl, rfl⟩
    refine bX8_allows_73 hz (fun q5 => ?_) (fun q5 => ?_)
    · refine bX8_allows_81 (bX8_allows_82 hX (Or.inl rfl) ⟨?_, rfl⟩)
      rw [ea, decide_eq_true q5]; rfl
    · refine bX8_allows_77 (bX8_allows_82 hX (Or.inr rfl) ⟨?_, rfl⟩)
      rw [ea, decide_eq_false q5]; rfl
  · have ea : alw o (σ p) i v = decide (0 ≤ v ∧ v < 5) := by unfold alw; rw [if_pos q]
    rw [ea] at hX
    refine bX8_allows_4 hv (fun q1 => ?_) (fun q1 => bX8_allows_8 hv (fun q2 => ?_) (fun q2 => ?_))
    · exact bX8_allows_17 (bX8_allows_18 hX (Or.inl rfl) ⟨bJ_f (by omega), rfl⟩)
    · exact bX8_allows_17 (bX8_allows_18 hX (Or.inl rfl) ⟨bJ_f (by omega), rfl⟩)
    · exact bX8_allows_13 (bX8_allows_18 hX (Or.inr rfl) ⟨bJ_t (by omega), rfl⟩)

theorem c_isPossible {o p : Nat} (ho : o = 106 ∨ o = 107) (hp : shp p = (1, 5, [])) (σ : St) (hv : ∀ i, 0 ≤ i → i < 5 → inI (σ p i)) : CI mdX8_isPossible [vr o, vr p] σ (fun z u => ((z = 1 ∧ ∀ i, 0 ≤ i → i < 5 → alw o (σ p) i (σ p i) = true) ∨ (z = 0 ∧ ¬ ∀ i, 0 ≤ i → i < 5 → alw o (σ p) i (σ p i) = true)) ∧ σ = u) := by
  refine CI_of (by decide +kernel) (Nat.le_of_ble_eq_true rfl) rfl (fun X hX => ?_)
  refine bX8_isPossible_0 (Or.inr ho) hp ?_
  have key : (∀ j, 0 ≤ j → j < 0 → alw o (σ p) j (σ p j) = true) → G mdX8_isPossible X 2 [(0, vr o), (1, vr p), (2, vi 0)] [] σ := by
    refine loopUp (Q := fun i => (∀ j, 0 ≤ j → j < i → alw o (σ p) j (σ p j) = true) → G mdX8_isPossible X 2 [(0, vr o), (1, vr p), (2, vi i)] [] σ) (n := 5) ?_ (fun i h1 h2 ih => ?_) (by decide)
    · intro h
      exact bX8_isPossible_2 (Or.inr ho) hp (by decide) (fun q => bX8_isPossible_27 hX ⟨Or.inl ⟨rfl, h⟩, rfl⟩) (fun q => by omega)
    · intro h
      have k0 : i ≠ 0 → 0 ≤ σ p 0 ∧ σ p 0 < 5 := by
        intro hi
        have := h 0 (by decide) (by omega)
        unfold alw at this
        rw [if_pos rfl] at this
        exact of_decide_eq_true this
      have k4 : σ p 0 = 1 → i = 4 → c97 (σ p 1) ∧ c97 (σ p 2) ∧ c97 (σ p 3) := by
        intro e1 e4
        have g : ∀ j, 1 ≤ j → j < 4 → c97 (σ p j) := by
          intro j g1 g2
          have g3 := h j (by omega) (by omega)
          have t1 := rot_tab ho (z := 8 * σ p 0 + 2 * (j - 1)) (by omega) (by omega)
          have t2 := rot_tab ho (z := 8 * σ p 0 + 2 * (j - 1) + 1) (by omega) (by omega)
          unfold alw at g3
          rw [if_neg (by omega)] at g3
          unfold c97
          split at g3
          · omega
          · exact absurd g3 (by decide)
        exact ⟨g 1 (by decide) (by decide), g 2 (by decide) (by decide), g 3 (by decide) (by decide)⟩
      refine bX8_isPossible_2 (Or.inr ho) hp (by omega) (fun q => by omega) (fun q => ?_)
      refine bX8_isPossible_7 (Or.inr ho) hp (c_allows ho hp σ ⟨h1, h2⟩ (hv i h1 h2) k0 k4) ⟨h1, h2⟩ ?_
      rintro z u hz ⟨rfl, rfl⟩
      refine bX8_isPossible_16 (Or.inr ho) hp hz (fun q1 => ?_) (fun q1 => ?_)
      · refine bX8_isPossible_21 (Or.inr ho) hp (ih (fun j g1 g2 => ?_))
        by_cases e : j = i
        · rw [e]; exact bI_1.mp q1
        · exact h j g1 (by omega)
      · refine bX8_isPossible_19 hX ⟨Or.inr ⟨rfl, fun g => ?_⟩, rfl⟩
        have := g i h1 h2
        rw [bI_0.mp q1] at this
        exact absurd this (by decide)
  exact key (fun j h1 h2 => by omega)
