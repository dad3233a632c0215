/-! contracts: State and Steps, the counting of errors -/
theorem mk_bit (m : Int) (p : Int) : (m / 2 ^ p.toNat) % 2 = (if mk m p then 1 else 0) := by
  unfold mk
  by_cases h : (m / 2 ^ p.toNat) % 2 = 1
  · rw [h]; rfl
  · have : (m / 2 ^ p.toNat) % 2 = 0 := by omega
    rw [this]; rfl
def bI (b : Bool) : Int := if b then 1 else 0
theorem c_isMarked {o : Nat} (ho : isSt o) (σ : St) (hm : 0 ≤ σ o 1 ∧ σ o 1 < 65536) {p : Int} (hp : 0 ≤ p ∧ p < 16) : CIe mdX7_isMarked [vr o, vi p] σ (bI (mk (σ o 1) p)) σ := by
  refine CI_of (by decide +kernel) (Nat.le_of_ble_eq_true rfl) rfl (fun X hX => ?_)
  have hb := mk_bit (σ o 1) p
  refine bX7_isMarked_0 ho ⟨by omega, by omega, by omega⟩ (fun q => ?_) (fun q => ?_)
  · refine bX7_isMarked_16 (bX7_isMarked_17 hX (Or.inl rfl) ⟨?_, rfl⟩)
    cases hk : mk (σ o 1) p with
    | false => rfl
    | true => rw [hk] at hb; exact absurd hb q
  · refine bX7_isMarked_12 (bX7_isMarked_17 hX (Or.inr rfl) ⟨?_, rfl⟩)
    cases hk : mk (σ o 1) p with
    | true => rfl
    | false => rw [hk, q] at hb; exact absurd hb (by decide)
theorem bI_0 {b : Bool} : bI b = 0 ↔ b = false := by cases b <;> simp [bI]
theorem bI_1 {b : Bool} : ¬ bI b = 0 ↔ b = true := by cases b <;> simp [bI]
theorem bI_rng (b : Bool) : -2147483648 ≤ bI b ∧ bI b < 2147483648 := by cases b <;> decide
def fstM (m : Int) : Nat → Int → Int
  | 0, _ => -9
  | n + 1, p => if mk m p then p else fstM m n (p + 1)
theorem c_firstMarked {o : Nat} (ho : isSt o) (σ : St) (hm : 0 ≤ σ o 1 ∧ σ o 1 < 65536) : CIe mdX7_firstMarked [vr o] σ (fstM (σ o 1) 16 0) σ := by
  refine CI_of (by decide +kernel) (Nat.le_of_ble_eq_true rfl) rfl (fun X hX => ?_)
  refine bX7_firstMarked_0 ho ?_
  have key : ∀ (n : Nat) (p : Int), p = 16 - n → 0 ≤ p → fstM (σ o 1) 16 0 = fstM (σ o 1) n p → G mdX7_firstMarked X 2 [(0, vr o), (1, vi p)] [] σ := by
    intro n
    induction n with
    | zero =>
      intro p hp h0 he
      exact bX7_firstMarked_2 ho (by omega) (fun q => bX7_firstMarked_24 hX ⟨he.symm, rfl⟩) (fun q => by omega)
    | succ n ih =>
      intro p hp h0 he
      refine bX7_firstMarked_2 ho (by omega) (fun q => by omega) (fun q => ?_)
      refine bX7_firstMarked_8 ho (c_isMarked ho σ hm ⟨h0, by omega⟩) ?_
      rintro z u hz ⟨rfl, rfl⟩
      unfold fstM at he
      refine bX7_firstMarked_13 ho (bI_rng _) (fun q => ?_) (fun q => ?_)
      · rw [bI_0.mp q] at he
        exact bX7_firstMarked_18 ho (ih (p + 1) (by omega) (by omega) he)
      · rw [bI_1.mp q] at he
        exact bX7_firstMarked_16 hX (by omega) ⟨he.symm, rfl⟩
  exact key 16 0 (by decide) (by decide) rfl
theorem c_isFull {o : Nat} (ho : isSp o) (σ : St) (h1 : 0 ≤ σ o 1 ∧ σ o 1 ≤ 6) (h2 : 0 ≤ σ o 2 ∧ σ o 2 ≤ 6) : CIe mdX8_isFull [vr o] σ (bI (decide (σ o 1 ≤ σ o 2))) σ := by
  refine CI_of (by decide +kernel) (Nat.le_of_ble_eq_true rfl) rfl (fun X hX => ?_)
  refine bX8_isFull_0 ho ⟨by omega, by omega⟩ (fun q => ?_) (fun q => ?_)
  · exact bX8_isFull_15 (bX8_isFull_16 hX (Or.inl rfl) ⟨by rw [decide_eq_false (by omega)]; rfl, rfl⟩)
  · exact bX8_isFull_11 (bX8_isFull_16 hX (Or.inr rfl) ⟨by rw [decide_eq_true q]; rfl, rfl⟩)
/-- five numbers put at the end of a list of steps -/
def putR (n : Int) (st f : Row) : Row := fun j => if n * 5 ≤ j ∧ j < n * 5 + 5 then st (j - n * 5) else f j
def setS (σ : St) (o : Nat) (k v : Int) : St := setr σ o (fun j => if j = k then v else σ o j)
theorem c_append {o p : Nat} (ho : isSp o) (hp : shp p = (1, 5, [])) (hne : p ≠ o + 1) (σ : St) (h1 : 0 ≤ σ o 1 ∧ σ o 1 ≤ 6) (h2 : 0 ≤ σ o 2 ∧ σ o 2 < σ o 1) : CVe mdX8_append [vr o, vr p] σ (setS (setr σ (o + 1) (putR (σ o 2) (σ p) (σ (o + 1)))) o 2 (σ o 2 + 1)) := by
  refine CV_of (by decide +kernel) (Nat.le_of_ble_eq_true rfl) rfl (fun X hX => ?_)
  refine bX8_append_0 ho hp (c_isFull ho σ h1 (by omega)) ?_
  rintro z u hz ⟨rfl, rfl⟩
  rw [decide_eq_false (by omega)]
  refine bX8_append_4 ho hp (by decide) (fun q => absurd rfl q) (fun q => ?_)
  refine bX8_append_7 ho hp (by omega) (bX8_append_33 hX ?_)
  have e : cp σ p 0 (o + 1) (σ o 2 * 5) 5 = setr σ (o + 1) (putR (σ o 2) (σ p) (σ (o + 1))) := by
    rw [cp_setr]
    congr 1
    funext j
    unfold putR
    split
    · congr 1; omega
    · rfl
  rw [e, wr_setr]
  unfold setS
  rw [show setr σ (o + 1) (putR (σ o 2) (σ p) (σ (o + 1))) o = σ o from setr_ne _ _ (by omega)]
/-- a step taken out of a list of n -/
def remR (n k : Int) (f : Row) : Row := fun j => if k * 5 ≤ j ∧ j < (n - 1) * 5 then f (j + 5) else f j
theorem c_remove {o : Nat} (ho : isSp o) (σ : St) (h2 : 1 ≤ σ o 2 ∧ σ o 2 ≤ 6) {k : Int} (hk : 0 ≤ k ∧ k < σ o 2) : CVe mdX8_remove [vr o, vi k] σ (setS (setr σ (o + 1) (remR (σ o 2) k (σ (o + 1)))) o 2 (σ o 2 - 1)) := by
  refine CV_of (by decide +kernel) (Nat.le_of_ble_eq_true rfl) rfl (fun X hX => ?_)
  refine bX8_remove_0 ho ?_
  have key : G mdX8_remove X 4 [(0, vr o), (2, vi (k * 5))] [] (setr σ (o + 1) (fun j => if k * 5 ≤ j ∧ j < k * 5 then σ (o + 1) (j + 5) else σ (o + 1) j)) := by
    refine loopUp (Q := fun i => G mdX8_remove X 4 [(0, vr o), (2, vi i)] [] (setr σ (o + 1) (fun j => if k * 5 ≤ j ∧ j < i then σ (o + 1) (j + 5) else σ (o + 1) j))) (n := (σ o 2 - 1) * 5) ?_ (fun i h1 h2 ih => ?_) (by omega)
    · have e : ∀ f, setr σ (o + 1) f o = σ o := fun f => setr_ne _ _ (by omega)
      refine bX8_remove_4 ho (by rw [e]; omega) (fun q => bX8_remove_36 ho hX ?_) (fun q => by rw [e] at q; omega)
      rw [wr_setr]
      unfold setS
      rw [e, e]
      rfl
    · have e : ∀ f, setr σ (o + 1) f o = σ o := fun f => setr_ne _ _ (by omega)
      refine bX8_remove_4 ho (by rw [e]; omega) (fun q => by rw [e] at q; omega) (fun q => bX8_remove_16 ho (by omega) ?_)
      rw [setr_at, wr_wr, if_neg (by omega)]
      have e2 : (fun j => if j = i then σ (o + 1) (i + 5) else (if k * 5 ≤ j ∧ j < i then σ (o + 1) (j + 5) else σ (o + 1) j)) = (fun j => if k * 5 ≤ j ∧ j < i + 1 then σ (o + 1) (j + 5) else σ (o + 1) j) := by
        funext j
        by_cases c1 : j = i
        · rw [if_pos c1, if_pos (by omega), c1]
        · rw [if_neg c1]
          by_cases c2 : k * 5 ≤ j ∧ j < i
          · rw [if_pos c2, if_pos (by omega)]
          · rw [if_neg c2, if_neg (by omega)]
      rw [e2]
      exact ih
  have e : (fun j => if k * 5 ≤ j ∧ j < k * 5 then σ (o + 1) (j + 5) else σ (o + 1) j) = σ (o + 1) := by
    funext j; rw [if_neg (by omega)]
  rw [e, setr_id] at key
  exact key
theorem c_numberOf {o : Nat} (ho : isSp o) (σ : St) (h2 : 0 ≤ σ o 2 ∧ σ o 2 ≤ 6) {k w : Int} (hk : inI k) (hw : inI w) (hi : ∀ j, 0 ≤ j → j < σ o 2 * 5 → inI (σ (o + 1) j)) : CIe mdX8_numberOf [vr o, vi k, vi w] σ (if (0 ≤ k ∧ k < σ o 2) ∧ (0 ≤ w ∧ w < 5) then σ (o + 1) (k * 5 + w) else -1) σ := by
  refine CI_of (by decide +kernel) (Nat.le_of_ble_eq_true rfl) rfl (fun X hX => ?_)
  refine bX8_numberOf_0 ho hk (fun q => bX8_numberOf_21 hX ⟨by rw [if_neg (by omega)], rfl⟩) (fun q => ?_)
  refine bX8_numberOf_4 ho ⟨hk, by omega⟩ (fun q => bX8_numberOf_21 hX ⟨by rw [if_neg (by omega)], rfl⟩) (fun q2 => ?_)
  refine bX8_numberOf_12 ho hw (fun q => bX8_numberOf_21 hX ⟨by rw [if_neg (by omega)], rfl⟩) (fun q3 => ?_)
  refine bX8_numberOf_16 ho hw (fun q4 => ?_) (fun q => bX8_numberOf_21 hX ⟨by rw [if_neg (by omega)], rfl⟩)
  exact bX8_numberOf_23 ho hX ⟨by omega, hi _ (by omega) (by omega)⟩ ⟨by rw [if_pos (by omega)], rfl⟩
theorem c_spTake {o p : Nat} (ho : isSp o) (hp : isSp p) (hne : o ≠ p) (σ : St) (h1 : zo 30 (σ (o + 1))) (h2 : zo 30 (σ (p + 1))) : CVe mdX8_takeFrom [vr o, vr p] σ (setS (setr σ (o + 1) (σ (p + 1))) o 2 (σ p 2)) := by
  refine CV_of (by decide +kernel) (Nat.le_of_ble_eq_true rfl) rfl (fun X hX => ?_)
  refine bX8_takeFrom_0 ho hp hX ?_
  have e : cp σ (p + 1) 0 (o + 1) 0 30 = setr σ (o + 1) (σ (p + 1)) := by
    rw [cp_setr]
    congr 1
    funext j
    by_cases h : 0 ≤ j ∧ j < 0 + 30
    · rw [if_pos h]; congr 1; omega
    · rw [if_neg h, h1 j (by omega), h2 j (by omega)]
  have hd : p ≠ o + 1 := by
    obtain ⟨a1, a2⟩ := ho; obtain ⟨b1, b2⟩ := hp; omega
  rw [e, wr_setr]
  unfold setS
  rw [setr_ne σ _ hd, setr_ne σ _ (show o ≠ o + 1 by omega)]
theorem c_errors {b o : Nat} (hb : isBk b) (ho : isSt o) (σ : St) (hr : r97 32 (σ (b + 1))) (hs : ∀ i, 0 ≤ i → i < 32 → 0 ≤ σ (o + 1) i ∧ σ (o + 1) i ≤ 3) : CIe mdX1_errors [vr b, vr o] σ (errF (σ (b + 1)) (σ (o + 1))) σ := by
  refine CI_of (by decide +kernel) (Nat.le_of_ble_eq_true rfl) rfl (fun X hX => ?_)
  refine bX1_errors_0 hb ho ?_
  refine loopUp (Q := fun i => G mdX1_errors X 4 [(0, vr b), (1, vr o), (2, vi (cnt (fun i => !(dec (σ (b + 1) i) == σ (o + 1) i)) i.toNat)), (3, vi i)] [] σ) (a := 0) (n := 32) ?_ (fun i h1 h2 ih => ?_) (by decide)
  · have hc := cnt_bd (fun i => !(dec (σ (b + 1) i) == σ (o + 1) i)) 32
    exact bX1_errors_4 hb ho (by decide) (fun q => bX1_errors_42 hX (by show -2147483648 ≤ cnt _ 32 ∧ _; exact ⟨by omega, by show cnt _ 32 < _; omega⟩) ⟨rfl, rfl⟩) (fun q => by omega)
  · refine bX1_errors_4 hb ho (by omega) (fun q => by omega) (fun q => ?_)
    have hd := dec_bd (σ (b + 1) i)
    have h3 := hs i h1 h2
    refine bX1_errors_10 hb ho (c_decided (hr i h1 h2) σ) ⟨h1, h2⟩ ?_
    rintro z u hz ⟨rfl, rfl⟩
    refine bX1_errors_20 hb ho ⟨⟨h1, h2⟩, by omega, by omega⟩ (fun q => ?_) (fun q => ?_)
    · refine bX1_errors_33 hb ho (bX1_errors_34 hb ho ?_)
      rw [cnt_step _ h1] at ih
      simpa [q] using ih
    · refine bX1_errors_29 hb ho (bX1_errors_34 hb ho ?_)
      rw [cnt_step _ h1] at ih
      simpa [q] using ih
theorem c_errorsAtMarks {b o : Nat} (hb : isBk b) (ho : isSt o) (σ : St) (hr : r97 32 (σ (b + 1))) (hs : ∀ i, 0 ≤ i → i < 32 → 0 ≤ σ (o + 1) i ∧ σ (o + 1) i ≤ 3) (hm : 0 ≤ σ o 1 ∧ σ o 1 < 65536) : CIe mdX1_errorsAtMarks [vr b, vr o] σ (errM (σ o 1) (σ (b + 1)) (σ (o + 1))) σ := by
  refine CI_of (by decide +kernel) (Nat.le_of_ble_eq_true rfl) rfl (fun X hX => ?_)
  refine bX1_errorsAtMarks_0 hb ho ?_
  refine loopUp (Q := fun i => G mdX1_errorsAtMarks X 4 [(0, vr b), (1, vr o), (2, vi (cnt (fun i => mk (σ o 1) (i % 16) && !(dec (σ (b + 1) i) == σ (o + 1) i)) i.toNat)), (3, vi i)] [] σ) (a := 0) (n := 32) ?_ (fun i h1 h2 ih => ?_) (by decide)
  · have hc := cnt_bd (fun i => mk (σ o 1) (i % 16) && !(dec (σ (b + 1) i) == σ (o + 1) i)) 32
    exact bX1_errorsAtMarks_4 hb ho (by decide) (fun q => bX1_errorsAtMarks_53 hX (by show -2147483648 ≤ cnt _ 32 ∧ _; exact ⟨by omega, by show cnt _ 32 < _; omega⟩) ⟨rfl, rfl⟩) (fun q => by omega)
  · refine bX1_errorsAtMarks_4 hb ho (by omega) (fun q => by omega) (fun q => ?_)
    refine bX1_errorsAtMarks_10 hb ho (c_isMarked ho σ hm (by omega)) (by omega) ?_
    rintro z u hz ⟨rfl, rfl⟩
    rw [cnt_step _ h1] at ih
    refine bX1_errorsAtMarks_18 hb ho (bI_rng _) (fun q => ?_) (fun q => ?_)
    · refine bX1_errorsAtMarks_47 hb ho ?_
      simpa [bI_0.mp q] using ih
    · have hd := dec_bd (σ (b + 1) i)
      have h3 := hs i h1 h2
      refine bX1_errorsAtMarks_21 hb ho (c_decided (hr i h1 h2) σ) ⟨h1, h2⟩ ?_
      rintro z u hz ⟨rfl, rfl⟩
      refine bX1_errorsAtMarks_31 hb ho ⟨⟨h1, h2⟩, by omega, by omega⟩ (fun q2 => ?_) (fun q2 => ?_)
      · refine bX1_errorsAtMarks_44 hb ho (bX1_errorsAtMarks_45 hb ho (bX1_errorsAtMarks_47 hb ho ?_))
        simpa [bI_1.mp q, q2] using ih
      · refine bX1_errorsAtMarks_40 hb ho (bX1_errorsAtMarks_45 hb ho (bX1_errorsAtMarks_47 hb ho ?_))
        simpa [bI_1.mp q, q2] using ih
