/-! the class: what a text's parts do -/
theorem CR.txt {N : Int} {a : AS} {σ u : St} (h : CR N a σ) (e : ∀ x, ¬ (6 ≤ x ∧ x < 12) → x ≠ 65 → x ≠ 67 → u x = σ x) (e65 : u 65 2 = σ 65 2) (e8 : u 8 1 = σ 8 1) (z : Zo u 6) : CR N a u := by
  obtain ⟨hP, hH, hI, hT, hS, hX⟩ := h
  have sm : ∀ o, o = 0 ∨ 12 ≤ o → o < 60 → vwC u o = vwC σ o := fun o ho h2 => vwC_same ⟨e _ (by omega) (by omega) (by omega), e _ (by omega) (by omega) (by omega), e _ (by omega) (by omega) (by omega), e _ (by omega) (by omega) (by omega), e _ (by omega) (by omega) (by omega), e _ (by omega) (by omega) (by omega)⟩
  refine ⟨?_, ?_, ?_, ?_, ?_, ?_⟩
  · unfold cP at *; rw [sm 0 (by decide) (by decide)]; exact hP
  · unfold cH at *
    rw [e 63 (by decide) (by decide) (by decide)]
    refine ⟨hH.1, hH.2.1, hH.2.2.1, fun i h0 h1 => ?_⟩
    have er : ring u a.2.1.1 i = ring σ a.2.1.1 i := by unfold ring; rw [e 63 (by decide) (by decide) (by decide)]
    have := ring_bd σ a.2.1.1 i
    rw [er, sm _ (by omega) (by omega)]
    exact hH.2.2.2 i h0 h1
  · intro i h0 h1
    have := imid_bd ⟨h0, h1⟩
    rw [e 62 (by decide) (by decide) (by decide), sm _ (by omega) (by omega)]
    exact hI i h0 h1
  · unfold cT at *; rw [e65, e 66 (by decide) (by decide) (by decide)]; exact hT
  · unfold cS at *; rw [e 68 (by decide) (by decide) (by decide), e 69 (by decide) (by decide) (by decide), e 70 (by decide) (by decide) (by decide)]; exact hS
  · unfold cX at *
    rw [e 2 (by decide) (by decide) (by decide), e 4 (by decide) (by decide) (by decide), e8, e 72 (by decide) (by decide) (by decide), e 77 (by decide) (by decide) (by decide)]
    refine ⟨hX.1, hX.2.1, hX.2.2.1, fun i hi => ?_, hX.2.2.2.2⟩
    by_cases q : i = 1
    · rw [q]; exact z
    · have z2 := hX.2.2.2.1 i hi
      unfold Zo at *
      rw [e _ (by omega) (by omega) (by omega), e _ (by omega) (by omega) (by omega), e _ (by omega) (by omega) (by omega)]
      exact z2
/-- what the class's parser stands for -/
def KQ (N : Int) (a : AS) (q : QS) (u : St) : Prop := CR N a u ∧ eqv q.2.2.2.2.2 (vwC u 6) ∧ u 65 3 = q.1 ∧ (q.1 ≠ 32 → u 65 4 = q.2.1) ∧ u 65 5 = q.2.2.1 ∧ u 65 6 = q.2.2.2.1 ∧ (q.1 = 100 → ∀ j, 0 ≤ j → j < q.2.1 → u 67 j = q.2.2.2.2.1 j)
theorem isSt6 : isSt 6 := ⟨by decide, by decide⟩
theorem c_isDigit {c : Int} (hc : inI c) (σ : St) : CIe mdX9_isDigit [vi c] σ (bI (decide (isDg c))) σ := by
  refine CI_of (by decide +kernel) (Nat.le_of_ble_eq_true rfl) rfl (fun X hX => ?_)
  refine bX9_isDigit_0 hc (fun q => ?_) (fun q => ?_)
  · exact bX9_isDigit_16 (bX9_isDigit_17 hX (Or.inl rfl) ⟨bJ_f (by omega), rfl⟩)
  · refine bX9_isDigit_6 hc (fun q2 => ?_) (fun q2 => ?_)
    · exact bX9_isDigit_16 (bX9_isDigit_17 hX (Or.inl rfl) ⟨bJ_f (by omega), rfl⟩)
    · exact bX9_isDigit_12 (bX9_isDigit_17 hX (Or.inr rfl) ⟨bJ_t (by omega), rfl⟩)
/-- the text as it stands -/
def txK (T : Row) (L : Int) (σ : St) : Prop := σ 65 2 = L ∧ (0 ≤ L ∧ L ≤ 160) ∧ ∀ j, 0 ≤ j → j < L → σ 66 j = T j ∧ 0 ≤ T j ∧ T j ≤ 255
theorem c_endOfToken {T : Row} {L : Int} (σ : St) (ht : txK T L σ) {p : Int} (hp : 0 ≤ p ∧ p < L) : CIe mdX9_endOfToken [vr 65, vi p] σ (endT T L p) σ := by
  refine CI_of (by decide +kernel) (Nat.le_of_ble_eq_true rfl) rfl (fun X hX => ?_)
  obtain ⟨t1, t2, t3⟩ := ht
  obtain ⟨e1, e2, e3⟩ := t3 p hp.1 hp.2
  refine bX9_endOfToken_0 (by rw [e1]; exact c_isDigit ⟨by omega, by omega⟩ σ) ⟨hp.1, by omega⟩ ?_
  rintro z u hz ⟨rfl, rfl⟩
  refine bX9_endOfToken_13 hz (fun q => ?_) (fun q => ?_)
  · have hq := bI_d0 q
    rw [endT_1 hq] at hX
    exact bX9_endOfToken_42 hX ⟨by omega, by omega⟩ ⟨rfl, rfl⟩
  · have hq := bI_d1 q
    have key : ∀ (d : Nat) (e : Int), p < e → e ≤ L → (∀ j, p ≤ j → j < e → isDg (T j)) → (d : Int) = L - e → G mdX9_endOfToken X 16 [(0, vr 65), (2, vi e)] [] σ := by
      intro d
      induction d with
      | zero =>
        intro e h1 h2 h3 h4
        have ee : endT T L p = e := endT_num hp.1 t2.2 h1 h2 h3 (Or.inl (by omega))
        refine bX9_endOfToken_16 ⟨⟨by omega, by omega⟩, by omega, by omega⟩ (fun _ => bX9_endOfToken_42 hX ⟨by omega, by omega⟩ ⟨ee.symm, rfl⟩) (fun q => by omega)
      | succ d ih =>
        intro e h1 h2 h3 h4
        obtain ⟨f1, f2, f3⟩ := t3 e (by omega) (by omega)
        refine bX9_endOfToken_16 ⟨⟨by omega, by omega⟩, by omega, by omega⟩ (fun q => by omega) (fun _ => ?_)
        refine bX9_endOfToken_24 (by rw [f1]; exact c_isDigit ⟨by omega, by omega⟩ σ) ⟨by omega, by omega⟩ ?_
        rintro z u hz2 ⟨rfl, rfl⟩
        refine bX9_endOfToken_33 hz2 (fun q3 => ?_) (fun q3 => ?_)
        · have ee : endT T L p = e := endT_num hp.1 t2.2 h1 h2 h3 (Or.inr (bI_d0 q3))
          exact bX9_endOfToken_42 hX ⟨by omega, by omega⟩ ⟨ee.symm, rfl⟩
        · refine bX9_endOfToken_36 (ih (e + 1) (by omega) (by omega) (fun j x y => ?_) (by omega))
          by_cases c : j = e
          · rw [c]; exact bI_d1 q3
          · exact h3 j x (by omega)
    refine bX9_endOfToken_16 ⟨⟨by omega, by omega⟩, by omega, by omega⟩ (fun q2 => ?_) (fun q2 => ?_)
    · have ee : endT T L p = p + 1 := endT_num hp.1 t2.2 (by omega) (by omega) (fun j x y => by rw [show j = p by omega]; exact hq) (Or.inl (by omega))
      exact bX9_endOfToken_42 hX ⟨by omega, by omega⟩ ⟨ee.symm, rfl⟩
    · have k := key (L - (p + 1)).toNat (p + 1) (by omega) (by omega) (fun j x y => by rw [show j = p by omega]; exact hq) (by omega)
      obtain ⟨f1, f2, f3⟩ := t3 (p + 1) (by omega) (by omega)
      refine bX9_endOfToken_24 (by rw [f1]; exact c_isDigit ⟨by omega, by omega⟩ σ) ⟨by omega, by omega⟩ ?_
      rintro z u hz2 ⟨rfl, rfl⟩
      refine bX9_endOfToken_33 hz2 (fun q3 => ?_) (fun q3 => ?_)
      · have ee : endT T L p = p + 1 := endT_num hp.1 t2.2 (by omega) (by omega) (fun j x y => by rw [show j = p by omega]; exact hq) (Or.inr (bI_d0 q3))
        exact bX9_endOfToken_42 hX ⟨by omega, by omega⟩ ⟨ee.symm, rfl⟩
      · refine bX9_endOfToken_36 (key (L - (p + 2)).toNat (p + 1 + 1) (by omega) (by omega) (fun j x y => ?_) (by omega))
        by_cases c : j = p + 1
        · rw [c]; exact bI_d1 q3
        · rw [show j = p by omega]; exact hq
theorem valT_bd {T : Row} {L p e : Int} (h : p < e ∧ e ≤ L) (hd : ∀ j, p ≤ j → j < e → isDg (T j)) : -1 ≤ valT T p e ∧ valT T p e ≤ 99 := by
  have d0 := hd p (by omega) h.1
  unfold valT
  by_cases q : e - p = 1
  · rw [if_pos q]; omega
  · rw [if_neg q]
    by_cases q2 : 2 < e - p ∨ T p = 48
    · rw [if_pos q2]; omega
    · rw [if_neg q2]
      have d1 := hd (p + 1) (by omega) (by omega)
      omega
theorem endT_dg {T : Row} {L p : Int} (hp : 0 ≤ p ∧ p < L) (hL : L ≤ 160) (h : isDg (T p)) : ∀ j, p ≤ j → j < endT T L p → isDg (T j) := by
  intro j a b
  unfold endT at b
  rw [if_pos h] at b
  have := (dgE_ok T L 160 (p + 1) (by omega) (by omega)).2.2.1
  by_cases e : j = p
  · rw [e]; exact h
  · exact this j (by omega) b
theorem c_valueOf {T : Row} {L : Int} (σ : St) (ht : txK T L σ) {p e : Int} (h0 : 0 ≤ p) (h : p < e ∧ e ≤ L) (hd : ∀ j, p ≤ j → j < e → isDg (T j)) : CIe mdX9_valueOf [vr 65, vi p, vi e] σ (valT T p e) σ := by
  refine CI_of (by decide +kernel) (Nat.le_of_ble_eq_true rfl) rfl (fun X hX => ?_)
  obtain ⟨t1, t2, t3⟩ := ht
  have d0 := hd p (by omega) h.1
  obtain ⟨e1, e2, e3⟩ := t3 p h0 (by omega)
  refine bX9_valueOf_0 ⟨⟨h0, by omega⟩, by omega, by omega⟩ (fun q => ?_) (fun q => ?_)
  · rw [e1]
    refine bX9_valueOf_19 ⟨by omega, by omega⟩ (fun q2 => ?_) (fun q2 => ?_)
    · exact bX9_valueOf_30 hX ⟨by unfold valT; rw [if_neg q, if_pos (Or.inl q2)], rfl⟩
    · refine bX9_valueOf_26 ⟨by omega, by omega⟩ (fun q3 => ?_) (fun q3 => ?_)
      · obtain ⟨f1, f2, f3⟩ := t3 (p + 1) (by omega) (by omega)
        have d1 := hd (p + 1) (by omega) (by omega)
        refine bX9_valueOf_32 hX ⟨⟨by omega, by omega⟩, by omega, by omega⟩ ⟨?_, rfl⟩
        unfold valT
        rw [if_neg q, if_neg (by omega), f1]
      · exact bX9_valueOf_30 hX ⟨by unfold valT; rw [if_neg q, if_pos (Or.inr (by omega))], rfl⟩
  · rw [e1]
    exact bX9_valueOf_17 hX ⟨by omega, by omega⟩ ⟨by unfold valT; rw [if_pos q], rfl⟩
