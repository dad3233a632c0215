/-! the class: numbers, items -/
theorem vw6_row (σ : St) {r : Int} (hr : r = 0 ∨ r = 1) : vwC (setr σ 7 (fun j => if r * 16 ≤ j ∧ j < r * 16 + 16 then 0 else σ 7 j)) 6 = rowZ (vwC σ 6) r := by
  have e : ∀ y, y ≠ 7 → setr σ 7 (fun j => if r * 16 ≤ j ∧ j < r * 16 + 16 then 0 else σ 7 j) y = σ y := fun y h => setr_ne _ _ h
  funext j
  unfold vwC rowZ
  rw [setr_at, e 6 (by omega), e (6 + 2) (by omega), e (6 + 3) (by omega), e (6 + 4) (by omega), e (6 + 5) (by omega)]
  by_cases q : j < 32
  · simp only [if_pos q]
  · simp only [if_neg q, if_neg (show ¬ (r * 16 ≤ j ∧ j < r * 16 + 16) by omega)]
theorem vw6_txt {σ u : St} (h : ∀ x, 6 ≤ x → x < 12 → u x = σ x) : vwC u 6 = vwC σ 6 := vwC_same ⟨h _ (by decide) (by decide), h _ (by decide) (by decide), h _ (by decide) (by decide), h _ (by decide) (by decide), h _ (by decide) (by decide), h _ (by decide) (by decide)⟩
theorem zo_in {n : Int} {f : Row} (h : zo n f) {g : Row} (e : ∀ j, ¬ (0 ≤ j ∧ j < n) → g j = f j) : zo n g := fun i hi => (e i hi).trans (h i hi)
/-- how a step of the parser ends in the class -/
abbrev PQ (N : Int) (a : AS) (σ : St) (r : Option QS) (z : Int) (u : St) : Prop := ((z = 0 ∧ r = none ∧ CR N a u) ∨ (z = 1 ∧ ∃ q', r = some q' ∧ KQ N a q' u)) ∧ up σ u
theorem k_takesSymbol {N : Int} {a : AS} {σ : St} {q : QS} (h : KQ N a q σ) {p r v : Int} (hr : r = 0 ∨ r = 1) (ok : okQ N p q) (hq : q.1 = 120 + r) (hv : 0 ≤ v ∧ v ≤ 99) : CI mdX9_takesSymbol [vr 65, vr 6, vi r, vi v] σ (PQ N a σ (numQ q v)) := by
  refine CI_of (by decide +kernel) (Nat.le_of_ble_eq_true rfl) rfl (fun X hX => ?_)
  obtain ⟨h1, h2, h3, h4, h5, h6, h7⟩ := h
  have t := h4 (by omega)
  have tb := ok.2.1
  have ev : numQ q v = if q.2.1 < 16 ∧ v < 4 then some (120 + r, q.2.1 + 1, q.2.2.1, q.2.2.2.1, q.2.2.2.2.1, setV q.2.2.2.2.2 (r * 16 + q.2.1) v) else none := by
    unfold numQ
    rw [if_neg (by omega)]
    rcases hr with rfl | rfl
    · rw [if_pos (by omega), show (0 : Int) * 16 + q.2.1 = q.2.1 by omega]; rfl
    · rw [if_neg (by omega), if_pos (by omega), show (1 : Int) * 16 + q.2.1 = 16 + q.2.1 by omega]; rfl
  rw [ev] at hX
  have bad : ¬ (q.2.1 < 16 ∧ v < 4) → G mdX9_takesSymbol X 16 [] [] σ := fun g => bX9_takesSymbol_16 hX (by rw [if_neg g]; exact ⟨Or.inl ⟨rfl, rfl, h1⟩, up.rf⟩)
  refine bX9_takesSymbol_0 isSt6 (by rw [t]; exact ⟨by omega, by omega⟩) (fun g => bad (by omega)) (fun g => ?_)
  refine bX9_takesSymbol_9 isSt6 (c_isSymbol ⟨by omega, by omega⟩ σ) ?_
  rintro z u hz ⟨rfl, rfl⟩
  refine bX9_takesSymbol_13 isSt6 hz (fun g2 => ?_) (fun g2 => bad (by have := bI_d0 g2; omega))
  have g3 := bI_d1 g2
  rw [if_pos (by omega)] at hX
  refine bX9_takesSymbol_18 isSt6 hX (by rw [t]; exact ⟨by omega, by omega⟩) ?_
  rw [t, wr_setr σ]
  have f4 : setr σ (6 + 1) (fun j => if j = r * 16 + q.2.1 then v else σ (6 + 1) j) 65 4 = q.2.1 := by rw [setr_ne _ _ (by decide)]; exact t
  rw [f4, wr_setr]
  show PQ N a σ _ 1 (setS (setr σ 7 (fun j => if j = r * 16 + q.2.1 then v else σ 7 j)) 65 4 (q.2.1 + 1))
  generalize hu : setS (setr σ 7 (fun j => if j = r * 16 + q.2.1 then v else σ 7 j)) 65 4 (q.2.1 + 1) = u
  have e : ∀ x, x ≠ 7 → x ≠ 65 → u x = σ x := fun x c d => by rw [← hu, setS_ne _ _ _ d, setr_ne _ _ c]
  have e7 : u 7 = fun j => if j = r * 16 + q.2.1 then v else σ 7 j := by rw [← hu, setS_ne _ _ _ (by decide), setr_at]
  have e65 : ∀ j, j ≠ 4 → u 65 j = σ 65 j := fun j c => by rw [← hu, setS_at2 _ _ _ c, setr_ne _ _ (by decide)]
  refine ⟨Or.inr ⟨rfl, _, rfl, h1.txt (fun x c d _ => e x (by omega) d) (e65 2 (by decide)) (by rw [e 8 (by decide) (by decide)]) ?_, ?_, ?_, ?_, ?_, ?_, ?_⟩, fun x hx => e x (by omega) (by omega)⟩
  · obtain ⟨z1, z2, z3⟩ := h1.zst isSt6
    refine ⟨?_, by rw [e _ (by decide) (by decide)]; exact z2, by rw [e _ (by decide) (by decide)]; exact z3⟩
    show zo 32 (u 7)
    rw [e7]
    exact zo_in z1 (fun j c => by rw [if_neg (by omega)])
  · have ew : vwC u 6 = setV (vwC σ 6) (r * 16 + q.2.1) v := by
      rw [← vw_sent σ 6 ⟨by omega, by omega⟩]
      refine vwC_same ⟨?_, ?_, ?_, ?_, ?_, ?_⟩
      · rw [e 6 (by decide) (by decide), setr_ne _ _ (by decide)]
      · show u 7 = setr σ 7 _ 7
        rw [e7, setr_at]
      · rw [e _ (by decide) (by decide), setr_ne _ _ (by decide)]
      · rw [e _ (by decide) (by decide), setr_ne _ _ (by decide)]
      · rw [e _ (by decide) (by decide), setr_ne _ _ (by decide)]
      · rw [e _ (by decide) (by decide), setr_ne _ _ (by decide)]
    show eqv (setV q.2.2.2.2.2 (r * 16 + q.2.1) v) (vwC u 6)
    rw [ew]
    exact eqv_set h2 (by omega) (by omega)
  · rw [e65 3 (by decide), h3]; exact hq
  · intro _
    rw [← hu, setS_at]
  · rw [e65 5 (by decide)]; exact h5
  · rw [e65 6 (by decide)]; exact h6
  · intro g
    have g' : 120 + r = 100 := g
    omega
theorem k_takesMark {N : Int} {a : AS} {σ : St} {q : QS} (h : KQ N a q σ) {p v : Int} (ok : okQ N p q) (hq : q.1 = 109) (hv : 0 ≤ v ∧ v ≤ 99) : CI mdX9_takesMark [vr 65, vr 6, vi v] σ (PQ N a σ (numQ q v)) := by
  refine CI_of (by decide +kernel) (Nat.le_of_ble_eq_true rfl) rfl (fun X hX => ?_)
  obtain ⟨h1, h2, h3, h4, h5, h6, h7⟩ := h
  have hm := ok.2.2.2.2.2.2.1
  have em : σ 6 1 = q.2.2.2.2.2 32 := h2.e32.symm
  have ev : numQ q v = if v < 16 ∧ mk (q.2.2.2.2.2 32) v = false then some (109, q.2.1, q.2.2.1, q.2.2.2.1, q.2.2.2.2.1, setV q.2.2.2.2.2 32 (mset (q.2.2.2.2.2 32) v)) else none := by
    unfold numQ
    rw [if_neg (by omega), if_neg (by omega), if_neg (by omega), if_pos hq]
  rw [ev] at hX
  have bad : ¬ (v < 16 ∧ mk (q.2.2.2.2.2 32) v = false) → G mdX9_takesMark X 15 [] [] σ := fun g => bX9_takesMark_15 hX (by rw [if_neg g]; exact ⟨Or.inl ⟨rfl, rfl, h1⟩, up.rf⟩)
  refine bX9_takesMark_0 isSt6 (c_isPlace ⟨by omega, by omega⟩ σ) ?_
  rintro z u hz ⟨rfl, rfl⟩
  refine bX9_takesMark_4 isSt6 hz (fun g => bad (fun g2 => bI_d0 g ⟨hv.1, g2.1⟩)) (fun g => ?_)
  have g1 := bI_d1 g
  refine bX9_takesMark_7 isSt6 (c_isMarked isSt6 _ (by rw [em]; exact hm) g1) ?_
  rintro z u hz2 ⟨rfl, rfl⟩
  rw [em] at hz2 ⊢
  refine bX9_takesMark_12 isSt6 hz2 (fun g2 => ?_) (fun g2 => bad (fun g3 => by rw [g3.2] at g2; exact g2 rfl))
  have g3 := bI_0.mp g2
  rw [if_pos ⟨g1.2, g3⟩] at hX
  refine bX9_takesMark_17 isSt6 (c_mark1 isSt6 _ (by rw [em]; exact hm) g1 (by rw [em]; exact g3)) ?_
  rintro u rfl
  rw [em]
  refine bX9_takesMark_23 hX ?_
  refine ⟨Or.inr ⟨rfl, _, rfl, h1.txt (fun x c d _ => setS_ne _ _ _ (by omega)) (by rw [setS_ne _ _ _ (by decide)]) (by rw [setS_ne _ _ _ (by decide)]) ?_, ?_, by rw [setS_ne _ _ _ (by decide), h3]; exact hq, fun _ => by rw [setS_ne _ _ _ (by decide)]; exact h4 (by omega), by rw [setS_ne _ _ _ (by decide)]; exact h5, by rw [setS_ne _ _ _ (by decide)]; exact h6, fun g => absurd g (show ¬ (109 : Int) = 100 by decide)⟩, up.set (by decide)⟩
  · obtain ⟨z1, z2, z3⟩ := h1.zst isSt6
    exact ⟨by rw [setS_ne _ _ _ (by decide)]; exact z1, by rw [setS_ne _ _ _ (by decide)]; exact z2, by rw [setS_ne _ _ _ (by decide)]; exact z3⟩
  · rw [vw_mark]
    exact eqv_set h2 (by decide) (by decide)
theorem k_takesPart {N : Int} {a : AS} {σ : St} {q : QS} (h : KQ N a q σ) {p v : Int} (ok : okQ N p q) (hq : q.1 = 100) (hv : 0 ≤ v ∧ v ≤ 99) : CI mdX9_takesPart [vr 65, vi v] σ (PQ N a σ (numQ q v)) := by
  refine CI_of (by decide +kernel) (Nat.le_of_ble_eq_true rfl) rfl (fun X hX => ?_)
  obtain ⟨h1, h2, h3, h4, h5, h6, h7⟩ := h
  have t := h4 (by omega)
  have tb := ok.2.1
  obtain ⟨o1, o2, o3⟩ := ok.2.2.2.2.1 hq
  have hst := h7 hq
  have ev : numQ q v = if q.2.1 < 5 ∧ alw 106 q.2.2.2.2.1 q.2.1 v = true then some (100, q.2.1 + 1, q.2.2.1, q.2.2.2.1, setV q.2.2.2.2.1 q.2.1 v, q.2.2.2.2.2) else none := by
    unfold numQ
    rw [if_neg (by omega), if_neg (by omega), if_neg (by omega), if_neg (by omega), if_pos hq]
  rw [ev] at hX
  have bad : ¬ (q.2.1 < 5 ∧ alw 106 q.2.2.2.2.1 q.2.1 v = true) → G mdX9_takesPart X 26 [] [] σ := fun g => bX9_takesPart_26 hX (by rw [if_neg g]; exact ⟨Or.inl ⟨rfl, rfl, h1⟩, up.rf⟩)
  refine bX9_takesPart_0 (by rw [t]; exact ⟨by omega, by omega⟩) (fun g => bad (by omega)) (fun g => ?_)
  rw [t] at g
  have k0 : q.2.1 ≠ 0 → 0 ≤ q.2.2.2.2.1 0 ∧ q.2.2.2.2.1 0 < 5 := fun g0 => by
    have := o3 0 (by decide) (by omega)
    unfold alw at this
    rw [if_pos rfl] at this
    exact of_decide_eq_true this
  have kb : ∀ j, 1 ≤ j → j < q.2.1 → c97 (q.2.2.2.2.1 j) := fun j x y => by
    have := alw_bd (k0 (by omega)) (i := j) ⟨x, by omega⟩ (o3 j (by omega) y)
    unfold c97; omega
  have ea : alw 106 (σ 67) q.2.1 v = alw 106 q.2.2.2.2.1 q.2.1 v := alw_told hst tb.1
  refine bX9_takesPart_8 (by rw [t]; exact c_allows (Or.inl rfl) rfl σ ⟨tb.1, g⟩ ⟨by omega, by omega⟩ (fun g0 => by rw [hst 0 (by decide) (by omega)]; exact k0 g0) (fun _ g4 => by rw [hst 1 (by decide) (by omega), hst 2 (by decide) (by omega), hst 3 (by decide) (by omega)]; exact ⟨kb 1 (by decide) (by omega), kb 2 (by decide) (by omega), kb 3 (by decide) (by omega)⟩)) ?_
  rintro z u hz ⟨rfl, rfl⟩
  rw [ea] at hz ⊢
  refine bX9_takesPart_23 hz (fun g2 => ?_) (fun g2 => bad (fun g3 => by rw [g3.2] at g2; exact absurd g2 (by decide)))
  have g3 := bI_1.mp g2
  rw [if_pos ⟨g, g3⟩] at hX
  refine bX9_takesPart_28 hX (by rw [t]; exact ⟨tb.1, g⟩) ?_
  rw [t, wr_setr σ]
  have f4 : setr σ 67 (fun j => if j = q.2.1 then v else σ 67 j) 65 4 = q.2.1 := by rw [setr_ne _ _ (by decide)]; exact t
  rw [f4, wr_setr]
  show PQ N a σ _ 1 (setS (setr σ 67 (fun j => if j = q.2.1 then v else σ 67 j)) 65 4 (q.2.1 + 1))
  generalize hu : setS (setr σ 67 (fun j => if j = q.2.1 then v else σ 67 j)) 65 4 (q.2.1 + 1) = u
  have e : ∀ x, x ≠ 67 → x ≠ 65 → u x = σ x := fun x c d => by rw [← hu, setS_ne _ _ _ d, setr_ne _ _ c]
  have e67 : u 67 = fun j => if j = q.2.1 then v else σ 67 j := by rw [← hu, setS_ne _ _ _ (by decide), setr_at]
  have e65 : ∀ j, j ≠ 4 → u 65 j = σ 65 j := fun j c => by rw [← hu, setS_at2 _ _ _ c, setr_ne _ _ (by decide)]
  refine ⟨Or.inr ⟨rfl, _, rfl, h1.txt (fun x _ d c => e x c d) (e65 2 (by decide)) (by rw [e 8 (by decide) (by decide)]) ?_, ?_, ?_, ?_, ?_, ?_, ?_⟩, fun x hx => e x (by omega) (by omega)⟩
  · obtain ⟨z1, z2, z3⟩ := h1.zst isSt6
    exact ⟨by rw [e _ (by decide) (by decide)]; exact z1, by rw [e _ (by decide) (by decide)]; exact z2, by rw [e _ (by decide) (by decide)]; exact z3⟩
  · rw [vw6_txt (fun x c d => e x (by omega) (by omega))]
    exact h2
  · rw [e65 3 (by decide), h3]; exact hq
  · intro _
    rw [← hu, setS_at]
  · rw [e65 5 (by decide)]; exact h5
  · rw [e65 6 (by decide)]; exact h6
  · intro _ j x y
    have y' : j < q.2.1 + 1 := y
    show u 67 j = setV q.2.2.2.2.1 q.2.1 v j
    rw [e67]
    show (if j = q.2.1 then v else σ 67 j) = setV q.2.2.2.2.1 q.2.1 v j
    by_cases c : j = q.2.1
    · rw [if_pos c, c, setV_at]
    · rw [if_neg c, setV_ne _ _ c]; exact hst j x (by omega)
theorem k_takesNumber {N : Int} {a : AS} {σ : St} {q : QS} (h : KQ N a q σ) {p v : Int} (ok : okQ N p q) (hv : -1 ≤ v ∧ v ≤ 99) : CI mdX9_takesNumber [vr 65, vr 6, vi v] σ (PQ N a σ (numQ q v)) := by
  refine CI_of (by decide +kernel) (Nat.le_of_ble_eq_true rfl) rfl (fun X hX => ?_)
  have h3 := h.2.2.1
  refine bX9_takesNumber_0 isSt6 ⟨by omega, by omega⟩ (fun g => ?_) (fun g => ?_)
  · have fin : ∀ z u, z = 0 ∨ z = 1 → PQ N a σ (numQ q v) z u → True := fun _ _ _ _ => trivial
    have z01 : ∀ z u, PQ N a σ (numQ q v) z u → z = 0 ∨ z = 1 := fun z u hp => by
      rcases hp.1 with ⟨c, -⟩ | ⟨c, -⟩
      · exact Or.inl c
      · exact Or.inr c
    have hi : inI (σ 65 3) := by
      rw [h3]
      rcases ok.1 with c | c | c | c | c <;> rw [c] <;> exact ⟨by decide, by decide⟩
    refine bX9_takesNumber_6 isSt6 hi (fun c => ?_) (fun c => ?_) (fun c => ?_) (fun c => ?_) (fun c => ?_)
    · refine bX9_takesNumber_75 (k_takesPart h ok (by omega) ⟨g, hv.2⟩) ?_
      intro z u hz hp
      exact bX9_takesNumber_80 hX (z01 z u hp) hp
    · refine bX9_takesNumber_68 isSt6 (k_takesMark h ok (by omega) ⟨g, hv.2⟩) ?_
      intro z u hz hp
      exact bX9_takesNumber_74 hX (z01 z u hp) hp
    · refine bX9_takesNumber_52 isSt6 (k_takesSymbol h (Or.inl rfl) ok (by omega) ⟨g, hv.2⟩) ?_
      intro z u hz hp
      exact bX9_takesNumber_59 hX (z01 z u hp) hp
    · refine bX9_takesNumber_60 isSt6 (k_takesSymbol h (Or.inr rfl) ok (by omega) ⟨g, hv.2⟩) ?_
      intro z u hz hp
      exact bX9_takesNumber_67 hX (z01 z u hp) hp
    · refine bX9_takesNumber_81 hX ⟨Or.inl ⟨rfl, ?_, h.1⟩, up.rf⟩
      unfold numQ
      rw [if_neg (by omega), if_neg (by omega), if_neg (by omega), if_neg (by omega), if_neg (by omega)]
  · refine bX9_takesNumber_4 hX ⟨Or.inl ⟨rfl, ?_, h.1⟩, up.rf⟩
    unfold numQ
    rw [if_pos g]
