/-! what changes an object of the class: keep, back, orders, learns -/
def keepA (a : AS) (i : Int) : Int × AS := if 0 ≤ i ∧ i < 2 then (a.1 64, (a.1, a.2.1, (fun j => if j = i then 1 else a.2.2.1.1 j, fun j => if j = i then a.1 else a.2.2.1.2 j), a.2.2.2)) else (-1, a)
def backA (a : AS) (i : Int) : Int × AS := if 0 ≤ i ∧ i < 2 then (if a.2.2.1.1 i = 0 then (-2, a) else (a.2.2.1.2 i 64, (a.2.2.1.2 i, (0, a.2.1.2), a.2.2))) else (-1, a)
theorem k_keep {N : Int} {a : AS} {σ : St} (h : CR N a σ) {i : Int} (hi : inI i) : CI mdX10_keep [vr 60, vi i] σ (fun z u => z = (keepA a i).1 ∧ CR N (keepA a i).2 u ∧ up σ u) := by
  refine CI_of (by decide +kernel) (Nat.le_of_ble_eq_true rfl) rfl (fun X hX => ?_)
  have e := h.n64
  have bad : ¬ (0 ≤ i ∧ i < 2) → G mdX10_keep X 9 [] [] σ := fun g => bX10_keep_9 hX (by unfold keepA; rw [if_neg g]; exact ⟨rfl, h, up.rf⟩)
  refine bX10_keep_0 hi (fun q => bad (by omega)) (fun q1 => ?_)
  refine bX10_keep_4 hi (fun q2 => ?_) (fun q2 => bad (by omega))
  have ev : keepA a i = (a.1 64, (a.1, a.2.1, (fun j => if j = i then 1 else a.2.2.1.1 j, fun j => if j = i then a.1 else a.2.2.1.2 j), a.2.2.2)) := by unfold keepA; rw [if_pos ⟨q1, q2⟩]
  rw [ev] at hX
  have hib := imid_bd ⟨q1, q2⟩
  have his : isSt (imid i) := ⟨hib.2.1, by omega⟩
  refine bX10_keep_11 (c_stTake his isSt0 (by omega) σ (h.zst his) (h.zst isSt0) h.fb) ⟨q1, q2⟩ ?_
  rintro u rfl
  have eo : ∀ x, x < 12 ∨ 24 ≤ x → stc σ (imid i) 0 x = σ x := fun x hx => stc_ne (by omega)
  have ew : wr (stc σ (imid i) 0) 62 i 1 = setS (stc σ (imid i) 0) 62 i 1 := wr_setr _ _ _ _
  have eu : ∀ x, x < 12 ∨ 24 ≤ x → x ≠ 62 → setS (stc σ (imid i) 0) 62 i 1 x = σ x := fun x hx h2 => by rw [setS_ne _ _ _ h2, eo x hx]
  have e4 : setS (stc σ (imid i) 0) 62 i 1 4 = σ 4 := eu 4 (by decide) (by decide)
  obtain ⟨hP, hH, hI, hT, hS, hx⟩ := id h
  refine bX10_keep_24 hX ⟨⟨q1, q2⟩, by rw [ew, e4]; exact ⟨by omega, by omega⟩⟩ ⟨by rw [ew, e4]; exact e.1, ?_, ?_⟩
  · rw [ew]
    have sm : ∀ o, o + 6 ≤ 12 ∨ 24 ≤ o → o < 57 → vwC (setS (stc σ (imid i) 0) 62 i 1) o = vwC σ o := fun o ho h2 => vwC_same ⟨eu _ (by omega) (by omega), eu _ (by omega) (by omega), eu _ (by omega) (by omega), eu _ (by omega) (by omega), eu _ (by omega) (by omega), eu _ (by omega) (by omega)⟩
    have es : ∀ x, x < 60 → setS (stc σ (imid i) 0) 62 i 1 x = stc σ (imid i) 0 x := fun x hx => setS_ne _ _ _ (by omega)
    refine ⟨?_, ?_, ?_, ?_, ?_, ?_⟩
    · show cP N a.1 _
      unfold cP at *; rw [sm 0 (by decide) (by decide)]; exact hP
    · show cH N a.2.1 _
      unfold cH at *
      rw [eu 63 (by decide) (by decide)]
      refine ⟨hH.1, hH.2.1, hH.2.2.1, fun j h0 h1 => ?_⟩
      have er : ring (setS (stc σ (imid i) 0) 62 i 1) a.2.1.1 j = ring σ a.2.1.1 j := by unfold ring; rw [eu 63 (by decide) (by decide)]
      have := ring_bd σ a.2.1.1 j
      rw [er, sm _ (by omega) (by omega)]
      exact hH.2.2.2 j h0 h1
    · intro j h0 h1
      show setS (stc σ (imid i) 0) 62 i 1 62 j = (if j = i then 1 else a.2.2.1.1 j) ∧ ((if j = i then 1 else a.2.2.1.1 j) = 0 ∨ (if j = i then 1 else a.2.2.1.1 j) = 1) ∧ ((if j = i then 1 else a.2.2.1.1 j) = 1 → eqv (if j = i then a.1 else a.2.2.1.2 j) (vwC (setS (stc σ (imid i) 0) 62 i 1) (imid j)) ∧ okV N (if j = i then a.1 else a.2.2.1.2 j))
      by_cases q : j = i
      · subst q
        simp only [if_true]
        refine ⟨setS_at _ _ _ _, Or.inr trivial, fun _ => ⟨?_, hP.2⟩⟩
        rw [vwC_same (σ := stc σ (imid j) 0) ⟨es _ (by omega), es _ (by omega), es _ (by omega), es _ (by omega), es _ (by omega), es _ (by omega)⟩]
        rw [vw_stc]
        exact hP.1
      · simp only [if_neg q]
        obtain ⟨i1, i2, i3⟩ := hI j h0 h1
        have e62 : setS (stc σ (imid i) 0) 62 i 1 62 j = σ 62 j := by rw [setS_at2 _ _ _ q, eo 62 (by decide)]
        refine ⟨by rw [e62]; exact i1, i2, fun g => ?_⟩
        have hjb := imid_bd ⟨h0, h1⟩
        have e6 : ∀ x, imid j ≤ x → x < imid j + 6 → setS (stc σ (imid i) 0) 62 i 1 x = σ x := fun x c d => by
          have hd : imid j ≠ imid i := by unfold imid; omega
          rw [es x (by omega), stc_ne (by omega)]
        rw [vwC_same (σ := σ) ⟨e6 _ (by omega) (by omega), e6 _ (by omega) (by omega), e6 _ (by omega) (by omega), e6 _ (by omega) (by omega), e6 _ (by omega) (by omega), e6 _ (by omega) (by omega)⟩]
        exact i3 g
    · show cT a.2.2.2.1 _
      unfold cT at *; rw [eu 65 (by decide) (by decide), eu 66 (by decide) (by decide)]; exact hT
    · show cS a.2.2.2.2 _
      unfold cS at *; rw [eu 68 (by decide) (by decide), eu 69 (by decide) (by decide), eu 70 (by decide) (by decide)]; exact hS
    · unfold cX at *
      rw [eu 2 (by decide) (by decide), eu 4 (by decide) (by decide), eu 8 (by decide) (by decide), eu 72 (by decide) (by decide), eu 77 (by decide) (by decide)]
      refine ⟨hx.1, hx.2.1, hx.2.2.1, fun j hj => ?_, hx.2.2.2.2⟩
      by_cases q : 6 * j = imid i
      · rw [q]
        have z := stc_Zo (σ := σ) (o := imid i) (p := 0) (h.zst isSt0)
        unfold Zo at *
        rw [es _ (by omega), es _ (by omega), es _ (by omega)]
        exact z
      · have z := hx.2.2.2.1 j hj
        have e6 : ∀ x, 6 * j ≤ x → x < 6 * j + 6 → setS (stc σ (imid i) 0) 62 i 1 x = σ x := fun x c d => by
          rw [es x (by omega), stc_ne (by omega)]
        unfold Zo at *
        rw [e6 _ (by omega) (by omega), e6 _ (by omega) (by omega), e6 _ (by omega) (by omega)]
        exact z
  · rw [ew]
    intro x hx
    exact eu x (by omega) (by omega)
theorem k_back {N : Int} {a : AS} {σ : St} (h : CR N a σ) {i : Int} (hi : inI i) : CI mdX10_back [vr 60, vi i] σ (fun z u => z = (backA a i).1 ∧ CR N (backA a i).2 u ∧ up σ u) := by
  refine CI_of (by decide +kernel) (Nat.le_of_ble_eq_true rfl) rfl (fun X hX => ?_)
  have bad : ¬ (0 ≤ i ∧ i < 2) → G mdX10_back X 9 [] [] σ := fun g => bX10_back_9 hX (by unfold backA; rw [if_neg g]; exact ⟨rfl, h, up.rf⟩)
  refine bX10_back_0 hi (fun q => bad (by omega)) (fun q1 => ?_)
  refine bX10_back_4 hi (fun q2 => ?_) (fun q2 => bad (by omega))
  obtain ⟨i1, i2, i3⟩ := h.2.2.1 i q1 q2
  have ev : backA a i = if a.2.2.1.1 i = 0 then (-2, a) else (a.2.2.1.2 i 64, (a.2.2.1.2 i, (0, a.2.1.2), a.2.2)) := by unfold backA; rw [if_pos ⟨q1, q2⟩]
  rw [ev] at hX
  have hib := imid_bd ⟨q1, q2⟩
  have his : isSt (imid i) := ⟨hib.2.1, by omega⟩
  refine bX10_back_11 ⟨⟨q1, q2⟩, ⟨by omega, by omega⟩⟩ (fun q => ?_) (fun q => ?_)
  · rw [i1] at q
    rw [if_neg q] at hX
    obtain ⟨g1, g2⟩ := i3 (by omega)
    have hf : fbit (σ (imid i) 4) := by
      rw [show σ (imid i) 4 = a.2.2.1.2 i 86 from g1.2.2.2.2.2.symm]
      exact g2.2.2.2.2.2.2.2.1
    refine bX10_back_23 (c_stTake isSt0 his (by omega) σ (h.zst isSt0) (h.zst his) hf) ⟨q1, q2⟩ ?_
    rintro u rfl
    have hA := h.take his (by omega) g1 g2
    have ew : wr (stc σ 0 (imid i)) 63 2 0 = setS (stc σ 0 (imid i)) 63 2 0 := wr_setr _ _ _ _
    have e4 : setS (stc σ 0 (imid i)) 63 2 0 4 2 = a.2.2.1.2 i 64 := by
      rw [setS_ne _ _ _ (by decide)]
      exact hA.n64.1
    have hb := g2.2.2.2.2.1
    refine bX10_back_36 hX (by rw [ew, e4]; exact ⟨by omega, by omega⟩) ⟨by rw [ew, e4], ?_, ?_⟩
    · rw [ew]
      have hn := hA.2.1.1
      refine hA.hist (u := setS (stc σ 0 (imid i)) 63 2 0) (hh := (0, a.2.1.2)) (fun x hx => setS_ne _ _ _ hx) ⟨by rw [setS_at2 _ _ _ (by decide)]; exact hn, setS_at _ _ _ _, ⟨Int.le_refl 0, by show (0 : Int) ≤ 6; decide⟩, fun j c d => ?_⟩
      have d' : j < 0 := d
      omega
    · rw [ew]
      intro x hx
      rw [setS_ne _ _ _ (by omega), stc_ne (by omega)]
  · rw [i1] at q
    rw [if_pos q] at hX
    exact bX10_back_20 hX ⟨rfl, h, up.rf⟩
