/-! what changes an object of the class: cuts, drops, hears, one step more -/
def cutsA (a : AS) : Int × AS := if a.1 33 = 0 then (-2, a) else (a.1 33 - 1, putP (noteA a) (setV a.1 33 (a.1 33 - 1)))
def dropV (v : Row) (k : Int) : Row := fun j => if j = 64 then v 64 - 1 else if 65 + 5 * k ≤ j ∧ j < 80 then v (j + 5) else v j
def dropsA (a : AS) (k : Int) : Int × AS := if 0 ≤ k ∧ k < a.1 64 then (a.1 64 - 1, putP (noteA a) (dropV a.1 k)) else (-1, a)
theorem CR.room {N : Int} {a : AS} {σ : St} (h : CR N a σ) : σ 2 1 = 6 ∧ σ 4 1 = 4 ∧ σ 8 1 = 6 := ⟨h.2.2.2.2.2.1, h.2.2.2.2.2.2.1, h.2.2.2.2.2.2.2.1⟩
theorem k_cuts {N : Int} {a : AS} {σ : St} (h : CR N a σ) : CI mdX10_cuts [vr 60] σ (fun z u => z = (cutsA a).1 ∧ CR N (cutsA a).2 u ∧ up σ u) := by
  refine CI_of (by decide +kernel) (Nat.le_of_ble_eq_true rfl) rfl (fun X hX => ?_)
  have e := h.n33
  refine bX10_cuts_0 ⟨by omega, by omega⟩ (fun q => ?_) (fun q => ?_)
  · have ev : cutsA a = (a.1 33 - 1, putP (noteA a) (setV a.1 33 (a.1 33 - 1))) := by unfold cutsA; rw [if_neg (by omega)]
    rw [ev] at hX
    rw [e.1]
    refine bX10_cuts_18 (k_note h) ?_
    rintro u ⟨hu, hn⟩
    have f := hu.n33
    have f1 : u 2 2 = a.1 33 := f.1
    refine bX10_cuts_29 (c_remove ⟨by decide, by decide⟩ u (by omega) (by omega)) ?_
    rintro u2 rfl
    rw [f1]
    refine bX10_cuts_42 hX ⟨by omega, by omega⟩ ⟨rfl, ?_, hn.up.tr (up.tr (up.set (by decide)) (up.set (by decide)))⟩
    have er : remR (a.1 33) (a.1 33 - 1) (u (2 + 1)) = u 3 := by
      funext j
      unfold remR
      rw [if_neg (by omega)]
    rw [er]
    rw [show setr u (2 + 1) (u 3) = u from setr_id u 3]
    refine hu.setP (Int.le_refl N) (fun x hx => setS_ne _ _ _ (by omega)) ?_ ?_ (by rw [setS_at2 _ _ _ (by decide)]) (by rw [setS_ne _ _ _ (by decide)]) ?_
    · have ew : vwC (setS u 2 2 (a.1 33 - 1)) 0 = setV (vwC u 0) 33 (a.1 33 - 1) := by
        have g : ∀ y, y ≠ 2 → setS u 2 2 (a.1 33 - 1) y = u y := fun y h => setS_ne _ _ _ h
        funext j
        unfold vwC setV
        rw [show setS u 2 2 (a.1 33 - 1) (0 + 2) 2 = a.1 33 - 1 from setS_at _ _ _ _, g 0 (by decide), g (0 + 1) (by decide), g (0 + 3) (by decide), g (0 + 4) (by decide), g (0 + 5) (by decide)]
        by_cases q : j = 33
        · subst q; rfl
        · simp only [if_neg q]
      rw [ew]
      obtain ⟨a1, a2, a3, a4, a5, a6⟩ := hu.1.1
      have ne : ∀ (v : Row) j, j ≠ 33 → setV v 33 (a.1 33 - 1) j = v j := fun v j h => setV_ne _ _ h
      refine ⟨fun j c d => ?_, fun j c d => ?_, by rw [ne _ _ (by decide), ne _ _ (by decide)]; exact a3, fun j c d => ?_, by rw [ne _ _ (by decide), ne _ _ (by decide)]; exact a5, by rw [ne _ _ (by decide), ne _ _ (by decide)]; exact a6⟩
      · by_cases q : j = 33
        · rw [q, setV_at, setV_at]
        · rw [ne _ _ q, ne _ _ q]; exact a1 j c d
      · rw [setV_at] at d
        rw [ne _ _ (by omega), ne _ _ (by omega)]
        exact a2 j c (by show j < a.1 33 * 5; omega)
      · rw [ne _ _ (by decide)] at d
        rw [ne _ _ (by omega), ne _ _ (by omega)]
        exact a4 j c d
    · obtain ⟨g1, g2, g3, g4, g5, g6, g7, g8⟩ := id h.1.2
      have ne : ∀ j, j ≠ 33 → setV a.1 33 (a.1 33 - 1) j = a.1 j := fun j h => setV_ne _ _ h
      refine h.1.2.alt (fun i c d => by rw [ne _ (by omega)]; exact g1 i c d) (by rw [ne _ (by decide)]; exact g2) (by rw [setV_at]; omega) (fun j c d => ne _ (by omega)) (by rw [ne _ (by decide)]; omega) (fun j c d => ne _ (by omega)) (by rw [ne _ (by decide)]; exact g7) (by rw [ne _ (by decide)]; exact g8)
    · obtain ⟨z1, z2, z3⟩ := hu.zst isSt0
      refine ⟨?_, ?_, ?_⟩
      · rw [setS_ne _ _ _ (by decide)]; exact z1
      · rw [setS_ne _ _ _ (by decide)]; exact z2
      · rw [setS_ne _ _ _ (by decide)]; exact z3
  · have ev : cutsA a = (-2, a) := by unfold cutsA; rw [if_pos (by omega)]
    rw [ev] at hX
    exact bX10_cuts_15 hX ⟨rfl, h, up.rf⟩
theorem vw_chain (u : St) (f : Row) (n : Int) : eqN 65 (vwC (setS (setr u 5 f) 4 2 n) 0) (setV (vwC u 0) 64 n) ∧ (∀ j, 0 ≤ j → j < 20 → vwC (setS (setr u 5 f) 4 2 n) 0 (65 + j) = f j) ∧ vwC (setS (setr u 5 f) 4 2 n) 0 85 = vwC u 0 85 ∧ vwC (setS (setr u 5 f) 4 2 n) 0 86 = vwC u 0 86 := by
  have e : ∀ y, y ≠ 4 → y ≠ 5 → setS (setr u 5 f) 4 2 n y = u y := fun y h1 h2 => by rw [setS_ne _ _ _ h1, setr_ne _ _ h2]
  have e5 : setS (setr u 5 f) 4 2 n 5 = f := by rw [setS_ne _ _ _ (by decide), setr_at]
  have e4 : setS (setr u 5 f) 4 2 n 4 2 = n := setS_at _ _ _ _
  refine ⟨fun j c d => ?_, fun j c d => ?_, by rw [vw_85, vw_85, e 0 (by decide) (by decide)], by rw [vw_86, vw_86, e 0 (by decide) (by decide)]⟩
  · unfold vwC setV
    rw [show setS (setr u 5 f) 4 2 n (0 + 4) 2 = n from e4, e 0 (by decide) (by decide), e (0 + 1) (by decide) (by decide), e (0 + 2) (by decide) (by decide), e (0 + 3) (by decide) (by decide)]
    by_cases q : j = 64
    · subst q; rfl
    · simp only [if_neg q]
      by_cases q1 : j < 32
      · simp only [if_pos q1]
      · by_cases q2 : j = 32
        · subst q2; rfl
        · by_cases q3 : j = 33
          · subst q3; rfl
          · simp only [if_neg q1, if_neg q2, if_neg q3, if_pos (show j < 64 by omega)]
  · unfold vwC
    rw [if_neg (by omega), if_neg (by omega), if_neg (by omega), if_neg (by omega), if_neg (by omega), if_pos (by omega)]
    show setS (setr u 5 f) 4 2 n 5 (65 + j - 65) = f j
    rw [e5]
    congr 1; omega
/-- a chain put anew -/
theorem CR.chain {N : Int} {a : AS} {u : St} (h : CR N a u) {P f : Row} {n : Int} (h1 : eqN 64 P a.1) (h2 : P 64 = n) (h3 : ∀ j, 0 ≤ j → j < n * 5 → P (65 + j) = f j) (h4 : P 85 = a.1 85) (h5 : P 86 = a.1 86) (hn : 0 ≤ n ∧ n ≤ 4) (hok : ∀ j, 0 ≤ j → j < n → okB (chV P) j) (hz : zo 30 f) : CR N (putP a P) (setS (setr u 5 f) 4 2 n) := by
  obtain ⟨c1, c2, c3, c4⟩ := vw_chain u f n
  obtain ⟨a1, a2, a3, a4, a5, a6⟩ := h.1.1
  obtain ⟨g1, g2, g3, g4, g5, g6, g7, g8⟩ := id h.1.2
  refine h.setP (Int.le_refl N) (fun x hx => by rw [setS_ne _ _ _ (by omega), setr_ne _ _ (by omega)]) ?_ ?_ (by rw [setS_ne _ _ _ (by decide), setr_ne _ _ (by decide)]) (by rw [setS_at2 _ _ _ (by decide), setr_ne _ _ (by decide)]) ?_
  · have low : ∀ j, 0 ≤ j → j < 64 → (P j = vwC (setS (setr u 5 f) 4 2 n) 0 j ↔ a.1 j = vwC u 0 j) := fun j c d => by
      rw [h1 j c d, c1 j c (by omega), setV_ne _ _ (by omega)]
    refine ⟨fun j c d => (low j c (by omega)).mpr (a1 j c d), fun j c d => ?_, by rw [h2, c1 64 (by decide) (by decide), setV_at], fun j c d => ?_, by rw [h4, c3]; exact a5, by rw [h5, c4]; exact a6⟩
    · rw [h1 33 (by decide) (by decide)] at d
      exact (low (34 + j) (by omega) (by omega)).mpr (a2 j c d)
    · rw [h2] at d
      rw [h3 j c d, c2 j c (by omega)]
  · refine ⟨fun i c d => by rw [h1 i c (by omega)]; exact g1 i c d, by rw [h1 32 (by decide) (by decide)]; exact g2, by rw [h1 33 (by decide) (by decide)]; exact g3, fun j c d => ?_, by rw [h2]; exact hn, fun j c d => hok j c (by omega), by rw [h4]; exact g7, by rw [h5]; exact g8⟩
    rw [h1 33 (by decide) (by decide)] at d
    exact okA_eq c (fun i x y => (h1 (34 + i) (by omega) (by omega)).symm) (g4 j c d)
  · obtain ⟨z1, z2, z3⟩ := h.zst isSt0
    refine ⟨?_, ?_, ?_⟩
    · show zo 32 (setS (setr u 5 f) 4 2 n 1)
      rw [setS_ne _ _ _ (by decide), setr_ne _ _ (by decide)]; exact z1
    · show zo 30 (setS (setr u 5 f) 4 2 n 3)
      rw [setS_ne _ _ _ (by decide), setr_ne _ _ (by decide)]; exact z2
    · show zo 30 (setS (setr u 5 f) 4 2 n 5)
      rw [setS_ne _ _ _ (by decide), setr_at]; exact hz
theorem k_drops {N : Int} {a : AS} {σ : St} (h : CR N a σ) {k : Int} (hk : inI k) : CI mdX10_drops [vr 60, vi k] σ (fun z u => z = (dropsA a k).1 ∧ CR N (dropsA a k).2 u ∧ up σ u) := by
  refine CI_of (by decide +kernel) (Nat.le_of_ble_eq_true rfl) rfl (fun X hX => ?_)
  have e := h.n64
  have bad : ¬ (0 ≤ k ∧ k < a.1 64) → G mdX10_drops X 20 [] [] σ := fun g => bX10_drops_20 hX (by unfold dropsA; rw [if_neg g]; exact ⟨rfl, h, up.rf⟩)
  refine bX10_drops_0 hk (fun q => bad (by omega)) (fun q1 => ?_)
  rw [e.1]
  refine bX10_drops_15 ⟨hk, ⟨by omega, by omega⟩⟩ (fun q2 => ?_) (fun q2 => bad (by omega))
  have ev : dropsA a k = (a.1 64 - 1, putP (noteA a) (dropV a.1 k)) := by unfold dropsA; rw [if_pos ⟨q1, q2⟩]
  rw [ev] at hX
  refine bX10_drops_22 (k_note h) ?_
  rintro u ⟨hu, hn⟩
  have f1 : u 4 2 = a.1 64 := hu.n64.1
  refine bX10_drops_33 (c_remove ⟨by decide, by decide⟩ u (by omega) (by omega)) ?_
  rintro u2 rfl
  rw [f1]
  refine bX10_drops_44 hX ⟨by omega, by omega⟩ ⟨rfl, ?_, hn.up.tr (up.tr (up.set (by decide)) (up.set (by decide)))⟩
  have hch : ∀ j, 0 ≤ j → j < a.1 64 * 5 → a.1 (65 + j) = u 5 j := fun j c d => (hu.1.1.2.2.2.1 j c d).trans (vw_ch u 0 j c (by omega))
  have hd : ∀ j, 0 ≤ j → j < (a.1 64 - 1) * 5 → dropV a.1 k (65 + j) = remR (a.1 64) k (u 5) j := by
    intro j c d
    unfold dropV remR
    rw [if_neg (by omega)]
    by_cases q : k * 5 ≤ j
    · rw [if_pos (by omega), if_pos (by omega), ← hch (j + 5) (by omega) (by omega), show 65 + j + 5 = 65 + (j + 5) by omega]
    · rw [if_neg (by omega), if_neg (by omega)]
      exact hch j c (by omega)
  refine hu.chain (P := dropV a.1 k) (n := a.1 64 - 1) (fun j c d => ?_) (by unfold dropV; rw [if_pos rfl]) hd ?_ ?_ (by omega) (fun j c d => ?_) ?_
  · unfold dropV; rw [if_neg (by omega), if_neg (by omega)]; rfl
  · unfold dropV; rw [if_neg (by decide), if_neg (by omega)]; rfl
  · unfold dropV; rw [if_neg (by decide), if_neg (by omega)]; rfl
  · -- each stage is one of the old ones
    have old := h.1.2.2.2.2.2.2.1
    by_cases q : j < k
    · refine okB_eq c (fun i x y => ?_) (old j c (by omega))
      show a.1 (65 + i) = dropV a.1 k (65 + i)
      unfold dropV
      rw [if_neg (by omega), if_neg (by omega)]
    · have g := old (j + 1) (by omega) (by omega)
      unfold okB at g ⊢
      have ee : ∀ i, j * 5 ≤ i → i < j * 5 + 5 → chV (dropV a.1 k) i = chV a.1 (i + 5) := fun i x y => by
        unfold chV dropV
        rw [if_neg (by omega), if_pos (by omega), show 65 + i + 5 = 65 + (i + 5) by omega]
      rw [ee (j * 5) (by omega) (by omega), ee (j * 5 + 1) (by omega) (by omega), ee (j * 5 + 2) (by omega) (by omega), ee (j * 5 + 3) (by omega) (by omega), ee (j * 5 + 4) (by omega) (by omega)]
      rw [show j * 5 + 5 = (j + 1) * 5 by omega, show j * 5 + 1 + 5 = (j + 1) * 5 + 1 by omega, show j * 5 + 2 + 5 = (j + 1) * 5 + 2 by omega, show j * 5 + 3 + 5 = (j + 1) * 5 + 3 by omega, show j * 5 + 4 + 5 = (j + 1) * 5 + 4 by omega]
      exact g
  · intro i hi
    have z := (hu.zst isSt0).2.2
    unfold remR
    rw [if_neg (by omega)]
    exact z i hi
