/-! the model: note -/
theorem eqv_of {v w : Row} (h : ∀ k, 0 ≤ k → k < 87 → v k = w k) (h1 : v 33 ≤ 6) (h2 : v 64 ≤ 4) : eqv v w :=
  ⟨fun j a b => h j a (by omega), fun j a b => h _ (by omega) (by omega), h _ (by decide) (by decide), fun j a b => h _ (by omega) (by omega), h _ (by decide) (by decide), h _ (by decide) (by decide)⟩
/-- only the past has changed -/
def nfM (σ u : St) : Prop := (∀ x, x ≠ 87 → x ≠ 89 → x ≠ 90 → u x = σ x) ∧ ∀ j, j ≠ 4 → u 87 j = σ 87 j
theorem nfM.dn {σ u : St} (h : nfM σ u) : ∀ a, a < 87 → u a = σ a := fun a ha => h.1 a (by omega) (by omega) (by omega)
def putB (n : Int) (now base : Row) : Row := fun j => if 86 * n ≤ j ∧ j < 86 * n + 86 then now (j - 86 * n) else base j
theorem n_note {N : Int} {a : AS} {σ : St} (h : MR N a σ) : CV mdX11_note [vr 87] σ (fun u => MR N (noteA a) u ∧ nfM σ u) := by
  refine CV_of (by decide +kernel) (Nat.le_of_ble_eq_true rfl) rfl (fun X hX => ?_)
  obtain ⟨hP, hH, hI, hT, hS, hz⟩ := id h
  have hl : fbit (σ 87 1) := by
    rw [show σ 87 1 = a.1 86 from hP.1.2.2.2.2.2.symm]
    exact hP.2.2.2.2.2.2.2.2.1
  -- the present one behind n old ones
  have tail : ∀ (n : Int) (u : St), 0 ≤ n → n < 6 → (∀ x, x ≠ 87 → x ≠ 89 → x ≠ 90 → u x = σ x) → (∀ j, j ≠ 4 → u 87 j = σ 87 j) → u 87 4 = n → (∀ w : St, (∀ x, x ≠ 87 → x ≠ 89 → x ≠ 90 → w x = σ x) → (∀ j, j ≠ 4 → w 87 j = σ 87 j) → w 87 4 = n + 1 → w 89 = putB n (σ 88) (u 89) → (∀ j, w 90 j = if j = n then σ 87 1 else u 90 j) → MR N (noteA a) w) → G mdX11_note X 76 [(0, vr 87)] [] u := by
    intro n u n0 n1 e1 e2 e3 k
    have e88 : u 88 = σ 88 := e1 88 (by decide) (by decide) (by decide)
    refine bX11_note_76 ?_
    obtain ⟨part, hpart⟩ : ∃ part : Int → Row, part = fun m j => if 86 * n ≤ j ∧ j < 86 * n + m then σ 88 (j - 86 * n) else u 89 j := ⟨_, rfl⟩
    have pv : ∀ m j, part m j = if 86 * n ≤ j ∧ j < 86 * n + m then σ 88 (j - 86 * n) else u 89 j := fun m j => by rw [hpart]
    have key : G mdX11_note X 78 [(0, vr 87), (1, vi 0)] [] (setr u 89 (part 0)) := by
      refine loopUp (Q := fun i => G mdX11_note X 78 [(0, vr 87), (1, vi i)] [] (setr u 89 (part i))) (n := 86) ?_ (fun i h1 h2 ih => ?_) (by decide)
      · have f87 : setr u 89 (part 86) 87 = u 87 := setr_ne _ _ (by decide)
        refine bX11_note_78 (by decide) (fun _ => ?_) (fun q => by omega)
        have fl1 : ((fl (setr u 89 (part 86) 87 1)).toNat : Int) = σ 87 1 := by rw [f87, e2 1 (by decide)]; exact fl_int hl
        have f4 : setr u 89 (part 86) 87 4 = n := by rw [f87]; exact e3
        refine bX11_note_110 hX (by rw [f4]; exact ⟨n0, n1⟩) ?_
        rw [f4, fl1]
        have f5 : wr (setr u 89 (part 86)) 90 n (σ 87 1) 87 4 = n := by rw [wr_setr, setr_ne _ _ (by decide)]; exact f4
        rw [f5]
        have eu : wr (wr (setr u 89 (part 86)) 90 n (σ 87 1)) 87 4 (n + 1) = setS (setr (setr u 89 (part 86)) 90 (fun j => if j = n then σ 87 1 else setr u 89 (part 86) 90 j)) 87 4 (n + 1) := by rw [wr_setr, wr_setr]; rfl
        rw [eu]
        have g1 : ∀ x, x ≠ 87 → x ≠ 89 → x ≠ 90 → setS (setr (setr u 89 (part 86)) 90 (fun j => if j = n then σ 87 1 else setr u 89 (part 86) 90 j)) 87 4 (n + 1) x = σ x := fun x c d e => by rw [setS_ne _ _ _ c, setr_ne _ _ e, setr_ne _ _ d]; exact e1 x c d e
        have g2 : ∀ j, j ≠ 4 → setS (setr (setr u 89 (part 86)) 90 (fun j => if j = n then σ 87 1 else setr u 89 (part 86) 90 j)) 87 4 (n + 1) 87 j = σ 87 j := fun j c => by rw [setS_at2 _ _ _ c, setr_ne _ _ (by decide), setr_ne _ _ (by decide)]; exact e2 j c
        refine ⟨k _ g1 g2 (setS_at _ _ _ _) ?_ (fun j => ?_), g1, g2⟩
        · rw [setS_ne _ _ _ (by decide), setr_ne _ _ (by decide), setr_at, hpart]; rfl
        · rw [setS_ne _ _ _ (by decide), setr_at, setr_ne _ _ (by decide)]
      · have f87 : setr u 89 (part i) 87 4 = n := by rw [setr_ne _ _ (by decide)]; exact e3
        have f88 : setr u 89 (part i) 88 i = σ 88 i := by rw [setr_ne _ _ (by decide), e88]
        refine bX11_note_78 ⟨by omega, by omega⟩ (fun q => by omega) (fun _ => bX11_note_84 ⟨⟨h1, h2⟩, by rw [f87]; omega⟩ ?_)
        rw [f87, f88, wr_wr]
        have ep : (fun j => if j = 86 * n + i then σ 88 i else part i j) = part (i + 1) := by
          funext j
          rw [pv, pv]
          by_cases q : j = 86 * n + i
          · rw [if_pos q, if_pos (by omega), q, show 86 * n + i - 86 * n = i by omega]
          · rw [if_neg q]
            by_cases q2 : 86 * n ≤ j ∧ j < 86 * n + i
            · rw [if_pos q2, if_pos (by omega)]
            · rw [if_neg q2, if_neg (by omega)]
        rw [ep]
        exact ih
    have e0 : part 0 = u 89 := by
      funext j
      rw [pv, if_neg (by omega)]
    rw [e0, setr_id] at key
    exact key
  have b33 := hP.2.2.2.1
  have b64 := hP.2.2.2.2.2.1
  have e33 := h.n33
  have e64 := h.n64
  -- the other parts, and the present one in its place
  have rest : ∀ (n : Int) (hh : Int × (Int → Row)) (w : St), (∀ x, x ≠ 87 → x ≠ 89 → x ≠ 90 → w x = σ x) → (∀ j, j ≠ 4 → w 87 j = σ 87 j) → mH N hh w → MR N (a.1, hh, a.2.2) w := by
    intro n hh w g1 g2 g3
    refine ⟨?_, g3, ?_, ?_, ?_, ?_⟩
    · show mP N a.1 w
      unfold mP vwM at *
      rw [g2 1 (by decide), g1 88 (by decide) (by decide) (by decide)]; exact hP
    · show mI N a.2.2.1 w
      unfold mI imgM at *
      rw [g1 93 (by decide) (by decide) (by decide), g1 91 (by decide) (by decide) (by decide), g1 92 (by decide) (by decide) (by decide)]; exact hI
    · show mT a.2.2.2.1 w
      unfold mT at *
      rw [g2 9 (by decide), g1 94 (by decide) (by decide) (by decide)]; exact hT
    · show mS a.2.2.2.2 w
      unfold mS at *
      rw [g2 27 (by decide), g1 103 (by decide) (by decide) (by decide), g1 104 (by decide) (by decide) (by decide)]; exact hS
    · rw [g1 96 (by decide) (by decide) (by decide)]; exact hz
  refine bX11_note_0 ⟨by have := hH.1; have := hH.2.1; omega, by have := hH.1; have := hH.2.1; omega⟩ (fun q => ?_) (fun q => ?_)
  · have h6 : a.2.1.1 < 6 := by have := hH.1; have := hH.2.1; omega
    have ea : noteA a = (a.1, (a.2.1.1 + 1, fun i => if i = a.2.1.1 then a.1 else a.2.1.2 i), a.2.2) := by unfold noteA pushH; rw [if_pos h6]
    refine tail a.2.1.1 σ hH.2.1.1 h6 (fun _ _ _ _ => rfl) (fun _ _ => rfl) hH.1 (fun w g1 g2 g3 g4 g5 => ?_)
    rw [ea]
    refine rest 0 _ w g1 g2 ⟨g3, ⟨by show 0 ≤ a.2.1.1 + 1; have := hH.2.1; omega, by show a.2.1.1 + 1 ≤ 6; omega⟩, fun i c d => ?_⟩
    have d' : i < a.2.1.1 + 1 := d
    show eqv (if i = a.2.1.1 then a.1 else a.2.1.2 i) (pastM w i) ∧ okV N (if i = a.2.1.1 then a.1 else a.2.1.2 i)
    by_cases qi : i = a.2.1.1
    · rw [if_pos qi]
      refine ⟨hP.1.tr (eqv_of (fun k k0 k1 => ?_) (by rw [vwM_at σ (by decide)]; omega) (by rw [vwM_at σ (by decide)]; omega)), hP.2⟩
      unfold vwM pastM
      by_cases q86 : k = 86
      · rw [if_pos q86, if_pos q86, g5, if_pos qi]
      · rw [if_neg q86, if_neg q86, g4]
        unfold putB
        rw [if_pos (by omega)]
        congr 1; omega
    · rw [if_neg qi]
      obtain ⟨o1, o2⟩ := hH.2.2 i c (by omega)
      have s1 := o2.2.2.1
      have s2 := o2.2.2.2.2.1
      have s3 := o1.e33
      have s4 := o1.2.2.1
      refine ⟨o1.tr (eqv_of (fun k k0 k1 => ?_) (by omega) (by omega)), o2⟩
      unfold pastM
      by_cases q86 : k = 86
      · rw [if_pos q86, if_pos q86, g5, if_neg qi]
      · rw [if_neg q86, if_neg q86, g4]
        unfold putB
        rw [if_neg (by omega)]
  · have h6 : a.2.1.1 = 6 := by have := hH.1; omega
    have ea : noteA a = (a.1, (6, fun i => if i = 5 then a.1 else a.2.1.2 (i + 1)), a.2.2) := by unfold noteA pushH; rw [if_neg (by omega)]
    have hf : ∀ j, 0 ≤ j → j < 6 → fbit (σ 90 j) := fun j c d => by
      obtain ⟨o1, o2⟩ := hH.2.2 j c (by omega)
      rw [show σ 90 j = a.2.1.2 j 86 from o1.2.2.2.2.2.symm]
      exact o2.2.2.2.2.2.2.2.1
    refine bX11_note_9 ?_
    have loss : G mdX11_note X 41 [(0, vr 87), (1, vi 0)] [] (setr (setr σ 89 (win 430 (fun j => σ 89 (j + 86)) (σ 89))) 90 (win 0 (fun j => σ 90 (j + 1)) (σ 90))) := by
      refine loopUp (Q := fun i => G mdX11_note X 41 [(0, vr 87), (1, vi i)] [] (setr (setr σ 89 (win 430 (fun j => σ 89 (j + 86)) (σ 89))) 90 (win i (fun j => σ 90 (j + 1)) (σ 90)))) (n := 5) ?_ (fun i h1 h2 ih => ?_) (by decide)
      · refine bX11_note_41 (by decide) (fun _ => bX11_note_66 ?_) (fun q => by omega)
        have f4 : setr (setr σ 89 (win 430 (fun j => σ 89 (j + 86)) (σ 89))) 90 (win 5 (fun j => σ 90 (j + 1)) (σ 90)) 87 4 = 6 := by rw [setr_ne _ _ (by decide), setr_ne _ _ (by decide)]; exact q
        rw [f4, wr_setr]
        show G mdX11_note X 76 [(0, vr 87)] [] (setS (setr (setr σ 89 (win 430 (fun j => σ 89 (j + 86)) (σ 89))) 90 (win 5 (fun j => σ 90 (j + 1)) (σ 90))) 87 4 (6 - 1))
        refine tail 5 _ (by decide) (by decide) (fun x c d e => by rw [setS_ne _ _ _ c, setr_ne _ _ e, setr_ne _ _ d]) (fun j c => by rw [setS_at2 _ _ _ c, setr_ne _ _ (by decide), setr_ne _ _ (by decide)]) (setS_at _ _ _ _) (fun w g1 g2 g3 g4 g5 => ?_)
        rw [setS_ne _ _ _ (by decide), setr_ne _ _ (by decide), setr_at] at g4
        rw [setS_ne _ _ _ (by decide), setr_at] at g5
        rw [ea]
        refine rest 0 _ w g1 g2 ⟨g3, ⟨by show (0 : Int) ≤ 6; decide, by show (6 : Int) ≤ 6; decide⟩, fun i c d => ?_⟩
        have d' : i < 6 := d
        show eqv (if i = 5 then a.1 else a.2.1.2 (i + 1)) (pastM w i) ∧ okV N (if i = 5 then a.1 else a.2.1.2 (i + 1))
        by_cases qi : i = 5
        · rw [if_pos qi]
          refine ⟨hP.1.tr (eqv_of (fun k k0 k1 => ?_) (by rw [vwM_at σ (by decide)]; omega) (by rw [vwM_at σ (by decide)]; omega)), hP.2⟩
          unfold vwM pastM
          by_cases q86 : k = 86
          · rw [if_pos q86, if_pos q86, g5, if_pos qi]
          · rw [if_neg q86, if_neg q86, g4]
            unfold putB
            rw [if_pos (by omega)]
            congr 1; omega
        · rw [if_neg qi]
          obtain ⟨o1, o2⟩ := hH.2.2 (i + 1) (by omega) (by omega)
          have s1 := o2.2.2.1
          have s2 := o2.2.2.2.2.1
          have s3 := o1.e33
          have s4 := o1.2.2.1
          refine ⟨o1.tr (eqv_of (fun k k0 k1 => ?_) (by omega) (by omega)), o2⟩
          unfold pastM
          by_cases q86 : k = 86
          · rw [if_pos q86, if_pos q86, g5, if_neg qi, win_in ⟨c, by omega⟩]
          · rw [if_neg q86, if_neg q86, g4]
            unfold putB
            rw [if_neg (by omega), win_in ⟨by omega, by omega⟩]
            congr 1; omega
      · have ev : setr (setr σ 89 (win 430 (fun j => σ 89 (j + 86)) (σ 89))) 90 (win i (fun j => σ 90 (j + 1)) (σ 90)) 90 (i + 1) = σ 90 (i + 1) := by rw [setr_at, win_out (by omega)]
        refine bX11_note_41 ⟨by omega, by omega⟩ (fun q => by omega) (fun _ => bX11_note_46 ⟨by omega, by omega⟩ ?_)
        rw [ev, fl_int (hf (i + 1) (by omega) (by omega)), wr_win _ _ _ _ h1 rfl]
        exact ih
    have key : G mdX11_note X 11 [(0, vr 87), (1, vi 0)] [] (setr σ 89 (win 0 (fun j => σ 89 (j + 86)) (σ 89))) := by
      refine loopUp (Q := fun i => G mdX11_note X 11 [(0, vr 87), (1, vi i)] [] (setr σ 89 (win i (fun j => σ 89 (j + 86)) (σ 89)))) (n := 430) ?_ (fun i h1 h2 ih => ?_) (by decide)
      · refine bX11_note_11 (by decide) (fun _ => bX11_note_39 ?_) (fun q => by omega)
        have e90 : setr σ 89 (win 430 (fun j => σ 89 (j + 86)) (σ 89)) 90 = σ 90 := setr_ne _ _ (by decide)
        rw [win_0, ← e90, setr_id] at loss
        exact loss
      · have ev : setr σ 89 (win i (fun j => σ 89 (j + 86)) (σ 89)) 89 (i + 86) = σ 89 (i + 86) := by rw [setr_at, win_out (by omega)]
        refine bX11_note_11 ⟨by omega, by omega⟩ (fun q => by omega) (fun _ => bX11_note_18 ⟨by omega, by omega⟩ ?_)
        rw [ev, wr_win _ _ _ _ h1 rfl]
        exact ih
    rw [win_0, setr_id] at key
    exact key
