/-! the model: undo, keep, back -/
theorem MR.setPH {N : Int} {a : AS} {σ u : St} (h : MR N a σ) {P : Row} {m : Int} (e : ∀ x, 89 ≤ x → u x = σ x) (e87 : ∀ j, j ≠ 1 → j ≠ 4 → u 87 j = σ 87 j) (e4 : u 87 4 = m) (hm : 0 ≤ m ∧ m ≤ a.2.1.1) (hP : eqv P (vwM u)) (ok : okV N P) : MR N (P, (m, a.2.1.2), a.2.2) u := by
  obtain ⟨-, hH, hI, hT, hS, hz⟩ := h
  refine ⟨⟨hP, ok⟩, ?_, ?_, ?_, ?_, ?_⟩
  · show mH N (m, a.2.1.2) u
    unfold mH pastM at *
    rw [e 89 (by decide), e 90 (by decide)]
    exact ⟨e4, ⟨hm.1, by show m ≤ 6; omega⟩, fun i c d => hH.2.2 i c (by have : i < m := d; omega)⟩
  · show mI N a.2.2.1 u
    unfold mI imgM at *
    rw [e 93 (by decide), e 91 (by decide), e 92 (by decide)]; exact hI
  · show mT a.2.2.2.1 u
    unfold mT at *
    rw [e87 9 (by decide) (by decide), e 94 (by decide)]; exact hT
  · show mS a.2.2.2.2 u
    unfold mS at *
    rw [e87 27 (by decide) (by decide), e 103 (by decide), e 104 (by decide)]; exact hS
  · rw [e 96 (by decide)]; exact hz
theorem n_undo {N : Int} {a : AS} {σ : St} (h : MR N a σ) : CI mdX11_undo [vr 87] σ (fun z u => z = (undoA a).1 ∧ MR N (undoA a).2 u ∧ dn σ u) := by
  refine CI_of (by decide +kernel) (Nat.le_of_ble_eq_true rfl) rfl (fun X hX => ?_)
  obtain ⟨hP, hH, hI, hT, hS, hz⟩ := id h
  have e4 := hH.1
  have b4 := hH.2.1
  refine bX11_undo_0 ⟨by omega, by omega⟩ (fun q => ?_) (fun q => bX11_undo_7 hX (by unfold undoA; rw [if_pos (by omega)]; exact ⟨rfl, h, dn.rf⟩))
  have ev : undoA a = (a.2.1.1 - 1, (a.2.1.2 (a.2.1.1 - 1), (a.2.1.1 - 1, a.2.1.2), a.2.2)) := by unfold undoA; rw [if_neg (by omega)]
  rw [ev] at hX
  generalize hn : a.2.1.1 - 1 = n at hX
  obtain ⟨o1, o2⟩ := hH.2.2 n (by omega) (by omega)
  have hf : fbit (σ 90 n) := by
    rw [show σ 90 n = a.2.1.2 n 86 from o1.2.2.2.2.2.symm]
    exact o2.2.2.2.2.2.2.2.1
  refine bX11_undo_10 ?_
  rw [show wr σ 87 4 (σ 87 4 - 1) = setS σ 87 4 n from by rw [e4, hn, wr_setr]; rfl]
  have key : G mdX11_undo X 22 [(0, vr 87), (1, vi 0)] [] (setr (setS σ 87 4 n) 88 (win 0 (fun j => σ 89 (86 * n + j)) (σ 88))) := by
    refine loopUp (Q := fun i => G mdX11_undo X 22 [(0, vr 87), (1, vi i)] [] (setr (setS σ 87 4 n) 88 (win i (fun j => σ 89 (86 * n + j)) (σ 88)))) (n := 86) ?_ (fun i h1 h2 ih => ?_) (by decide)
    · have f4 : setr (setS σ 87 4 n) 88 (win 86 (fun j => σ 89 (86 * n + j)) (σ 88)) 87 4 = n := by rw [setr_ne _ _ (by decide), setS_at]
      have f90 : setr (setS σ 87 4 n) 88 (win 86 (fun j => σ 89 (86 * n + j)) (σ 88)) 90 = σ 90 := by rw [setr_ne _ _ (by decide), setS_ne _ _ _ (by decide)]
      refine bX11_undo_22 (by decide) (fun _ => bX11_undo_54 hX ?_ ?_) (fun q => by omega)
      · rw [f4, f90, fl_int hf, wr_setr]
        show _ ∧ inI (setS _ 87 1 _ 87 4)
        rw [setS_at2 _ _ _ (by decide), f4]; exact ⟨by omega, by omega, by omega⟩
      · rw [f4, f90, fl_int hf, wr_setr]
        show (setS _ 87 1 _ 87 4) = n ∧ MR N _ (setS _ 87 1 (σ 90 n)) ∧ dn σ (setS _ 87 1 _)
        rw [setS_at2 _ _ _ (by decide), f4]
        refine ⟨rfl, ?_, dn.tr (dn.set (by decide)) (dn.tr (dn.set (by decide)) (dn.set (by decide)))⟩
        have s1 := o2.2.2.1
        have s2 := o2.2.2.2.2.1
        have s3 := o1.e33
        have s4 := o1.2.2.1
        refine h.setPH (fun x hx => by rw [setS_ne _ _ _ (by omega), setr_ne _ _ (by omega), setS_ne _ _ _ (by omega)]) (fun j c d => by rw [setS_at2 _ _ _ c, setr_ne _ _ (by decide), setS_at2 _ _ _ d]) (by rw [setS_at2 _ _ _ (by decide)]; exact f4) (by omega) ?_ o2
        refine o1.tr (eqv_of (fun k k0 k1 => ?_) (by omega) (by omega))
        unfold pastM vwM
        rw [setS_at, setS_ne _ _ _ (by decide), setr_at]
        by_cases q86 : k = 86
        · rw [if_pos q86, if_pos q86]
        · rw [if_neg q86, if_neg q86, win_in ⟨k0, by omega⟩]
    · have f4 : setr (setS σ 87 4 n) 88 (win i (fun j => σ 89 (86 * n + j)) (σ 88)) 87 4 = n := by rw [setr_ne _ _ (by decide), setS_at]
      have f89 : setr (setS σ 87 4 n) 88 (win i (fun j => σ 89 (86 * n + j)) (σ 88)) 89 = σ 89 := by rw [setr_ne _ _ (by decide), setS_ne _ _ _ (by decide)]
      refine bX11_undo_22 ⟨by omega, by omega⟩ (fun q => by omega) (fun _ => bX11_undo_28 (by rw [f4]; exact ⟨⟨by omega, by omega⟩, h1, h2⟩) ?_)
      rw [f4, f89, wr_win _ _ _ _ h1 rfl]
      exact ih
  have e88 : setS σ 87 4 n 88 = σ 88 := setS_ne _ _ _ (by decide)
  rw [win_0, ← e88, setr_id] at key
  exact key
theorem n_keep {N : Int} {a : AS} {σ : St} (h : MR N a σ) {i : Int} (hi : inI i) : CI mdX11_keep [vr 87, vi i] σ (fun z u => z = (keepA a i).1 ∧ MR N (keepA a i).2 u ∧ dn σ u) := by
  refine CI_of (by decide +kernel) (Nat.le_of_ble_eq_true rfl) rfl (fun X hX => ?_)
  obtain ⟨hP, hH, hI, hT, hS, hz⟩ := id h
  have e64 := h.n64
  have b33 := h.n33
  refine bX11_keep_0 (m_in hi ⟨by decide, by decide⟩ ⟨by decide, by decide⟩ σ) ?_
  rintro z u hz1 ⟨rfl, rfl⟩
  refine bX11_keep_6 hz1 (fun q => ?_) (fun q => bX11_keep_9 hX (by unfold keepA; rw [if_neg (by have := bI_d0 q; omega)]; exact ⟨rfl, h, dn.rf⟩))
  have b := bI_d1 q
  have ev : keepA a i = (a.1 64, (a.1, a.2.1, (fun j => if j = i then 1 else a.2.2.1.1 j, fun j => if j = i then a.1 else a.2.2.1.2 j), a.2.2.2)) := by unfold keepA; rw [if_pos (by omega)]
  rw [ev] at hX
  have hl : fbit (σ 87 1) := by
    rw [show σ 87 1 = a.1 86 from hP.1.2.2.2.2.2.symm]
    exact hP.2.2.2.2.2.2.2.2.1
  refine bX11_keep_11 ?_
  obtain ⟨part, hpart⟩ : ∃ part : Int → Row, part = fun m j => if 86 * i ≤ j ∧ j < 86 * i + m then σ 88 (j - 86 * i) else σ 91 j := ⟨_, rfl⟩
  have pv : ∀ m j, part m j = if 86 * i ≤ j ∧ j < 86 * i + m then σ 88 (j - 86 * i) else σ 91 j := fun m j => by rw [hpart]
  have key : G mdX11_keep X 13 [(0, vr 87), (1, vi i), (2, vi 0)] [] (setr σ 91 (part 0)) := by
    refine loopUp (Q := fun m => G mdX11_keep X 13 [(0, vr 87), (1, vi i), (2, vi m)] [] (setr σ 91 (part m))) (n := 86) ?_ (fun m h1 h2 ih => ?_) (by decide)
    · refine bX11_keep_13 (by decide) (fun _ => ?_) (fun q => by omega)
      have f1 : ((fl (setr σ 91 (part 86) 87 1)).toNat : Int) = σ 87 1 := by rw [setr_ne _ _ (by decide)]; exact fl_int hl
      have eu : wr (wr (setr σ 91 (part 86)) 92 i (σ 87 1)) 93 i 1 = setS (setS (setr σ 91 (part 86)) 92 i (σ 87 1)) 93 i 1 := by rw [wr_setr, wr_setr]; rfl
      have f64 : setS (setS (setr σ 91 (part 86)) 92 i (σ 87 1)) 93 i 1 88 64 = a.1 64 := by rw [setS_ne _ _ _ (by decide), setS_ne _ _ _ (by decide), setr_ne _ _ (by decide)]; exact e64.1
      refine bX11_keep_42 hX ?_ ?_
      · rw [f1, eu, f64]; exact ⟨by omega, by omega, by omega⟩
      · rw [f1, eu, f64]
        refine ⟨rfl, ?_, dn.tr (dn.set (by decide)) (dn.tr (dn.set (by decide)) (dn.set (by decide)))⟩
        have g : ∀ x, x ≠ 91 → x ≠ 92 → x ≠ 93 → setS (setS (setr σ 91 (part 86)) 92 i (σ 87 1)) 93 i 1 x = σ x := fun x c d e => by rw [setS_ne _ _ _ e, setS_ne _ _ _ d, setr_ne _ _ c]
        refine ⟨?_, ?_, ?_, ?_, ?_, ?_⟩
        · show mP N a.1 _
          unfold mP vwM at *
          rw [g 87 (by decide) (by decide) (by decide), g 88 (by decide) (by decide) (by decide)]; exact hP
        · show mH N a.2.1 _
          unfold mH pastM at *
          rw [g 87 (by decide) (by decide) (by decide), g 89 (by decide) (by decide) (by decide), g 90 (by decide) (by decide) (by decide)]; exact hH
        · intro j c d
          have e93 : setS (setS (setr σ 91 (part 86)) 92 i (σ 87 1)) 93 i 1 93 j = if j = i then 1 else σ 93 j := by
            by_cases q : j = i
            · rw [if_pos q, q, setS_at]
            · rw [if_neg q, setS_at2 _ _ _ q, setS_ne _ _ _ (by decide), setr_ne _ _ (by decide)]
          have e92 : setS (setS (setr σ 91 (part 86)) 92 i (σ 87 1)) 93 i 1 92 j = if j = i then σ 87 1 else σ 92 j := by
            rw [setS_ne _ _ _ (by decide)]
            by_cases q : j = i
            · rw [if_pos q, q, setS_at]
            · rw [if_neg q, setS_at2 _ _ _ q, setr_ne _ _ (by decide)]
          have e91 : setS (setS (setr σ 91 (part 86)) 92 i (σ 87 1)) 93 i 1 91 = part 86 := by rw [setS_ne _ _ _ (by decide), setS_ne _ _ _ (by decide), setr_at]
          show setS (setS (setr σ 91 (part 86)) 92 i (σ 87 1)) 93 i 1 93 j = (if j = i then 1 else a.2.2.1.1 j) ∧ ((if j = i then (1 : Int) else a.2.2.1.1 j) = 0 ∨ (if j = i then (1 : Int) else a.2.2.1.1 j) = 1) ∧ ((if j = i then (1 : Int) else a.2.2.1.1 j) = 1 → eqv (if j = i then a.1 else a.2.2.1.2 j) (imgM _ j) ∧ okV N (if j = i then a.1 else a.2.2.1.2 j))
          rw [e93]
          by_cases q : j = i
          · rw [if_pos q, if_pos q, if_pos q]
            refine ⟨rfl, Or.inr rfl, fun _ => ⟨hP.1.tr (eqv_of (fun k k0 k1 => ?_) (by rw [vwM_at σ (by decide)]; omega) (by rw [vwM_at σ (by decide)]; omega)), hP.2⟩⟩
            unfold vwM imgM
            by_cases q86 : k = 86
            · rw [if_pos q86, if_pos q86, e92, if_pos q]
            · rw [if_neg q86, if_neg q86, e91, pv, if_pos (by omega)]
              congr 1; omega
          · rw [if_neg q, if_neg q, if_neg q]
            obtain ⟨i1, i2, i3⟩ := hI j c d
            refine ⟨i1, i2, fun g1 => ?_⟩
            obtain ⟨o1, o2⟩ := i3 g1
            have s1 := o2.2.2.1
            have s2 := o2.2.2.2.2.1
            have s3 := o1.e33
            have s4 := o1.2.2.1
            refine ⟨o1.tr (eqv_of (fun k k0 k1 => ?_) (by omega) (by omega)), o2⟩
            unfold imgM
            by_cases q86 : k = 86
            · rw [if_pos q86, if_pos q86, e92, if_neg q]
            · rw [if_neg q86, if_neg q86, e91, pv, if_neg (by omega)]
        · show mT a.2.2.2.1 _
          unfold mT at *
          rw [g 87 (by decide) (by decide) (by decide), g 94 (by decide) (by decide) (by decide)]; exact hT
        · show mS a.2.2.2.2 _
          unfold mS at *
          rw [g 87 (by decide) (by decide) (by decide), g 103 (by decide) (by decide) (by decide), g 104 (by decide) (by decide) (by decide)]; exact hS
        · rw [g 96 (by decide) (by decide) (by decide)]; exact hz
    · have f88 : setr σ 91 (part m) 88 m = σ 88 m := by rw [setr_ne _ _ (by decide)]
      refine bX11_keep_13 ⟨by omega, by omega⟩ (fun q => by omega) (fun _ => bX11_keep_19 ⟨⟨h1, h2⟩, by omega⟩ ?_)
      rw [f88, wr_wr]
      have ep : (fun j => if j = 86 * i + m then σ 88 m else part m j) = part (m + 1) := by
        funext j
        rw [pv, pv]
        by_cases q : j = 86 * i + m
        · rw [if_pos q, if_pos (by omega), q, show 86 * i + m - 86 * i = m by omega]
        · rw [if_neg q]
          by_cases q2 : 86 * i ≤ j ∧ j < 86 * i + m
          · rw [if_pos q2, if_pos (by omega)]
          · rw [if_neg q2, if_neg (by omega)]
      rw [ep]
      exact ih
  have e0 : part 0 = σ 91 := by
    funext j
    rw [pv, if_neg (by omega)]
  rw [e0, setr_id] at key
  exact key
theorem n_back {N : Int} {a : AS} {σ : St} (h : MR N a σ) {i : Int} (hi : inI i) : CI mdX11_back [vr 87, vi i] σ (fun z u => z = (backA a i).1 ∧ MR N (backA a i).2 u ∧ dn σ u) := by
  refine CI_of (by decide +kernel) (Nat.le_of_ble_eq_true rfl) rfl (fun X hX => ?_)
  obtain ⟨hP, hH, hI, hT, hS, hz⟩ := id h
  refine bX11_back_0 (m_in hi ⟨by decide, by decide⟩ ⟨by decide, by decide⟩ σ) ?_
  rintro z u hz1 ⟨rfl, rfl⟩
  refine bX11_back_6 hz1 (fun q => ?_) (fun q => bX11_back_9 hX (by unfold backA; rw [if_neg (by have := bI_d0 q; omega)]; exact ⟨rfl, h, dn.rf⟩))
  have b := bI_d1 q
  obtain ⟨i1, i2, i3⟩ := hI i (by omega) (by omega)
  have ev : backA a i = if a.2.2.1.1 i = 0 then (-2, a) else (a.2.2.1.2 i 64, (a.2.2.1.2 i, (0, a.2.1.2), a.2.2)) := by unfold backA; rw [if_pos (by omega)]
  rw [ev] at hX
  refine bX11_back_11 (by rw [i1]; exact ⟨by omega, by omega, by omega⟩) (fun q => ?_) (fun q => bX11_back_20 hX (by rw [if_pos (by omega)]; exact ⟨rfl, h, dn.rf⟩))
  rw [if_neg (by omega)] at hX
  obtain ⟨o1, o2⟩ := i3 (by omega)
  have s1 := o2.2.2.1
  have s2 := o2.2.2.2.2.1
  have s3 := o1.e33
  have s4 := o1.2.2.1
  have hf : fbit (σ 92 i) := by
    rw [show σ 92 i = a.2.2.1.2 i 86 from o1.2.2.2.2.2.symm]
    exact o2.2.2.2.2.2.2.2.1
  refine bX11_back_23 ?_
  have key : G mdX11_back X 25 [(0, vr 87), (1, vi i), (2, vi 0)] [] (setr σ 88 (win 0 (fun j => σ 91 (86 * i + j)) (σ 88))) := by
    refine loopUp (Q := fun m => G mdX11_back X 25 [(0, vr 87), (1, vi i), (2, vi m)] [] (setr σ 88 (win m (fun j => σ 91 (86 * i + j)) (σ 88)))) (n := 86) ?_ (fun m h1 h2 ih => ?_) (by decide)
    · have f92 : setr σ 88 (win 86 (fun j => σ 91 (86 * i + j)) (σ 88)) 92 = σ 92 := setr_ne _ _ (by decide)
      have eu : wr (wr (setr σ 88 (win 86 (fun j => σ 91 (86 * i + j)) (σ 88))) 87 1 (σ 92 i)) 87 4 0 = setS (setS (setr σ 88 (win 86 (fun j => σ 91 (86 * i + j)) (σ 88))) 87 1 (σ 92 i)) 87 4 0 := by rw [wr_setr, wr_setr]; rfl
      have f64 : setS (setS (setr σ 88 (win 86 (fun j => σ 91 (86 * i + j)) (σ 88))) 87 1 (σ 92 i)) 87 4 0 88 64 = a.2.2.1.2 i 64 := by
        rw [setS_ne _ _ _ (by decide), setS_ne _ _ _ (by decide), setr_at, win_in ⟨by decide, by decide⟩, s4]
        unfold imgM
        rw [if_neg (by decide)]
      refine bX11_back_25 (by decide) (fun _ => bX11_back_54 hX ?_ ?_) (fun q => by omega)
      · rw [f92, fl_int hf, eu, f64]; exact ⟨by omega, by omega, by omega⟩
      · rw [f92, fl_int hf, eu, f64]
        refine ⟨rfl, ?_, dn.tr (dn.set (by decide)) (dn.tr (dn.set (by decide)) (dn.set (by decide)))⟩
        refine h.setPH (fun x hx => by rw [setS_ne _ _ _ (by omega), setS_ne _ _ _ (by omega), setr_ne _ _ (by omega)]) (fun j c d => by rw [setS_at2 _ _ _ d, setS_at2 _ _ _ c, setr_ne _ _ (by decide)]) (setS_at _ _ _ _) ⟨by decide, hH.2.1.1⟩ ?_ o2
        refine o1.tr (eqv_of (fun k k0 k1 => ?_) (by omega) (by omega))
        unfold imgM vwM
        rw [setS_at2 _ _ _ (by decide), setS_at, setS_ne _ _ _ (by decide), setS_ne _ _ _ (by decide), setr_at]
        by_cases q86 : k = 86
        · rw [if_pos q86, if_pos q86]
        · rw [if_neg q86, if_neg q86, win_in ⟨k0, by omega⟩]
    · have f91 : setr σ 88 (win m (fun j => σ 91 (86 * i + j)) (σ 88)) 91 = σ 91 := setr_ne _ _ (by decide)
      refine bX11_back_25 ⟨by omega, by omega⟩ (fun q => by omega) (fun _ => bX11_back_31 ⟨by omega, h1, h2⟩ ?_)
      rw [f91, wr_win _ _ _ _ h1 rfl]
      exact ih
  rw [win_0, setr_id] at key
  exact key
