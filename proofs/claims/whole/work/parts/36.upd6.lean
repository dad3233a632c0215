/-! what changes an object of the class: hears, undo, keep, back, orders -/
def hearV (v : Row) (e : Int) : Row := setV (setV v 85 (v 85 + 1)) 86 (lossN (v 86) e)
def hearsA (a : AS) : Int × AS := (errF (rcvV a.1 (a.1 64)) a.1, putP (noteA a) (hearV a.1 (errF (rcvV a.1 (a.1 64)) a.1)))
theorem vw_heard (σ : St) (o : Nat) {x : Int} : vwC (setS σ o 5 x) o = setV (vwC σ o) 85 x := by
  have e : ∀ y, y ≠ o → setS σ o 5 x y = σ y := fun y h => setS_ne _ _ _ h
  have e0 : ∀ j, j ≠ 5 → setS σ o 5 x o j = σ o j := fun j h => setS_at2 _ _ _ h
  funext j
  unfold vwC setV
  rw [setS_at, e (o + 1) (by omega), e (o + 2) (by omega), e (o + 3) (by omega), e (o + 4) (by omega), e (o + 5) (by omega), e0 1 (by decide), e0 4 (by decide)]
  by_cases q : j = 85
  · subst q; rfl
  · simp only [if_neg q]
theorem vw_loss (σ : St) (o : Nat) {x : Int} : vwC (setS σ o 4 x) o = fun j => if 85 < j then x else vwC σ o j := by
  have e : ∀ y, y ≠ o → setS σ o 4 x y = σ y := fun y h => setS_ne _ _ _ h
  have e0 : ∀ j, j ≠ 4 → setS σ o 4 x o j = σ o j := fun j h => setS_at2 _ _ _ h
  funext j
  unfold vwC
  rw [setS_at, e (o + 1) (by omega), e (o + 2) (by omega), e (o + 3) (by omega), e (o + 4) (by omega), e (o + 5) (by omega), e0 1 (by decide), e0 5 (by decide)]
  by_cases q : 85 < j
  · simp only [if_pos q, if_neg (show ¬ j < 32 by omega), if_neg (show ¬ j = 32 by omega), if_neg (show ¬ j = 33 by omega), if_neg (show ¬ j < 64 by omega), if_neg (show ¬ j = 64 by omega), if_neg (show ¬ j < 85 by omega), if_neg (show ¬ j = 85 by omega)]
  · simp only [if_neg q]
    by_cases q1 : j < 85
    · simp only [if_pos q1]
    · simp only [if_pos (show j = 85 by omega)]
theorem k_hears {N : Int} (hN : N < 1000000) {a : AS} {σ : St} (h : CR N a σ) : CI mdX10_hears [vr 60] σ (fun z u => z = (hearsA a).1 ∧ CR (N + 1) (hearsA a).2 u ∧ up σ u) := by
  refine CI_of (by decide +kernel) (Nat.le_of_ble_eq_true rfl) rfl (fun X hX => ?_)
  have e := h.n64
  refine bX10_hears_0 (by rw [e.1]; exact k_errorsAfter h ⟨e.2.1, Int.le_refl _⟩) ?_
  rintro z u hz ⟨rfl, hu, hF⟩
  refine bX10_hears_14 (k_note hu) ?_
  rintro u1 ⟨hu1, hn1⟩
  have he := errF_bd (rcvV a.1 (a.1 64)) a.1
  have hl : lossOK (a.1 86) := h.1.2.2.2.2.2.2.2.2
  have e86 : u1 0 4 = a.1 86 := hu1.1.1.2.2.2.2.2.symm
  have e85 : u1 0 5 = a.1 85 := hu1.1.1.2.2.2.2.1.symm
  have b85 := h.1.2.2.2.2.2.2.2.1
  have ew : (wr u1 0 5 (u1 0 5 + 1)) 0 4 = a.1 86 := by rw [wr_setr, setr_at, if_neg (by decide)]; exact e86
  obtain ⟨l1, l2, l3, l4⟩ := loss_n hl he
  refine bX10_hears_26 (by rw [ew]; exact l1) l2 (by rw [ew]; exact l3) hX hz ⟨rfl, ?_, ?_⟩
  · rw [ew, e85]
    show CR (N + 1) (putP (noteA a) (hearV a.1 (errF (rcvV a.1 (a.1 64)) a.1))) (wr (wr u1 0 5 (a.1 85 + 1)) 0 4 (lossN (a.1 86) (errF (rcvV a.1 (a.1 64)) a.1)))
    generalize errF (rcvV a.1 (a.1 64)) a.1 = x at *
    have eu : wr (wr u1 0 5 (a.1 85 + 1)) 0 4 (lossN (a.1 86) x) = setS (setS u1 0 5 (a.1 85 + 1)) 0 4 (lossN (a.1 86) x) := by rw [wr_setr, wr_setr]; rfl
    rw [eu]
    refine hu1.setP (by omega) (fun y hy => by rw [setS_ne _ _ _ (by omega), setS_ne _ _ _ (by omega)]) ?_ ?_ (by rw [setS_ne _ _ _ (by decide), setS_ne _ _ _ (by decide)]) (by rw [setS_ne _ _ _ (by decide), setS_ne _ _ _ (by decide)]) ?_
    · have h1 := eqv_set (eqv_set hu1.1.1 (k := 85) (x := a.1 85 + 1) (by decide) (by decide)) (k := 86) (x := lossN (a.1 86) x) (by decide) (by decide)
      refine h1.tr ?_
      have ev : ∀ j, j ≤ 85 → vwC (setS (setS u1 0 5 (a.1 85 + 1)) 0 4 (lossN (a.1 86) x)) 0 j = setV (setV (vwC u1 0) 85 (a.1 85 + 1)) 86 (lossN (a.1 86) x) j := fun j hj => by
        rw [vw_loss, vw_heard, setV_ne _ _ (show j ≠ 86 by omega)]
        show (if 85 < j then _ else _) = _
        rw [if_neg (by omega)]
      refine ⟨fun j c d => (ev j (by omega)).symm, fun j c d => (ev _ ?_).symm, (ev _ (by decide)).symm, fun j c d => (ev _ ?_).symm, (ev _ (by decide)).symm, ?_⟩
      · have := hu1.n33
        rw [setV_ne _ _ (by decide), setV_ne _ _ (by decide), vw_33] at d
        have f : u1 2 2 = a.1 33 := this.1
        have f2 : (0 : Int) ≤ a.1 33 ∧ a.1 33 ≤ 6 := this.2
        rw [show u1 (0 + 2) 2 = a.1 33 from f] at d
        omega
      · have := hu1.n64
        rw [setV_ne _ _ (by decide), setV_ne _ _ (by decide), vw_64] at d
        have f : u1 4 2 = a.1 64 := this.1
        have f2 : (0 : Int) ≤ a.1 64 ∧ a.1 64 ≤ 4 := this.2
        rw [show u1 (0 + 4) 2 = a.1 64 from f] at d
        omega
      · rw [setV_at, vw_86, setS_at]
    · obtain ⟨g1, g2, g3, g4, g5, g6, g7, g8⟩ := id h.1.2
      have ne : ∀ j, j < 85 → hearV a.1 x j = a.1 j := fun j hj => by unfold hearV; rw [setV_ne _ _ (by omega), setV_ne _ _ (by omega)]
      refine h.1.2.alt (fun i c d => by rw [ne _ (by omega)]; exact g1 i c d) (by rw [ne _ (by decide)]; exact g2) (by rw [ne _ (by decide)]; omega) (fun j c d => ne _ (by rw [ne _ (by decide)] at d; omega)) (by rw [ne _ (by decide)]; omega) (fun j c d => ne _ (by rw [ne _ (by decide)] at d; omega)) ?_ ?_
      · unfold hearV; rw [setV_ne _ _ (by decide), setV_at]; omega
      · unfold hearV; rw [setV_at]; exact l4
    · obtain ⟨z1, z2, z3⟩ := hu1.zst isSt0
      refine ⟨?_, ?_, ?_⟩
      · rw [setS_ne _ _ _ (by decide), setS_ne _ _ _ (by decide)]; exact z1
      · rw [setS_ne _ _ _ (by decide), setS_ne _ _ _ (by decide)]; exact z2
      · rw [setS_ne _ _ _ (by decide), setS_ne _ _ _ (by decide)]; exact z3
  · rw [wr_setr, wr_setr]
    exact (up.fq hF).tr (hn1.up.tr (up.tr (up.set (by decide)) (up.set (by decide))))
/-- the present state put anew from another one -/
theorem CR.take {N : Int} {a : AS} {σ : St} (h : CR N a σ) {p : Nat} (hp : isSt p) (h6 : 6 ≤ p) {P : Row} (hP : eqv P (vwC σ p)) (ok : okV N P) : CR N (putP a P) (stc σ 0 p) := by
  have r := stc_room (σ := σ) (o := 0) (p := p)
  exact h.setP (Int.le_refl N) (fun x hx => stc_ne (by omega)) (by rw [vw_stc]; exact hP) ok r.1 r.2 (stc_Zo (h.zst hp))
def setHn (a : AS) (n : Int) : AS := (a.1, (n, a.2.1.2), a.2.2)
def undoA (a : AS) : Int × AS := if a.2.1.1 = 0 then (-2, a) else (a.2.1.1 - 1, (a.2.1.2 (a.2.1.1 - 1), (a.2.1.1 - 1, a.2.1.2), a.2.2))
/-- the ring turned back or emptied -/
theorem CR.hist {N : Int} {a : AS} {σ u : St} (h : CR N a σ) (e : ∀ x, x ≠ 63 → u x = σ x) {hh : Int × (Int → Row)} (hH : cH N hh u) : CR N (a.1, hh, a.2.2) u := by
  obtain ⟨hP, -, hI, hT, hS, hX⟩ := h
  have sm : ∀ o, o < 57 → vwC u o = vwC σ o := fun o ho => vwC_same ⟨e _ (by omega), e _ (by omega), e _ (by omega), e _ (by omega), e _ (by omega), e _ (by omega)⟩
  refine ⟨?_, hH, ?_, ?_, ?_, ?_⟩
  · unfold cP at *; rw [sm 0 (by decide)]; exact hP
  · intro i h0 h1
    have := imid_bd ⟨h0, h1⟩
    rw [e 62 (by decide), sm _ (by omega)]
    exact hI i h0 h1
  · unfold cT at *; rw [e 65 (by decide), e 66 (by decide)]; exact hT
  · unfold cS at *; rw [e 68 (by decide), e 69 (by decide), e 70 (by decide)]; exact hS
  · unfold cX Zo at *
    rw [e 2 (by decide), e 4 (by decide), e 8 (by decide), e 72 (by decide), e 77 (by decide)]
    refine ⟨hX.1, hX.2.1, hX.2.2.1, fun i hi => ?_, hX.2.2.2.2⟩
    rw [e (6 * i + 1) (by omega), e (6 * i + 3) (by omega), e (6 * i + 5) (by omega)]
    exact hX.2.2.2.1 i hi
theorem k_undo {N : Int} {a : AS} {σ : St} (h : CR N a σ) : CI mdX10_undo [vr 60] σ (fun z u => z = (undoA a).1 ∧ CR N (undoA a).2 u ∧ up σ u) := by
  refine CI_of (by decide +kernel) (Nat.le_of_ble_eq_true rfl) rfl (fun X hX => ?_)
  obtain ⟨hn, h1, h2, h3⟩ := h.2.1
  refine bX10_undo_0 ⟨by omega, by omega⟩ (fun q => ?_) (fun q => ?_)
  · have ev : undoA a = (a.2.1.1 - 1, (a.2.1.2 (a.2.1.1 - 1), (a.2.1.1 - 1, a.2.1.2), a.2.2)) := by unfold undoA; rw [if_neg (by omega)]
    rw [ev] at hX
    have hl : ring σ a.2.1.1 (a.2.1.1 - 1) = pid (lastI σ) := by
      unfold ring lastI
      rw [show σ 63 1 + 6 - a.2.1.1 + (a.2.1.1 - 1) = σ 63 1 + 6 - 1 by omega]
    obtain ⟨g1, g2⟩ := h3 (a.2.1.1 - 1) (by omega) (by omega)
    rw [hl] at g1
    have hlb : 0 ≤ lastI σ ∧ lastI σ < 6 := by unfold lastI; omega
    have hp := pid_lt hlb
    have hps : isSt (pid (lastI σ)) := ⟨hp.2.1, by omega⟩
    refine bX10_undo_13 (c_restore σ hn (by omega) (fun i c d => h.zst (by have := pid_lt ⟨c, d⟩; exact ⟨this.2.1, by omega⟩)) (h.zst isSt0) ?_) ?_
    · rw [show σ (pid (lastI σ)) 4 = a.2.1.2 (a.2.1.1 - 1) 86 from g1.2.2.2.2.2.symm]
      exact g2.2.2.2.2.2.2.2.1
    rintro u rfl
    have r2 : resC σ 63 2 = a.2.1.1 - 1 := by
      unfold resC
      rw [setS_at, if_pos (by omega)]
      omega
    have hupr : up σ (resC σ) := fun x hx => by
      unfold resC
      rw [setS_ne _ _ _ (by omega), stc_ne (by omega), setS_ne _ _ _ (by omega)]
    refine bX10_undo_24 hX (by rw [r2]; exact ⟨by omega, by omega⟩) ⟨r2, ?_, hupr⟩
    -- first the ring, then the state
    have hA : CR N (a.1, (a.2.1.1 - 1, a.2.1.2), a.2.2) (setS (setS σ 63 1 (lastI σ)) 63 2 (a.2.1.1 - 1)) := by
      refine h.hist (u := setS (setS σ 63 1 (lastI σ)) 63 2 (a.2.1.1 - 1)) (fun x hx => by rw [setS_ne _ _ _ hx, setS_ne _ _ _ hx]) ?_
      have e1 : setS (setS σ 63 1 (lastI σ)) 63 2 (a.2.1.1 - 1) 63 1 = lastI σ := by rw [setS_at2 _ _ _ (by decide), setS_at]
      refine ⟨by rw [e1]; exact hlb, setS_at _ _ _ _, ⟨by show 0 ≤ a.2.1.1 - 1; omega, by show a.2.1.1 - 1 ≤ 6; omega⟩, fun i c d => ?_⟩
      have d' : i < a.2.1.1 - 1 := d
      have g := h3 i c (by omega)
      have er : ring (setS (setS σ 63 1 (lastI σ)) 63 2 (a.2.1.1 - 1)) (a.2.1.1 - 1) i = ring σ a.2.1.1 i := by
        unfold ring
        rw [e1]
        unfold lastI
        congr 1
        omega
      have rb := ring_bd σ a.2.1.1 i
      show eqv (a.2.1.2 i) (vwC _ (ring _ (a.2.1.1 - 1) i)) ∧ _
      rw [er, vwC_same (σ := σ) (o := ring σ a.2.1.1 i)]
      · exact g
      · have e : ∀ x, x < 61 → setS (setS σ 63 1 (lastI σ)) 63 2 (a.2.1.1 - 1) x = σ x := fun x hx => by rw [setS_ne _ _ _ (by omega), setS_ne _ _ _ (by omega)]
        exact ⟨e _ (by omega), e _ (by omega), e _ (by omega), e _ (by omega), e _ (by omega), e _ (by omega)⟩
    have eu : resC σ = stc (setS (setS σ 63 1 (lastI σ)) 63 2 (a.2.1.1 - 1)) 0 (pid (lastI σ)) := by
      have e : ∀ x, x ≠ 63 → setS (setS σ 63 1 (lastI σ)) 63 2 (a.2.1.1 - 1) x = setS σ 63 1 (lastI σ) x := fun x hx => setS_ne _ _ _ hx
      unfold resC
      rw [if_pos (by omega), h1]
      funext x
      by_cases q : x = 63
      · subst q
        rw [stc_ne (by decide)]
        funext j
        by_cases q2 : j = 2
        · subst q2; rw [setS_at, setS_at]
        · rw [setS_at2 _ _ _ q2, setS_at2 _ _ _ q2, stc_ne (by decide)]
      · rw [setS_ne _ _ _ q]
        unfold stc
        rw [e _ (show pid (lastI σ) ≠ 63 by omega), e _ (show pid (lastI σ) + 1 ≠ 63 by omega), e _ (show pid (lastI σ) + 2 ≠ 63 by omega), e _ (show pid (lastI σ) + 3 ≠ 63 by omega), e _ (show pid (lastI σ) + 4 ≠ 63 by omega), e _ (show pid (lastI σ) + 5 ≠ 63 by omega), e 0 (by decide), e (0 + 2) (by decide), e (0 + 4) (by decide), e x q]
    rw [eu]
    refine hA.take hps (by omega) ?_ g2
    have e : ∀ x, x < 61 → setS (setS σ 63 1 (lastI σ)) 63 2 (a.2.1.1 - 1) x = σ x := fun x hx => by rw [setS_ne _ _ _ (by omega), setS_ne _ _ _ (by omega)]
    rw [vwC_same (σ := σ) ⟨e _ (by omega), e _ (by omega), e _ (by omega), e _ (by omega), e _ (by omega), e _ (by omega)⟩]
    exact g1
  · have ev : undoA a = (-2, a) := by unfold undoA; rw [if_pos (by omega)]
    rw [ev] at hX
    exact bX10_undo_10 hX ⟨rfl, h, up.rf⟩
