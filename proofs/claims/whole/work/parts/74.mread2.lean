/-! the model: readRow, readMarks -/
theorem FT.nn {R : Int × Int × Row} {u : St} (h : FT R u) : u 87 15 ≠ -9 ∧ inI (u 87 15) := by
  obtain ⟨⟨h1, h2, h3⟩, -⟩ := h
  rw [h1]; exact ⟨by omega, by omega, by omega⟩
theorem numQ_row {q : QS} {r v : Int} (hr : r = 0 ∨ r = 1) (hq : q.1 = 120 + r) (hv : 0 ≤ v) : numQ q v = if q.2.1 < 16 ∧ v < 4 then some (120 + r, q.2.1 + 1, q.2.2.1, q.2.2.2.1, q.2.2.2.2.1, setV q.2.2.2.2.2 (16 * r + q.2.1) v) else none := by
  unfold numQ
  rw [if_neg (by omega)]
  rcases hr with rfl | rfl
  · rw [if_pos (by omega), show (16 : Int) * 0 + q.2.1 = q.2.1 by omega]; rfl
  · rw [if_neg (by omega), if_pos (by omega), show (16 : Int) * 1 + q.2.1 = 16 + q.2.1 by omega]; rfl
theorem m_readRow {N : Int} {T : Row} {L : Int} {R : Int × Int × Row} {p r n mt : Int} {st V : Row} {σ : St} (hr : r = 0 ∨ r = 1) (h : JT N T L R p (120 + r, 0, n, mt, st, rowZ V r) σ) (h16 : σ 87 16 = mt) (hV : eqv V (dV σ)) (tx : txM T L σ) : CV mdX11_readRow [vr 87, vi r] σ (EndI N T L R σ p n) := by
  refine CV_of (by decide +kernel) (Nat.le_of_ble_eq_true rfl) rfl (fun X hX => ?_)
  have hL := tx.2.1
  refine bX11_readRow_0 ?_
  -- behind a fault
  have fail95 : ∀ (u : St) (i : Int), FT R u → Pf σ u → inI i → G mdX11_readRow X 95 [(0, vr 87), (2, vi i)] [] u := by
    intro u i g1 g2 g3
    have fin : ∀ t : Int, G mdX11_readRow X 114 [] [vi t, vr 87] u := fun t => by
      refine bX11_readRow_114 (m_must_f u g1.nn.2 g1.nn.1 t) ?_
      rintro x rfl
      exact bX11_readRow_117 hX ⟨Or.inr g1, g2⟩
    refine bX11_readRow_95 g3 (fun _ => bX11_readRow_113 (fin 0)) (fun _ => ?_)
    exact bX11_readRow_100 g1.2 (fun _ => bX11_readRow_113 (fin 0)) (fun _ => bX11_readRow_109 (fin 1))
  have fail28 : ∀ (u : St) (i : Int), FT R u → Pf σ u → inI i → G mdX11_readRow X 28 [(0, vr 87), (1, vi r), (2, vi i)] [] u := by
    intro u i g1 g2 g3
    exact bX11_readRow_28 g1.nn.2 (fun _ => fail95 u i g1 g2 g3) (fun c => absurd c g1.nn.1)
  have key : ∀ (d : Nat) (p' : Int) (q : QS) (u : St), L - p' < d → p ≤ p' → q.1 = 120 + r → q.2.2.1 = n → JT N T L R p' q u → u 87 16 = q.2.2.2.1 → eqv q.2.2.2.2.2 (dV u) → Pf σ u → G mdX11_readRow X 28 [(0, vr 87), (1, vi r), (2, vi q.2.1)] [] u := by
    intro d
    induction d with
    | zero =>
      intro p' q u g0 g1 g2 g3 g4 g5 g6 g7
      have hp := g4.1.1
      omega
    | succ d ih =>
      intro p' q u g0 g1 g2 g3 g4 g5 g6 g7
      have q32 : q.1 ≠ 32 := by omega
      have tu := tx.pf g7
      have hp := g4.1.1
      have tk := g4.tk
      have tb := g4.2.2.1.2.1
      have ti : inI q.2.1 := ⟨by omega, by omega⟩
      have hf := g4.2.1
      refine bX11_readRow_28 (by rw [hf]; exact ⟨by decide, by decide⟩) (fun c => absurd hf c) (fun _ => ?_)
      refine bX11_readRow_37 tk.2 (fun c => ?_) (fun c => ?_)
      · rw [tk.1] at c
        have bad : ¬ (tkN T L p' = 59 ∧ whQ q) → G mdX11_readRow X 113 [] [vr 87] u := fun g => by
          refine bX11_readRow_113 (bX11_readRow_114 (J_end0 g4 tu q32 (fun c2 => absurd c2 c) g).2 ?_)
          rintro x ⟨k1, k2, -⟩
          exact bX11_readRow_117 hX ⟨Or.inr k1, g7.tr k2⟩
        refine bX11_readRow_95 ti (fun c2 => bad (fun g => by have := g.2; omega)) (fun c2 => ?_)
        refine bX11_readRow_100 tk.2 (fun c3 => bad (fun g => c3 (tk.1.trans g.1))) (fun c3 => ?_)
        refine bX11_readRow_109 (bX11_readRow_114 (J_end1 g4 tu (tk.1.symm.trans c3) (Or.inl ⟨by omega, c2⟩)) ?_)
        rintro x ⟨⟨p2, k1, k2⟩, k3⟩
        refine bX11_readRow_117 hX ⟨Or.inl ⟨p2, _, by omega, rfl, by show q.2.2.1 + 1 = n + 1; omega, k2, ?_, ?_⟩, g7.tr (Pf.nf k3)⟩
        · rw [k3.2 16 (by decide)]; exact g5
        · show eqv (if q.1 = 100 then appD q.2.2.2.2.2 q.2.2.2.2.1 else q.2.2.2.2.2) (dV x)
          rw [if_neg (by omega), dV_nf k3]; exact g6
      · rw [tk.1] at c
        obtain ⟨c1, c2, c3⟩ := tkN_1 c
        have e14 := g4.1.2.2.2.2 c
        have hd := endT_dg ⟨hp.1, c1⟩ hL.2 c2
        have hb := endT_bd (T := T) hp.1 c1 hL.2
        have vb := valT_bd ⟨by omega, hb.2⟩ hd
        have ev := numQ_row (q := q) (v := valT T p' (endT T L p')) hr g2 (by omega)
        have bad : ¬ (q.2.1 < 16 ∧ valT T p' (endT T L p') < 4) → G mdX11_readRow X 84 [(0, vr 87), (1, vi r), (2, vi q.2.1)] [] u := fun g => by
          refine bX11_readRow_84 ?_
          rw [wr_setr]
          refine fail28 _ _ (J_fault g4 rfl hL.2 (run_none c1 ?_)) (g7.tr (Pf.fld (by decide))) ti
          rw [tok_1 c, ev, if_neg g]
        refine bX11_readRow_45 ti (fun c4 => bad (by omega)) (fun c4 => ?_)
        refine bX11_readRow_51 (by rw [e14]; exact ⟨by omega, by omega⟩) (fun c5 => bad (by omega)) (fun c5 => ?_)
        rw [e14] at c5
        rw [if_pos ⟨c4, c5⟩] at ev
        have ew : wr u 95 (16 * r + q.2.1) (u 87 14) = setS u 95 (16 * r + q.2.1) (valT T p' (endT T L p')) := by rw [e14, wr_setr]; rfl
        have hw7 : setS u 95 (16 * r + q.2.1) (valT T p' (endT T L p')) 87 = u 87 := setS_ne _ _ _ (by decide)
        have pw : Pf u (setS u 95 (16 * r + q.2.1) (valT T p' (endT T L p'))) := Pf.row
        refine bX11_readRow_59 (by rw [ew]; exact J_next g4 hw7 (tu.pf pw) c1 ((tok_1 c q).trans ev)) ⟨by omega, by omega⟩ ?_
        rintro x ⟨⟨p2, k1, k2⟩, k3⟩
        refine bX11_readRow_81 ?_
        refine ih p2 _ x (by omega) (by omega) rfl (by show q.2.2.1 = n; omega) k2 ?_ ?_ (g7.tr (pw.tr (Pf.nf k3)))
        · rw [k3.2 16 (by decide), hw7]; exact g5
        · rw [dV_nf k3, dV_set _ (by omega)]
          exact eqv_set g6 (by omega) (by omega)
  have zer : G mdX11_readRow X 2 [(0, vr 87), (1, vi r), (2, vi 0)] [] (setr σ 95 (fun j => if 16 * r ≤ j ∧ j < 16 * r + 0 then 0 else σ 95 j)) := by
    refine loopUp (Q := fun i => G mdX11_readRow X 2 [(0, vr 87), (1, vi r), (2, vi i)] [] (setr σ 95 (fun j => if 16 * r ≤ j ∧ j < 16 * r + i then 0 else σ 95 j))) (n := 16) ?_ (fun i h1 h2 ih => ?_) (by decide)
    · refine bX11_readRow_2 ⟨by decide, by decide⟩ (fun _ => bX11_readRow_26 ?_) (fun q => by omega)
      have e7 : setr σ 95 (fun j => if 16 * r ≤ j ∧ j < 16 * r + 16 then 0 else σ 95 j) 87 = σ 87 := setr_ne _ _ (by decide)
      refine key (L - p + 1).toNat p (120 + r, 0, n, mt, st, rowZ V r) _ ?_ (Int.le_refl p) rfl rfl ?_ (by rw [e7]; exact h16) ?_ Pf.row
      · have := h.1.1; omega
      · obtain ⟨j1, j2, j3, j4⟩ := h
        unfold JT TokAt at *
        rw [e7]
        exact ⟨j1, j2, j3, j4⟩
      · have ed : dV (setr σ 95 (fun j => if 16 * r ≤ j ∧ j < 16 * r + 16 then 0 else σ 95 j)) = rowZ (dV σ) r := by
          funext j
          unfold dV rowZ
          rw [e7, setr_at]
          by_cases c : j = 86
          · simp only [if_pos c, if_neg (show ¬ (r * 16 ≤ j ∧ j < r * 16 + 16) by omega)]
          · simp only [if_neg c]
            by_cases c2 : 16 * r ≤ j ∧ j < 16 * r + 16
            · rw [if_pos c2, if_pos (by omega)]
            · rw [if_neg c2, if_neg (by omega)]
        rw [ed]
        exact eqv_rowZ hV hr
    · refine bX11_readRow_2 ⟨by omega, by omega⟩ (fun q => by omega) (fun _ => bX11_readRow_8 ⟨by omega, by omega⟩ ?_)
      rw [wr_wr]
      have ep : (fun j => if j = 16 * r + i then 0 else (if 16 * r ≤ j ∧ j < 16 * r + i then 0 else σ 95 j)) = (fun j => if 16 * r ≤ j ∧ j < 16 * r + (i + 1) then 0 else σ 95 j) := by
        funext j
        by_cases c1 : j = 16 * r + i
        · rw [if_pos c1, if_pos (by omega)]
        · rw [if_neg c1]
          by_cases c2 : 16 * r ≤ j ∧ j < 16 * r + i
          · rw [if_pos c2, if_pos (by omega)]
          · rw [if_neg c2, if_neg (by omega)]
      rw [ep]
      exact ih
  have e0 : (fun j => if 16 * r ≤ j ∧ j < 16 * r + 0 then 0 else σ 95 j) = σ 95 := by
    funext j
    rw [if_neg (by omega)]
  rw [e0, setr_id] at zer
  exact zer
theorem m_readMarks {N : Int} {T : Row} {L : Int} {R : Int × Int × Row} {p n : Int} {st V : Row} {σ : St} (h : JT N T L R p (109, 0, n, 1, st, setV V 32 0) σ) (hV : eqv V (dV σ)) (tx : txM T L σ) : CV mdX11_readMarks [vr 87] σ (EndI N T L R σ p n) := by
  refine CV_of (by decide +kernel) (Nat.le_of_ble_eq_true rfl) rfl (fun X hX => ?_)
  have hL := tx.2.1
  -- behind a fault
  have fail90 : ∀ (u : St), FT R u → Pf σ u → G mdX11_readMarks X 90 [(0, vr 87)] [] u := by
    intro u g1 g2
    have fin : ∀ t : Int, G mdX11_readMarks X 105 [] [vi t, vr 87] u := fun t => by
      refine bX11_readMarks_105 (m_must_f u g1.nn.2 g1.nn.1 t) ?_
      rintro x rfl
      exact bX11_readMarks_108 hX ⟨Or.inr g1, g2⟩
    exact bX11_readMarks_90 g1.2 (fun _ => bX11_readMarks_104 (fin 0)) (fun _ => bX11_readMarks_100 (fin 1))
  have fail13 : ∀ (u : St), FT R u → Pf σ u → G mdX11_readMarks X 13 [(0, vr 87)] [] u := by
    intro u g1 g2
    exact bX11_readMarks_13 g1.nn.2 (fun _ => fail90 u g1 g2) (fun c => absurd c g1.nn.1)
  have key : ∀ (d : Nat) (p' : Int) (q : QS) (u : St), L - p' < d → p ≤ p' → q.1 = 109 → q.2.2.1 = n → JT N T L R p' q u → u 87 16 = q.2.2.2.1 → eqv q.2.2.2.2.2 (dV u) → Pf σ u → G mdX11_readMarks X 13 [(0, vr 87)] [] u := by
    intro d
    induction d with
    | zero =>
      intro p' q u g0 g1 g2 g3 g4 g5 g6 g7
      have hp := g4.1.1
      omega
    | succ d ih =>
      intro p' q u g0 g1 g2 g3 g4 g5 g6 g7
      have q32 : q.1 ≠ 32 := by omega
      have tu := tx.pf g7
      have hp := g4.1.1
      have tk := g4.tk
      have hf := g4.2.1
      refine bX11_readMarks_13 (by rw [hf]; exact ⟨by decide, by decide⟩) (fun c => absurd hf c) (fun _ => ?_)
      refine bX11_readMarks_22 tk.2 (fun c => ?_) (fun c => ?_)
      · rw [tk.1] at c
        refine bX11_readMarks_90 tk.2 (fun c3 => ?_) (fun c3 => ?_)
        · refine bX11_readMarks_104 (bX11_readMarks_105 (J_end0 g4 tu q32 (fun c2 => absurd c2 c) (fun g => c3 (tk.1.trans g.1))).2 ?_)
          rintro x ⟨k1, k2, -⟩
          exact bX11_readMarks_108 hX ⟨Or.inr k1, g7.tr k2⟩
        · refine bX11_readMarks_100 (bX11_readMarks_105 (J_end1 g4 tu (tk.1.symm.trans c3) (Or.inr (Or.inl g2))) ?_)
          rintro x ⟨⟨p2, k1, k2⟩, k3⟩
          refine bX11_readMarks_108 hX ⟨Or.inl ⟨p2, _, by omega, rfl, by show q.2.2.1 + 1 = n + 1; omega, k2, ?_, ?_⟩, g7.tr (Pf.nf k3)⟩
          · rw [k3.2 16 (by decide)]; exact g5
          · show eqv (if q.1 = 100 then appD q.2.2.2.2.2 q.2.2.2.2.1 else q.2.2.2.2.2) (dV x)
            rw [if_neg (by omega), dV_nf k3]; exact g6
      · rw [tk.1] at c
        obtain ⟨c1, c2, c3⟩ := tkN_1 c
        have e14 := g4.1.2.2.2.2 c
        have hd := endT_dg ⟨hp.1, c1⟩ hL.2 c2
        have hb := endT_bd (T := T) hp.1 c1 hL.2
        have vb := valT_bd ⟨by omega, hb.2⟩ hd
        have hm := g4.2.2.1.2.2.2.2.2.2.1
        have e32 : u 95 32 = q.2.2.2.2.2 32 := (g6.1 32 (by decide) (by decide)).symm
        have ev : numQ q (valT T p' (endT T L p')) = if valT T p' (endT T L p') < 16 ∧ mk (q.2.2.2.2.2 32) (valT T p' (endT T L p')) = false then some (109, q.2.1, q.2.2.1, q.2.2.2.1, q.2.2.2.2.1, setV q.2.2.2.2.2 32 (mset (q.2.2.2.2.2 32) (valT T p' (endT T L p')))) else none := by
          unfold numQ
          rw [if_neg c3, if_neg (by omega), if_neg (by omega), if_pos g2]
        have bad : ¬ (valT T p' (endT T L p') < 16 ∧ mk (q.2.2.2.2.2 32) (valT T p' (endT T L p')) = false) → G mdX11_readMarks X 79 [(0, vr 87)] [] u := fun g => by
          refine bX11_readMarks_79 ?_
          rw [wr_setr]
          refine fail13 _ (J_fault g4 rfl hL.2 (run_none c1 ?_)) (g7.tr (Pf.fld (by decide)))
          rw [tok_1 c, ev, if_neg g]
        refine bX11_readMarks_30 (by rw [e14]; exact ⟨by omega, by omega⟩) (fun c5 => bad (by omega)) (fun c5 => ?_)
        rw [e14] at c5
        refine bX11_readMarks_39 (by rw [e14, e32]; exact m_has hm ⟨by omega, by omega⟩ _) ?_
        rintro z u2 hz ⟨rfl, rfl⟩
        refine bX11_readMarks_53 hz (fun c6 => bad (fun g => by rw [g.2] at c6; exact c6 rfl)) (fun c6 => ?_)
        have c7 := bI_0.mp c6
        rw [if_pos ⟨c5, c7⟩] at ev
        have ew : wr u 95 32 (bOr (u 95 32) (bShl 1 (u 87 14))) = setS u 95 32 (mset (q.2.2.2.2.2 32) (valT T p' (endT T L p'))) := by
          rw [e14, e32, bits_or hm ⟨by omega, by omega⟩ c7, wr_setr]; rfl
        have hw7 : setS u 95 32 (mset (q.2.2.2.2.2 32) (valT T p' (endT T L p'))) 87 = u 87 := setS_ne _ _ _ (by decide)
        have pw : Pf u (setS u 95 32 (mset (q.2.2.2.2.2 32) (valT T p' (endT T L p')))) := Pf.row
        refine bX11_readMarks_56 (by rw [ew]; exact J_next g4 hw7 (tu.pf pw) c1 ((tok_1 c q).trans ev)) ?_
        rintro x ⟨⟨p2, k1, k2⟩, k3⟩
        refine bX11_readMarks_76 ?_
        refine ih p2 _ x (by omega) (by omega) rfl (by show q.2.2.1 = n; omega) k2 ?_ ?_ (g7.tr (pw.tr (Pf.nf k3)))
        · rw [k3.2 16 (by decide), hw7]; exact g5
        · rw [dV_nf k3, dV_set _ (by decide)]
          exact eqv_set g6 (by decide) (by decide)
  refine bX11_readMarks_0 ?_
  have ew : wr (wr σ 95 32 0) 87 16 1 = setS (setS σ 95 32 0) 87 16 1 := by rw [wr_setr, wr_setr]; rfl
  rw [ew]
  generalize hu : setS (setS σ 95 32 0) 87 16 1 = u
  have e7 : ∀ j, j ≠ 16 → u 87 j = σ 87 j := fun j c => by rw [← hu, setS_at2 _ _ _ c, setS_ne _ _ _ (by decide)]
  refine key (L - p + 1).toNat p (109, 0, n, 1, st, setV V 32 0) u ?_ (Int.le_refl p) rfl rfl ?_ (by rw [← hu, setS_at]) ?_ (by rw [← hu]; exact Pf.tr Pf.row (Pf.fld (by decide)))
  · have := h.1.1; omega
  · obtain ⟨j1, j2, j3, j4⟩ := h
    unfold JT TokAt at *
    rw [e7 12 (by decide), e7 13 (by decide), e7 11 (by decide), e7 14 (by decide), e7 15 (by decide)]
    exact ⟨j1, j2, j3, j4⟩
  · have ed : dV u = setV (dV σ) 32 0 := by
      rw [← dV_set σ (by decide)]
      refine dV_eq ?_ ?_
      · rw [← hu, setS_ne _ _ _ (by decide)]
      · rw [e7 1 (by decide), setS_ne _ _ _ (by decide)]
    rw [ed]
    exact eqv_set hV (by decide) (by decide)
