/-! the model: orders -/
theorem eqv_ord {v w : Row} (h : eqv v w) {c : Row} (hc : ∀ j, 0 ≤ j → j < v 64 → 0 ≤ c j ∧ c j < v 64) (h3 : v 33 ≤ 6) : eqv (ordS v c) (ordS w c) := by
  obtain ⟨a1, a2, a3, a4, a5, a6⟩ := h
  have lo : ∀ (x : Row) j, j < 65 → ordS x c j = x j := fun x j q => by unfold ordS; rw [if_neg (by omega)]
  refine ⟨fun j g1 g2 => by rw [lo _ _ (by omega), lo _ _ (by omega)]; exact a1 j g1 g2, fun j g1 g2 => ?_, by rw [lo _ _ (by decide), lo _ _ (by decide)]; exact a3, fun j g1 g2 => ?_, ?_, ?_⟩
  · rw [lo _ _ (by decide)] at g2
    rw [lo _ _ (by omega), lo _ _ (by omega)]; exact a2 j g1 g2
  · rw [lo _ _ (by decide)] at g2
    have := hc (j / 5) (by omega) (by omega)
    unfold ordS
    rw [← a3, if_pos (by omega), if_pos (by omega), show 65 + j - 65 = j by omega]
    exact a4 _ (by omega) (by omega)
  · unfold ordS
    rw [← a3]
    by_cases q : (65 : Int) ≤ 85 ∧ 85 < 65 + v 64 * 5
    · have := hc ((85 - 65) / 5) (by omega) (by omega)
      rw [if_pos q, if_pos q]
      exact a4 _ (by omega) (by omega)
    · rw [if_neg q, if_neg q]; exact a5
  · unfold ordS
    rw [← a3]
    by_cases q : (65 : Int) ≤ 86 ∧ 86 < 65 + v 64 * 5
    · have := hc ((86 - 65) / 5) (by omega) (by omega)
      rw [if_pos q, if_pos q]
      exact a4 _ (by omega) (by omega)
    · rw [if_neg q, if_neg q]; exact a6
theorem okV_ord {N : Int} {v c : Row} (h : okV N v) (hc : ∀ j, 0 ≤ j → j < v 64 → 0 ≤ c j ∧ c j < v 64) : okV N (ordS v c) := by
  obtain ⟨g1, g2, g3, g4, g5, g6, g7, g8⟩ := h
  have hi : ∀ j, j < 65 ∨ 85 ≤ j → ordS v c j = v j := fun j q => by unfold ordS; rw [if_neg (by omega)]
  refine ⟨fun i x y => by rw [hi i (by omega)]; exact g1 i x y, by rw [hi 32 (by decide)]; exact g2, by rw [hi 33 (by decide)]; exact g3, fun j x y => ?_, by rw [hi 64 (by decide)]; exact g5, fun j x y => ?_, by rw [hi 85 (by decide)]; exact g7, by rw [hi 86 (by decide)]; exact g8⟩
  · rw [hi 33 (by decide)] at y
    exact okA_eq x (fun i p q => (hi (34 + i) (by omega)).symm) (g4 j x y)
  · rw [hi 64 (by decide)] at y
    have hbk := hc j x y
    have g := g6 (c j) hbk.1 hbk.2
    have ee : ∀ i, 0 ≤ i → i < 5 → chV (ordS v c) (j * 5 + i) = chV v (c j * 5 + i) := fun i p q => by
      unfold chV ordS
      rw [if_pos (by omega), show (65 + (j * 5 + i) - 65) / 5 = j by omega, show (65 + (j * 5 + i) - 65) % 5 = i by omega]
    unfold okB at g ⊢
    have e0 := ee 0 (by decide) (by decide)
    rw [Int.add_zero, Int.add_zero] at e0
    rw [e0, ee 1 (by decide) (by decide), ee 2 (by decide) (by decide), ee 3 (by decide) (by decide), ee 4 (by decide) (by decide)]
    exact g
def orR (i : Int) (c g : Row) : Row := fun j => if 65 ≤ j ∧ j < 65 + i then g (65 + (c ((j - 65) / 5) * 5 + (j - 65) % 5)) else g j
theorem orR_s (i : Int) (hi : 0 ≤ i) (c g : Row) : (fun j => if j = 65 + i then g (65 + (c (i / 5) * 5 + i % 5)) else orR i c g j) = orR (i + 1) c g := by
  funext j
  unfold orR
  by_cases q : j = 65 + i
  · rw [if_pos q, if_pos (by omega), q, show 65 + i - 65 = i by omega]
  · rw [if_neg q]
    by_cases q2 : 65 ≤ j ∧ j < 65 + i
    · rw [if_pos q2, if_pos (by omega)]
    · rw [if_neg q2, if_neg (by omega)]
theorem n_orders {N : Int} {a : AS} {σ : St} (h : MR N a σ) : CI mdX11_orders [vr 87] σ (fun z u => z = (ordersA a).1 ∧ MR N (ordersA a).2 u ∧ dn σ u) := by
  refine CI_of (by decide +kernel) (Nat.le_of_ble_eq_true rfl) rfl (fun X hX => ?_)
  have e := h.n64
  have hb := mbestIn h
  refine bX11_orders_0 (n_findOrder h) ?_
  rintro u ⟨h1, h2, hu, hF⟩
  have e2 := hu.n64
  refine bX11_orders_4 ?_
  have eid : idL (bestP a.1) (a.1 64).toNat = true ↔ ∀ j, 0 ≤ j → j < a.1 64 → u 100 j = j := by
    rw [idL_ok, Int.toNat_of_nonneg e.2.1]
    constructor
    · intro g j c d; rw [h2 j c d]; exact g j c d
    · intro g j c d; rw [← h2 j c d]; exact g j c d
  -- behind the comparison
  have rest : ∀ b : Bool, (b = true ↔ ∀ j, 0 ≤ j → j < a.1 64 → u 100 j = j) → G mdX11_orders X 45 [(0, vr 87), (1, vi (bI b))] [] u := by
    intro b hbq
    rw [← eid] at hbq
    refine bX11_orders_45 (bI_rng _) (fun q => ?_) (fun q => ?_)
    · have hid : ¬ idL (bestP a.1) (a.1 64).toNat = true := fun g => by
        have := hbq.mpr g
        rw [bI_0.mp q] at this
        exact absurd this (by decide)
      have ev : ordersA a = (ordV a.1 (bestP a.1), putP (noteA a) (ordS a.1 (bestP a.1))) := by unfold ordersA; rw [if_neg hid]
      rw [ev] at hX
      refine bX11_orders_52 (n_note hu) ?_
      rintro v ⟨hv, hn⟩
      have v64 : v 88 64 = a.1 64 := hv.n64.1
      have v100 : v 100 = u 100 := hn.1 100 (by decide) (by decide) (by decide)
      have v24 : v 87 24 = u 87 24 := hn.2 24 (by decide)
      refine bX11_orders_56 ?_
      have key2 : G mdX11_orders X 87 [(0, vr 87), (2, vi 0)] [] (setr (setr v 101 (win 20 (fun j => v 88 (65 + j)) (v 101))) 88 (orR 0 (bestP a.1) (v 88))) := by
        refine loopUp (Q := fun i => G mdX11_orders X 87 [(0, vr 87), (2, vi i)] [] (setr (setr v 101 (win 20 (fun j => v 88 (65 + j)) (v 101))) 88 (orR i (bestP a.1) (v 88)))) (n := 5 * a.1 64) ?_ (fun i g1 g2 ih => ?_) (by omega)
        · have f64 : setr (setr v 101 (win 20 (fun j => v 88 (65 + j)) (v 101))) 88 (orR (5 * a.1 64) (bestP a.1) (v 88)) 88 64 = a.1 64 := by
            rw [setr_at]; unfold orR; rw [if_neg (by omega)]; exact v64
          have f24 : setr (setr v 101 (win 20 (fun j => v 88 (65 + j)) (v 101))) 88 (orR (5 * a.1 64) (bestP a.1) (v 88)) 87 24 = ordV a.1 (bestP a.1) := by
            rw [setr_ne _ _ (by decide), setr_ne _ _ (by decide), v24]; exact h1
          refine bX11_orders_87 (by rw [f64]; exact ⟨⟨by omega, by omega⟩, by omega, by omega⟩) (fun _ => ?_) (fun q => by rw [f64] at q; omega)
          refine bX11_orders_134 hX (by rw [f24]; exact inI_o _ _) ?_
          rw [f24]
          refine ⟨rfl, ?_, (dn.tr hF.dn hn.dn).tr (dn.tr (dn.set (by decide)) (dn.set (by decide)))⟩
          refine MR.setP (σ := setr v 101 (win 20 (fun j => v 88 (65 + j)) (v 101))) (a := noteA a) (hv.sf (Sf.row (by decide)) (by rw [setr_ne _ _ (by decide)]; exact hv.2.2.2.2.2)) (Int.le_refl N) (fun x hx => setr_ne _ _ (by omega)) (fun j _ => by rw [setr_ne _ _ (by decide)]) ?_ (okV_ord h.1.2 hb)
          have ez : vwM (setr (setr v 101 (win 20 (fun j => v 88 (65 + j)) (v 101))) 88 (orR (5 * a.1 64) (bestP a.1) (v 88))) = ordS (vwM v) (bestP a.1) := by
            rw [vwM_row]
            have w1 : setr v 101 (win 20 (fun j => v 88 (65 + j)) (v 101)) 87 1 = v 87 1 := by rw [setr_ne _ _ (by decide)]
            rw [w1]
            funext j
            unfold ordS orR vwM
            have n : ¬ (64 : Int) = 86 := by decide
            simp only [if_neg n]
            rw [v64]
            by_cases q2 : 65 ≤ j ∧ j < 65 + a.1 64 * 5
            · have := hb ((j - 65) / 5) (by omega) (by omega)
              rw [if_neg (by omega), if_pos (by omega), if_pos q2, if_neg (by omega)]
            · rw [if_neg (show ¬ (65 ≤ j ∧ j < 65 + 5 * a.1 64) by omega), if_neg q2]
          rw [ez]
          exact eqv_ord hv.1.1 hb (by show a.1 33 ≤ 6; have := h.n33; omega)
        · have f64 : setr (setr v 101 (win 20 (fun j => v 88 (65 + j)) (v 101))) 88 (orR i (bestP a.1) (v 88)) 88 64 = a.1 64 := by
            rw [setr_at]; unfold orR; rw [if_neg (by omega)]; exact v64
          have fb : setr (setr v 101 (win 20 (fun j => v 88 (65 + j)) (v 101))) 88 (orR i (bestP a.1) (v 88)) 100 (i / 5) = bestP a.1 (i / 5) := by
            rw [setr_ne _ _ (by decide), setr_ne _ _ (by decide), v100]; exact h2 (i / 5) (by omega) (by omega)
          have hbi := hb (i / 5) (by omega) (by omega)
          have fc : setr (setr v 101 (win 20 (fun j => v 88 (65 + j)) (v 101))) 88 (orR i (bestP a.1) (v 88)) 101 (5 * bestP a.1 (i / 5) + i % 5) = v 88 (65 + (bestP a.1 (i / 5) * 5 + i % 5)) := by
            rw [setr_ne _ _ (by decide), setr_at, win_in ⟨by omega, by omega⟩]
            congr 1; omega
          refine bX11_orders_87 (by rw [f64]; exact ⟨⟨by omega, by omega⟩, by omega, by omega⟩) (fun q => by rw [f64] at q; omega) (fun _ => ?_)
          refine bX11_orders_100 (by rw [fb]; exact ⟨by omega, by omega, by omega, by omega⟩) ?_
          rw [fb, fc, wr_wr, orR_s i g1]
          exact ih
      have key : G mdX11_orders X 58 [(0, vr 87), (2, vi 0)] [] (setr v 101 (win 0 (fun j => v 88 (65 + j)) (v 101))) := by
        refine loopUp (Q := fun i => G mdX11_orders X 58 [(0, vr 87), (2, vi i)] [] (setr v 101 (win i (fun j => v 88 (65 + j)) (v 101)))) (n := 20) ?_ (fun i g1 g2 ih => ?_) (by decide)
        · refine bX11_orders_58 ⟨by decide, by decide⟩ (fun _ => bX11_orders_85 ?_) (fun q => by omega)
          have e0 : orR 0 (bestP a.1) (v 88) = setr v 101 (win 20 (fun j => v 88 (65 + j)) (v 101)) 88 := by
            rw [setr_ne _ _ (by decide)]
            funext j
            unfold orR
            rw [if_neg (by omega)]
          rw [e0, setr_id] at key2
          exact key2
        · have f88 : setr v 101 (win i (fun j => v 88 (65 + j)) (v 101)) 88 = v 88 := setr_ne _ _ (by decide)
          refine bX11_orders_58 ⟨by omega, by omega⟩ (fun q => by omega) (fun _ => bX11_orders_64 ⟨by omega, g1, g2⟩ ?_)
          rw [f88, wr_win _ _ _ _ g1 rfl]
          exact ih
      rw [win_0, setr_id] at key
      exact key
    · have hid : idL (bestP a.1) (a.1 64).toNat = true := hbq.mp (bI_1.mp q)
      have ev : ordersA a = (-2, a) := by unfold ordersA; rw [if_pos hid]
      rw [ev] at hX
      exact bX11_orders_49 hX ⟨rfl, hu, hF.dn⟩
  have key : ∀ b : Bool, (b = true ↔ ∀ j, 0 ≤ j → j < (0 : Int) → u 100 j = j) → G mdX11_orders X 8 [(0, vr 87), (1, vi (bI b)), (2, vi 0)] [] u := by
    refine loopUp (Q := fun i => ∀ b : Bool, (b = true ↔ ∀ j, 0 ≤ j → j < i → u 100 j = j) → G mdX11_orders X 8 [(0, vr 87), (1, vi (bI b)), (2, vi i)] [] u) (n := a.1 64) ?_ (fun i g1 g2 ih => ?_) e.2.1
    · intro b hbq
      exact bX11_orders_8 ⟨⟨by omega, by omega⟩, by omega, by omega⟩ (fun _ => rest b hbq) (fun q => by omega)
    · intro b hbq
      have hi := hb i g1 g2
      have no : ¬ (∀ j, 0 ≤ j → j < i + 1 → u 100 j = j) → G mdX11_orders X 37 [(0, vr 87), (2, vi i)] [] u := fun g => by
        refine bX11_orders_37 (bX11_orders_38 ?_)
        have := ih false ⟨fun g2 => absurd g2 (by decide), fun g2 => absurd g2 g⟩
        exact this
      refine bX11_orders_8 ⟨⟨by omega, by omega⟩, by omega, by omega⟩ (fun q => by omega) (fun _ => ?_)
      refine bX11_orders_19 (bI_rng _) (fun q => ?_) (fun q => ?_)
      · refine no (fun g => ?_)
        have := hbq.mpr (fun j c d => g j c (by omega))
        rw [bI_0.mp q] at this
        exact absurd this (by decide)
      · have hq := hbq.mp (bI_1.mp q)
        refine bX11_orders_23 ⟨⟨g1, by omega⟩, by rw [h2 i g1 g2]; exact ⟨by omega, by omega⟩, by omega, by omega⟩ (fun q2 => no (fun g => q2 (g i g1 (by omega)))) (fun q2 => ?_)
        refine bX11_orders_33 (bX11_orders_38 ?_)
        have := ih true ⟨fun _ j c d => ?_, fun _ => rfl⟩
        · exact this
        · by_cases q3 : j = i
          · rw [q3]; exact q2
          · exact hq j c (by omega)
  exact key true ⟨fun _ j c d => by omega, fun _ => rfl⟩
