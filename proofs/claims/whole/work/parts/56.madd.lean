/-! the model: marks, adds, stages -/
theorem n_marks {N : Int} {a : AS} {σ : St} (h : MR N a σ) {p i : Int} (hp : inI p) (hi : inI i) : CI mdX11_marks [vr 87, vi p, vi i] σ (fun z u => z = (marksA a p i).1 ∧ MR N (marksA a p i).2 u ∧ dn σ u) := by
  refine CI_of (by decide +kernel) (Nat.le_of_ble_eq_true rfl) rfl (fun X hX => ?_)
  have bad : ¬ maOK p i → G mdX11_marks X 19 [] [] σ := fun g => bX11_marks_19 hX (by unfold marksA; rw [if_neg g]; exact ⟨rfl, h, dn.rf⟩)
  refine bX11_marks_0 (m_in hp ⟨by decide, by decide⟩ ⟨by decide, by decide⟩ σ) ?_
  rintro z u hz ⟨rfl, rfl⟩
  refine bX11_marks_7 hz (fun q => bad (by have := bI_d0 q; omega)) (fun q => ?_)
  have b1 := bI_d1 q
  refine bX11_marks_10 (m_in hi ⟨by decide, by decide⟩ ⟨by decide, by decide⟩ _) ?_
  rintro z u hz ⟨rfl, rfl⟩
  refine bX11_marks_16 hz (fun q => ?_) (fun q => bad (by have := bI_d0 q; omega))
  have b2 := bI_d1 q
  have hm := h.1.2.2.1
  have em := h.m
  have b1' : 0 ≤ p ∧ p < 16 := by omega
  have ev : marksA a p i = if bI (mk (a.1 32) p) = i then (-2, a) else (cnt (mk (markM (a.1 32) p i)) 16, putP (noteA a) (setV a.1 32 (markM (a.1 32) p i))) := by unfold marksA; rw [if_pos ⟨b1', by omega⟩]
  rw [ev] at hX
  have eb : (σ 88 32) / 2 ^ (p).toNat % 2 = bI (mk (a.1 32) p) := by rw [em, mk_bit]; rfl
  refine bX11_marks_21 (by rw [eb, em]; exact ⟨by omega, by omega, bI_rng _, hi⟩) (fun q => ?_) (fun q => ?_)
  · rw [eb] at q
    rw [if_neg q] at hX
    refine bX11_marks_39 (n_note h) ?_
    rintro u ⟨hu, hn⟩
    have hum : u 88 32 = a.1 32 := hu.m
    have hm' : bXor (u 88 32) (bShl 1 p) = markM (a.1 32) p i ∧ 0 ≤ markM (a.1 32) p i ∧ markM (a.1 32) p i < 65536 := by
      rw [hum]
      unfold markM
      cases hk : mk (a.1 32) p with
      | true =>
        rw [hk] at q
        have qi : ¬ i = 1 := fun e => q (by rw [e]; rfl)
        rw [if_neg qi]
        exact ⟨bits_xor1 hm b1' hk, mclr_bd hm b1' hk⟩
      | false =>
        rw [hk] at q
        have qi : i = 1 := by
          have : ¬ (0 : Int) = i := q
          omega
        rw [if_pos qi]
        exact ⟨bits_xor0 hm b1' hk, mset_bd hm b1' hk⟩
    obtain ⟨x1, x2⟩ := hm'
    have ew : wr u 88 32 (bXor (u 88 32) (bShl 1 p)) = setS u 88 32 (markM (a.1 32) p i) := by rw [x1, wr_setr]; rfl
    refine bX11_marks_43 (by rw [ew]; exact m_marksMany _ (by rw [setS_at]; exact x2)) ?_
    rintro z u2 hz2 ⟨rfl, rfl⟩
    refine bX11_marks_60 hX hz2 ⟨by rw [setS_at], ?_, dn.tr hn.dn (dn.set (by decide))⟩
    refine hu.setP (Int.le_refl N) (fun x hx => setS_ne _ _ _ (by omega)) (fun j _ => by rw [setS_ne _ _ _ (by decide)]) ?_ (h.1.2.set (Or.inr ⟨rfl, x2⟩))
    rw [vwM_set u (by decide)]
    exact eqv_set hu.1.1 (by decide) (by decide)
  · rw [eb] at q
    rw [if_pos q] at hX
    exact bX11_marks_36 hX ⟨rfl, h, dn.rf⟩
def layR (b : Int) (st g : Row) : Row := fun j => if b ≤ j ∧ j < b + 5 then st (j - b) else g j
theorem m_lay (σ : St) {b k x y z w : Int} (hb : 0 ≤ b ∧ b + 5 ≤ 86) : CVe mdX11_lay [vr 87, vi b, vi k, vi x, vi y, vi z, vi w] σ (setr σ 88 (layR b (stepR k x y z w zR) (σ 88))) := by
  refine CV_of (by decide +kernel) (Nat.le_of_ble_eq_true rfl) rfl (fun X hX => ?_)
  refine bX11_lay_0 hX ⟨by omega, by omega, by omega, by omega, by omega⟩ ?_
  rw [wr_setr σ, wr_wr, wr_wr, wr_wr, wr_wr]
  have e : (fun j => if j = b + 4 then w else if j = b + 3 then z else if j = b + 2 then y else if j = b + 1 then x else if j = b then k else σ 88 j) = layR b (stepR k x y z w zR) (σ 88) := by
    funext j
    unfold layR stepR
    by_cases q : b ≤ j ∧ j < b + 5
    · rw [if_pos q]
      by_cases q4 : j = b + 4
      · rw [if_pos q4, if_pos (by omega)]
      rw [if_neg q4, if_neg (show ¬ j - b = 4 by omega)]
      by_cases q3 : j = b + 3
      · rw [if_pos q3, if_pos (by omega)]
      rw [if_neg q3, if_neg (show ¬ j - b = 3 by omega)]
      by_cases q2 : j = b + 2
      · rw [if_pos q2, if_pos (by omega)]
      rw [if_neg q2, if_neg (show ¬ j - b = 2 by omega)]
      by_cases q1 : j = b + 1
      · rw [if_pos q1, if_pos (by omega)]
      rw [if_neg q1, if_neg (show ¬ j - b = 1 by omega), if_pos (by omega), if_pos (by omega)]
    · rw [if_neg q, if_neg (by omega), if_neg (by omega), if_neg (by omega), if_neg (by omega), if_neg (by omega)]
  first
  | rw [← e]; rfl
  | rw [← e]
theorem eqv_appD {v w : Row} (h : eqv v w) (st : Row) (h3 : 0 ≤ v 33 ∧ v 33 < 6) (h4 : v 64 ≤ 4) : eqv (appD v st) (appD w st) := by
  obtain ⟨a1, a2, a3, a4, a5, a6⟩ := h
  have e33 := a1 33 (by decide) (by decide)
  have g : ∀ j, 64 ≤ j → v j = w j → appD v st j = appD w st j := fun j c e => by
    unfold appD
    rw [if_neg (by omega), if_neg (by omega), if_neg (by omega), if_neg (by omega)]; exact e
  have g64 : appD v st 64 = v 64 := by unfold appD; rw [if_neg (by decide), if_neg (by omega)]
  refine ⟨fun j c d => ?_, fun j c d => ?_, g _ (by decide) a3, fun j c d => g _ (by omega) (a4 j c (by rw [g64] at d; exact d)), g _ (by decide) a5, g _ (by decide) a6⟩
  · unfold appD
    rw [← e33]
    by_cases q : j = 33
    · rw [if_pos q, if_pos q]
    · rw [if_neg q, if_neg q, if_neg (by omega), if_neg (by omega)]; exact a1 j c d
  · have d' : j < (v 33 + 1) * 5 := by
      have : appD v st 33 = v 33 + 1 := by unfold appD; rw [if_pos rfl]
      rw [this] at d; exact d
    unfold appD
    rw [← e33]
    by_cases q : v 33 * 5 ≤ j
    · rw [if_neg (by omega), if_pos (by omega), if_neg (by omega), if_pos (by omega)]
    · rw [if_neg (by omega), if_neg (by omega), if_neg (by omega), if_neg (by omega)]; exact a2 j c (by omega)
theorem eqv_appS {v w : Row} (h : eqv v w) (st : Row) (h3 : 0 ≤ v 33 ∧ v 33 ≤ 6) (h4 : 0 ≤ v 64 ∧ v 64 < 4) : eqv (appS v st) (appS w st) := by
  obtain ⟨a1, a2, a3, a4, a5, a6⟩ := h
  have e33 : appS v st 33 = v 33 := by unfold appS; rw [if_neg (by decide), if_neg (by omega)]
  have e64 : appS v st 64 = v 64 + 1 := by unfold appS; rw [if_pos rfl]
  have g : ∀ j, j < 64 ∨ 85 ≤ j → v j = w j → appS v st j = appS w st j := fun j c e => by
    unfold appS
    rw [if_neg (by omega), if_neg (by omega), if_neg (by omega), if_neg (by omega)]; exact e
  refine ⟨fun j c d => g _ (by omega) (a1 j c d), fun j c d => g _ (by rw [e33] at d; omega) (a2 j c (by rw [e33] at d; exact d)), by rw [e64]; unfold appS; rw [if_pos rfl, a3], fun j c d => ?_, g _ (by decide) a5, g _ (by decide) a6⟩
  rw [e64] at d
  unfold appS
  rw [← a3]
  by_cases q : v 64 * 5 ≤ j
  · rw [if_neg (by omega), if_pos (by omega), if_neg (by omega), if_pos (by omega)]
  · rw [if_neg (by omega), if_neg (by omega), if_neg (by omega), if_neg (by omega)]; exact a4 j c (by omega)
theorem okV_appD {N : Int} {v st : Row} (h : okV N v) (h3 : v 33 < 6) (ok : okD (st 0) (st 1) (st 2) (st 3) (st 4)) : okV N (appD v st) := by
  obtain ⟨g1, g2, g3, g4, g5, g6, g7, g8⟩ := h
  have hi : ∀ j, 64 ≤ j → appD v st j = v j := fun j c => by unfold appD; rw [if_neg (by omega), if_neg (by omega)]
  have lo : ∀ j, j < 33 → appD v st j = v j := fun j c => by unfold appD; rw [if_neg (by omega), if_neg (by omega)]
  have e33 : appD v st 33 = v 33 + 1 := by unfold appD; rw [if_pos rfl]
  refine ⟨fun i c d => by rw [lo i (by omega)]; exact g1 i c d, by rw [lo 32 (by decide)]; exact g2, by rw [e33]; omega, fun j c d => ?_, by rw [hi 64 (by decide)]; exact g5, fun j c d => okB_eq c (fun i x y => (hi (65 + i) (by omega)).symm) (g6 j c (by rw [hi 64 (by decide)] at d; exact d)), by rw [hi 85 (by decide)]; exact g7, by rw [hi 86 (by decide)]; exact g8⟩
  rw [e33] at d
  by_cases q : j < v 33
  · refine okA_eq c (fun i x y => ?_) (g4 j c q)
    show v (34 + i) = appD v st (34 + i)
    unfold appD
    rw [if_neg (by omega), if_neg (by omega)]
  · obtain rfl : j = v 33 := by omega
    have g : ∀ i, 0 ≤ i → i < 5 → lnV (appD v st) (v 33 * 5 + i) = st i := fun i x y => by
      unfold lnV appD
      rw [if_neg (by omega), if_pos (by omega)]
      congr 1; omega
    unfold okA
    have g0 := g 0 (by decide) (by decide)
    rw [Int.add_zero] at g0
    rw [g0, g 1 (by decide) (by decide), g 2 (by decide) (by decide), g 3 (by decide) (by decide), g 4 (by decide) (by decide)]
    exact ok
theorem okV_appS {N : Int} {v st : Row} (h : okV N v) (h4 : v 64 < 4) (ok : okS (st 0) (st 1) (st 2) (st 3) (st 4)) : okV N (appS v st) := by
  obtain ⟨g1, g2, g3, g4, g5, g6, g7, g8⟩ := h
  have hi : ∀ j, j < 64 ∨ 85 ≤ j → appS v st j = v j := fun j c => by unfold appS; rw [if_neg (by omega), if_neg (by omega)]
  have e64 : appS v st 64 = v 64 + 1 := by unfold appS; rw [if_pos rfl]
  have e33 : appS v st 33 = v 33 := hi _ (by decide)
  refine ⟨fun i c d => by rw [hi i (by omega)]; exact g1 i c d, by rw [hi 32 (by decide)]; exact g2, by rw [e33]; exact g3, fun j c d => ?_, by rw [e64]; omega, fun j c d => ?_, by rw [hi 85 (by decide)]; exact g7, by rw [hi 86 (by decide)]; exact g8⟩
  · rw [e33] at d
    exact okA_eq c (fun i x y => (hi (34 + i) (by omega)).symm) (g4 j c d)
  · rw [e64] at d
    by_cases q : j < v 64
    · refine okB_eq c (fun i x y => ?_) (g6 j c q)
      show v (65 + i) = appS v st (65 + i)
      unfold appS
      rw [if_neg (by omega), if_neg (by omega)]
    · obtain rfl : j = v 64 := by omega
      have g : ∀ i, 0 ≤ i → i < 5 → chV (appS v st) (v 64 * 5 + i) = st i := fun i x y => by
        unfold chV appS
        rw [if_neg (by omega), if_pos (by omega)]
        congr 1; omega
      unfold okB
      have g0 := g 0 (by decide) (by decide)
      rw [Int.add_zero] at g0
      rw [g0, g 1 (by decide) (by decide), g 2 (by decide) (by decide), g 3 (by decide) (by decide), g 4 (by decide) (by decide)]
      exact ok
/-- rows 88 of the model, laid anew -/
theorem vwM_row (u : St) (f : Row) : vwM (setr u 88 f) = fun k => if k = 86 then u 87 1 else f k := by
  funext k
  unfold vwM
  rw [setr_at, setr_ne _ _ (by decide)]
theorem vw_appD (u : St) (st : Row) (h : 0 ≤ u 88 33 ∧ u 88 33 < 6) : vwM (setS (setr u 88 (layR (34 + 5 * u 88 33) st (u 88))) 88 33 (u 88 33 + 1)) = appD (vwM u) st := by
  rw [vwM_set _ (by decide), vwM_row]
  funext j
  unfold setV appD layR vwM
  have n : ¬ (33 : Int) = 86 := by decide
  simp only [if_neg n]
  by_cases q : j = 33
  · rw [if_pos q, if_pos q]
  · rw [if_neg q, if_neg q]
    by_cases q2 : j = 86
    · rw [if_pos q2, if_neg (by omega), if_pos q2]
    · rw [if_neg q2, if_neg q2]
      by_cases q3 : 34 + 5 * u 88 33 ≤ j ∧ j < 34 + 5 * u 88 33 + 5
      · rw [if_pos q3, if_pos (by omega)]; congr 1; omega
      · rw [if_neg q3, if_neg (by omega)]
theorem vw_appS (u : St) (st : Row) (h : 0 ≤ u 88 64 ∧ u 88 64 < 4) : vwM (setS (setr u 88 (layR (65 + 5 * u 88 64) st (u 88))) 88 64 (u 88 64 + 1)) = appS (vwM u) st := by
  rw [vwM_set _ (by decide), vwM_row]
  funext j
  unfold setV appS layR vwM
  have n : ¬ (64 : Int) = 86 := by decide
  simp only [if_neg n]
  by_cases q : j = 64
  · rw [if_pos q, if_pos q]
  · rw [if_neg q, if_neg q]
    by_cases q2 : j = 86
    · rw [if_pos q2, if_neg (by omega), if_pos q2]
    · rw [if_neg q2, if_neg q2]
      by_cases q3 : 65 + 5 * u 88 64 ≤ j ∧ j < 65 + 5 * u 88 64 + 5
      · rw [if_pos q3, if_pos (by omega)]; congr 1; omega
      · rw [if_neg q3, if_neg (by omega)]
theorem n_adds {N : Int} {a : AS} {σ : St} (h : MR N a σ) {k x y z w : Int} (hk : inI k) (hx : inI x) (hy : inI y) (hz : inI z) (hw : inI w) : CI mdX11_adds [vr 87, vi k, vi x, vi y, vi z, vi w] σ (fun r u => r = (addsA a (stepR k x y z w zR)).1 ∧ MR N (addsA a (stepR k x y z w zR)).2 u ∧ dn σ u) := by
  refine CI_of (by decide +kernel) (Nat.le_of_ble_eq_true rfl) rfl (fun X hX => ?_)
  refine bX11_adds_0 (m_isDeed hk hx hy hz hw σ) ?_
  rintro r u hr ⟨rfl, rfl⟩
  have e := h.n33
  refine bX11_adds_10 hr (fun q => ?_) (fun q => ?_)
  · have hp := bI_1.mp q
    have ev : addsA a (stepR k x y z w zR) = if a.1 33 = 6 then (-3, a) else (a.1 33 + 1, putP (noteA a) (appD a.1 (stepR k x y z w zR))) := by unfold addsA; rw [if_pos hp]
    rw [ev] at hX
    refine bX11_adds_15 ⟨by omega, by omega⟩ (fun q => ?_) (fun q => ?_)
    · rw [if_neg (by omega)] at hX
      refine bX11_adds_30 (n_note h) ?_
      rintro u ⟨hu, hn⟩
      have f1 : u 88 33 = a.1 33 := hu.n33.1
      refine bX11_adds_34 (m_lay u (by omega)) ?_
      rintro u2 rfl
      have f2 : setr u 88 (layR (34 + 5 * u 88 33) (stepR k x y z w zR) (u 88)) 88 33 = u 88 33 := by
        rw [setr_at]; unfold layR; rw [if_neg (by omega)]
      refine bX11_adds_57 hX ?_ ?_
      · rw [wr_setr, f2]; show inI (setS _ 88 33 _ 88 33); rw [setS_at]; exact ⟨by omega, by omega⟩
      · rw [wr_setr, f2]
        show (setS _ 88 33 _ 88 33) = _ ∧ MR N _ (setS _ 88 33 _) ∧ dn σ (setS _ 88 33 _)
        rw [setS_at]
        refine ⟨by rw [f1], ?_, dn.tr hn.dn (dn.tr (dn.set (by decide)) (dn.set (by decide)))⟩
        refine hu.setP (Int.le_refl N) (fun x hx => by rw [setS_ne _ _ _ (by omega), setr_ne _ _ (by omega)]) (fun j _ => by rw [setS_ne _ _ _ (by decide), setr_ne _ _ (by decide)]) ?_ (okV_appD h.1.2 (by omega) (posD.mp (posB_5.mp hp)))
        rw [vw_appD u _ (by omega)]
        exact eqv_appD hu.1.1 _ (by show 0 ≤ a.1 33 ∧ a.1 33 < 6; omega) (by show a.1 64 ≤ 4; have := h.n64; omega)
    · rw [if_pos (by omega)] at hX
      exact bX11_adds_27 hX ⟨rfl, h, dn.rf⟩
  · have hp : ¬ posB 106 (stepR k x y z w zR) = true := by rw [bI_0.mp q]; decide
    have ev : addsA a (stepR k x y z w zR) = (-1, a) := by unfold addsA; rw [if_neg hp]
    rw [ev] at hX
    exact bX11_adds_13 hX ⟨rfl, h, dn.rf⟩
theorem n_stages {N : Int} {a : AS} {σ : St} (h : MR N a σ) {k x y z w : Int} (hk : inI k) (hx : inI x) (hy : inI y) (hz : inI z) (hw : inI w) : CI mdX11_stages [vr 87, vi k, vi x, vi y, vi z, vi w] σ (fun r u => r = (stagesA a (stepR k x y z w zR)).1 ∧ MR N (stagesA a (stepR k x y z w zR)).2 u ∧ dn σ u) := by
  refine CI_of (by decide +kernel) (Nat.le_of_ble_eq_true rfl) rfl (fun X hX => ?_)
  refine bX11_stages_0 (m_isStage hk hx hy hz hw σ) ?_
  rintro r u hr ⟨rfl, rfl⟩
  have e := h.n64
  refine bX11_stages_10 hr (fun q => ?_) (fun q => ?_)
  · have hp := bI_1.mp q
    have ev : stagesA a (stepR k x y z w zR) = if a.1 64 = 4 then (-3, a) else (a.1 64 + 1, putP (noteA a) (appS a.1 (stepR k x y z w zR))) := by unfold stagesA; rw [if_pos hp]
    rw [ev] at hX
    refine bX11_stages_15 ⟨by omega, by omega⟩ (fun q => ?_) (fun q => ?_)
    · rw [if_neg (by omega)] at hX
      refine bX11_stages_29 (n_note h) ?_
      rintro u ⟨hu, hn⟩
      have f1 : u 88 64 = a.1 64 := hu.n64.1
      refine bX11_stages_33 (m_lay u (by omega)) ?_
      rintro u2 rfl
      have f2 : setr u 88 (layR (65 + 5 * u 88 64) (stepR k x y z w zR) (u 88)) 88 64 = u 88 64 := by
        rw [setr_at]; unfold layR; rw [if_neg (by omega)]
      refine bX11_stages_56 hX ?_ ?_
      · rw [wr_setr, f2]; show inI (setS _ 88 64 _ 88 64); rw [setS_at]; exact ⟨by omega, by omega⟩
      · rw [wr_setr, f2]
        show (setS _ 88 64 _ 88 64) = _ ∧ MR N _ (setS _ 88 64 _) ∧ dn σ (setS _ 88 64 _)
        rw [setS_at]
        refine ⟨by rw [f1], ?_, dn.tr hn.dn (dn.tr (dn.set (by decide)) (dn.set (by decide)))⟩
        refine hu.setP (Int.le_refl N) (fun x hx => by rw [setS_ne _ _ _ (by omega), setr_ne _ _ (by omega)]) (fun j _ => by rw [setS_ne _ _ _ (by decide), setr_ne _ _ (by decide)]) ?_ (okV_appS h.1.2 (by omega) (posS.mp (posB_5.mp hp)))
        rw [vw_appS u _ (by omega)]
        exact eqv_appS hu.1.1 _ (by show 0 ≤ a.1 33 ∧ a.1 33 ≤ 6; have := h.n33; omega) (by show 0 ≤ a.1 64 ∧ a.1 64 < 4; omega)
    · rw [if_pos (by omega)] at hX
      exact bX11_stages_26 hX ⟨rfl, h, dn.rf⟩
  · have hp : ¬ posB 107 (stepR k x y z w zR) = true := by rw [bI_0.mp q]; decide
    have ev : stagesA a (stepR k x y z w zR) = (-1, a) := by unfold stagesA; rw [if_neg hp]
    rw [ev] at hX
    exact bX11_stages_13 hX ⟨rfl, h, dn.rf⟩
