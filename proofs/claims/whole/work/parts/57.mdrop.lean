/-! the model: drops, hears -/
theorem eqv_drop {v w : Row} (h : eqv v w) {k : Int} (hk : 0 ≤ k ∧ k < v 64) (h3 : v 33 ≤ 6) (h4 : v 64 ≤ 4) : eqv (dropV v k) (dropV w k) := by
  obtain ⟨a1, a2, a3, a4, a5, a6⟩ := h
  have g : ∀ j, j < 64 ∨ 85 ≤ j → v j = w j → dropV v k j = dropV w k j := fun j c e => by
    unfold dropV
    rw [if_neg (by omega), if_neg (by omega), if_neg (by omega), if_neg (by omega)]; exact e
  have e33 : dropV v k 33 = v 33 := by unfold dropV; rw [if_neg (by decide), if_neg (by omega)]
  have e64 : dropV v k 64 = v 64 - 1 := by unfold dropV; rw [if_pos rfl]
  refine ⟨fun j c d => g _ (by omega) (a1 j c d), fun j c d => g _ (by rw [e33] at d; omega) (a2 j c (by rw [e33] at d; exact d)), by rw [e64]; unfold dropV; rw [if_pos rfl, a3], fun j c d => ?_, g _ (by decide) a5, g _ (by decide) a6⟩
  rw [e64] at d
  unfold dropV
  by_cases q : 5 * k ≤ j
  · rw [if_neg (by omega), if_pos (by omega), if_neg (by omega), if_pos (by omega), show 65 + j + 5 = 65 + (j + 5) by omega]; exact a4 (j + 5) (by omega) (by omega)
  · rw [if_neg (by omega), if_neg (by omega), if_neg (by omega), if_neg (by omega)]; exact a4 j c (by omega)
theorem okV_drop {N : Int} {v : Row} (h : okV N v) {k : Int} (hk : 0 ≤ k ∧ k < v 64) : okV N (dropV v k) := by
  obtain ⟨g1, g2, g3, g4, g5, g6, g7, g8⟩ := h
  have hi : ∀ j, j < 64 ∨ 85 ≤ j → dropV v k j = v j := fun j c => by unfold dropV; rw [if_neg (by omega), if_neg (by omega)]
  have e33 : dropV v k 33 = v 33 := hi _ (by decide)
  have e64 : dropV v k 64 = v 64 - 1 := by unfold dropV; rw [if_pos rfl]
  refine ⟨fun i c d => by rw [hi i (by omega)]; exact g1 i c d, by rw [hi 32 (by decide)]; exact g2, by rw [e33]; exact g3, fun j c d => ?_, by rw [e64]; omega, fun j c d => ?_, by rw [hi 85 (by decide)]; exact g7, by rw [hi 86 (by decide)]; exact g8⟩
  · rw [e33] at d
    exact okA_eq c (fun i x y => (hi (34 + i) (by omega)).symm) (g4 j c d)
  · rw [e64] at d
    by_cases q : j < k
    · refine okB_eq c (fun i x y => ?_) (g6 j c (by omega))
      show v (65 + i) = dropV v k (65 + i)
      unfold dropV
      rw [if_neg (by omega), if_neg (by omega)]
    · have g := g6 (j + 1) (by omega) (by omega)
      unfold okB at g ⊢
      have ee : ∀ i, j * 5 ≤ i → i < j * 5 + 5 → chV (dropV v k) i = chV v (i + 5) := fun i x y => by
        unfold chV dropV
        rw [if_neg (by omega), if_pos (by omega), show 65 + i + 5 = 65 + (i + 5) by omega]
      rw [ee (j * 5) (by omega) (by omega), ee (j * 5 + 1) (by omega) (by omega), ee (j * 5 + 2) (by omega) (by omega), ee (j * 5 + 3) (by omega) (by omega), ee (j * 5 + 4) (by omega) (by omega)]
      rw [show j * 5 + 5 = (j + 1) * 5 by omega, show j * 5 + 1 + 5 = (j + 1) * 5 + 1 by omega, show j * 5 + 2 + 5 = (j + 1) * 5 + 2 by omega, show j * 5 + 3 + 5 = (j + 1) * 5 + 3 by omega, show j * 5 + 4 + 5 = (j + 1) * 5 + 4 by omega]
      exact g
def drR (k i : Int) (g : Row) : Row := fun j => if 65 + 5 * k ≤ j ∧ j < i then g (j + 5) else g j
theorem vw_drop (u : St) {k : Int} (hk : 0 ≤ k) : vwM (setS (setr u 88 (drR k 80 (u 88))) 88 64 (u 88 64 - 1)) = dropV (vwM u) k := by
  rw [vwM_set _ (by decide), vwM_row]
  funext j
  unfold setV dropV drR vwM
  have n : ¬ (64 : Int) = 86 := by decide
  simp only [if_neg n]
  by_cases q : j = 64
  · rw [if_pos q, if_pos q]
  · rw [if_neg q, if_neg q]
    by_cases q2 : j = 86
    · rw [if_pos q2, if_neg (by omega), if_pos q2]
    · rw [if_neg q2, if_neg q2]
      by_cases q3 : 65 + 5 * k ≤ j ∧ j < 80
      · rw [if_pos q3, if_pos q3, if_neg (by omega)]
      · rw [if_neg q3, if_neg q3]
theorem n_drops {N : Int} {a : AS} {σ : St} (h : MR N a σ) {k : Int} (hk : inI k) : CI mdX11_drops [vr 87, vi k] σ (fun z u => z = (dropsA a k).1 ∧ MR N (dropsA a k).2 u ∧ dn σ u) := by
  refine CI_of (by decide +kernel) (Nat.le_of_ble_eq_true rfl) rfl (fun X hX => ?_)
  have e := h.n64
  refine bX11_drops_0 (by rw [e.1]; exact m_in hk ⟨by decide, by decide⟩ ⟨by omega, by omega⟩ σ) ?_
  rintro z u hz ⟨rfl, rfl⟩
  refine bX11_drops_14 hz (fun q => ?_) (fun q => bX11_drops_17 hX (by unfold dropsA; rw [if_neg (by have := bI_d0 q; omega)]; exact ⟨rfl, h, dn.rf⟩))
  have b := bI_d1 q
  have ev : dropsA a k = (a.1 64 - 1, putP (noteA a) (dropV a.1 k)) := by unfold dropsA; rw [if_pos (by omega)]
  rw [ev] at hX
  refine bX11_drops_19 (n_note h) ?_
  rintro u ⟨hu, hn⟩
  have f1 : u 88 64 = a.1 64 := hu.n64.1
  refine bX11_drops_23 ?_
  have key : G mdX11_drops X 30 [(0, vr 87), (2, vi (65 + 5 * k))] [] (setr u 88 (drR k (65 + 5 * k) (u 88))) := by
    refine loopUp (Q := fun i => G mdX11_drops X 30 [(0, vr 87), (2, vi i)] [] (setr u 88 (drR k i (u 88)))) (n := 80) ?_ (fun i h1 h2 ih => ?_) (by omega)
    · refine bX11_drops_30 (by decide) (fun _ => ?_) (fun q => by omega)
      have f2 : setr u 88 (drR k 80 (u 88)) 88 64 = u 88 64 := by rw [setr_at]; unfold drR; rw [if_neg (by omega)]
      refine bX11_drops_56 hX ?_ ?_
      · rw [wr_setr, f2]; show inI (setS _ 88 64 _ 88 64); rw [setS_at]; exact ⟨by omega, by omega⟩
      · rw [wr_setr, f2]
        show (setS _ 88 64 _ 88 64) = _ ∧ MR N _ (setS _ 88 64 _) ∧ dn σ (setS _ 88 64 _)
        rw [setS_at]
        refine ⟨by rw [f1], ?_, dn.tr hn.dn (dn.tr (dn.set (by decide)) (dn.set (by decide)))⟩
        refine hu.setP (Int.le_refl N) (fun x hx => by rw [setS_ne _ _ _ (by omega), setr_ne _ _ (by omega)]) (fun j _ => by rw [setS_ne _ _ _ (by decide), setr_ne _ _ (by decide)]) ?_ (okV_drop h.1.2 (by omega))
        rw [vw_drop u (by omega)]
        exact eqv_drop hu.1.1 (by show 0 ≤ k ∧ k < a.1 64; omega) (by show a.1 33 ≤ 6; have := h.n33; omega) (by show a.1 64 ≤ 4; omega)
    · have ev : setr u 88 (drR k i (u 88)) 88 (i + 5) = u 88 (i + 5) := by rw [setr_at]; unfold drR; rw [if_neg (by omega)]
      refine bX11_drops_30 ⟨by omega, by omega⟩ (fun q => by omega) (fun _ => bX11_drops_36 ⟨by omega, by omega⟩ ?_)
      rw [ev, wr_wr]
      have ep : (fun j => if j = i then u 88 (i + 5) else drR k i (u 88) j) = drR k (i + 1) (u 88) := by
        funext j
        unfold drR
        by_cases q : j = i
        · rw [if_pos q, if_pos (by omega), q]
        · rw [if_neg q]
          by_cases q2 : 65 + 5 * k ≤ j ∧ j < i
          · rw [if_pos q2, if_pos (by omega)]
          · rw [if_neg q2, if_neg (by omega)]
      rw [ep]
      exact ih
  have e0 : drR k (65 + 5 * k) (u 88) = u 88 := by
    funext j
    unfold drR
    rw [if_neg (by omega)]
  rw [e0, setr_id] at key
  exact key
theorem vwM_loss (u : St) (y : Int) : vwM (setS u 87 1 y) = setV (vwM u) 86 y := by
  funext j
  unfold vwM setV
  rw [setS_ne _ _ _ (show (88 : Nat) ≠ 87 by decide), setS_at]
  by_cases q : j = 86
  · simp only [if_pos q]
  · simp only [if_neg q]
theorem n_hears {N : Int} (hN : N < 1000000) {a : AS} {σ : St} (h : MR N a σ) : CI mdX11_hears [vr 87] σ (fun z u => z = (hearsA a).1 ∧ MR (N + 1) (hearsA a).2 u ∧ dn σ u) := by
  refine CI_of (by decide +kernel) (Nat.le_of_ble_eq_true rfl) rfl (fun X hX => ?_)
  refine bX11_hears_0 (n_wrongReceived h) ?_
  rintro z u hz ⟨rfl, hu, hF⟩
  refine bX11_hears_4 (n_note hu) ?_
  rintro u1 ⟨hu1, hn1⟩
  have he := errF_bd (rcvV a.1 (a.1 64)) a.1
  have hl : lossOK (a.1 86) := h.1.2.2.2.2.2.2.2.2
  have e86 : u1 87 1 = a.1 86 := hu1.1.1.2.2.2.2.2.symm
  have e85 : u1 88 85 = a.1 85 := hu1.1.1.2.2.2.2.1.symm
  have b85 := h.1.2.2.2.2.2.2.2.1
  have ew : (wr u1 88 85 (u1 88 85 + 1)) 87 1 = a.1 86 := by rw [wr_setr, setr_ne _ _ (by decide)]; exact e86
  obtain ⟨l1, l2, l3, l4⟩ := loss_n hl he
  refine bX11_hears_9 (by rw [ew]; exact l1) l2 (by rw [ew]; exact l3) hX hz ⟨rfl, ?_, ?_⟩
  · rw [ew, e85]
    show MR (N + 1) (putP (noteA a) (hearV a.1 (errF (rcvV a.1 (a.1 64)) a.1))) (wr (wr u1 88 85 (a.1 85 + 1)) 87 1 (lossN (a.1 86) (errF (rcvV a.1 (a.1 64)) a.1)))
    generalize errF (rcvV a.1 (a.1 64)) a.1 = x at *
    have eu : wr (wr u1 88 85 (a.1 85 + 1)) 87 1 (lossN (a.1 86) x) = setS (setS u1 88 85 (a.1 85 + 1)) 87 1 (lossN (a.1 86) x) := by rw [wr_setr, wr_setr]; rfl
    rw [eu]
    refine hu1.setP (by omega) (fun y hy => by rw [setS_ne _ _ _ (by omega), setS_ne _ _ _ (by omega)]) (fun j hj => by rw [setS_at2 _ _ _ hj, setS_ne _ _ _ (by decide)]) ?_ ?_
    · rw [vwM_loss, vwM_set _ (by decide)]
      exact eqv_set (eqv_set hu1.1.1 (by decide) (by decide)) (by decide) (by decide)
    · obtain ⟨g1, g2, g3, g4, g5, g6, g7, g8⟩ := id h.1.2
      have ne : ∀ j, j < 85 → hearV a.1 x j = a.1 j := fun j hj => by unfold hearV; rw [setV_ne _ _ (by omega), setV_ne _ _ (by omega)]
      refine h.1.2.alt (fun i c d => by rw [ne _ (by omega)]; exact g1 i c d) (by rw [ne _ (by decide)]; exact g2) (by rw [ne _ (by decide)]; omega) (fun j c d => ne _ (by rw [ne _ (by decide)] at d; omega)) (by rw [ne _ (by decide)]; omega) (fun j c d => ne _ (by rw [ne _ (by decide)] at d; omega)) ?_ ?_
      · unfold hearV; rw [setV_ne _ _ (by decide), setV_at]; omega
      · unfold hearV; rw [setV_at]; exact l4
  · rw [wr_setr, wr_setr]
    exact dn.tr (dn.wf hF) (dn.tr hn1.dn (dn.tr (dn.set (by decide)) (dn.set (by decide))))
