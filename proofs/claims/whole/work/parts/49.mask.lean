/-! what is asked of the model: deed, stage, loss, lag, at, count -/
theorem n_deed {N : Int} {a : AS} {σ : St} (h : MR N a σ) {k w : Int} (hk : inI k) (hw : inI w) : CI mdX11_deed [vr 87, vi k, vi w] σ (fun z u => z = numV (a.1 33) (lnV a.1) k w ∧ MR N a u ∧ dn σ u) := by
  refine CI_of (by decide +kernel) (Nat.le_of_ble_eq_true rfl) rfl (fun X hX => ?_)
  have e := h.n33
  have hi := okA_inI h.1.2.2.2.2.1
  have no : ¬ ((0 ≤ k ∧ k < a.1 33) ∧ (0 ≤ w ∧ w < 5)) → G mdX11_deed X 42 [] [] σ := fun g => bX11_deed_42 (bX11_deed_43 hX ⟨by decide, by decide⟩ ⟨by unfold numV; rw [if_neg g], h, dn.rf⟩)
  refine bX11_deed_0 (by rw [e.1]; exact m_in hk ⟨by decide, by decide⟩ ⟨by omega, by omega⟩ σ) ?_
  rintro z u hz ⟨rfl, rfl⟩
  refine bX11_deed_14 hz (fun q => no (by have := bI_d0 q; omega)) (fun q => ?_)
  have h1 := bI_d1 q
  refine bX11_deed_17 (m_in hw ⟨by decide, by decide⟩ ⟨by decide, by decide⟩ _) ?_
  rintro z u hz ⟨rfl, rfl⟩
  refine bX11_deed_23 hz (fun q => no (by have := bI_d0 q; omega)) (fun q => ?_)
  have h2 := bI_d1 q
  have ev : σ 88 ((34 + (5 * k)) + w) = lnV a.1 (k * 5 + w) := by
    rw [h.ln _ (by omega) (by omega)]
    unfold lnV
    congr 1; omega
  refine bX11_deed_26 (by omega) ?_
  rw [ev]
  refine bX11_deed_43 hX (hi _ (by omega) (by omega)) ⟨?_, h, dn.rf⟩
  unfold numV
  rw [if_pos (by omega)]
theorem n_stage {N : Int} {a : AS} {σ : St} (h : MR N a σ) {k w : Int} (hk : inI k) (hw : inI w) : CI mdX11_stage [vr 87, vi k, vi w] σ (fun z u => z = numV (a.1 64) (chV a.1) k w ∧ MR N a u ∧ dn σ u) := by
  refine CI_of (by decide +kernel) (Nat.le_of_ble_eq_true rfl) rfl (fun X hX => ?_)
  have e := h.n64
  have hi := okB_inI h.1.2.2.2.2.2.2.1
  have no : ¬ ((0 ≤ k ∧ k < a.1 64) ∧ (0 ≤ w ∧ w < 5)) → G mdX11_stage X 42 [] [] σ := fun g => bX11_stage_42 (bX11_stage_43 hX ⟨by decide, by decide⟩ ⟨by unfold numV; rw [if_neg g], h, dn.rf⟩)
  refine bX11_stage_0 (by rw [e.1]; exact m_in hk ⟨by decide, by decide⟩ ⟨by omega, by omega⟩ σ) ?_
  rintro z u hz ⟨rfl, rfl⟩
  refine bX11_stage_14 hz (fun q => no (by have := bI_d0 q; omega)) (fun q => ?_)
  have h1 := bI_d1 q
  refine bX11_stage_17 (m_in hw ⟨by decide, by decide⟩ ⟨by decide, by decide⟩ _) ?_
  rintro z u hz ⟨rfl, rfl⟩
  refine bX11_stage_23 hz (fun q => no (by have := bI_d0 q; omega)) (fun q => ?_)
  have h2 := bI_d1 q
  have ev : σ 88 ((65 + (5 * k)) + w) = chV a.1 (k * 5 + w) := by
    rw [h.ch _ (by omega) (by omega)]
    unfold chV
    congr 1; omega
  refine bX11_stage_26 (by omega) ?_
  rw [ev]
  refine bX11_stage_43 hX (hi _ (by omega) (by omega)) ⟨?_, h, dn.rf⟩
  unfold numV
  rw [if_pos (by omega)]
theorem n_loss {N : Int} {a : AS} {σ : St} (h : MR N a σ) : CI mdX11_loss [vr 87] σ (fun z u => z = lossV (a.1 86) ∧ MR N a u ∧ dn σ u) := by
  refine CI_of (by decide +kernel) (Nat.le_of_ble_eq_true rfl) rfl (fun X hX => ?_)
  have e : σ 87 1 = a.1 86 := h.1.1.2.2.2.2.2.symm
  have hl := h.1.2.2.2.2.2.2.2.2
  exact bX11_loss_0 (by rw [e]; exact loss_v hl) hX (inI_of _) ⟨by rw [e]; rfl, h, dn.rf⟩
theorem n_lag {N : Int} {a : AS} {σ : St} (h : MR N a σ) {p : Int} (hp : inI p) : CI mdX11_lag [vr 87, vi p] σ (fun z u => z = lagV a.1 p ∧ MR N a u ∧ dn σ u) := by
  refine CI_of (by decide +kernel) (Nat.le_of_ble_eq_true rfl) rfl (fun X hX => ?_)
  refine bX11_lag_0 (m_in hp ⟨by decide, by decide⟩ ⟨by decide, by decide⟩ σ) ?_
  rintro z u hz ⟨rfl, rfl⟩
  refine bX11_lag_7 hz (fun q => ?_) (fun q => bX11_lag_10 hX ⟨by have := bI_d0 q; unfold lagV; rw [if_neg (by omega)], h, dn.rf⟩)
  have hq := bI_d1 q
  refine bX11_lag_12 ?_
  have ev : lagV a.1 p = lagL (a.1 32) p 16 0 := by unfold lagV; rw [if_pos (by omega)]
  have key : ∀ (n : Nat) (k : Int), 0 ≤ k → k + n = 16 → lagL (a.1 32) p n k = lagV a.1 p → G mdX11_lag X 14 [(0, vr 87), (1, vi p), (2, vi k)] [] σ := by
    intro n
    induction n with
    | zero =>
      intro k h0 h1 h2
      exact bX11_lag_14 ⟨by omega, by omega⟩ (fun q => bX11_lag_45 hX ⟨by omega, by omega⟩ ⟨h2, h, dn.rf⟩) (fun q => by omega)
    | succ n ih =>
      intro k h0 h1 h2
      have e : lagL (a.1 32) p (n + 1) k = if mk (a.1 32) ((p + k) % 16) then k else lagL (a.1 32) p n (k + 1) := rfl
      rw [e] at h2
      refine bX11_lag_14 ⟨by omega, by omega⟩ (fun q => by omega) (fun _ => ?_)
      refine bX11_lag_20 (m_has h.ok.2 (by omega) σ) ⟨by omega, by omega⟩ ?_
      rw [h.m]
      rintro z u hz ⟨rfl, rfl⟩
      refine bX11_lag_36 hz (fun q1 => ?_) (fun q1 => ?_)
      · rw [if_pos (bI_1.mp q1)] at h2
        exact bX11_lag_45 hX ⟨by omega, by omega⟩ ⟨h2, h, dn.rf⟩
      · rw [bI_0.mp q1] at h2
        exact bX11_lag_39 (ih (k + 1) (by omega) (by omega) h2)
  exact key 16 0 (by decide) (by decide) ev.symm
theorem n_recv {N : Int} {a : AS} {σ : St} (h : MR N a σ) : CV mdX11_layReceived [vr 87] σ (fun u => u 96 = rcvV a.1 (a.1 64) ∧ MR N a u ∧ Wf σ u) := by
  refine CV_of (by decide +kernel) (Nat.le_of_ble_eq_true rfl) rfl (fun X hX => ?_)
  refine bX11_layReceived_0 (n_air h) ?_
  rintro u ⟨h1, h2, h3⟩
  have e := h2.n64
  refine bX11_layReceived_4 (by rw [e.1]; exact n_go h2 (good_airV h.1.2) h1 ⟨e.2.1, Int.le_refl _⟩) ?_
  rintro u2 ⟨h4, h5, h6⟩
  exact bX11_layReceived_15 hX ⟨h4, h5, h3.tr h6⟩
theorem n_wrongReceived {N : Int} {a : AS} {σ : St} (h : MR N a σ) : CI mdX11_wrongReceived [vr 87] σ (fun z u => z = errF (rcvV a.1 (a.1 64)) a.1 ∧ MR N a u ∧ Wf σ u) := by
  refine CI_of (by decide +kernel) (Nat.le_of_ble_eq_true rfl) rfl (fun X hX => ?_)
  refine bX11_wrongReceived_0 (n_recv h) ?_
  rintro u ⟨h1, h2, h3⟩
  refine bX11_wrongReceived_4 (n_wrongNow h2 (good_rcvV h.1.2 _) h1) ?_
  rintro z u2 hz ⟨rfl, rfl⟩
  exact bX11_wrongReceived_8 hX hz ⟨rfl, h2, h3⟩
theorem n_count {N : Int} (hN : N < 1000000) {a : AS} {σ : St} (h : MR N a σ) {w : Int} (hw : inI w) : CI mdX11_count [vr 87, vi w] σ (fun z u => z = countV a w ∧ MR N a u ∧ dn σ u) := by
  refine CI_of (by decide +kernel) (Nat.le_of_ble_eq_true rfl) rfl (fun X hX => ?_)
  obtain ⟨hP, hH, hI, hT, hS, hx⟩ := id h
  have e33 := h.n33
  have e64 := h.n64
  have e85 : σ 88 85 = a.1 85 := (hP.1.2.2.2.2.1.trans (vwM_at σ (by decide))).symm
  have b85 := hP.2.2.2.2.2.2.2.1
  have em := h.m
  have ht1 := hT.1
  have ht2 := hT.2.1
  have hs1 := hS.1
  have hs2 := hS.2.1
  have hh1 := hH.1
  have hh2 := hH.2.1
  refine bX11_count_0 hw (fun q => ?_) (fun q => ?_) (fun q => ?_) (fun q => ?_) (fun q => ?_) (fun q => ?_) (fun q => ?_) (fun q => ?_) (fun q => ?_)
  · subst q; exact bX11_count_48 hX ⟨by omega, by omega⟩ ⟨e33.1, h, dn.rf⟩
  · subst q; exact bX11_count_56 hX ⟨by omega, by omega⟩ ⟨e64.1, h, dn.rf⟩
  · subst q
    refine bX11_count_64 (m_marksMany σ h.ok.2) ?_
    rintro z u hz ⟨rfl, rfl⟩
    exact bX11_count_68 hX hz ⟨by rw [em]; rfl, h, dn.rf⟩
  · subst q
    refine bX11_count_69 (n_wrongReceived h) ?_
    rintro z u hz ⟨rfl, h2, h3⟩
    exact bX11_count_73 hX hz ⟨rfl, h2, dn.wf h3⟩
  · subst q; exact bX11_count_74 hX ⟨by omega, by omega⟩ ⟨e85, h, dn.rf⟩
  · subst q; exact bX11_count_82 hX ⟨by omega, by omega⟩ ⟨hs1, h, dn.rf⟩
  · subst q; exact bX11_count_87 hX ⟨by omega, by omega⟩ ⟨ht1, h, dn.rf⟩
  · subst q; exact bX11_count_92 hX ⟨by omega, by omega⟩ ⟨hh1, h, dn.rf⟩
  · refine bX11_count_97 hX ⟨?_, h, dn.rf⟩
    unfold countV
    rw [if_neg (by omega), if_neg (by omega), if_neg (by omega), if_neg (by omega), if_neg (by omega), if_neg (by omega), if_neg (by omega), if_neg (by omega)]
