/-! the model: deeds, stages, what is received -/
theorem Wf.e88 {σ u : St} (h : Wf σ u) : u 88 = σ 88 := h 88 (by decide) (by decide)
theorem m_doDeed (σ : St) (hg : good (σ 96)) {k : Int} (hk : 0 ≤ k ∧ k < 6) (ok : okA (lnV (σ 88)) k) : CV mdX11_doDeed [vr 87, vi (34 + 5 * k)] σ (fun u => u 96 = dF (lnV (σ 88)) k (σ 96) ∧ Wf σ u) := by
  refine CV_of (by decide +kernel) (Nat.le_of_ble_eq_true rfl) rfl (fun X hX => ?_)
  have e0 : σ 88 (34 + 5 * k) = lnV (σ 88) (k * 5) := by unfold lnV; congr 1; omega
  have e1 : σ 88 (34 + 5 * k + 1) = lnV (σ 88) (k * 5 + 1) := by unfold lnV; congr 1; omega
  have e2 : σ 88 (34 + 5 * k + 2) = lnV (σ 88) (k * 5 + 2) := by unfold lnV; congr 1; omega
  have e3 : σ 88 (34 + 5 * k + 3) = lnV (σ 88) (k * 5 + 3) := by unfold lnV; congr 1; omega
  have e4 : σ 88 (34 + 5 * k + 4) = lnV (σ 88) (k * 5 + 4) := by unfold lnV; congr 1; omega
  unfold okA at ok
  have hd : dF (lnV (σ 88)) k (σ 96) = deedF (lnV (σ 88) (k * 5)) (lnV (σ 88) (k * 5 + 1)) (lnV (σ 88) (k * 5 + 2)) (lnV (σ 88) (k * 5 + 3)) (lnV (σ 88) (k * 5 + 4)) (σ 96) := rfl
  rw [hd] at hX
  generalize lnV (σ 88) (k * 5) = x0 at *
  generalize lnV (σ 88) (k * 5 + 1) = x1 at *
  generalize lnV (σ 88) (k * 5 + 2) = x2 at *
  generalize lnV (σ 88) (k * 5 + 3) = x3 at *
  generalize lnV (σ 88) (k * 5 + 4) = x4 at *
  obtain ⟨b0, b1, b2, b3, b4⟩ := okD_bd ok
  refine bX11_doDeed_0 ⟨by omega, by omega, by omega, by rw [e0]; exact ⟨by omega, by omega⟩⟩ (fun q => ?_) (fun q => ?_) (fun q => ?_) (fun q => ?_) (fun q => ?_)
  · rw [e0] at q
    rw [e1]
    refine bX11_doDeed_56 (m_spread σ hg.1 b1) ?_
    rintro u ⟨h1, h2⟩
    refine bX11_doDeed_61 (bX11_doDeed_140 hX ⟨?_, h2⟩)
    rw [h1]; unfold deedF; rw [if_pos q]
  · rw [e0] at q
    rw [e1, e2]
    refine bX11_doDeed_64 (by rw [e3, e4]; exact m_twist σ hg.1 b1 b2 b3 b4) ⟨by omega, by omega⟩ ?_
    rintro u ⟨h1, h2⟩
    refine bX11_doDeed_86 (bX11_doDeed_140 hX ⟨?_, h2⟩)
    rw [h1]; unfold deedF; rw [if_neg (by omega), if_pos q]
  · rw [e0] at q
    rw [e1, e2]
    have hb : (0 ≤ x1 ∧ x1 ≤ 15) ∧ (0 ≤ x2 ∧ x2 ≤ 3) := by
      rcases ok with ⟨g, _⟩ | ⟨g, _⟩ | ⟨g, g2, g3, _⟩ | ⟨g, _⟩ | ⟨g, _⟩
      · omega
      · omega
      · exact ⟨g2, by omega⟩
      · omega
      · omega
    refine bX11_doDeed_89 (m_slip σ hg.1 hb.1 hb.2) ?_
    rintro u ⟨h1, h2⟩
    refine bX11_doDeed_95 (bX11_doDeed_140 hX ⟨?_, h2⟩)
    rw [h1]; unfold deedF; rw [if_neg (by omega), if_neg (by omega), if_pos q]
  · rw [e0] at q
    rw [e1]
    have hb : 0 ≤ x1 ∧ x1 ≤ 16 := by
      rcases ok with ⟨g, _⟩ | ⟨g, _⟩ | ⟨g, _⟩ | ⟨g, g2, _⟩ | ⟨g, _⟩
      · omega
      · omega
      · omega
      · omega
      · omega
    refine bX11_doDeed_98 (m_late σ hb) ?_
    rintro u ⟨h1, h2⟩
    refine bX11_doDeed_103 (bX11_doDeed_140 hX ⟨?_, h2⟩)
    rw [h1]; unfold deedF; rw [if_neg (by omega), if_neg (by omega), if_neg (by omega), if_pos q]
  · rw [e0] at q
    rw [e1, e2]
    have hb : (0 ≤ x1 ∧ x1 ≤ 1) ∧ (0 ≤ x2 ∧ x2 ≤ 15) ∧ (1 ≤ x3 ∧ x3 ≤ 96) := by
      rcases ok with ⟨g, _⟩ | ⟨g, _⟩ | ⟨g, _⟩ | ⟨g, _⟩ | ⟨g, g2, g3, g4, _⟩
      · omega
      · omega
      · omega
      · omega
      · exact ⟨g2, g3, g4⟩
    have hr := hg.1 (16 * x1 + x2) (by omega) (by omega)
    refine bX11_doDeed_106 ⟨by omega, by omega, by rw [e3]; omega⟩ ?_
    rw [e3, wr_setr]
    refine bX11_doDeed_140 hX ⟨?_, Wf.s96⟩
    rw [setr_at]
    unfold deedF
    rw [if_neg (by omega), if_neg (by omega), if_neg (by omega), if_neg (by omega)]
    funext j
    unfold hitF
    rw [show x1 * 16 + x2 = 16 * x1 + x2 by omega]
    by_cases c : j = 16 * x1 + x2
    · rw [if_pos c, if_pos c, c]
    · rw [if_neg c, if_neg c]
def MsOK (σ : St) : Prop := (∀ i, 0 ≤ i → i < 32 → 0 ≤ σ 88 i ∧ σ 88 i ≤ 3) ∧ (0 ≤ σ 88 32 ∧ σ 88 32 < 65536)
theorem m_doStage (σ : St) (hg : good (σ 96)) (hs : MsOK σ) {k : Int} (hk : 0 ≤ k ∧ k < 4) (ok : okB (chV (σ 88)) k) : CV mdX11_doStage [vr 87, vi (65 + 5 * k)] σ (fun u => u 96 = sF (σ 88 32) (σ 88) (chV (σ 88)) k (σ 96) ∧ Wf σ u) := by
  refine CV_of (by decide +kernel) (Nat.le_of_ble_eq_true rfl) rfl (fun X hX => ?_)
  have e0 : σ 88 (65 + 5 * k) = chV (σ 88) (k * 5) := by unfold chV; congr 1; omega
  have e1 : σ 88 (65 + 5 * k + 1) = chV (σ 88) (k * 5 + 1) := by unfold chV; congr 1; omega
  have e2 : σ 88 (65 + 5 * k + 2) = chV (σ 88) (k * 5 + 2) := by unfold chV; congr 1; omega
  have e3 : σ 88 (65 + 5 * k + 3) = chV (σ 88) (k * 5 + 3) := by unfold chV; congr 1; omega
  have e4 : σ 88 (65 + 5 * k + 4) = chV (σ 88) (k * 5 + 4) := by unfold chV; congr 1; omega
  unfold okB at ok
  have hd : sF (σ 88 32) (σ 88) (chV (σ 88)) k (σ 96) = stageF (σ 88 32) (σ 88) (chV (σ 88) (k * 5)) (chV (σ 88) (k * 5 + 1)) (chV (σ 88) (k * 5 + 2)) (chV (σ 88) (k * 5 + 3)) (chV (σ 88) (k * 5 + 4)) (σ 96) := rfl
  rw [hd] at hX
  generalize chV (σ 88) (k * 5) = x0 at *
  generalize chV (σ 88) (k * 5 + 1) = x1 at *
  generalize chV (σ 88) (k * 5 + 2) = x2 at *
  generalize chV (σ 88) (k * 5 + 3) = x3 at *
  generalize chV (σ 88) (k * 5 + 4) = x4 at *
  obtain ⟨b0, b1, b2, b3, b4⟩ := okS_bd ok
  refine bX11_doStage_0 ⟨by omega, by rw [e0]; exact ⟨by omega, by omega⟩⟩ (fun q => ?_) (fun q => ?_) (fun q => ?_) (fun q => ?_) (fun q => ?_)
  · rw [e0] at q
    have hb : 1 ≤ x1 ∧ x1 ≤ 96 := by
      rcases ok with ⟨g, g2, _⟩ | ⟨g, _⟩ | ⟨g, _⟩ | ⟨g, _⟩
      · exact g2
      · omega
      · omega
      · omega
    refine bX11_doStage_36 (by rw [e1]; exact m_unspread σ hg.1 hb) (by omega) ?_
    rintro u ⟨h1, h2⟩
    refine bX11_doStage_48 (bX11_doStage_119 hX ⟨?_, h2⟩)
    rw [h1]; unfold stageF; rw [if_pos q]
  · rw [e0] at q
    refine bX11_doStage_51 (by rw [e1, e2, e3, e4]; exact m_untwist σ hg.1 b1 b2 b3 b4) ⟨by omega, by omega, by omega, by omega⟩ ?_
    rintro u ⟨h1, h2⟩
    refine bX11_doStage_87 (bX11_doStage_119 hX ⟨?_, h2⟩)
    rw [h1]; unfold stageF; rw [if_neg (by omega), if_pos q]
  · rw [e0] at q
    have hb : 1 ≤ x1 ∧ x1 ≤ 15 := by
      rcases ok with ⟨g, _⟩ | ⟨g, _⟩ | ⟨g, g2, _⟩ | ⟨g, _⟩
      · omega
      · omega
      · exact g2
      · omega
    refine bX11_doStage_90 (by rw [e1]; exact m_late σ ⟨by omega, by omega⟩) (by omega) ?_
    rintro u ⟨h1, h2⟩
    refine bX11_doStage_105 (bX11_doStage_119 hX ⟨?_, h2⟩)
    rw [h1]; unfold stageF; rw [if_neg (by omega), if_neg (by omega), if_pos q]
  · rw [e0] at q
    refine bX11_doStage_108 (m_blind σ hg.1) ?_
    rintro u ⟨h1, h2⟩
    refine bX11_doStage_112 (bX11_doStage_119 hX ⟨?_, h2⟩)
    rw [h1]; unfold stageF; rw [if_neg (by omega), if_neg (by omega), if_neg (by omega), if_pos q]
  · rw [e0] at q
    refine bX11_doStage_115 (m_mend σ hg.1 hs.1 hs.2) ?_
    rintro u ⟨h1, h2⟩
    refine bX11_doStage_119 hX ⟨?_, h2⟩
    rw [h1]; unfold stageF; rw [if_neg (by omega), if_neg (by omega), if_neg (by omega), if_neg (by omega)]
theorem m_goThrough (σ : St) (hg : good (σ 96)) (hs : MsOK σ) {n : Int} (hn : 0 ≤ n ∧ n ≤ 4) (hok : ∀ j, 0 ≤ j → j < n → okB (chV (σ 88)) j) : CV mdX11_goThrough [vr 87, vi n] σ (fun u => u 96 = chainF (σ 88 32) (σ 88) (chV (σ 88)) n.toNat (σ 96) ∧ Wf σ u) := by
  refine CV_of (by decide +kernel) (Nat.le_of_ble_eq_true rfl) rfl (fun X hX => ?_)
  refine bX11_goThrough_0 ?_
  have key : ∀ u : St, u 96 = chainF (σ 88 32) (σ 88) (chV (σ 88)) (0 : Int).toNat (σ 96) → Wf σ u → G mdX11_goThrough X 2 [(0, vr 87), (1, vi n), (2, vi 0)] [] u := by
    refine loopUp (Q := fun k => ∀ u : St, u 96 = chainF (σ 88 32) (σ 88) (chV (σ 88)) k.toNat (σ 96) → Wf σ u → G mdX11_goThrough X 2 [(0, vr 87), (1, vi n), (2, vi k)] [] u) (n := n) ?_ (fun k h1 h2 ih => ?_) hn.1
    · intro u hu hW
      exact bX11_goThrough_2 ⟨⟨by omega, by omega⟩, ⟨by omega, by omega⟩⟩ (fun _ => bX11_goThrough_23 hX ⟨hu, hW⟩) (fun q => by omega)
    · intro u hu hW
      have e := hW.e88
      refine bX11_goThrough_2 ⟨⟨by omega, by omega⟩, ⟨by omega, by omega⟩⟩ (fun q => by omega) (fun _ => ?_)
      refine bX11_goThrough_7 (m_doStage u (by rw [hu]; exact good_chain hg _) (by unfold MsOK; rw [e]; exact hs) ⟨h1, by omega⟩ (by rw [e]; exact hok k h1 h2)) ?_
      rintro u2 ⟨h3, h4⟩
      refine bX11_goThrough_17 (ih u2 ?_ (hW.tr h4))
      rw [h3, chainF_step _ _ _ h1, hu, e]
  exact key σ rfl Wf.rf
theorem m_layAir (σ : St) (hz : zo 32 (σ 96)) (hs : MsOK σ) (hn : 0 ≤ σ 88 33 ∧ σ 88 33 ≤ 6) (hok : ∀ j, 0 ≤ j → j < σ 88 33 → okA (lnV (σ 88)) j) : CV mdX11_layAir [vr 87] σ (fun u => u 96 = airV (σ 88) ∧ Wf σ u) := by
  refine CV_of (by decide +kernel) (Nat.le_of_ble_eq_true rfl) rfl (fun X hX => ?_)
  refine bX11_layAir_0 ?_
  have second : ∀ u : St, u 96 = lineF (lnV (σ 88)) (0 : Int).toNat (shineF (σ 88)) → Wf σ u → G mdX11_layAir X 31 [(0, vr 87), (1, vi 0)] [] u := by
    refine loopUp (Q := fun k => ∀ u : St, u 96 = lineF (lnV (σ 88)) k.toNat (shineF (σ 88)) → Wf σ u → G mdX11_layAir X 31 [(0, vr 87), (1, vi k)] [] u) (n := σ 88 33) ?_ (fun k h1 h2 ih => ?_) hn.1
    · intro u hu hW
      have e := hW.e88
      exact bX11_layAir_31 ⟨⟨by omega, by omega⟩, by rw [e]; exact ⟨by omega, by omega⟩⟩ (fun _ => bX11_layAir_58 hX ⟨hu, hW⟩) (fun q => by rw [e] at q; omega)
    · intro u hu hW
      have e := hW.e88
      refine bX11_layAir_31 ⟨⟨by omega, by omega⟩, by rw [e]; exact ⟨by omega, by omega⟩⟩ (fun q => by rw [e] at q; omega) (fun _ => ?_)
      refine bX11_layAir_42 (m_doDeed u (by rw [hu]; exact good_line (good_shine _) _ (fun j a b => hok j a (by omega))) ⟨h1, by omega⟩ (by rw [e]; exact hok k h1 h2)) ?_
      rintro u2 ⟨h3, h4⟩
      refine bX11_layAir_52 (ih u2 ?_ (hW.tr h4))
      rw [h3, lineF_step _ h1, hu, e]
  have key : G mdX11_layAir X 2 [(0, vr 87), (1, vi 0)] [] (setr σ 96 (win 0 (fun i => lgt (σ 88 i)) (σ 96))) := by
    refine loopUp (Q := fun i => G mdX11_layAir X 2 [(0, vr 87), (1, vi i)] [] (setr σ 96 (win i (fun i => lgt (σ 88 i)) (σ 96)))) (n := 32) ?_ (fun i h1 h2 ih => ?_) (by decide)
    · refine bX11_layAir_2 (by decide) (fun _ => bX11_layAir_29 (second _ ?_ Wf.s96)) (fun q => by omega)
      rw [setr_at]
      show _ = shineF (σ 88)
      funext j
      unfold win shineF
      split
      · rfl
      · next h => exact hz j h
    · have e : setr σ 96 (win i (fun i => lgt (σ 88 i)) (σ 96)) 88 = σ 88 := setr_ne _ _ (by decide)
      have h3 := hs.1 i h1 h2
      refine bX11_layAir_2 ⟨by omega, by omega⟩ (fun q => by omega) (fun _ => ?_)
      refine bX11_layAir_8 (by rw [e]; exact m_light ⟨by omega, by omega⟩ _) ⟨by omega, by omega⟩ ?_
      rintro z u hz ⟨rfl, rfl⟩
      refine bX11_layAir_22 ⟨h1, h2⟩ ?_
      rw [wr_win σ _ _ _ h1 rfl]
      exact ih
  rw [win_0, setr_id] at key
  exact key
