/-! the model: blind, deeds -/
theorem m_isLight {v : Int} (hv : c97 v) (σ : St) : CIe mdX11_isLight [vi v] σ (bI (isL v)) σ := by
  refine CI_of (by decide +kernel) (Nat.le_of_ble_eq_true rfl) rfl (fun X hX => ?_)
  unfold c97 at hv
  have hin : inI v := ⟨by omega, by omega⟩
  have yes : isL v = true → G mdX11_isLight X 23 [] [] σ := fun g => bX11_isLight_23 (bX11_isLight_28 hX (Or.inr rfl) ⟨by rw [g]; rfl, rfl⟩)
  refine bX11_isLight_0 hin (fun q => yes (by subst q; rfl)) (fun q1 => ?_)
  refine bX11_isLight_5 hin (fun q => yes (by subst q; rfl)) (fun q2 => ?_)
  refine bX11_isLight_11 hin (fun q => yes (by subst q; rfl)) (fun q3 => ?_)
  refine bX11_isLight_17 hin (fun q4 => ?_) (fun q => yes (by subst q; rfl))
  have e : isL v = false := by unfold isL; simp [q1, q2, q3, q4]
  exact bX11_isLight_27 (bX11_isLight_28 hX (Or.inl rfl) ⟨by rw [e]; rfl, rfl⟩)
theorem cntL_bd (f : Row) (g : Int) : 0 ≤ cntL f g ∧ cntL f g ≤ 32 := by
  have h := cnt_bd (fun k => isL (g * f k % 97)) 32
  exact ⟨h.1, h.2⟩
theorem m_blind (σ : St) (hr : r97 32 (σ 96)) : CV mdX11_blind [vr 87] σ (fun u => u 96 = mulF (bestG (σ 96)) (σ 96) ∧ Wf σ u) := by
  refine CV_of (by decide +kernel) (Nat.le_of_ble_eq_true rfl) rfl (fun X hX => ?_)
  refine bX11_blind_0 ?_
  have hbest := amx_bd (cntL (σ 96)) 95
  -- the rest: all multiplied
  have rest : G mdX11_blind X 90 [(0, vr 87), (1, vi (bestG (σ 96)))] [] σ := by
    have hb : 1 ≤ bestG (σ 96) ∧ bestG (σ 96) ≤ 96 := by unfold bestG; omega
    refine bX11_blind_90 ?_
    have key : G mdX11_blind X 92 [(0, vr 87), (1, vi (bestG (σ 96))), (3, vi 0)] [] (setr σ 96 (win 0 (mulF (bestG (σ 96)) (σ 96)) (σ 96))) := by
      refine loopUp (Q := fun i => G mdX11_blind X 92 [(0, vr 87), (1, vi (bestG (σ 96))), (3, vi i)] [] (setr σ 96 (win i (mulF (bestG (σ 96)) (σ 96)) (σ 96)))) (n := 32) ?_ (fun i h1 h2 ih => ?_) (by decide)
      · refine bX11_blind_92 (by decide) (fun _ => bX11_blind_121 hX ⟨?_, Wf.s96⟩) (fun q => by omega)
        rw [setr_at]
        funext j
        unfold win
        by_cases q : 0 ≤ j ∧ j < 32
        · rw [if_pos q]
        · rw [if_neg q]; unfold mulF; rw [if_neg q]
      · have e1 : setr σ 96 (win i (mulF (bestG (σ 96)) (σ 96)) (σ 96)) 96 i = σ 96 i := by rw [setr_at, win_out (by omega)]
        have r1 := hr i h1 h2
        have hm := mul_bd (show 0 ≤ bestG (σ 96) by omega) hb.2 r1.1 r1.2
        refine bX11_blind_92 ⟨by omega, by omega⟩ (fun q => by omega) (fun _ => bX11_blind_98 ⟨⟨h1, h2⟩, by rw [e1]; omega⟩ ?_)
        rw [e1, wr_win σ _ _ _ h1 (by unfold mulF; rw [if_pos ⟨h1, h2⟩, Int.mul_comm])]
        exact ih
    rw [win_0, setr_id] at key
    exact key
  -- one factor counted
  have count : ∀ (g b m : Int), 1 ≤ g → g ≤ 96 → (G mdX11_blind X 59 [(0, vr 87), (1, vi b), (2, vi m), (3, vi g), (4, vi (cntL (σ 96) g))] [] σ) → G mdX11_blind X 12 [(0, vr 87), (1, vi b), (2, vi m), (3, vi g)] [] σ := by
    intro g b m g1 g2 k
    refine bX11_blind_12 ?_
    refine loopUp (Q := fun i => G mdX11_blind X 18 [(0, vr 87), (1, vi b), (2, vi m), (3, vi g), (4, vi (cnt (fun k => isL (g * σ 96 k % 97)) i.toNat)), (5, vi i)] [] σ) (a := 0) (n := 32) ?_ (fun i h1 h2 ih => ?_) (by decide)
    · exact bX11_blind_18 (by decide) (fun _ => k) (fun q => by omega)
    · have r1 := hr i h1 h2
      have hm := mul_bd (show 0 ≤ g by omega) g2 r1.1 r1.2
      rw [cnt_step _ h1] at ih
      refine bX11_blind_18 ⟨by omega, by omega⟩ (fun q => by omega) (fun _ => ?_)
      refine bX11_blind_25 (m_isLight (md97 _) σ) ⟨⟨h1, h2⟩, ⟨hm.1, by omega⟩⟩ ?_
      rintro z u hz ⟨rfl, rfl⟩
      refine bX11_blind_42 hz (fun q => ?_) (fun q => ?_)
      · rw [bI_0.mp q] at ih
        exact bX11_blind_49 (bX11_blind_50 ih)
      · rw [bI_1.mp q] at ih
        exact bX11_blind_45 (bX11_blind_50 ih)
  have turn : ∀ (d n : Nat), n + d = 95 → G mdX11_blind X 6 [(0, vr 87), (1, vi (amx (cntL (σ 96)) n)), (2, vi (cntL (σ 96) (amx (cntL (σ 96)) n))), (3, vi ((n : Int) + 2))] [] σ := by
    intro d
    induction d with
    | zero =>
      intro n hn
      obtain rfl : n = 95 := by omega
      exact bX11_blind_6 (by decide) (fun _ => rest) (fun q => absurd q (by decide))
    | succ d ih =>
      intro n hn
      have c1 := cntL_bd (σ 96) (amx (cntL (σ 96)) n)
      have c2 := cntL_bd (σ 96) ((n : Int) + 2)
      have nx := ih (n + 1) (by omega)
      have es : amx (cntL (σ 96)) (n + 1) = if cntL (σ 96) (amx (cntL (σ 96)) n) < cntL (σ 96) ((n : Int) + 2) then (n : Int) + 2 else amx (cntL (σ 96)) n := rfl
      rw [es, show ((n + 1 : Nat) : Int) + 2 = (n : Int) + 2 + 1 by push_cast; omega] at nx
      refine bX11_blind_6 ⟨by omega, by omega⟩ (fun q => by omega) (fun _ => count _ _ _ (by omega) (by omega) ?_)
      refine bX11_blind_59 ⟨⟨by omega, by omega⟩, ⟨by omega, by omega⟩⟩ (fun q => ?_) (fun q => ?_)
      · rw [if_neg (by omega)] at nx
        refine bX11_blind_69 (bX11_blind_70 ⟨⟨by omega, by omega⟩, ⟨by omega, by omega⟩⟩ (fun _ => ?_) (fun q2 => by omega))
        exact bX11_blind_82 (bX11_blind_83 nx)
      · rw [if_pos q] at nx
        refine bX11_blind_65 (bX11_blind_70 ⟨⟨by omega, by omega⟩, ⟨by omega, by omega⟩⟩ (fun q2 => by omega) (fun _ => ?_))
        exact bX11_blind_77 (bX11_blind_83 nx)
  have c1 := cntL_bd (σ 96) 1
  refine bX11_blind_6 (by decide) (fun q => absurd q (by decide)) (fun _ => count 1 1 (-1) (by decide) (by decide) ?_)
  refine bX11_blind_59 ⟨⟨by omega, by omega⟩, ⟨by omega, by omega⟩⟩ (fun q => by omega) (fun q => ?_)
  refine bX11_blind_65 (bX11_blind_70 ⟨⟨by omega, by omega⟩, ⟨by omega, by omega⟩⟩ (fun q2 => by omega) (fun _ => ?_))
  exact bX11_blind_77 (bX11_blind_83 (turn 95 0 rfl))
