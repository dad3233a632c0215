/-! what changes an object of the model: sees, note -/
theorem n_sees {N : Int} {a : AS} {σ : St} (h : MR N a σ) {r p s : Int} (hr : inI r) (hp : inI p) (hs : inI s) : CI mdX11_sees [vr 87, vi r, vi p, vi s] σ (fun z u => z = (seesA a r p s).1 ∧ MR N (seesA a r p s).2 u ∧ dn σ u) := by
  refine CI_of (by decide +kernel) (Nat.le_of_ble_eq_true rfl) rfl (fun X hX => ?_)
  obtain ⟨t1, t2, t3⟩ := h.2.2.2.2.1
  have bad : ¬ seeOK r p s → G mdX11_sees X 28 [] [] σ := fun g => bX11_sees_28 hX (by unfold seesA; rw [if_neg g]; exact ⟨rfl, h, dn.rf⟩)
  refine bX11_sees_0 (m_in hr ⟨by decide, by decide⟩ ⟨by decide, by decide⟩ σ) ?_
  rintro z u hz ⟨rfl, rfl⟩
  refine bX11_sees_6 hz (fun q => bad (by have := bI_d0 q; omega)) (fun q => ?_)
  have b1 := bI_d1 q
  refine bX11_sees_9 (m_in hp ⟨by decide, by decide⟩ ⟨by decide, by decide⟩ _) ?_
  rintro z u hz ⟨rfl, rfl⟩
  refine bX11_sees_16 hz (fun q => bad (by have := bI_d0 q; omega)) (fun q => ?_)
  have b2 := bI_d1 q
  refine bX11_sees_19 (m_in hs ⟨by decide, by decide⟩ ⟨by decide, by decide⟩ _) ?_
  rintro z u hz ⟨rfl, rfl⟩
  refine bX11_sees_25 hz (fun q => ?_) (fun q => bad (by have := bI_d0 q; omega))
  have b3 := bI_d1 q
  have ev : seesA a r p s = if a.2.2.2.2.1 < 6 then (a.2.2.2.2.1 + 1, setTS a a.2.2.2.1 (a.2.2.2.2.1 + 1, fun j => if j = a.2.2.2.2.1 then r * 16 + p else a.2.2.2.2.2.1 j, fun j => if j = a.2.2.2.2.1 then s else a.2.2.2.2.2.2 j)) else (-3, a) := by unfold seesA; rw [if_pos (by omega)]
  rw [ev] at hX
  refine bX11_sees_30 ⟨by omega, by omega⟩ (fun q1 => ?_) (fun q1 => ?_)
  · rw [if_pos (by omega)] at hX
    have e0 : (wr σ 103 (σ 87 27) ((16 * r) + p)) 87 27 = σ 87 27 := by rw [wr_setr, setr_ne _ _ (by decide)]
    have e1 : (wr (wr σ 103 (σ 87 27) ((16 * r) + p)) 104 (σ 87 27) s) 87 27 = σ 87 27 := by rw [wr_setr, setr_ne _ _ (by decide)]; exact e0
    have eu : wr (wr (wr σ 103 (σ 87 27) ((16 * r) + p)) 104 (σ 87 27) s) 87 27 (σ 87 27 + 1) = setS (setr (setr σ 103 (fun j => if j = σ 87 27 then r * 16 + p else σ 103 j)) 104 (fun j => if j = σ 87 27 then s else σ 104 j)) 87 27 (σ 87 27 + 1) := by
      rw [wr_setr, wr_setr, wr_setr, setr_ne _ _ (show (104 : Nat) ≠ 103 by decide), show 16 * r + p = r * 16 + p by omega]; rfl
    refine bX11_sees_42 hX ⟨by omega, by rw [e0]; omega, by rw [e0, e1, eu, setS_at]; exact ⟨by omega, by omega⟩⟩ ?_
    rw [e0, e1, eu, setS_at]
    refine ⟨by show _ = a.2.2.2.2.1 + 1; omega, h.ts (u := setS (setr (setr σ 103 (fun j => if j = σ 87 27 then r * 16 + p else σ 103 j)) 104 (fun j => if j = σ 87 27 then s else σ 104 j)) 87 27 (σ 87 27 + 1)) (fun x hx _ h103 h104 => by rw [setS_ne _ _ _ (by omega), setr_ne _ _ h104, setr_ne _ _ h103]) (by rw [setS_at2 _ _ _ (by decide), setr_ne _ _ (by decide), setr_ne _ _ (by decide)]) (by rw [setS_at2 _ _ _ (by decide), setr_ne _ _ (by decide), setr_ne _ _ (by decide)]) ?_ ?_, dn.tr (dn.set (by decide)) (dn.tr (dn.set (by decide)) (dn.set (by decide)))⟩
    · have hT := h.2.2.2.1
      unfold mT at *
      rw [setS_at2 _ _ _ (by decide), setS_ne _ _ _ (by decide), setr_ne _ _ (by decide), setr_ne _ _ (by decide), setr_ne _ _ (by decide), setr_ne _ _ (by decide)]
      exact hT
    · refine ⟨by rw [setS_at, t1], ⟨by show 0 ≤ a.2.2.2.2.1 + 1; omega, by show a.2.2.2.2.1 + 1 ≤ 6; omega⟩, fun j g2 g3 => ?_⟩
      have g3' : j < a.2.2.2.2.1 + 1 := g3
      rw [setS_ne _ _ _ (by decide), setS_ne _ _ _ (by decide), setr_at, setr_ne _ _ (by decide), setr_at, t1]
      show (if j = a.2.2.2.2.1 then r * 16 + p else σ 103 j) = (if j = a.2.2.2.2.1 then r * 16 + p else a.2.2.2.2.2.1 j) ∧ (if j = a.2.2.2.2.1 then s else σ 104 j) = (if j = a.2.2.2.2.1 then s else a.2.2.2.2.2.2 j) ∧ (0 ≤ (if j = a.2.2.2.2.1 then r * 16 + p else a.2.2.2.2.2.1 j) ∧ (if j = a.2.2.2.2.1 then r * 16 + p else a.2.2.2.2.2.1 j) < 32) ∧ (0 ≤ (if j = a.2.2.2.2.1 then s else a.2.2.2.2.2.2 j) ∧ (if j = a.2.2.2.2.1 then s else a.2.2.2.2.2.2 j) ≤ 3)
      by_cases q : j = a.2.2.2.2.1
      · simp only [if_pos q]; exact ⟨trivial, trivial, by omega, by omega⟩
      · simp only [if_neg q]; exact t3 j g2 (by omega)
  · rw [if_neg (by omega)] at hX
    exact bX11_sees_39 hX ⟨rfl, h, dn.rf⟩
