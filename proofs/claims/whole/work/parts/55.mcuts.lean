/-! the model: cuts -/
theorem n_cuts {N : Int} {a : AS} {σ : St} (h : MR N a σ) : CI mdX11_cuts [vr 87] σ (fun z u => z = (cutsA a).1 ∧ MR N (cutsA a).2 u ∧ dn σ u) := by
  refine CI_of (by decide +kernel) (Nat.le_of_ble_eq_true rfl) rfl (fun X hX => ?_)
  have e := h.n33
  refine bX11_cuts_0 ⟨by omega, by omega⟩ (fun q => ?_) (fun q => ?_)
  · have ev : cutsA a = (a.1 33 - 1, putP (noteA a) (setV a.1 33 (a.1 33 - 1))) := by unfold cutsA; rw [if_neg (by omega)]
    rw [ev] at hX
    refine bX11_cuts_13 (n_note h) ?_
    rintro u ⟨hu, hn⟩
    have f1 : u 88 33 = a.1 33 := hu.n33.1
    have ew : wr u 88 33 (u 88 33 - 1) = setS u 88 33 (a.1 33 - 1) := by rw [f1, wr_setr]; rfl
    refine bX11_cuts_17 hX (by rw [ew, setS_at]; exact ⟨by omega, by omega⟩) ?_
    rw [ew, setS_at]
    refine ⟨rfl, ?_, dn.tr hn.dn (dn.set (by decide))⟩
    refine hu.setP (Int.le_refl N) (fun x hx => setS_ne _ _ _ (by omega)) (fun j _ => by rw [setS_ne _ _ _ (by decide)]) ?_ ?_
    · rw [vwM_set u (by decide)]
      obtain ⟨a1, a2, a3, a4, a5, a6⟩ := hu.1.1
      have ne : ∀ (v : Row) j, j ≠ 33 → setV v 33 (a.1 33 - 1) j = v j := fun v j h => setV_ne _ _ h
      refine ⟨fun j c d => ?_, fun j c d => ?_, by rw [ne _ _ (by decide), ne _ _ (by decide)]; exact a3, fun j c d => ?_, by rw [ne _ _ (by decide), ne _ _ (by decide)]; exact a5, by rw [ne _ _ (by decide), ne _ _ (by decide)]; exact a6⟩
      · by_cases q : j = 33
        · rw [q, setV_at, setV_at]
        · rw [ne _ _ q, ne _ _ q]; exact a1 j c d
      · rw [setV_at] at d
        rw [ne _ _ (by omega), ne _ _ (by omega)]
        exact a2 j c (by show j < a.1 33 * 5; omega)
      · rw [ne _ _ (by decide)] at d
        rw [ne _ _ (by omega), ne _ _ (by omega)]
        exact a4 j c d
    · obtain ⟨g1, g2, g3, g4, g5, g6, g7, g8⟩ := id h.1.2
      have ne : ∀ j, j ≠ 33 → setV a.1 33 (a.1 33 - 1) j = a.1 j := fun j h => setV_ne _ _ h
      refine h.1.2.alt (fun i c d => by rw [ne _ (by omega)]; exact g1 i c d) (by rw [ne _ (by decide)]; exact g2) (by rw [setV_at]; omega) (fun j c d => ne _ (by omega)) (by rw [ne _ (by decide)]; omega) (fun j c d => ne _ (by omega)) (by rw [ne _ (by decide)]; exact g7) (by rw [ne _ (by decide)]; exact g8)
  · have ev : cutsA a = (-2, a) := by unfold cutsA; rw [if_pos (by omega)]
    rw [ev] at hX
    exact bX11_cuts_10 hX ⟨rfl, h, dn.rf⟩
