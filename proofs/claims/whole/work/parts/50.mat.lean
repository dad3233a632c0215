/-! what is asked of the model: at -/
theorem n_at {N : Int} {a : AS} {σ : St} (h : MR N a σ) {r p w : Int} (hr : inI r) (hp : inI p) (hw : inI w) : CI mdX11_at [vr 87, vi r, vi p, vi w] σ (fun z u => z = atV a.1 r p w ∧ MR N a u ∧ dn σ u) := by
  refine CI_of (by decide +kernel) (Nat.le_of_ble_eq_true rfl) rfl (fun X hX => ?_)
  have bad : ¬ (((0 ≤ r ∧ r < 2) ∧ (0 ≤ p ∧ p < 16)) ∧ (0 ≤ w ∧ w ≤ 3)) → G mdX11_at X 28 [] [] σ := fun hn => bX11_at_28 hX ⟨by unfold atV; rw [if_neg hn], h, dn.rf⟩
  refine bX11_at_0 (m_in hr ⟨by decide, by decide⟩ ⟨by decide, by decide⟩ σ) ?_
  rintro z u hz ⟨rfl, rfl⟩
  refine bX11_at_6 hz (fun q => bad (by have := bI_d0 q; omega)) (fun q => ?_)
  have h1 := bI_d1 q
  refine bX11_at_9 (m_in hp ⟨by decide, by decide⟩ ⟨by decide, by decide⟩ _) ?_
  rintro z u hz ⟨rfl, rfl⟩
  refine bX11_at_16 hz (fun q => bad (by have := bI_d0 q; omega)) (fun q => ?_)
  have h2 := bI_d1 q
  refine bX11_at_19 (m_in hw ⟨by decide, by decide⟩ ⟨by decide, by decide⟩ _) ?_
  rintro z u hz ⟨rfl, rfl⟩
  refine bX11_at_25 hz (fun q => ?_) (fun q => bad (by have := bI_d0 q; omega))
  have h3 := bI_d1 q
  have ea : atV a.1 r p w = (if w = 0 then a.1 (r * 16 + p) else if w = 1 then airV a.1 (r * 16 + p) else if w = 3 then dec (rcvV a.1 (a.1 64) (r * 16 + p)) else rcvV a.1 (a.1 64) (r * 16 + p)) := by unfold atV; rw [if_pos ⟨⟨by omega, by omega⟩, h3⟩]
  rw [ea] at hX
  have hsp : 0 ≤ r * 16 + p ∧ r * 16 + p < 32 := by omega
  have hx : 16 * r + p = r * 16 + p := by omega
  refine bX11_at_30 hw (fun q3 => ?_) (fun q3 => ?_)
  · rw [if_neg q3] at hX
    rw [hx]
    refine bX11_at_50 (n_air h) ?_
    rintro u ⟨e1, e2, e3⟩
    have g := (good_airV h.1.2).1 _ hsp.1 hsp.2
    refine bX11_at_54 hw (fun q4 => ?_) (fun q4 => ?_)
    · rw [if_neg q4] at hX
      have e := e2.n64
      refine bX11_at_67 (by rw [e.1]; exact n_go e2 (good_airV h.1.2) e1 ⟨e.2.1, Int.le_refl _⟩) ?_
      rintro u2 ⟨f1, f2, f3⟩
      have f1' : u2 96 = rcvV a.1 (a.1 64) := f1
      have g2 := (good_rcvV h.1.2 (a.1 64)).1 _ hsp.1 hsp.2
      refine bX11_at_78 hw (fun q5 => ?_) (fun q5 => ?_)
      · rw [if_pos (show w = 3 by omega)] at hX
        refine bX11_at_93 (by rw [f1']; exact m_decided g2 u2) hsp ?_
        rintro z u3 hz3 ⟨rfl, rfl⟩
        exact bX11_at_103 hX hz3 ⟨rfl, f2, dn.wf (e3.tr f3)⟩
      · rw [if_neg (show ¬ w = 3 by omega)] at hX
        refine bX11_at_83 hsp ?_
        rw [f1']
        exact bX11_at_103 hX (c97_inI g2) ⟨rfl, f2, dn.wf (e3.tr f3)⟩
    · rw [if_pos q4] at hX
      exact bX11_at_59 hX ⟨hsp, by rw [e1]; exact c97_inI g⟩ ⟨by rw [e1], e2, dn.wf e3⟩
  · rw [if_pos q3] at hX
    rw [hx]
    have hs3 := h.ok.1 _ hsp.1 hsp.2
    exact bX11_at_42 hX ⟨⟨by omega, by omega⟩, ⟨by omega, by omega⟩⟩ ⟨(h.s32 _ hsp.1 hsp.2).symm, h, dn.rf⟩
