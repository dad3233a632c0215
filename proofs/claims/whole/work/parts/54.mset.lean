/-! the model: the present state put anew -/
theorem MR.setP {N M : Int} {a : AS} {σ u : St} (h : MR N a σ) (hm : N ≤ M) {P : Row} (e : ∀ x, 89 ≤ x → u x = σ x) (e87 : ∀ j, j ≠ 1 → u 87 j = σ 87 j) (hP : eqv P (vwM u)) (ok : okV M P) : MR M (putP a P) u := by
  obtain ⟨-, hH, hI, hT, hS, hz⟩ := h
  refine ⟨⟨hP, ok⟩, ?_, ?_, ?_, ?_, ?_⟩
  · show mH M a.2.1 u
    unfold mH pastM at *
    rw [e87 4 (by decide), e 89 (by decide), e 90 (by decide)]
    exact ⟨hH.1, hH.2.1, fun i c d => ⟨(hH.2.2 i c d).1, (hH.2.2 i c d).2.mono hm⟩⟩
  · show mI M a.2.2.1 u
    unfold mI imgM at *
    rw [e 93 (by decide), e 91 (by decide), e 92 (by decide)]
    exact fun i c d => ⟨(hI i c d).1, (hI i c d).2.1, fun g => ⟨((hI i c d).2.2 g).1, ((hI i c d).2.2 g).2.mono hm⟩⟩
  · show mT a.2.2.2.1 u
    unfold mT at *
    rw [e87 9 (by decide), e 94 (by decide)]; exact hT
  · show mS a.2.2.2.2 u
    unfold mS at *
    rw [e87 27 (by decide), e 103 (by decide), e 104 (by decide)]; exact hS
  · rw [e 96 (by decide)]; exact hz
theorem vwM_set (u : St) {k x : Int} (hk : k ≠ 86) : vwM (setS u 88 k x) = setV (vwM u) k x := by
  funext j
  unfold vwM setV
  rw [setS_ne _ _ _ (show (87 : Nat) ≠ 88 by decide)]
  by_cases q : j = 86
  · simp only [if_pos q, if_neg (show ¬ j = k by omega)]
  · simp only [if_neg q]
    by_cases q2 : j = k
    · rw [if_pos q2, q2, setS_at]
    · rw [if_neg q2, setS_at2 _ _ _ q2]
theorem nfM.wf {σ u : St} (h : nfM σ u) : u 88 = σ 88 := h.1 88 (by decide) (by decide) (by decide)
theorem n_sends {N : Int} {a : AS} {σ : St} (h : MR N a σ) {r p s : Int} (hr : inI r) (hp : inI p) (hs : inI s) (h4 : inI s) : CI mdX11_sends [vr 87, vi r, vi p, vi s] σ (fun z u => z = (sendsA a r p s).1 ∧ MR N (sendsA a r p s).2 u ∧ dn σ u) := by
  refine CI_of (by decide +kernel) (Nat.le_of_ble_eq_true rfl) rfl (fun X hX => ?_)
  have bad : ¬ seeOK r p s → G mdX11_sends X 28 [] [] σ := fun g => bX11_sends_28 hX (by unfold sendsA; rw [if_neg g]; exact ⟨rfl, h, dn.rf⟩)
  refine bX11_sends_0 (m_in hr ⟨by decide, by decide⟩ ⟨by decide, by decide⟩ σ) ?_
  rintro z u hz ⟨rfl, rfl⟩
  refine bX11_sends_6 hz (fun q => bad (by have := bI_d0 q; omega)) (fun q => ?_)
  have b1 := bI_d1 q
  refine bX11_sends_9 (m_in hp ⟨by decide, by decide⟩ ⟨by decide, by decide⟩ _) ?_
  rintro z u hz ⟨rfl, rfl⟩
  refine bX11_sends_16 hz (fun q => bad (by have := bI_d0 q; omega)) (fun q => ?_)
  have b2 := bI_d1 q
  refine bX11_sends_19 (m_in hs ⟨by decide, by decide⟩ ⟨by decide, by decide⟩ _) ?_
  rintro z u hz ⟨rfl, rfl⟩
  refine bX11_sends_25 hz (fun q => ?_) (fun q => bad (by have := bI_d0 q; omega))
  have b3 := bI_d1 q
  have hk : 0 ≤ r * 16 + p ∧ r * 16 + p < 32 := by omega
  have hx : 16 * r + p = r * 16 + p := by omega
  have es : σ 88 (r * 16 + p) = a.1 (r * 16 + p) := (h.s32 _ hk.1 hk.2).symm
  have h3 := h.1.2.1 _ hk.1 hk.2
  have ev : sendsA a r p s = if a.1 (r * 16 + p) = s then (-2, a) else (a.1 (r * 16 + p), putP (noteA a) (setV a.1 (r * 16 + p) s)) := by unfold sendsA; rw [if_pos (by omega)]
  rw [ev] at hX
  refine bX11_sends_30 (by rw [hx]; exact ⟨by omega, ⟨by omega, by omega⟩, hs⟩) (fun q => ?_) (fun q => ?_)
  · rw [hx] at q ⊢
    rw [if_neg (by rw [← es]; exact q)] at hX
    refine bX11_sends_52 (n_note h) ?_
    rintro u ⟨hu, hn⟩
    refine bX11_sends_56 hX (by rw [hx]; exact ⟨by omega, ⟨by omega, by omega⟩⟩) ⟨es, ?_, ?_⟩
    · rw [hx, wr_setr]
      show MR N (putP (noteA a) (setV a.1 (r * 16 + p) s)) (setS u 88 (r * 16 + p) s)
      refine hu.setP (Int.le_refl N) (fun x hx => setS_ne _ _ _ (by omega)) (fun j _ => by rw [setS_ne _ _ _ (by decide)]) ?_ (h.1.2.set (Or.inl ⟨hk.1, hk.2, by omega, by omega⟩))
      rw [vwM_set u (by omega)]
      exact eqv_set hu.1.1 (by omega) (by omega)
    · rw [wr_setr]
      exact dn.tr hn.dn (dn.set (by decide))
  · rw [hx] at q
    rw [if_pos (by rw [← es]; exact q)] at hX
    exact bX11_sends_49 hX ⟨rfl, h, dn.rf⟩
