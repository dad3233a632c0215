/-! the model: readDeed -/
theorem JT.cg {N : Int} {T : Row} {L : Int} {R : Int × Int × Row} {p : Int} {q : QS} {u w : St} (h : JT N T L R p q u) (e : w 87 = u 87) : JT N T L R p q w := by
  unfold JT TokAt at *
  rw [e]; exact h
theorem FT.cg {R : Int × Int × Row} {u w : St} (h : FT R u) (e : w 87 = u 87) : FT R w := by
  unfold FT at *
  rw [e]; exact h
theorem eqv_far {v d d' : Row} (h : eqv v d) {k : Int} (hk : 34 + v 33 * 5 ≤ k ∧ k < 64) (h0 : 0 ≤ v 33) (e : ∀ j, j ≠ k → d' j = d j) : eqv v d' := by
  obtain ⟨a1, a2, a3, a4, a5, a6⟩ := h
  exact ⟨fun j x y => by rw [e j (by omega)]; exact a1 j x y, fun j x y => by rw [e _ (by omega)]; exact a2 j x y, by rw [e _ (by omega)]; exact a3, fun j x y => by rw [e _ (by omega)]; exact a4 j x y, by rw [e _ (by omega)]; exact a5, by rw [e _ (by omega)]; exact a6⟩
theorem eqv_whole {v d st : Row} (h : eqv v d) (h0 : 0 ≤ v 33 ∧ v 33 < 6) (h4 : v 64 ≤ 4) (e : ∀ j, 0 ≤ j → j < 5 → d (34 + 5 * v 33 + j) = st j) : eqv (appD v st) (setV d 33 (v 33 + 1)) := by
  obtain ⟨a1, a2, a3, a4, a5, a6⟩ := h
  have lo : ∀ j, j < 33 → appD v st j = v j := fun j c => by unfold appD; rw [if_neg (by omega), if_neg (by omega)]
  have hi : ∀ j, 64 ≤ j → appD v st j = v j := fun j c => by unfold appD; rw [if_neg (by omega), if_neg (by omega)]
  have m : appD v st 33 = v 33 + 1 := by unfold appD; rw [if_pos rfl]
  refine ⟨fun j x y => ?_, fun j x y => ?_, by rw [hi _ (by decide), setV_ne _ _ (by decide)]; exact a3, fun j x y => ?_, by rw [hi _ (by decide), setV_ne _ _ (by decide)]; exact a5, by rw [hi _ (by decide), setV_ne _ _ (by decide)]; exact a6⟩
  · by_cases c : j = 33
    · rw [c, m, setV_at]
    · rw [lo j (by omega), setV_ne _ _ c]; exact a1 j x y
  · rw [m] at y
    rw [setV_ne _ _ (by omega)]
    unfold appD
    rw [if_neg (by omega)]
    by_cases c : v 33 * 5 ≤ j
    · rw [if_pos (by omega), ← e _ (by omega) (by omega)]
      congr 1; omega
    · rw [if_neg (by omega)]; exact a2 j x (by omega)
  · rw [hi 64 (by decide)] at y
    rw [hi _ (by omega), setV_ne _ _ (by omega)]; exact a4 j x y
theorem numQ_part {q : QS} {v : Int} (hq : q.1 = 100) (hv : ¬ v < 0) : numQ q v = if q.2.1 < 5 ∧ alw 106 q.2.2.2.2.1 q.2.1 v = true then some (100, q.2.1 + 1, q.2.2.1, q.2.2.2.1, setV q.2.2.2.2.1 q.2.1 v, q.2.2.2.2.2) else none := by
  unfold numQ
  rw [if_neg hv, if_neg (by omega), if_neg (by omega), if_neg (by omega), if_pos hq]
theorem m_readDeed {N : Int} {T : Row} {L : Int} {R : Int × Int × Row} {p n mt : Int} {st V : Row} {σ : St} (h : JT N T L R p (100, 0, n, mt, st, V) σ) (h16 : σ 87 16 = mt) (hV : eqv V (dV σ)) (tx : txM T L σ) : CV mdX11_readDeed [vr 87] σ (EndI N T L R σ p n) := by
  refine CV_of (by decide +kernel) (Nat.le_of_ble_eq_true rfl) rfl (fun X hX => ?_)
  have hL := tx.2.1
  have okV0 := h.2.2.1.2.2.2.2.2
  have v6 : V 33 < 6 := (h.2.2.1.2.2.2.2.1 rfl).2.1
  have v0 : 0 ≤ V 33 := okV0.2.2.1.1
  have v4 : V 64 ≤ 4 := okV0.2.2.2.2.1.2
  have e33 : ∀ u : St, eqv V (dV u) → u 95 33 = V 33 := fun u hu => (hu.1 33 (by decide) (by decide)).symm
  obtain ⟨B, hB⟩ : ∃ B, B = 34 + 5 * V 33 := ⟨_, rfl⟩
  -- the end
  have done : ∀ u : St, EndI N T L R σ p n (setS u 95 33 (u 95 33 + 1)) → G mdX11_readDeed X 158 [(0, vr 87)] [] u := by
    intro u hu
    refine bX11_readDeed_158 hX ?_
    rw [wr_setr]
    exact hu
  have failE : ∀ u : St, FT R u → Pf σ u → EndI N T L R σ p n (setS u 95 33 (u 95 33 + 1)) := fun u g1 g2 => ⟨Or.inr (g1.cg (setS_ne _ _ _ (by decide))), g2.tr Pf.row⟩
  -- behind a fault
  have fail140 : ∀ (u : St), FT R u → Pf σ u → G mdX11_readDeed X 140 [(0, vr 87)] [] u := by
    intro u g1 g2
    have fin : ∀ t : Int, G mdX11_readDeed X 155 [(0, vr 87)] [vi t, vr 87] u := fun t => by
      refine bX11_readDeed_155 (m_must_f u g1.nn.2 g1.nn.1 t) ?_
      rintro x rfl
      exact done _ (failE _ g1 g2)
    exact bX11_readDeed_140 g1.2 (fun _ => bX11_readDeed_154 (fin 0)) (fun _ => bX11_readDeed_150 (fin 1))
  have fail50 : ∀ (u : St) (i : Int), FT R u → Pf σ u → inI i → G mdX11_readDeed X 50 [(0, vr 87), (1, vi B), (2, vi i)] [] u := by
    intro u i g1 g2 g3
    exact bX11_readDeed_50 g3 (fun _ => fail140 u g1 g2) (fun _ => bX11_readDeed_55 g1.nn.2 (fun _ => fail140 u g1 g2) (fun c => absurd c g1.nn.1))
  -- a value put, and what follows
  have put : ∀ (q : QS) (u : St) (i v : Int), q.2.2.2.2.2 = V → eqv V (dV u) → 0 ≤ i → i < 5 → q.2.1 = i → (∀ j, 0 ≤ j → j < i → u 95 (B + j) = q.2.2.2.2.1 j) → eqv V (dV (setS u 95 (B + i) v)) ∧ (∀ j, 0 ≤ j → j < i + 1 → setS u 95 (B + i) v 95 (B + j) = setV q.2.2.2.2.1 i v j) := by
    intro q u i v g1 g2 g3 g4 g5 g6
    refine ⟨eqv_far g2 (k := B + i) (by omega) v0 (fun j c => ?_), fun j x y => ?_⟩
    · unfold dV
      rw [setS_ne _ _ _ (show (87 : Nat) ≠ 95 by decide)]
      by_cases c2 : j = 86
      · rw [if_pos c2, if_pos c2]
      · rw [if_neg c2, if_neg c2, setS_at2 _ _ _ c]
    · by_cases c : j = i
      · rw [c, setS_at, setV_at]
      · rw [setS_at2 _ _ _ (by omega), setV_ne _ _ c]; exact g6 j x (by omega)
  have key : ∀ (d : Nat) (i p' : Int) (q : QS) (u : St), 5 - i = d → 0 < i → p ≤ p' → q.1 = 100 → q.2.1 = i → q.2.2.1 = n → q.2.2.2.2.2 = V → JT N T L R p' q u → u 87 16 = q.2.2.2.1 → eqv V (dV u) → (∀ j, 0 ≤ j → j < i → u 95 (B + j) = q.2.2.2.2.1 j) → Pf σ u → G mdX11_readDeed X 50 [(0, vr 87), (1, vi B), (2, vi i)] [] u := by
    intro d
    induction d with
    | zero =>
      intro i p' q u g0 g0' g1 g2 gt g3 gV g4 g5 g6 gd g7
      have q32 : q.1 ≠ 32 := by omega
      have tu := tx.pf g7
      have hp := g4.1.1
      have tk := g4.tk
      have hf := g4.2.1
      refine bX11_readDeed_50 ⟨by omega, by omega⟩ (fun _ => ?_) (fun c => by omega)
      refine bX11_readDeed_140 tk.2 (fun c3 => ?_) (fun c3 => ?_)
      · refine bX11_readDeed_154 (bX11_readDeed_155 (J_end0 g4 tu q32 (fun c2 => ?_) (fun g => c3 (tk.1.trans g.1))).2 ?_)
        · rw [numQ_part g2 (tkN_1 c2).2.2, if_neg (by omega)]
        · rintro x ⟨k1, k2, -⟩
          exact done x (failE x k1 (g7.tr k2))
      · refine bX11_readDeed_150 (bX11_readDeed_155 (J_end1 g4 tu (tk.1.symm.trans c3) (Or.inr (Or.inr ⟨g2, by omega⟩))) ?_)
        rintro x ⟨⟨p2, k1, k2⟩, k3⟩
        refine done x ⟨Or.inl ⟨p2, _, by omega, rfl, by show q.2.2.1 + 1 = n + 1; omega, k2.cg (setS_ne _ _ _ (by decide)), ?_, ?_⟩, g7.tr ((Pf.nf k3).tr Pf.row)⟩
        · rw [setS_ne _ _ _ (by decide), k3.2 16 (by decide)]; exact g5
        · show eqv (if q.1 = 100 then appD q.2.2.2.2.2 q.2.2.2.2.1 else q.2.2.2.2.2) (dV (setS x 95 33 (x 95 33 + 1)))
          have gx : eqv V (dV x) := by rw [dV_nf k3]; exact g6
          rw [if_pos g2, gV, dV_set _ (by decide), e33 x gx]
          refine eqv_whole gx ⟨v0, v6⟩ v4 (fun j a b => ?_)
          show (if 34 + 5 * V 33 + j = 86 then _ else x 95 (34 + 5 * V 33 + j)) = _
          rw [if_neg (by omega), ← hB, k3.1 95 (by decide)]
          exact gd j a (by omega)
    | succ d ih =>
      intro i p' q u g0 g0' g1 g2 gt g3 gV g4 g5 g6 gd g7
      have q32 : q.1 ≠ 32 := by omega
      have tu := tx.pf g7
      have hp := g4.1.1
      have tk := g4.tk
      have hf := g4.2.1
      have ii : inI i := ⟨by omega, by omega⟩
      have ii2 : inI (i + 1) := ⟨by omega, by omega⟩
      refine bX11_readDeed_50 ii (fun c => by omega) (fun _ => ?_)
      refine bX11_readDeed_55 (by rw [hf]; exact ⟨by decide, by decide⟩) (fun c => absurd hf c) (fun _ => ?_)
      have ew : wr u 95 (B + i) (u 87 14) = setS u 95 (B + i) (u 87 14) := by rw [wr_setr]; rfl
      obtain ⟨p1, p2⟩ := put q u i (u 87 14) gV g6 (by omega) (by omega) gt gd
      generalize hw : setS u 95 (B + i) (u 87 14) = w at ew p1 p2
      have hw7 : w 87 = u 87 := by rw [← hw]; exact setS_ne _ _ _ (by decide)
      have pw : Pf u w := by rw [← hw]; exact Pf.row
      have j4 := g4.cg hw7
      have tw := tu.pf pw
      have bad : (tkN T L p' = 1 → numQ q (valT T p' (endT T L p')) = none) → G mdX11_readDeed X 130 [(0, vr 87), (1, vi B), (2, vi i)] [vr 87] w := fun g => by
        refine bX11_readDeed_130 (bX11_readDeed_131 (J_end0 j4 tw q32 g (fun g2 => by have := g2.2; omega)).2 ?_)
        rintro x ⟨k1, k2, -⟩
        exact bX11_readDeed_134 (fail50 x (i + 1) k1 (g7.tr (pw.tr k2)) ii2)
      refine bX11_readDeed_64 (by rw [ew, hw7]; exact ⟨⟨by omega, by omega⟩, tk.2⟩) (fun c => ?_) (fun c => ?_)
      · rw [ew] at c ⊢
        rw [hw7, tk.1] at c
        exact bad (fun c2 => absurd c2 c)
      · rw [ew] at c ⊢
        rw [hw7, tk.1] at c
        obtain ⟨c1, c2, c3⟩ := tkN_1 c
        have e14 := g4.1.2.2.2.2 c
        have hd := endT_dg ⟨hp.1, c1⟩ hL.2 c2
        have hb := endT_bd (T := T) hp.1 c1 hL.2
        have vb := valT_bd ⟨by omega, hb.2⟩ hd
        have ev := numQ_part g2 c3
        rw [gt] at ev
        have told := (g4.2.2.1.2.2.2.2.1 g2).2.2
        have k0 : 0 ≤ q.2.2.2.2.1 0 ∧ q.2.2.2.2.1 0 < 5 := by
          have := told 0 (by decide) (by omega)
          unfold alw at this
          rw [if_pos rfl] at this
          exact of_decide_eq_true this
        have kb : ∀ j, 1 ≤ j → j < i → c97 (q.2.2.2.2.1 j) := fun j x y => by
          have := alw_bd k0 (i := j) ⟨x, by omega⟩ (told j (by omega) (by omega))
          unfold c97; omega
        have wB : ∀ j, 0 ≤ j → j < i → w 95 (B + j) = q.2.2.2.2.1 j := fun j x y => by
          rw [p2 j x (by omega), setV_ne _ _ (by omega)]
        have w0 : w 95 B = q.2.2.2.2.1 0 := by
          have := wB 0 (by decide) g0'
          rwa [Int.add_zero] at this
        have w14 : w 87 14 = valT T p' (endT T L p') := by rw [hw7]; exact e14
        have ea : alw 106 (mbR (w 95 B) (w 95 (B + 1)) (w 95 (B + 2)) (w 95 (B + 3))) i (valT T p' (endT T L p')) = alw 106 q.2.2.2.2.1 i (valT T p' (endT T L p')) := by
          refine alw_told (fun j x y => ?_) (by omega)
          have : j = 0 ∨ j = 1 ∨ j = 2 ∨ j = 3 := by omega
          rcases this with rfl | rfl | rfl | rfl
          · exact w0
          · exact wB 1 (by decide) y
          · exact wB 2 (by decide) y
          · exact wB 3 (by decide) y
        refine bX11_readDeed_85 (by rw [w14]; exact m_mayBe (by rw [w0]; exact k0) ⟨by omega, by omega⟩ ⟨by omega, by omega⟩ (fun _ g => by rw [wB 1 (by decide) (by omega), wB 2 (by decide) (by omega), wB 3 (by decide) (by omega)]; exact ⟨kb 1 (by decide) (by omega), kb 2 (by decide) (by omega), kb 3 (by decide) (by omega)⟩) w) ⟨⟨by omega, by omega⟩, ⟨by omega, by omega⟩, ⟨by omega, by omega⟩, by omega, by omega⟩ ?_
        rintro z u2 hz ⟨rfl, rfl⟩
        rw [ea] at hz ⊢
        refine bX11_readDeed_123 hz (fun c4 => ?_) (fun c4 => ?_)
        · refine bad (fun _ => ?_)
          rw [ev, if_neg (fun g => by rw [g.2] at c4; exact absurd c4 (by decide))]
        · have c5 := bI_1.mp c4
          rw [if_pos ⟨by omega, c5⟩] at ev
          refine bX11_readDeed_126 (bX11_readDeed_131 (m_must_1 w j4.2.1 (J_next g4 hw7 tw c1 ((tok_1 c q).trans ev))) ?_)
          rintro x ⟨⟨p3, k1, k2⟩, k3⟩
          refine bX11_readDeed_134 (ih (i + 1) p3 (100, i + 1, q.2.2.1, q.2.2.2.1, setV q.2.2.2.2.1 i (valT T p' (endT T L p')), q.2.2.2.2.2) x (by omega) (by omega) (by omega) rfl rfl (by show q.2.2.1 = n; omega) gV k2 ?_ ?_ ?_ (g7.tr (pw.tr (Pf.nf k3))))
          · rw [k3.2 16 (by decide), hw7]; exact g5
          · rw [dV_nf k3]; exact p1
          · intro j x y
            rw [k3.1 95 (by decide), p2 j x y, e14]
  -- the kind
  have hp := h.1.1
  have tk := h.tk
  have hf := h.2.1
  have eb : 34 + 5 * σ 95 33 = B := by rw [e33 σ hV, hB]
  have ew : wr σ 95 (34 + 5 * σ 95 33) (σ 87 14) = setS σ 95 (B + 0) (σ 87 14) := by rw [eb, Int.add_zero, wr_setr]; rfl
  obtain ⟨p1, p2⟩ := put (100, 0, n, mt, st, V) σ 0 (σ 87 14) rfl hV (by decide) (by decide) rfl (fun j x y => by omega)
  generalize hw : setS σ 95 (B + 0) (σ 87 14) = w at ew p1 p2
  have hw7 : w 87 = σ 87 := by rw [← hw]; exact setS_ne _ _ _ (by decide)
  have pw : Pf σ w := by rw [← hw]; exact Pf.row
  have j4 := h.cg hw7
  have tw := tx.pf pw
  have bad : (tkN T L p = 1 → numQ (100, 0, n, mt, st, V) (valT T p (endT T L p)) = none) → G mdX11_readDeed X 44 [(0, vr 87), (1, vi B)] [vr 87] w := fun g => by
    refine bX11_readDeed_44 (bX11_readDeed_45 (J_end0 j4 tw (show ¬ (100 : Int) = 32 by decide) g (fun g2 => by
      rcases g2.2 with ⟨a, -⟩ | a | ⟨-, a⟩
      · rcases a with a | a <;> exact absurd a (show ¬ (100 : Int) = _ by decide)
      · exact absurd a (show ¬ (100 : Int) = 109 by decide)
      · exact absurd a (show ¬ (0 : Int) = 5 by decide))).2 ?_)
    rintro x ⟨k1, k2, -⟩
    exact bX11_readDeed_48 (fail50 x 1 k1 (pw.tr k2) ⟨by decide, by decide⟩)
  refine bX11_readDeed_0 (by rw [ew, hw7, eb]; exact ⟨⟨by omega, by omega⟩, tk.2⟩) (fun c => ?_) (fun c => ?_)
  · rw [ew] at c ⊢
    rw [eb]
    rw [hw7, tk.1] at c
    exact bad (fun c2 => absurd c2 c)
  · rw [ew] at c ⊢
    rw [eb]
    rw [hw7, tk.1] at c
    obtain ⟨c1, c2, c3⟩ := tkN_1 c
    have e14 := h.1.2.2.2.2 c
    have hd := endT_dg ⟨hp.1, c1⟩ hL.2 c2
    have hb := endT_bd (T := T) hp.1 c1 hL.2
    have vb := valT_bd ⟨by omega, hb.2⟩ hd
    have ev := numQ_part (q := (100, 0, n, mt, st, V)) rfl c3
    have ea : alw 106 st 0 (valT T p (endT T L p)) = decide (0 ≤ valT T p (endT T L p) ∧ valT T p (endT T L p) < 5) := by unfold alw; rw [if_pos rfl]
    have w14 : w 87 14 = valT T p (endT T L p) := by rw [hw7]; exact e14
    refine bX11_readDeed_32 (by rw [w14]; exact ⟨by omega, by omega⟩) (fun c4 => ?_) (fun c4 => ?_)
    · rw [w14] at c4
      refine bad (fun _ => ?_)
      rw [ev, if_neg]
      intro g
      have g2 : alw 106 st 0 (valT T p (endT T L p)) = true := g.2
      rw [ea] at g2
      have := of_decide_eq_true g2
      omega
    · rw [w14] at c4
      have c5 : (0 : Int) < 5 ∧ alw 106 st 0 (valT T p (endT T L p)) = true := ⟨by decide, by rw [ea]; exact decide_eq_true ⟨by omega, c4⟩⟩
      have ev2 : numQ (100, 0, n, mt, st, V) (valT T p (endT T L p)) = some (100, 0 + 1, n, mt, setV st 0 (valT T p (endT T L p)), V) := by
        rw [ev]; exact if_pos c5
      refine bX11_readDeed_40 (bX11_readDeed_45 (m_must_1 w j4.2.1 (J_next h hw7 tw c1 ((tok_1 c _).trans ev2))) ?_)
      rintro x ⟨⟨p3, k1, k2⟩, k3⟩
      refine bX11_readDeed_48 (key 4 1 p3 _ x (by decide) (by decide) (by omega) rfl rfl rfl rfl k2 ?_ ?_ ?_ (pw.tr (Pf.nf k3)))
      · rw [k3.2 16 (by decide), hw7]; exact h16
      · rw [dV_nf k3]; exact p1
      · intro j x y
        rw [k3.1 95 (by decide), p2 j x (by omega), e14]
