/-! the model: findOrder, order, orders -/
theorem mprIn {N : Int} {a : AS} {σ : St} (h : MR N a σ) {t : Nat} (ht : t < facN (a.1 64).toNat) : ∀ j, 0 ≤ j → j < a.1 64 → 0 ≤ pr (a.1 64).toNat t j ∧ pr (a.1 64).toNat t j < a.1 64 := by
  intro j g1 g2
  have e := h.n64
  have := pr_bd (n := (a.1 64).toNat) (t := t) (by omega) ht g1 (by omega)
  omega
theorem mbestLt {N : Int} {a : AS} {σ : St} (h : MR N a σ) : bestV a.1 < facN (a.1 64).toNat := by
  have e := h.n64
  have hf := facN_bd (a.1 64).toNat (by omega)
  have := amn_bd (fun t => ordV a.1 (pr (a.1 64).toNat t)) (facN (a.1 64).toNat - 1)
  unfold bestV
  omega
theorem mbestIn {N : Int} {a : AS} {σ : St} (h : MR N a σ) : ∀ j, 0 ≤ j → j < a.1 64 → 0 ≤ bestP a.1 j ∧ bestP a.1 j < a.1 64 := mprIn h (mbestLt h)
theorem n_findOrder {N : Int} {a : AS} {σ : St} (h : MR N a σ) : CV mdX11_findOrder [vr 87] σ (fun u => u 87 24 = ordV a.1 (bestP a.1) ∧ eqN (a.1 64) (u 100) (bestP a.1) ∧ MR N a u ∧ Sf σ u) := by
  refine CV_of (by decide +kernel) (Nat.le_of_ble_eq_true rfl) rfl (fun X hX => ?_)
  have e := h.n64
  obtain ⟨n, hn⟩ : ∃ n : Nat, a.1 64 = n := ⟨(a.1 64).toNat, by omega⟩
  have hn5 : n < 5 := by omega
  have hf := facN_bd n hn5
  have hbt : bestV a.1 = amn (fun t => ordV a.1 (pr n t)) (facN n - 1) := by
    unfold bestV
    rw [hn, Int.toNat_natCast]
  have hbp : bestP a.1 = pr n (bestV a.1) := by unfold bestP; rw [hn, Int.toNat_natCast]
  have hin : ∀ t, t < facN n → ∀ j, 0 ≤ j → j < a.1 64 → 0 ≤ pr n t j ∧ pr n t j < a.1 64 := fun t ht j c d => by
    have := pr_bd (n := n) (t := t) hn5 ht c (by omega)
    omega
  rw [hbp, hbt] at hX
  generalize hE : (fun t => ordV a.1 (pr n t)) = E at hX
  have hEt : ∀ t, ordV a.1 (pr n t) = E t := fun t => by rw [← hE]
  have hEb : ∀ t, 0 ≤ E t ∧ E t ≤ 32 := fun t => by rw [← hEt]; exact errF_bd _ _
  -- behind a try
  have move : ∀ (d : Nat), (∀ (t : Nat) (u : St), t + d = facN n → 1 ≤ t → eqN n (u 99) (pr n t) → MR N a u → Sf σ u → u 87 24 = E (amn E (t - 1)) → eqN n (u 100) (pr n (amn E (t - 1))) → 1 ≤ d → G mdX11_findOrder X 36 [(0, vr 87), (1, vi (a.1 64)), (2, vi 1)] [] u) → ∀ (t : Nat) (u : St), t + 1 + d = facN n → eqN n (u 99) (pr n t) → MR N a u → Sf σ u → eqN n (u 100) (pr n (amn E t)) → G mdX11_findOrder X 131 [(0, vr 87), (1, vi (a.1 64))] [vi (E (amn E t)), vr 87] u := by
    intro d ih t u h1 h2 h3 h4 h5
    have ew : wr u 87 24 (E (amn E t)) = setS u 87 24 (E (amn E t)) := by rw [wr_setr]; rfl
    have w99 : setS u 87 24 (E (amn E t)) 99 = u 99 := setS_ne _ _ _ (by decide)
    have w100 : setS u 87 24 (E (amn E t)) 100 = u 100 := setS_ne _ _ _ (by decide)
    have w96 : setS u 87 24 (E (amn E t)) 96 = u 96 := setS_ne _ _ _ (by decide)
    have sw : Sf u (setS u 87 24 (E (amn E t))) := Sf.fld (Or.inr (Or.inr rfl))
    have hz : MR N a (setS u 87 24 (E (amn E t))) := h3.sf sw (by rw [w96]; exact h3.2.2.2.2.2)
    have hr := riseL_eq h2 ((n : Int) - 1).toNat
    refine bX11_findOrder_131 (by rw [ew]; exact m_turnsOn _ (by omega) (fun j g1 g2 => by have := pr_bd hn5 (show t < facN n by omega) g1 (by omega); rw [w99, h2 j g1 (by omega)]; unfold inI; omega)) ?_
    rintro z u2 hz2 ⟨rfl, rfl⟩
    rw [w99, hn]
    by_cases hd : d = 0
    · have he := pr_end n hn5
      rw [show facN n - 1 = t by omega] at he
      have hneg : ¬ 0 ≤ riseL (u 99) ((n : Int) - 1).toNat := by
        by_cases n0 : n = 0
        · rw [n0, show (((0 : Nat) : Int) - 1).toNat = 0 from rfl, riseL_z]; decide
        · rw [hr (by omega)]; omega
      rw [decide_eq_false hneg, if_neg hneg]
      refine bX11_findOrder_139 (bX11_findOrder_36 (by decide) (fun _ => bX11_findOrder_143 hX ?_) (fun q => absurd rfl q))
      rw [show facN n - 1 = t by omega, hEt]
      exact ⟨setS_at _ _ _ _, by rw [w100, hn]; exact h5, hz, h4.tr sw⟩
    · have hx := pr_nx n hn5 t (by omega)
      have hpos : 0 ≤ riseL (u 99) ((n : Int) - 1).toNat := by
        by_cases n0 : n = 0
        · rw [n0] at h1
          have : facN 0 = 1 := rfl
          omega
        · rw [hr (by omega)]; exact hx.1
      rw [decide_eq_true hpos, if_pos hpos]
      refine bX11_findOrder_139 ?_
      have sv : Sf u (setr (setS u 87 24 (E (amn E t))) 99 (nextR (u 99) n)) := sw.tr (Sf.row (by decide))
      have := ih (t + 1) (setr (setS u 87 24 (E (amn E t))) 99 (nextR (u 99) n)) (by omega) (by omega) ?_ ?_ (h4.tr sv) ?_ ?_ (by omega)
      · rw [hn] at this; exact this
      · rw [setr_at]
        intro j g1 g2
        rw [nextR_eq h2 hpos j g1 g2]
        have := hx.2 j.toNat (by omega)
        rwa [Int.toNat_of_nonneg g1] at this
      · exact h3.sf sv (by rw [setr_ne _ _ (by decide), w96]; exact h3.2.2.2.2.2)
      · rw [setr_ne _ _ (by decide), setS_at, Nat.add_sub_cancel]
      · rw [setr_ne _ _ (by decide), w100, Nat.add_sub_cancel]; exact h5
  -- a try
  have tryit : ∀ (d : Nat) (t : Nat) (u : St), t + d = facN n → eqN n (u 99) (pr n t) → MR N a u → Sf σ u → (t = 0 ∧ u 87 24 = 33) ∨ (1 ≤ t ∧ u 87 24 = E (amn E (t - 1)) ∧ eqN n (u 100) (pr n (amn E (t - 1)))) → 1 ≤ d → G mdX11_findOrder X 36 [(0, vr 87), (1, vi (a.1 64)), (2, vi 1)] [] u := by
    intro d
    induction d with
    | zero => intro t u h1 h2 h3 h4 h5 h6; omega
    | succ d ih =>
      intro t u h1 h2 h3 h4 h5 h6
      have hm := move d (fun t2 u2 g1 g2 g3 g4 g5 g6 g7 g8 => ih t2 u2 g1 g3 g4 g5 (Or.inr ⟨g2, g6, g7⟩) g8) t
      refine bX11_findOrder_36 ⟨by decide, by decide⟩ (fun q => absurd q (by decide)) (fun _ => ?_)
      refine n_tryOrder h3 (c := pr n t) (fun j g1 g2 => ⟨h2 j g1 (by omega), hin t (by omega) j g1 g2⟩) (fun u2 k1 k2 k3 => ?_)
      rw [hEt] at k3 ⊢
      have eb := hEb t
      have f99 : u2 99 = u 99 := k2 99 (by decide) (by decide)
      have f100 : u2 100 = u 100 := k2 100 (by decide) (by decide)
      have f24 : u2 87 24 = u 87 24 := by rw [k2 87 (by decide) (by decide)]
      have hl : inI (u 87 24) := by
        rcases h5 with ⟨_, g⟩ | ⟨_, g, _⟩
        · rw [g]; exact ⟨by decide, by decide⟩
        · have := hEb (amn E (t - 1)); exact ⟨by omega, by omega⟩
      have hS2 : Sf σ u2 := h4.tr (Sf.wf k2)
      refine bX11_findOrder_76 ?_
      by_cases q : E t < u 87 24
      · have ea : amn E t = t := by
          rcases h5 with ⟨g0, g⟩ | ⟨g0, g, g'⟩
          · rw [g0]; rfl
          · rw [show t = (t - 1) + 1 by omega]
            show (if E (t - 1 + 1) < _ then _ else _) = _
            rw [if_pos (by rw [show t - 1 + 1 = t by omega]; omega)]
        have key : G mdX11_findOrder X 80 [(0, vr 87), (1, vi (a.1 64)), (3, vi (E t)), (4, vi 0)] [] (setr u2 100 (win 0 (u2 99) (u2 100))) := by
          refine loopUp (Q := fun j => G mdX11_findOrder X 80 [(0, vr 87), (1, vi (a.1 64)), (3, vi (E t)), (4, vi j)] [] (setr u2 100 (win j (u2 99) (u2 100)))) (n := 4) ?_ (fun j g1 g2 ih2 => ?_) (by decide)
          · refine bX11_findOrder_80 ⟨by decide, by decide⟩ (fun _ => ?_) (fun q => by omega)
            have w24 : setr u2 100 (win 4 (u2 99) (u2 100)) 87 24 = u 87 24 := by rw [setr_ne _ _ (by decide)]; exact f24
            refine bX11_findOrder_114 ⟨⟨by omega, by omega⟩, by rw [w24]; exact hl⟩ (fun q2 => by rw [w24] at q2; omega) (fun _ => bX11_findOrder_123 ?_)
            have sv : Sf u2 (setr u2 100 (win 4 (u2 99) (u2 100))) := Sf.row (by decide)
            have := hm (setr u2 100 (win 4 (u2 99) (u2 100))) (by omega) (by rw [setr_ne _ _ (by decide), f99]; exact h2) (k1.sf sv (by rw [setr_ne _ _ (by decide)]; exact k1.2.2.2.2.2)) (hS2.tr sv) (by
              rw [setr_at, ea, f99]
              intro j g1 g2
              rw [win_in ⟨g1, by omega⟩]
              exact h2 j g1 g2)
            rw [ea] at this
            exact this
          · have w24 : setr u2 100 (win j (u2 99) (u2 100)) 87 24 = u 87 24 := by rw [setr_ne _ _ (by decide)]; exact f24
            have w99 : setr u2 100 (win j (u2 99) (u2 100)) 99 = u2 99 := setr_ne _ _ (by decide)
            refine bX11_findOrder_80 ⟨by omega, by omega⟩ (fun q => by omega) (fun _ => ?_)
            refine bX11_findOrder_86 ⟨⟨by omega, by omega⟩, by rw [w24]; exact hl⟩ (fun q2 => by rw [w24] at q2; omega) (fun _ => bX11_findOrder_94 ⟨g1, g2⟩ ?_)
            rw [w99, wr_win _ _ _ _ g1 rfl]
            exact ih2
        rw [win_0, setr_id] at key
        exact key
      · have ea : amn E t = amn E (t - 1) ∧ u 87 24 = E (amn E (t - 1)) ∧ eqN n (u 100) (pr n (amn E (t - 1))) := by
          rcases h5 with ⟨_, g⟩ | ⟨g0, g, g'⟩
          · omega
          · refine ⟨?_, g, g'⟩
            rw [show t = (t - 1) + 1 by omega]
            show (if E (t - 1 + 1) < _ then _ else _) = _
            rw [if_neg (by rw [show t - 1 + 1 = t by omega]; omega)]
            rfl
        refine bX11_findOrder_80 ⟨by decide, by decide⟩ (fun q2 => absurd q2 (by decide)) (fun _ => ?_)
        refine bX11_findOrder_86 ⟨⟨by omega, by omega⟩, by rw [f24]; exact hl⟩ (fun _ => ?_) (fun q2 => by rw [f24] at q2; omega)
        refine bX11_findOrder_114 ⟨⟨by omega, by omega⟩, by rw [f24]; exact hl⟩ (fun _ => bX11_findOrder_127 ?_) (fun q2 => by rw [f24] at q2; omega)
        have := hm u2 (by omega) (by rw [f99]; exact h2) k1 hS2 (by rw [f100, ea.1]; exact ea.2.2)
        rw [ea.1] at this
        rw [f24, ea.2.1]
        exact this
  refine bX11_findOrder_0 ?_
  rw [e.1]
  have key : G mdX11_findOrder X 10 [(0, vr 87), (1, vi (a.1 64)), (2, vi 0)] [] (setr σ 99 (win 0 (fun i => i) (σ 99))) := by
    refine loopUp (Q := fun j => G mdX11_findOrder X 10 [(0, vr 87), (1, vi (a.1 64)), (2, vi j)] [] (setr σ 99 (win j (fun i => i) (σ 99)))) (n := 4) ?_ (fun j g1 g2 ih2 => ?_) (by decide)
    · refine bX11_findOrder_10 ⟨by decide, by decide⟩ (fun _ => bX11_findOrder_28 ?_) (fun q => by omega)
      rw [wr_setr]
      have sv : Sf σ (setS (setr σ 99 (win 4 (fun i => i) (σ 99))) 87 24 33) := Sf.tr (Sf.row (by decide)) (Sf.fld (Or.inr (Or.inr rfl)))
      refine tryit (facN n) 0 (setS (setr σ 99 (win 4 (fun i => i) (σ 99))) 87 24 33) (by omega) ?_ (h.sf sv ?_) sv (Or.inl ⟨rfl, setS_at _ _ _ _⟩) hf.1
      · rw [setS_ne _ _ _ (by decide), setr_at]
        intro j g1 g2
        rw [win_in ⟨g1, by omega⟩]
        have := pr_0 n hn5 j.toNat (by omega)
        rw [Int.toNat_of_nonneg g1] at this
        exact this.symm
      · rw [setS_ne _ _ _ (by decide), setr_ne _ _ (by decide)]; exact h.2.2.2.2.2
    · refine bX11_findOrder_10 ⟨by omega, by omega⟩ (fun q => by omega) (fun _ => bX11_findOrder_15 ⟨g1, g2⟩ ?_)
      rw [wr_win _ _ _ _ g1 rfl]
      exact ih2
  rw [win_0, setr_id] at key
  exact key
theorem n_order {N : Int} {a : AS} {σ : St} (h : MR N a σ) {k : Int} (hk : inI k) : CI mdX11_order [vr 87, vi k] σ (fun z u => z = orderV a.1 k ∧ MR N a u ∧ dn σ u) := by
  refine CI_of (by decide +kernel) (Nat.le_of_ble_eq_true rfl) rfl (fun X hX => ?_)
  have e := h.n64
  refine bX11_order_0 hk (fun q => ?_) (fun q => bX11_order_5 hX ⟨by unfold orderV; rw [if_pos q], h, dn.rf⟩)
  refine bX11_order_7 (n_findOrder h) ?_
  rintro u ⟨h1, h2, h3, h4⟩
  have e2 := h3.n64
  refine bX11_order_11 hk (fun q2 => ?_) (fun q2 => ?_)
  · refine bX11_order_22 ⟨hk, by omega, by omega⟩ (fun q3 => ?_) (fun q3 => ?_)
    · exact bX11_order_42 (bX11_order_44 hX ⟨by decide, by decide⟩ ⟨by unfold orderV; rw [if_neg (by omega), if_pos (by omega)], h3, h4.dn⟩)
    · have hb := mbestIn h k q2 (by omega)
      refine bX11_order_33 ⟨q2, by omega⟩ ?_
      rw [h2 k q2 (by omega)]
      exact bX11_order_44 hX ⟨by omega, by omega⟩ ⟨by unfold orderV; rw [if_neg (by omega), if_neg (by omega), if_neg (by omega)], h3, h4.dn⟩
  · refine bX11_order_15 ?_
    rw [h1]
    exact bX11_order_44 hX (inI_o _ _) ⟨by unfold orderV; rw [if_neg (by omega), if_neg (by omega), if_pos (by omega)], h3, h4.dn⟩
