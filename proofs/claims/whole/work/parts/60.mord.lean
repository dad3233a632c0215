/-! the model: the best order -/
theorem m_swap (σ : St) {i j : Int} (hi : 0 ≤ i ∧ i < 4) (hj : 0 ≤ j ∧ j < 4) : CVe mdX11_swap [vr 87, vi i, vi j] σ (setr σ 99 (swapR (σ 99) i j)) := by
  refine CV_of (by decide +kernel) (Nat.le_of_ble_eq_true rfl) rfl (fun X hX => ?_)
  refine bX11_swap_0 hX ⟨hi, hj⟩ ?_
  rw [wr_setr σ, wr_wr]
  rfl
theorem m_turnsOn (σ : St) {n : Int} (hn4 : 0 ≤ n ∧ n ≤ 4) (hc : ∀ j, 0 ≤ j → j < n → inI (σ 99 j)) : CIe mdX11_turnsOn [vr 87, vi n] σ (bI (decide (0 ≤ riseL (σ 99) (n - 1).toNat))) (if 0 ≤ riseL (σ 99) (n - 1).toNat then setr σ 99 (nextR (σ 99) n) else σ) := by
  refine CI_of (by decide +kernel) (Nat.le_of_ble_eq_true rfl) rfl (fun X hX => ?_)
  refine bX11_turnsOn_0 ?_
  -- behind the swap: the rest turned round
  have rev : ∀ (f : Nat) (c : Row) (lo hi : Int), 0 ≤ lo → lo ≤ 4 → -4 ≤ hi → hi < 4 → hi - lo < 2 * f → (setr σ 99 (revL c lo hi f) = if 0 ≤ riseL (σ 99) (n - 1).toNat then setr σ 99 (nextR (σ 99) n) else σ) → 0 ≤ riseL (σ 99) (n - 1).toNat → G mdX11_turnsOn X 78 [(0, vr 87), (4, vi lo), (5, vi hi)] [] (setr σ 99 c) := by
    intro f
    induction f with
    | zero =>
      intro c lo hi h1 h1' h2' h2 h3 h4 h5
      exact bX11_turnsOn_78 ⟨⟨by omega, by omega⟩, by omega, by omega⟩ (fun q => bX11_turnsOn_102 hX ⟨by rw [decide_eq_true h5]; rfl, h4.symm⟩) (fun q => by omega)
    | succ f ih =>
      intro c lo hi h1 h1' h2' h2 h3 h4 h5
      unfold revL at h4
      refine bX11_turnsOn_78 ⟨⟨by omega, by omega⟩, by omega, by omega⟩ (fun q => bX11_turnsOn_102 hX ⟨by rw [decide_eq_true h5]; rfl, ?_⟩) (fun q => ?_)
      · rw [if_neg (by omega)] at h4
        exact h4.symm
      · rw [if_pos q] at h4
        refine bX11_turnsOn_85 (m_swap _ (by omega) (by omega)) ?_
        rintro u rfl
        rw [setr_at, setr_setr]
        refine bX11_turnsOn_93 ?_
        rw [show hi + (-1) = hi - 1 by omega]
        exact ih _ (lo + 1) (hi - 1) (by omega) (by omega) (by omega) (by omega) (by omega) h4 h5
  -- the place to swap with
  have large : ∀ (r : Int) (k : Nat), 0 ≤ r → r < n - 1 → r ≤ k → (k : Int) ≤ n - 1 → r = riseL (σ 99) (n - 1).toNat → largeL (σ 99) r k = largeL (σ 99) r (n - 1).toNat → G mdX11_turnsOn X 41 [(0, vr 87), (1, vi n), (2, vi r), (3, vi (k : Int))] [] σ := by
    intro r k
    have ex : ∀ l : Int, 0 ≤ r → r < n - 1 → r = riseL (σ 99) (n - 1).toNat → l = largeL (σ 99) r (n - 1).toNat → G mdX11_turnsOn X 62 [(0, vr 87), (1, vi n), (2, vi r), (3, vi l)] [] σ := by
      intro l h0 h1 hr hl
      have hb := largeL_bd (σ 99) r (n - 1).toNat
      refine bX11_turnsOn_62 (m_swap σ (by omega) (by omega)) ?_
      rintro u rfl
      refine bX11_turnsOn_68 ?_
      refine rev 4 _ (r + 1) (n - 1) (by omega) (by omega) (by omega) (by omega) (by omega) ?_ (by omega)
      rw [if_pos (by omega)]
      unfold nextR
      rw [← hr, ← hl]
    induction k with
    | zero =>
      intro h0 h1 h1' h2 hr hl
      have hr0 : r = 0 := by omega
      have c2 := hc r h0 (by omega)
      refine bX11_turnsOn_41 ⟨by omega, by omega, hc _ (by omega) (by omega), c2⟩ (fun q => ex _ h0 h1 hr hl) (fun q => ?_)
      rw [hr0] at q
      exact absurd q (by show ¬ σ 99 0 < σ 99 0; omega)
    | succ k ih =>
      intro h0 h1 h1' h2 hr hl
      rw [largeL_s (σ 99) r k] at hl
      have c1 := hc ((k + 1 : Nat) : Int) (by omega) (by omega)
      have c2 := hc r h0 (by omega)
      refine bX11_turnsOn_41 ⟨by omega, by omega, c1, c2⟩ (fun q2 => ?_) (fun q2 => ?_)
      · rw [if_neg (by push_cast at q2; omega)] at hl
        exact ex _ h0 h1 hr hl
      · have hne : r ≠ ((k + 1 : Nat) : Int) := fun g => by rw [g] at q2; omega
        rw [if_pos (by push_cast at q2 hne h1'; omega)] at hl
        refine bX11_turnsOn_56 ?_
        rw [show ((k + 1 : Nat) : Int) + (-1) = (k : Int) by push_cast; omega]
        exact ih h0 h1 (by push_cast at hne h1'; omega) (by omega) hr hl
  have at34 : ∀ r : Int, -4 ≤ r → r < n - 1 ∨ r < 0 → r = riseL (σ 99) (n - 1).toNat ∨ (r < 0 ∧ riseL (σ 99) (n - 1).toNat < 0) → G mdX11_turnsOn X 31 [(0, vr 87), (1, vi n), (2, vi r)] [] σ := by
    intro r h0 h1 hr
    refine bX11_turnsOn_31 ⟨by omega, by omega⟩ (fun q => ?_) (fun q => ?_)
    · refine bX11_turnsOn_37 ?_
      have e : n - 1 = (((n - 1).toNat : Nat) : Int) := by omega
      rw [e]
      exact large r _ q (by omega) (by omega) (by omega) (by omega) rfl
    · exact bX11_turnsOn_35 hX ⟨by rw [decide_eq_false (by omega)]; rfl, by rw [if_neg (by omega)]⟩
  have rise : ∀ k : Nat, (k : Int) ≤ n - 1 → riseL (σ 99) k = riseL (σ 99) (n - 1).toNat → G mdX11_turnsOn X 4 [(0, vr 87), (1, vi n), (2, vi ((k : Int) - 1))] [] σ := by
    intro k
    induction k with
    | zero =>
      intro h1 h2
      rw [riseL_z (σ 99)] at h2
      exact bX11_turnsOn_4 ⟨by decide, by decide⟩ (fun q => at34 _ (by decide) (Or.inr (by decide)) (Or.inr ⟨by decide, by omega⟩)) (fun q => absurd q (by decide))
    | succ k ih =>
      intro h1 h2
      have hb := riseL_bd (σ 99) (k + 1)
      have c1 := hc (k : Int) (by omega) (by omega)
      have c2 := hc ((k : Int) + 1) (by omega) (by omega)
      rw [show ((k + 1 : Nat) : Int) - 1 = (k : Int) by push_cast; omega]
      rw [riseL_s (σ 99) k] at h2
      refine bX11_turnsOn_4 ⟨by omega, by omega⟩ (fun q => by omega) (fun q => bX11_turnsOn_8 ⟨by omega, by omega, c1, c2⟩ (fun q2 => ?_) (fun q2 => ?_))
      · rw [if_neg (by omega)] at h2
        exact at34 _ (by omega) (Or.inl (by push_cast at h1; omega)) (Or.inl h2)
      · rw [if_pos q2] at h2
        refine bX11_turnsOn_25 ?_
        exact ih (by push_cast at h1; omega) h2
  by_cases h0 : n = 0
  · have hb := riseL_bd (σ 99) (n - 1).toNat
    exact bX11_turnsOn_4 ⟨by omega, by omega⟩ (fun q => at34 _ (by omega) (Or.inr q) (Or.inr ⟨q, by omega⟩)) (fun q => by omega)
  · have h := rise (n - 1).toNat (by omega) rfl
    rw [show (((n - 1).toNat : Nat) : Int) - 1 = n - 2 by omega] at h
    exact h
theorem n_doStage {N : Int} {a : AS} {σ : St} (h : MR N a σ) {g : Row} (hg : good g) (e96 : σ 96 = g) {k : Int} (hk : 0 ≤ k ∧ k < a.1 64) : CV mdX11_doStage [vr 87, vi (65 + 5 * k)] σ (fun u => u 96 = sF (a.1 32) a.1 (chV a.1) k g ∧ MR N a u ∧ Wf σ u) := by
  have e := h.n64
  refine (m_doStage σ (by rw [e96]; exact hg) h.ok (by omega) (okB_eq hk.1 (fun i x y => h.ch i x (by omega)) (h.1.2.2.2.2.2.2.1 k hk.1 hk.2))).mono ?_
  rintro u ⟨h1, h2⟩
  have h3 : u 96 = sF (a.1 32) a.1 (chV a.1) k g := by
    rw [h1, h.m, e96]
    exact (sF_eq h.s32 hk.1 (fun j c d => h.ch j c (by omega)) g).symm
  exact ⟨h3, h.wf h2 (by rw [h3]; exact (good_stage hg).2), h2⟩
theorem n_tryOrder {N : Int} {a : AS} {σ : St} (h : MR N a σ) {c : Row} (hc : ∀ j, 0 ≤ j → j < a.1 64 → σ 99 j = c j ∧ 0 ≤ c j ∧ c j < a.1 64) {X : CT} (k : ∀ u, MR N a u → Wf σ u → inI (ordV a.1 c) → G mdX11_findOrder X 76 [(0, vr 87), (1, vi (a.1 64))] [vi (ordV a.1 c)] u) : G mdX11_findOrder X 40 [(0, vr 87), (1, vi (a.1 64))] [] σ := by
  have e := h.n64
  refine bX11_findOrder_40 (n_air h) ?_
  rintro u ⟨h1, h2, h3⟩
  refine bX11_findOrder_44 ?_
  have key : ∀ u : St, u 96 = permF (a.1 32) a.1 (chV a.1) c (0 : Int).toNat (airV a.1) → MR N a u → Wf σ u → G mdX11_findOrder X 46 [(0, vr 87), (1, vi (a.1 64)), (3, vi 0)] [] u := by
    refine loopUp (Q := fun j => ∀ u : St, u 96 = permF (a.1 32) a.1 (chV a.1) c j.toNat (airV a.1) → MR N a u → Wf σ u → G mdX11_findOrder X 46 [(0, vr 87), (1, vi (a.1 64)), (3, vi j)] [] u) (a := 0) (n := a.1 64) ?_ (fun j g1 g2 ih => ?_) e.2.1
    · intro u hu h2 h3
      refine bX11_findOrder_46 ⟨⟨by omega, by omega⟩, by omega, by omega⟩ (fun _ => ?_) (fun q => by omega)
      refine bX11_findOrder_72 (n_wrongNow h2 (good_perm (good_airV h.1.2) _) hu) ?_
      rintro z u2 hz ⟨rfl, rfl⟩
      exact k _ h2 h3 hz
    · intro u hu h2 h3
      obtain ⟨c1, c2, c3⟩ := hc j g1 g2
      have e99 : u 99 j = c j := by rw [h3 99 (by decide) (by decide)]; exact c1
      refine bX11_findOrder_46 ⟨⟨by omega, by omega⟩, by omega, by omega⟩ (fun q => by omega) (fun _ => ?_)
      refine bX11_findOrder_51 (by rw [e99]; exact n_doStage h2 (good_perm (good_airV h.1.2) _) hu ⟨c2, c3⟩) ⟨g1, by omega⟩ ?_
      rintro u2 ⟨g3, g4, g5⟩
      refine bX11_findOrder_66 (ih u2 ?_ g4 (h3.tr g5))
      rw [permF_step _ _ _ _ g1]
      exact g3
  exact key u h1 h2 h3
