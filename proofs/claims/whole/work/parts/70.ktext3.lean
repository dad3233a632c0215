/-! the class: the end and the begin of an item, a token -/
theorem c_isWhole {N : Int} {a : AS} {σ : St} {q : QS} (h : KQ N a q σ) {p : Int} (ok : okQ N p q) : CIe mdX9_isWhole [vr 65] σ (bI (decide (whQ q))) σ := by
  refine CI_of (by decide +kernel) (Nat.le_of_ble_eq_true rfl) rfl (fun X hX => ?_)
  have h3 := h.2.2.1
  have tb := ok.2.1
  have hi : inI (σ 65 3) := by
    rw [h3]
    rcases ok.1 with c | c | c | c | c <;> rw [c] <;> exact ⟨by decide, by decide⟩
  have row : (q.1 = 120 ∨ q.1 = 121) → G mdX9_isWhole X 48 [(0, vr 65)] [] σ := fun c => by
    have t := h.2.2.2.1 (by omega)
    refine bX9_isWhole_48 (by rw [t]; exact ⟨by omega, by omega⟩) (fun g => ?_) (fun g => ?_)
    · exact bX9_isWhole_59 (bX9_isWhole_60 hX (Or.inl rfl) ⟨bJ_f (by omega), rfl⟩)
    · exact bX9_isWhole_55 (bX9_isWhole_60 hX (Or.inr rfl) ⟨bJ_t (by omega), rfl⟩)
  refine bX9_isWhole_0 hi (fun c => ?_) (fun c => ?_) (fun c => row (by omega)) (fun c => row (by omega)) (fun c => ?_)
  · have t := h.2.2.2.1 (by omega)
    refine bX9_isWhole_63 (by rw [t]; exact ⟨by omega, by omega⟩) (fun g => ?_) (fun g => ?_)
    · exact bX9_isWhole_75 (bX9_isWhole_76 hX (Or.inl rfl) ⟨bJ_f (by omega), rfl⟩)
    · exact bX9_isWhole_71 (bX9_isWhole_76 hX (Or.inr rfl) ⟨bJ_t (by omega), rfl⟩)
  · exact bX9_isWhole_61 hX ⟨bJ_t (by omega), rfl⟩
  · exact bX9_isWhole_77 hX ⟨bJ_f (by omega), rfl⟩
theorem vw6_line (u : St) (f : Row) (n : Int) : (∀ j, 0 ≤ j → j < 33 → vwC (setS (setr u 9 f) 8 2 n) 6 j = vwC u 6 j) ∧ vwC (setS (setr u 9 f) 8 2 n) 6 33 = n ∧ (∀ j, 0 ≤ j → j < 30 → vwC (setS (setr u 9 f) 8 2 n) 6 (34 + j) = f j) ∧ (∀ j, 64 ≤ j → vwC (setS (setr u 9 f) 8 2 n) 6 j = vwC u 6 j) := by
  have e : ∀ y, y ≠ 8 → y ≠ 9 → setS (setr u 9 f) 8 2 n y = u y := fun y h1 h2 => by rw [setS_ne _ _ _ h1, setr_ne _ _ h2]
  have e3 : setS (setr u 9 f) 8 2 n 9 = f := by rw [setS_ne _ _ _ (by decide), setr_at]
  have e2 : setS (setr u 9 f) 8 2 n 8 2 = n := setS_at _ _ _ _
  refine ⟨fun j c d => ?_, e2, fun j c d => ?_, fun j c => ?_⟩
  · unfold vwC
    by_cases q1 : j < 32
    · simp only [if_pos q1]; rw [e (6 + 1) (by decide) (by decide)]
    · obtain rfl : j = 32 := by omega
      show setS (setr u 9 f) 8 2 n 6 1 = u 6 1
      rw [e 6 (by decide) (by decide)]
  · unfold vwC
    rw [if_neg (by omega), if_neg (by omega), if_neg (by omega), if_pos (by omega)]
    show setS (setr u 9 f) 8 2 n 9 (34 + j - 34) = f j
    rw [e3]
    congr 1; omega
  · unfold vwC
    rw [e 6 (by decide) (by decide), e (6 + 4) (by decide) (by decide), e (6 + 5) (by decide) (by decide)]
    simp only [if_neg (show ¬ j < 32 by omega), if_neg (show ¬ j = 32 by omega), if_neg (show ¬ j = 33 by omega), if_neg (show ¬ j < 64 by omega)]
theorem CR.room8 {N : Int} {a : AS} {σ : St} (h : CR N a σ) : σ 8 1 = 6 := h.2.2.2.2.2.2.2.1
theorem k_endsItem {N : Int} {a : AS} {σ : St} {q : QS} (h : KQ N a q σ) {p : Int} (hp : p ≤ 160) (ok : okQ N p q) : CI mdX9_endsItem [vr 65, vr 6] σ (PQ N a σ (semQ q)) := by
  refine CI_of (by decide +kernel) (Nat.le_of_ble_eq_true rfl) rfl (fun X hX => ?_)
  obtain ⟨h1, h2, h3, h4, h5, h6, h7⟩ := id h
  refine bX9_endsItem_0 isSt6 (c_isWhole h ok) ?_
  rintro z u hz ⟨rfl, rfl⟩
  refine bX9_endsItem_4 isSt6 hz (fun g => ?_) (fun g => ?_)
  · have hw := bI_d1 g
    have ev : semQ q = some (32, 0, q.2.2.1 + 1, q.2.2.2.1, q.2.2.2.2.1, if q.1 = 100 then appD q.2.2.2.2.2 q.2.2.2.2.1 else q.2.2.2.2.2) := by unfold semQ; rw [if_pos hw]
    rw [ev] at hX
    have hi : inI (σ 65 3) := by
      rw [h3]
      rcases ok.1 with c | c | c | c | c <;> rw [c] <;> exact ⟨by decide, by decide⟩
    -- behind the append
    have fin : ∀ u : St, CR N a u → eqv (if q.1 = 100 then appD q.2.2.2.2.2 q.2.2.2.2.1 else q.2.2.2.2.2) (vwC u 6) → u 65 = σ 65 → up σ u → G mdX9_endsItem X 29 [(0, vr 65)] [] u := by
      intro u k1 k2 k3 k4
      refine bX9_endsItem_29 hX ?_
      rw [wr_setr u]
      have f5 : setr u 65 (fun j => if j = 3 then 32 else u 65 j) 65 5 = q.2.2.1 := by rw [setr_at, if_neg (by decide), k3]; exact h5
      rw [f5, wr_setr]
      show PQ N a σ _ 1 (setS (setS u 65 3 32) 65 5 (q.2.2.1 + 1))
      generalize hu : setS (setS u 65 3 32) 65 5 (q.2.2.1 + 1) = w
      have e : ∀ x, x ≠ 65 → w x = u x := fun x c => by rw [← hu, setS_ne _ _ _ c, setS_ne _ _ _ c]
      have e65 : ∀ j, j ≠ 5 → j ≠ 3 → w 65 j = σ 65 j := fun j c d => by rw [← hu, setS_at2 _ _ _ c, setS_at2 _ _ _ d, k3]
      refine ⟨Or.inr ⟨rfl, _, rfl, k1.txt (fun x _ c _ => e x c) (by rw [e65 2 (by decide) (by decide), k3]) (by rw [e 8 (by decide)]) ?_, ?_, ?_, fun g => absurd rfl g, ?_, ?_, fun g => absurd g (show ¬ (32 : Int) = 100 by decide)⟩, fun x hx => (e x (by omega)).trans (k4 x hx)⟩
      · obtain ⟨z1, z2, z3⟩ := k1.zst isSt6
        exact ⟨by rw [e _ (by decide)]; exact z1, by rw [e _ (by decide)]; exact z2, by rw [e _ (by decide)]; exact z3⟩
      · show eqv (if q.1 = 100 then appD q.2.2.2.2.2 q.2.2.2.2.1 else q.2.2.2.2.2) (vwC w 6)
        rw [vw6_txt (fun x c d => e x (by omega))]
        exact k2
      · show w 65 3 = 32
        rw [← hu, setS_at2 _ _ _ (by decide), setS_at]
      · show w 65 5 = q.2.2.1 + 1
        rw [← hu, setS_at]
      · rw [e65 6 (by decide) (by decide)]; exact h6
    refine bX9_endsItem_9 isSt6 hi (fun c => fin _ h1 (by rw [if_neg (by omega)]; exact h2) rfl up.rf) (fun c => ?_)
    have c1 : q.1 = 100 := by omega
    have h55 : q.2.1 = 5 := by
      rcases hw with ⟨hw, -⟩ | hw | ⟨-, hw⟩
      · omega
      · omega
      · exact hw
    obtain ⟨o1, o2, o3⟩ := ok.2.2.2.2.1 c1
    have b33 := ok.2.2.2.2.2.2.2.1
    have e33 : σ 8 2 = q.2.2.2.2.2 33 := h2.e33.symm
    have r8 := h1.room8
    have st := h7 c1
    refine bX9_endsItem_18 isSt6 (c_append ⟨by decide, by decide⟩ rfl (by decide) σ (by show 0 ≤ σ 8 1 ∧ σ 8 1 ≤ 6; omega) (by show 0 ≤ σ 8 2 ∧ σ 8 2 < σ 8 1; omega)) ?_
    rintro u rfl
    show G mdX9_endsItem X 29 _ [] (setS (setr σ 9 (putR (σ 8 2) (σ 67) (σ 9))) 8 2 (σ 8 2 + 1))
    rw [e33]
    generalize hu : setS (setr σ 9 (putR (q.2.2.2.2.2 33) (σ 67) (σ 9))) 8 2 (q.2.2.2.2.2 33 + 1) = u
    have e : ∀ x, x ≠ 8 → x ≠ 9 → u x = σ x := fun x c d => by rw [← hu, setS_ne _ _ _ c, setr_ne _ _ d]
    have e8 : ∀ j, j ≠ 2 → u 8 j = σ 8 j := fun j c => by rw [← hu, setS_at2 _ _ _ c, setr_ne _ _ (by decide)]
    refine fin u (h1.txt (fun x c _ _ => e x (by omega) (by omega)) (by rw [e 65 (by decide) (by decide)]) (e8 1 (by decide)) ?_) ?_ (e 65 (by decide) (by decide)) (fun x hx => e x (by omega) (by omega))
    · obtain ⟨z1, z2, z3⟩ := h1.zst isSt6
      refine ⟨by rw [e _ (by decide) (by decide)]; exact z1, ?_, by rw [e _ (by decide) (by decide)]; exact z3⟩
      show zo 30 (u 9)
      rw [← hu, setS_ne _ _ _ (by decide), setr_at]
      exact zo_in z2 (fun j cj => by unfold putR; rw [if_neg (by omega)])
    · rw [if_pos c1]
      obtain ⟨v1, v2, v3, v4⟩ := vw6_line σ (putR (q.2.2.2.2.2 33) (σ 67) (σ 9)) (q.2.2.2.2.2 33 + 1)
      rw [hu] at v1 v2 v3 v4
      obtain ⟨a1, a2, a3, a4, a5, a6⟩ := h2
      have lo : ∀ j, j < 33 → appD q.2.2.2.2.2 q.2.2.2.2.1 j = q.2.2.2.2.2 j := fun j d => by unfold appD; rw [if_neg (by omega), if_neg (by omega)]
      have hi2 : ∀ j, 64 ≤ j → appD q.2.2.2.2.2 q.2.2.2.2.1 j = q.2.2.2.2.2 j := fun j d => by unfold appD; rw [if_neg (by omega), if_neg (by omega)]
      have m : appD q.2.2.2.2.2 q.2.2.2.2.1 33 = q.2.2.2.2.2 33 + 1 := by unfold appD; rw [if_pos rfl]
      refine ⟨fun j x y => ?_, fun j x y => ?_, by rw [hi2 _ (by decide), v4 _ (by decide)]; exact a3, fun j x y => ?_, by rw [hi2 _ (by decide), v4 _ (by decide)]; exact a5, by rw [hi2 _ (by decide), v4 _ (by decide)]; exact a6⟩
      · by_cases c3 : j = 33
        · rw [c3, m, v2]
        · rw [lo j (by omega), v1 j x (by omega)]; exact a1 j x y
      · rw [m] at y
        rw [v3 j x (by omega)]
        unfold appD putR
        rw [if_neg (by omega)]
        by_cases c3 : q.2.2.2.2.2 33 * 5 ≤ j
        · rw [if_pos (by omega), if_pos (by omega), st _ (by omega) (by omega), show 34 + j - (34 + q.2.2.2.2.2 33 * 5) = j - q.2.2.2.2.2 33 * 5 by omega]
        · rw [if_neg (by omega), if_neg (by omega)]
          exact (a2 j x (by omega)).trans (vw_ln σ 6 j x (by omega))
      · rw [hi2 64 (by decide)] at y
        rw [hi2 _ (by omega), v4 _ (by omega)]
        exact a4 j x y
  · have hw := bI_d0 g
    have ev : semQ q = none := by unfold semQ; rw [if_neg hw]
    rw [ev] at hX
    exact bX9_endsItem_7 hX ⟨Or.inl ⟨rfl, rfl, h1⟩, up.rf⟩
theorem k_beginsItem {N : Int} {a : AS} {σ : St} {q : QS} (h : KQ N a q σ) {p c : Int} (ok : okQ N p q) (hc : 0 ≤ c ∧ c ≤ 255) : CI mdX9_beginsItem [vr 65, vr 6, vi c] σ (PQ N a σ (letQ q c)) := by
  refine CI_of (by decide +kernel) (Nat.le_of_ble_eq_true rfl) rfl (fun X hX => ?_)
  obtain ⟨h1, h2, h3, h4, h5, h6, h7⟩ := id h
  have hi : inI (σ 65 3) := by
    rw [h3]
    rcases ok.1 with c | c | c | c | c <;> rw [c] <;> exact ⟨by decide, by decide⟩
  refine bX9_beginsItem_0 isSt6 hi (fun g => ?_) (fun g => ?_)
  · have c0 : q.1 = 32 := by omega
    have ev : letQ q c = if c = 120 then some (120, 0, q.2.2.1, q.2.2.2.1, q.2.2.2.2.1, rowZ q.2.2.2.2.2 0)
      else if c = 121 then some (121, 0, q.2.2.1, q.2.2.2.1, q.2.2.2.2.1, rowZ q.2.2.2.2.2 1)
      else if c = 109 then (if q.2.2.2.1 = 0 then some (109, 0, q.2.2.1, 1, q.2.2.2.2.1, setV q.2.2.2.2.2 32 0) else none)
      else if c = 100 then (if q.2.2.2.2.2 33 < 6 then some (100, 0, q.2.2.1, q.2.2.2.1, q.2.2.2.2.1, q.2.2.2.2.2) else none)
      else none := by unfold letQ; rw [if_pos c0]
    rw [ev] at hX
    -- behind the letter
    have fin : ∀ (q' : QS) (u : St), (letQ q c = some q') → CR N a u → eqv q'.2.2.2.2.2 (vwC u 6) → q'.1 = c → q'.2.1 = 0 → u 65 5 = q'.2.2.1 → u 65 6 = q'.2.2.2.1 → up σ u → G mdX9_beginsItem X 108 [(0, vr 65), (2, vi c)] [] u := by
      intro q' u k0 k1 k2 k3 k4 k5 k6 k7
      rw [← ev, k0] at hX
      refine bX9_beginsItem_108 hX ?_
      have ew : wr (wr u 65 3 c) 65 4 0 = setS (setS u 65 3 c) 65 4 0 := by rw [wr_setr, wr_setr]; rfl
      rw [ew]
      generalize hu : setS (setS u 65 3 c) 65 4 0 = w
      have e : ∀ x, x ≠ 65 → w x = u x := fun x d => by rw [← hu, setS_ne _ _ _ d, setS_ne _ _ _ d]
      have e65 : ∀ j, j ≠ 4 → j ≠ 3 → w 65 j = u 65 j := fun j d d2 => by rw [← hu, setS_at2 _ _ _ d, setS_at2 _ _ _ d2]
      refine ⟨Or.inr ⟨rfl, q', rfl, k1.txt (fun x _ d _ => e x d) (e65 2 (by decide) (by decide)) (by rw [e 8 (by decide)]) ?_, ?_, ?_, fun _ => ?_, ?_, ?_, fun _ j x y => ?_⟩, fun x hx => (e x (by omega)).trans (k7 x hx)⟩
      · obtain ⟨z1, z2, z3⟩ := k1.zst isSt6
        exact ⟨by rw [e _ (by decide)]; exact z1, by rw [e _ (by decide)]; exact z2, by rw [e _ (by decide)]; exact z3⟩
      · rw [vw6_txt (fun x _ d => e x (by omega))]
        exact k2
      · rw [k3, ← hu, setS_at2 _ _ _ (by decide), setS_at]
      · rw [k4, ← hu, setS_at]
      · rw [e65 5 (by decide) (by decide)]; exact k5
      · rw [e65 6 (by decide) (by decide)]; exact k6
      · rw [k4] at y; omega
    have row : ∀ r : Int, (r = 0 ∨ r = 1) → c = 120 + r → letQ q c = some (120 + r, 0, q.2.2.1, q.2.2.2.1, q.2.2.2.2.1, rowZ q.2.2.2.2.2 r) → G mdX9_beginsItem X 108 [(0, vr 65), (2, vi c)] [] (setr σ 7 (fun j => if r * 16 ≤ j ∧ j < r * 16 + 16 then 0 else σ 7 j)) := by
      intro r hr hcr he
      have e : ∀ x, x ≠ 7 → setr σ 7 (fun j => if r * 16 ≤ j ∧ j < r * 16 + 16 then 0 else σ 7 j) x = σ x := fun x d => setr_ne _ _ d
      refine fin _ _ he (h1.txt (fun x d _ _ => e x (by omega)) (by rw [e 65 (by decide)]) (by rw [e 8 (by decide)]) ?_) ?_ hcr.symm rfl (by rw [e 65 (by decide)]; exact h5) (by rw [e 65 (by decide)]; exact h6) (up.set (by decide))
      · obtain ⟨z1, z2, z3⟩ := h1.zst isSt6
        refine ⟨?_, by rw [e _ (by decide)]; exact z2, by rw [e _ (by decide)]; exact z3⟩
        show zo 32 (setr σ 7 _ 7)
        rw [setr_at]
        exact zo_in z1 (fun j cj => by rw [if_neg (by omega)])
      · rw [vw6_row σ hr]
        exact eqv_rowZ h2 hr
    refine bX9_beginsItem_11 isSt6 ⟨by omega, by omega⟩ (fun k => ?_) (fun k => ?_) (fun k => ?_) (fun k => ?_) (fun k => ?_)
    · have e33 : σ 8 2 = q.2.2.2.2.2 33 := h2.e33.symm
      have b33 := ok.2.2.2.2.2.2.2.1
      have r8 := h1.room8
      refine bX9_beginsItem_94 isSt6 (c_isFull ⟨by decide, by decide⟩ σ (by show 0 ≤ σ 8 1 ∧ σ 8 1 ≤ 6; omega) (by show 0 ≤ σ 8 2 ∧ σ 8 2 ≤ 6; omega)) ?_
      rintro z u hz ⟨rfl, rfl⟩
      refine bX9_beginsItem_101 hz (fun g2 => ?_) (fun g2 => ?_)
      · have g3 : ¬ σ 8 1 ≤ σ 8 2 := bI_d0 g2
        refine fin (100, 0, q.2.2.1, q.2.2.2.1, q.2.2.2.2.1, q.2.2.2.2.2) _ ?_ h1 h2 k.symm rfl h5 h6 up.rf
        rw [ev, if_neg (by omega), if_neg (by omega), if_neg (by omega), if_pos k, if_pos (by omega)]
      · have g3 : σ 8 1 ≤ σ 8 2 := bI_d1 g2
        rw [if_neg (by omega), if_neg (by omega), if_neg (by omega), if_pos k, if_neg (by omega)] at hX
        exact bX9_beginsItem_104 hX ⟨Or.inl ⟨rfl, rfl, h1⟩, up.rf⟩
    · refine bX9_beginsItem_72 isSt6 (by rw [h6]; rcases ok.2.2.2.1 with d | d <;> rw [d] <;> exact ⟨by decide, by decide⟩) (fun g2 => ?_) (fun g2 => ?_)
      · refine bX9_beginsItem_81 isSt6 ?_
        have ew : wr (wr σ 65 6 1) 6 1 0 = setS (setS σ 65 6 1) 6 1 0 := by rw [wr_setr, wr_setr]; rfl
        rw [ew]
        have e : ∀ x, x ≠ 65 → x ≠ 6 → setS (setS σ 65 6 1) 6 1 0 x = σ x := fun x d d2 => by rw [setS_ne _ _ _ d2, setS_ne _ _ _ d]
        refine fin (109, 0, q.2.2.1, 1, q.2.2.2.2.1, setV q.2.2.2.2.2 32 0) _ ?_ (h1.txt (fun x d d2 _ => e x d2 (by omega)) ?_ (by rw [e 8 (by decide) (by decide)]) ?_) ?_ k.symm rfl ?_ ?_ (fun x hx => e x (by omega) (by omega))
        · rw [ev, if_neg (by omega), if_neg (by omega), if_pos k, if_pos (by omega)]
        · rw [setS_ne _ _ _ (by decide), setS_at2 _ _ _ (by decide)]
        · obtain ⟨z1, z2, z3⟩ := h1.zst isSt6
          exact ⟨by rw [e _ (by decide) (by decide)]; exact z1, by rw [e _ (by decide) (by decide)]; exact z2, by rw [e _ (by decide) (by decide)]; exact z3⟩
        · rw [vw_mark, vw6_txt (fun x d d2 => setS_ne _ _ _ (by omega))]
          exact eqv_set h2 (by decide) (by decide)
        · rw [setS_ne _ _ _ (by decide), setS_at2 _ _ _ (by decide)]; exact h5
        · rw [setS_ne _ _ _ (by decide), setS_at]
      · rw [if_neg (by omega), if_neg (by omega), if_pos k, if_neg (by omega)] at hX
        exact bX9_beginsItem_79 hX ⟨Or.inl ⟨rfl, rfl, h1⟩, up.rf⟩
    · refine bX9_beginsItem_56 isSt6 (c_emptyRow isSt6 σ ⟨by decide, by decide⟩) ?_
      rintro u rfl
      exact bX9_beginsItem_61 (row 0 (Or.inl rfl) (by omega) (by rw [ev, if_pos k]; rfl))
    · refine bX9_beginsItem_64 isSt6 (c_emptyRow isSt6 σ ⟨by decide, by decide⟩) ?_
      rintro u rfl
      exact bX9_beginsItem_69 (row 1 (Or.inr rfl) (by omega) (by rw [ev, if_neg (by omega), if_pos k]; rfl))
    · rw [if_neg k.2.2.1, if_neg k.2.2.2, if_neg k.2.1, if_neg k.1] at hX
      exact bX9_beginsItem_106 hX ⟨Or.inl ⟨rfl, rfl, h1⟩, up.rf⟩
  · have ev : letQ q c = none := by unfold letQ; rw [if_neg (by omega)]
    rw [ev] at hX
    exact bX9_beginsItem_9 hX ⟨Or.inl ⟨rfl, rfl, h1⟩, up.rf⟩
theorem k_takesToken {N : Int} {a : AS} {σ : St} {q : QS} {T : Row} {L : Int} (h : KQ N a q σ) (ht : txK T L σ) {p : Int} (hp : 0 ≤ p ∧ p < L) (ok : okQ N p q) : CI mdX9_takesToken [vr 65, vr 6, vi p, vi (endT T L p)] σ (PQ N a σ (tokQ T L p q)) := by
  refine CI_of (by decide +kernel) (Nat.le_of_ble_eq_true rfl) rfl (fun X hX => ?_)
  obtain ⟨t1, t2, t3⟩ := id ht
  obtain ⟨e1, e2, e3⟩ := t3 p hp.1 hp.2
  have z01 : ∀ z u, PQ N a σ (tokQ T L p q) z u → z = 0 ∨ z = 1 := fun z u hp => by
    rcases hp.1 with ⟨c, -⟩ | ⟨c, -⟩
    · exact Or.inl c
    · exact Or.inr c
  refine bX9_takesToken_0 isSt6 (by rw [e1]; exact ⟨⟨hp.1, by omega⟩, by omega, by omega⟩) (fun g => ?_) (fun g => ?_)
  · rw [e1] at g ⊢
    refine bX9_takesToken_17 isSt6 (c_isDigit ⟨by omega, by omega⟩ σ) ?_
    rintro z u hz ⟨rfl, rfl⟩
    refine bX9_takesToken_22 isSt6 hz (fun g2 => ?_) (fun g2 => ?_)
    · have g3 := bI_d0 g2
      refine bX9_takesToken_37 isSt6 ⟨by omega, by omega⟩ (fun g4 => ?_) (fun g4 => ?_)
      · have ev : tokQ T L p q = letQ q (T p) := by unfold tokQ; rw [if_neg g, if_neg g3, if_neg g4]
        rw [ev] at hX z01
        refine bX9_takesToken_50 isSt6 (k_beginsItem h ok ⟨e2, e3⟩) ?_
        intro z u hz pq
        exact bX9_takesToken_57 hX (z01 z u pq) pq
      · have ev : tokQ T L p q = semQ q := by unfold tokQ; rw [if_neg g, if_neg g3, if_pos g4]
        rw [ev] at hX z01
        refine bX9_takesToken_44 isSt6 (k_endsItem h (by omega) ok) ?_
        intro z u hz pq
        exact bX9_takesToken_49 hX (z01 z u pq) pq
    · have g3 := bI_d1 g2
      have hb := endT_bd (T := T) hp.1 hp.2 t2.2
      have hd := endT_dg hp t2.2 g3
      have ev : tokQ T L p q = numQ q (valT T p (endT T L p)) := by unfold tokQ; rw [if_neg g, if_pos g3]
      rw [ev] at hX z01
      refine bX9_takesToken_25 isSt6 (c_valueOf _ ht hp.1 ⟨by omega, hb.2⟩ hd) ?_
      rintro z u hz2 ⟨rfl, rfl⟩
      refine bX9_takesToken_33 isSt6 (k_takesNumber h ok (valT_bd ⟨by omega, hb.2⟩ hd)) ?_
      intro z u hz pq
      exact bX9_takesToken_36 hX (z01 z u pq) pq
  · rw [e1] at g
    have ev : tokQ T L p q = some q := by unfold tokQ; rw [if_pos g]
    rw [ev] at hX
    exact bX9_takesToken_15 hX ⟨Or.inr ⟨rfl, q, rfl, h⟩, up.rf⟩
