/-! what changes an object of the class: adds, stages, hears -/
def appD (v st : Row) : Row := fun j => if j = 33 then v 33 + 1 else if 34 + v 33 * 5 ≤ j ∧ j < 34 + v 33 * 5 + 5 then st (j - (34 + v 33 * 5)) else v j
def appS (v st : Row) : Row := fun j => if j = 64 then v 64 + 1 else if 65 + v 64 * 5 ≤ j ∧ j < 65 + v 64 * 5 + 5 then st (j - (65 + v 64 * 5)) else v j
def posB (o : Nat) (f : Row) : Bool := alw o f 0 (f 0) && alw o f 1 (f 1) && alw o f 2 (f 2) && alw o f 3 (f 3) && alw o f 4 (f 4)
theorem posB_5 {o : Nat} {f : Row} : posB o f = true ↔ pos5 o f := by
  rw [pos5_and]
  unfold posB
  simp only [Bool.and_eq_true, and_assoc]
theorem vw_line (u : St) (f : Row) (n : Int) : (∀ j, 0 ≤ j → j < 33 → vwC (setS (setr u 3 f) 2 2 n) 0 j = vwC u 0 j) ∧ vwC (setS (setr u 3 f) 2 2 n) 0 33 = n ∧ (∀ j, 0 ≤ j → j < 30 → vwC (setS (setr u 3 f) 2 2 n) 0 (34 + j) = f j) ∧ (∀ j, 64 ≤ j → vwC (setS (setr u 3 f) 2 2 n) 0 j = vwC u 0 j) := by
  have e : ∀ y, y ≠ 2 → y ≠ 3 → setS (setr u 3 f) 2 2 n y = u y := fun y h1 h2 => by rw [setS_ne _ _ _ h1, setr_ne _ _ h2]
  have e3 : setS (setr u 3 f) 2 2 n 3 = f := by rw [setS_ne _ _ _ (by decide), setr_at]
  have e2 : setS (setr u 3 f) 2 2 n 2 2 = n := setS_at _ _ _ _
  refine ⟨fun j c d => ?_, e2, fun j c d => ?_, fun j c => ?_⟩
  · unfold vwC
    by_cases q1 : j < 32
    · simp only [if_pos q1]; rw [e (0 + 1) (by decide) (by decide)]
    · obtain rfl : j = 32 := by omega
      show setS (setr u 3 f) 2 2 n 0 1 = u 0 1
      rw [e 0 (by decide) (by decide)]
  · unfold vwC
    rw [if_neg (by omega), if_neg (by omega), if_neg (by omega), if_pos (by omega)]
    show setS (setr u 3 f) 2 2 n 3 (34 + j - 34) = f j
    rw [e3]
    congr 1; omega
  · unfold vwC
    rw [e 0 (by decide) (by decide), e (0 + 1) (by decide) (by decide), e (0 + 4) (by decide) (by decide), e (0 + 5) (by decide) (by decide)]
    simp only [if_neg (show ¬ j < 32 by omega), if_neg (show ¬ j = 32 by omega), if_neg (show ¬ j = 33 by omega), if_neg (show ¬ j < 64 by omega)]
theorem CR.line {N : Int} {a : AS} {u : St} (h : CR N a u) {P f : Row} {n : Int} (h1 : eqN 33 P a.1) (h2 : P 33 = n) (h3 : ∀ j, 0 ≤ j → j < n * 5 → P (34 + j) = f j) (h4 : ∀ j, 64 ≤ j → P j = a.1 j) (hn : 0 ≤ n ∧ n ≤ 6) (hok : ∀ j, 0 ≤ j → j < n → okA (lnV P) j) (hz : ∀ i, ¬ (0 ≤ i ∧ i < 30) → f i = 0) : CR N (putP a P) (setS (setr u 3 f) 2 2 n) := by
  obtain ⟨c1, c2, c3, c4⟩ := vw_line u f n
  obtain ⟨a1, a2, a3, a4, a5, a6⟩ := h.1.1
  obtain ⟨g1, g2, g3, g4, g5, g6, g7, g8⟩ := id h.1.2
  refine h.setP (Int.le_refl N) (fun x hx => by rw [setS_ne _ _ _ (by omega), setr_ne _ _ (by omega)]) ?_ ?_ (by rw [setS_at2 _ _ _ (by decide), setr_ne _ _ (by decide)]) (by rw [setS_ne _ _ _ (by decide), setr_ne _ _ (by decide)]) ?_
  · refine ⟨fun j c d => ?_, fun j c d => ?_, by rw [h4 _ (by decide), c4 _ (by decide)]; exact a3, fun j c d => ?_, by rw [h4 _ (by decide), c4 _ (by decide)]; exact a5, by rw [h4 _ (by decide), c4 _ (by decide)]; exact a6⟩
    · by_cases q : j = 33
      · rw [q, h2, c2]
      · rw [h1 j c (by omega), c1 j c (by omega)]; exact a1 j c d
    · rw [h2] at d
      rw [h3 j c d, c3 j c (by omega)]
    · rw [h4 64 (by decide)] at d
      rw [h4 _ (by omega), c4 _ (by omega)]
      exact a4 j c d
  · refine ⟨fun i c d => by rw [h1 i c (by omega)]; exact g1 i c d, by rw [h1 32 (by decide) (by decide)]; exact g2, by rw [h2]; exact hn, fun j c d => hok j c (by omega), by rw [h4 _ (by decide)]; exact g5, fun j c d => ?_, by rw [h4 _ (by decide)]; exact g7, by rw [h4 _ (by decide)]; exact g8⟩
    rw [h4 _ (by decide)] at d
    exact okB_eq c (fun i x y => (h4 (65 + i) (by omega)).symm) (g6 j c d)
  · obtain ⟨z1, z2, z3⟩ := h.zst isSt0
    refine ⟨?_, ?_, ?_⟩
    · rw [setS_ne _ _ _ (by decide), setr_ne _ _ (by decide)]; exact z1
    · rw [setS_ne _ _ _ (by decide)]
      show ∀ i, ¬ (0 ≤ i ∧ i < 30) → setr u 3 f 3 i = 0
      rw [setr_at]; exact hz
    · rw [setS_ne _ _ _ (by decide), setr_ne _ _ (by decide)]; exact z3
theorem k_appLine {N : Int} {a : AS} {σ : St} (h : CR N a σ) {st : Row} (hst : ∀ j, 0 ≤ j → j < 5 → σ 84 j = st j) (ok : okD (st 0) (st 1) (st 2) (st 3) (st 4)) : CI mdX10_appendStep [vr 60, vr 2] σ (fun z u => z = (if a.1 33 = 6 then (-3, a) else (a.1 33 + 1, putP (noteA a) (appD a.1 st)) : Int × AS).1 ∧ CR N (if a.1 33 = 6 then (-3, a) else (a.1 33 + 1, putP (noteA a) (appD a.1 st)) : Int × AS).2 u ∧ up σ u) := by
  refine CI_of (by decide +kernel) (Nat.le_of_ble_eq_true rfl) rfl (fun X hX => ?_)
  have e := h.n33
  have hr := h.room
  have sp : isSp 2 := ⟨by decide, by decide⟩
  refine bX10_appendStep_0 sp (c_isFull sp σ (by omega) (by omega)) ?_
  rintro z u hz ⟨rfl, rfl⟩
  rw [hr.1, e.1] at hz ⊢
  refine bX10_appendStep_4 sp hz (fun q => ?_) (fun q => ?_)
  · have hlt := bI_d0 q
    rw [if_neg (show ¬ a.1 33 = 6 by omega)] at hX
    refine bX10_appendStep_10 sp (k_note h) ?_
    rintro u ⟨hu, hn⟩
    have f1 : u 2 2 = a.1 33 := hu.n33.1
    have f2 : u 2 1 = 6 := hu.room.1
    have f84 : u 84 = σ 84 := hn 84 (by decide) (by decide)
    refine bX10_appendStep_21 sp (c_append sp rfl (by decide) u (by omega) (by omega)) ?_
    rintro u2 rfl
    rw [f1, f84]
    refine bX10_appendStep_29 sp hX (by rw [setS_at]; exact ⟨by omega, by omega⟩) ⟨by rw [setS_at], ?_, hn.up.tr (up.tr (up.set (by decide)) (up.set (by decide)))⟩
    have hln : ∀ j, 0 ≤ j → j < a.1 33 * 5 → a.1 (34 + j) = u 3 j := fun j c d => (hu.1.1.2.1 j c d).trans (vw_ln u 0 j c (by omega))
    refine hu.line (P := appD a.1 st) (fun j c d => ?_) (by unfold appD; rw [if_pos rfl]) (fun j c d => ?_) (fun j c => ?_) (by omega) (fun j c d => ?_) ?_
    · unfold appD; rw [if_neg (by omega), if_neg (by omega)]; rfl
    · unfold appD putR
      rw [if_neg (by omega)]
      by_cases q : a.1 33 * 5 ≤ j
      · rw [if_pos (by omega), if_pos (by omega), hst _ (by omega) (by omega)]
        congr 1; omega
      · rw [if_neg (by omega), if_neg (by omega)]
        exact hln j c (by omega)
    · unfold appD; rw [if_neg (by omega), if_neg (by omega)]; rfl
    · by_cases q : j < a.1 33
      · refine okA_eq c (fun i x y => ?_) (h.1.2.2.2.2.1 j c q)
        show a.1 (34 + i) = appD a.1 st (34 + i)
        unfold appD
        rw [if_neg (by omega), if_neg (by omega)]
      · obtain rfl : j = a.1 33 := by omega
        have g : ∀ i, 0 ≤ i → i < 5 → lnV (appD a.1 st) (a.1 33 * 5 + i) = st i := fun i x y => by
          unfold lnV appD
          rw [if_neg (by omega), if_pos (by omega)]
          congr 1; omega
        unfold okA
        have g0 := g 0 (by decide) (by decide)
        rw [Int.add_zero] at g0
        rw [g0, g 1 (by decide) (by decide), g 2 (by decide) (by decide), g 3 (by decide) (by decide), g 4 (by decide) (by decide)]
        exact ok
    · intro i hi
      have z := (hu.zst isSt0).2.1
      unfold putR
      rw [if_neg (by omega)]
      exact z i hi
  · have hge := bI_d1 q
    rw [if_pos (show a.1 33 = 6 by omega)] at hX
    exact bX10_appendStep_7 hX ⟨rfl, h, up.rf⟩
theorem k_appChain {N : Int} {a : AS} {σ : St} (h : CR N a σ) {st : Row} (hst : ∀ j, 0 ≤ j → j < 5 → σ 84 j = st j) (ok : okS (st 0) (st 1) (st 2) (st 3) (st 4)) : CI mdX10_appendStep [vr 60, vr 4] σ (fun z u => z = (if a.1 64 = 4 then (-3, a) else (a.1 64 + 1, putP (noteA a) (appS a.1 st)) : Int × AS).1 ∧ CR N (if a.1 64 = 4 then (-3, a) else (a.1 64 + 1, putP (noteA a) (appS a.1 st)) : Int × AS).2 u ∧ up σ u) := by
  refine CI_of (by decide +kernel) (Nat.le_of_ble_eq_true rfl) rfl (fun X hX => ?_)
  have e := h.n64
  have hr := h.room
  have sp : isSp 4 := ⟨by decide, by decide⟩
  refine bX10_appendStep_0 sp (c_isFull sp σ (by omega) (by omega)) ?_
  rintro z u hz ⟨rfl, rfl⟩
  rw [hr.2.1, e.1] at hz ⊢
  refine bX10_appendStep_4 sp hz (fun q => ?_) (fun q => ?_)
  · have hlt := bI_d0 q
    rw [if_neg (show ¬ a.1 64 = 4 by omega)] at hX
    refine bX10_appendStep_10 sp (k_note h) ?_
    rintro u ⟨hu, hn⟩
    have f1 : u 4 2 = a.1 64 := hu.n64.1
    have f2 : u 4 1 = 4 := hu.room.2.1
    have f84 : u 84 = σ 84 := hn 84 (by decide) (by decide)
    refine bX10_appendStep_21 sp (c_append sp rfl (by decide) u (by omega) (by omega)) ?_
    rintro u2 rfl
    rw [f1, f84]
    refine bX10_appendStep_29 sp hX (by rw [setS_at]; exact ⟨by omega, by omega⟩) ⟨by rw [setS_at], ?_, hn.up.tr (up.tr (up.set (by decide)) (up.set (by decide)))⟩
    have hch : ∀ j, 0 ≤ j → j < a.1 64 * 5 → a.1 (65 + j) = u 5 j := fun j c d => (hu.1.1.2.2.2.1 j c d).trans (vw_ch u 0 j c (by omega))
    refine hu.chain (P := appS a.1 st) (fun j c d => ?_) (by unfold appS; rw [if_pos rfl]) (fun j c d => ?_) ?_ ?_ (by omega) (fun j c d => ?_) ?_
    · unfold appS; rw [if_neg (by omega), if_neg (by omega)]; rfl
    · unfold appS putR
      rw [if_neg (by omega)]
      by_cases q : a.1 64 * 5 ≤ j
      · rw [if_pos (by omega), if_pos (by omega), hst _ (by omega) (by omega)]
        congr 1; omega
      · rw [if_neg (by omega), if_neg (by omega)]
        exact hch j c (by omega)
    · unfold appS; rw [if_neg (by decide), if_neg (by omega)]; rfl
    · unfold appS; rw [if_neg (by decide), if_neg (by omega)]; rfl
    · by_cases q : j < a.1 64
      · refine okB_eq c (fun i x y => ?_) (h.1.2.2.2.2.2.2.1 j c q)
        show a.1 (65 + i) = appS a.1 st (65 + i)
        unfold appS
        rw [if_neg (by omega), if_neg (by omega)]
      · obtain rfl : j = a.1 64 := by omega
        have g : ∀ i, 0 ≤ i → i < 5 → chV (appS a.1 st) (a.1 64 * 5 + i) = st i := fun i x y => by
          unfold chV appS
          rw [if_neg (by omega), if_pos (by omega)]
          congr 1; omega
        unfold okB
        have g0 := g 0 (by decide) (by decide)
        rw [Int.add_zero] at g0
        rw [g0, g 1 (by decide) (by decide), g 2 (by decide) (by decide), g 3 (by decide) (by decide), g 4 (by decide) (by decide)]
        exact ok
    · intro i hi
      have z := (hu.zst isSt0).2.2
      unfold putR
      rw [if_neg (by omega)]
      exact z i hi
  · have hge := bI_d1 q
    rw [if_pos (show a.1 64 = 4 by omega)] at hX
    exact bX10_appendStep_7 hX ⟨rfl, h, up.rf⟩
def addsA (a : AS) (st : Row) : Int × AS := if posB 106 st then (if a.1 33 = 6 then (-3, a) else (a.1 33 + 1, putP (noteA a) (appD a.1 st))) else (-1, a)
def stagesA (a : AS) (st : Row) : Int × AS := if posB 107 st then (if a.1 64 = 4 then (-3, a) else (a.1 64 + 1, putP (noteA a) (appS a.1 st))) else (-1, a)
theorem posB_g (o : Nat) (k x y z w : Int) (g : Row) : posB o (stepR k x y z w g) = posB o (stepR k x y z w zR) := rfl
theorem step_g (k x y z w : Int) (g : Row) : ∀ j, 0 ≤ j → j < 5 → stepR k x y z w g j = stepR k x y z w zR j := by
  intro j h1 h2
  unfold stepR
  split
  · rfl
  · split
    · rfl
    · split
      · rfl
      · split
        · rfl
        · rw [if_pos (by omega), if_pos (by omega)]
theorem step_in {k x y z w : Int} (hk : inI k) (hx : inI x) (hy : inI y) (hz : inI z) (hw : inI w) (g : Row) : ∀ i, 0 ≤ i → i < 5 → inI (stepR k x y z w g i) := by
  intro i h1 h2
  have : i = 0 ∨ i = 1 ∨ i = 2 ∨ i = 3 ∨ i = 4 := by omega
  rcases this with rfl | rfl | rfl | rfl | rfl
  · exact hk
  · exact hx
  · exact hy
  · exact hz
  · exact hw
theorem k_adds {N : Int} {a : AS} {σ : St} (h : CR N a σ) {k x y z w : Int} (hk : inI k) (hx : inI x) (hy : inI y) (hz : inI z) (hw : inI w) : CI mdX10_adds [vr 60, vi k, vi x, vi y, vi z, vi w] σ (fun r u => r = (addsA a (stepR k x y z w zR)).1 ∧ CR N (addsA a (stepR k x y z w zR)).2 u ∧ up σ u) := by
  refine CI_of (by decide +kernel) (Nat.le_of_ble_eq_true rfl) rfl (fun X hX => ?_)
  refine bX10_adds_0 (c_putStep σ) ?_
  rintro u rfl
  have h2 : CR N a (setr σ 84 (stepR k x y z w (σ 84))) := h.fq (Fq.set (by decide)) (by rw [setr_ne _ _ (by decide)]; exact h.z1) (by rw [setr_ne _ _ (by decide)]; exact h.z2)
  have e84 : setr σ 84 (stepR k x y z w (σ 84)) 84 = stepR k x y z w (σ 84) := setr_at _ _ _
  have hup : up σ (setr σ 84 (stepR k x y z w (σ 84))) := up.set (by decide)
  refine bX10_adds_11 (c_isPossible (Or.inl rfl) rfl _ (by rw [e84]; exact step_in hk hx hy hz hw _)) ?_
  rintro r u hr ⟨h3, rfl⟩
  rw [e84] at h3
  have e5 : posB 106 (stepR k x y z w zR) = true ↔ pos5 106 (stepR k x y z w (σ 84)) := by rw [← posB_g _ _ _ _ _ _ (σ 84)]; exact posB_5
  refine bX10_adds_21 hr (fun q => ?_) (fun q => ?_)
  · rcases h3 with ⟨g1, g2⟩ | ⟨g1, g2⟩
    · have ev : addsA a (stepR k x y z w zR) = if a.1 33 = 6 then (-3, a) else (a.1 33 + 1, putP (noteA a) (appD a.1 (stepR k x y z w zR))) := by unfold addsA; rw [if_pos (e5.mpr g2)]
      rw [ev] at hX
      refine bX10_adds_26 (k_appLine h2 (st := stepR k x y z w zR) (by rw [e84]; exact step_g _ _ _ _ _ _) (posD.mp (posB_5.mp (e5.mpr g2)))) ?_
      rintro r u hr2 ⟨c1, c2, c3⟩
      exact bX10_adds_37 hX hr2 ⟨c1, c2, hup.tr c3⟩
    · omega
  · rcases h3 with ⟨g1, g2⟩ | ⟨g1, g2⟩
    · omega
    · have ev : addsA a (stepR k x y z w zR) = (-1, a) := by unfold addsA; rw [if_neg (fun g => g2 (e5.mp g))]
      rw [ev] at hX
      exact bX10_adds_24 hX ⟨rfl, h2, hup⟩
theorem k_stages {N : Int} {a : AS} {σ : St} (h : CR N a σ) {k x y z w : Int} (hk : inI k) (hx : inI x) (hy : inI y) (hz : inI z) (hw : inI w) : CI mdX10_stages [vr 60, vi k, vi x, vi y, vi z, vi w] σ (fun r u => r = (stagesA a (stepR k x y z w zR)).1 ∧ CR N (stagesA a (stepR k x y z w zR)).2 u ∧ up σ u) := by
  refine CI_of (by decide +kernel) (Nat.le_of_ble_eq_true rfl) rfl (fun X hX => ?_)
  refine bX10_stages_0 (c_putStep σ) ?_
  rintro u rfl
  have h2 : CR N a (setr σ 84 (stepR k x y z w (σ 84))) := h.fq (Fq.set (by decide)) (by rw [setr_ne _ _ (by decide)]; exact h.z1) (by rw [setr_ne _ _ (by decide)]; exact h.z2)
  have e84 : setr σ 84 (stepR k x y z w (σ 84)) 84 = stepR k x y z w (σ 84) := setr_at _ _ _
  have hup : up σ (setr σ 84 (stepR k x y z w (σ 84))) := up.set (by decide)
  refine bX10_stages_11 (c_isPossible (Or.inr rfl) rfl _ (by rw [e84]; exact step_in hk hx hy hz hw _)) ?_
  rintro r u hr ⟨h3, rfl⟩
  rw [e84] at h3
  have e5 : posB 107 (stepR k x y z w zR) = true ↔ pos5 107 (stepR k x y z w (σ 84)) := by rw [← posB_g _ _ _ _ _ _ (σ 84)]; exact posB_5
  refine bX10_stages_21 hr (fun q => ?_) (fun q => ?_)
  · rcases h3 with ⟨g1, g2⟩ | ⟨g1, g2⟩
    · have ev : stagesA a (stepR k x y z w zR) = if a.1 64 = 4 then (-3, a) else (a.1 64 + 1, putP (noteA a) (appS a.1 (stepR k x y z w zR))) := by unfold stagesA; rw [if_pos (e5.mpr g2)]
      rw [ev] at hX
      refine bX10_stages_26 (k_appChain h2 (st := stepR k x y z w zR) (by rw [e84]; exact step_g _ _ _ _ _ _) (posS.mp (posB_5.mp (e5.mpr g2)))) ?_
      rintro r u hr2 ⟨c1, c2, c3⟩
      exact bX10_stages_37 hX hr2 ⟨c1, c2, hup.tr c3⟩
    · omega
  · rcases h3 with ⟨g1, g2⟩ | ⟨g1, g2⟩
    · omega
    · have ev : stagesA a (stepR k x y z w zR) = (-1, a) := by unfold stagesA; rw [if_neg (fun g => g2 (e5.mp g))]
      rw [ev] at hX
      exact bX10_stages_24 hX ⟨rfl, h2, hup⟩
