/-! what is asked of the class: taps, order, skew, spreads, fits -/
theorem c_eq {f g : Row} {i j : Int} (h : eqN 32 f g) (hi : 0 ≤ i ∧ i < 16) (hj : 0 ≤ j ∧ j < 16) : lgtM f i j = lgtM g i j := by
  unfold lgtM
  rw [h i hi.1 (by omega), h j hj.1 (by omega), h (16 + i) (by omega) (by omega), h (16 + j) (by omega) (by omega)]
theorem tapM_eq {f s t : Row} {i j : Int} (h : eqN 32 s t) (hi : 0 ≤ i ∧ i < 16) (hj : 0 ≤ j ∧ j < 16) : tapM f s i j = tapM f t i j := by
  unfold tapM
  rw [c_eq h hi hj]
abbrev hasT (v : Row) (i j : Int) : Prop := detR (recM (rcvV v (v 64)) i j) ≠ 0 ∧ detR (lgtM v i j) ≠ 0
def tapX (v : Row) (i j : Int) : Row := tapM (rcvV v (v 64)) v i j
abbrev pairOK (i j : Int) : Prop := (0 ≤ i ∧ i < 16) ∧ (0 ≤ j ∧ j < 16) ∧ ¬ i = j
def tapV (v : Row) (i j w : Int) : Int := if pairOK i j ∧ (0 ≤ w ∧ w ≤ 3) then (if hasT v i j then tapX v i j w else -9) else -1
theorem k_findTaps {N : Int} {a : AS} {σ : St} (h : CR N a σ) {i j : Int} (hi : 0 ≤ i ∧ i < 16) (hj : 0 ≤ j ∧ j < 16) : CI mdX10_findTaps [vr 60, vi i, vi j] σ (fun z u => ((z = 0 ∧ ¬ hasT a.1 i j) ∨ (z = 1 ∧ hasT a.1 i j ∧ eq4 (u 85) (tapX a.1 i j))) ∧ CR N a u ∧ Fq σ u) := by
  have e := h.n64
  refine (c_findTaps σ h.z1 h.st hi hj).mono ?_
  rintro z u ⟨h1, h2, h3, h4⟩
  have er : rcvF σ 0 (σ 4 2) = rcvV a.1 (a.1 64) := by rw [e.1]; exact h.rcv ⟨e.2.1, Int.le_refl _⟩
  rw [er, ← c_eq h.s32 hi hj, ← tapM_eq h.s32 hi hj] at h1
  refine ⟨?_, h.fq h4 h2 (by rw [h3]; exact h.z2), h4⟩
  rcases h1 with ⟨a1, a2⟩ | ⟨a1, a2, a3, a4⟩
  · refine Or.inl ⟨a1, fun g => ?_⟩
    rcases a2 with a2 | a2
    · exact g.1 a2
    · exact g.2 a2
  · exact Or.inr ⟨a1, ⟨a2, a3⟩, a4⟩
theorem tap97 (v : Row) (i j : Int) : m97 (tapX v i j) := m97_rowM _ _ _ _ _
theorem eq4_at {f g : Row} (h : eq4 f g) {w : Int} (hw : 0 ≤ w ∧ w ≤ 3) : f w = g w := by
  have : w = 0 ∨ w = 1 ∨ w = 2 ∨ w = 3 := by omega
  rcases this with rfl | rfl | rfl | rfl
  · exact h.1
  · exact h.2.1
  · exact h.2.2.1
  · exact h.2.2.2
theorem m97_at {f : Row} (h : m97 f) {w : Int} (hw : 0 ≤ w ∧ w ≤ 3) : c97 (f w) := by
  have : w = 0 ∨ w = 1 ∨ w = 2 ∨ w = 3 := by omega
  rcases this with rfl | rfl | rfl | rfl
  · exact h.1
  · exact h.2.1
  · exact h.2.2.1
  · exact h.2.2.2
theorem k_taps {N : Int} {a : AS} {σ : St} (h : CR N a σ) {i j w : Int} (hi : inI i) (hj : inI j) (hw : inI w) : CI mdX10_taps [vr 60, vi i, vi j, vi w] σ (fun z u => z = tapV a.1 i j w ∧ CR N a u ∧ up σ u) := by
  refine CI_of (by decide +kernel) (Nat.le_of_ble_eq_true rfl) rfl (fun X hX => ?_)
  refine bX10_taps_0 (c_isPair hi hj σ) ?_
  rintro z u hz ⟨rfl, rfl⟩
  have bad : ¬ (pairOK i j ∧ (0 ≤ w ∧ w ≤ 3)) → G mdX10_taps X 17 [] [] σ := fun g => bX10_taps_17 hX ⟨by unfold tapV; rw [if_neg g], h, up.rf⟩
  refine bX10_taps_5 hz (fun q => bad (fun g => bI_d0 q g.1)) (fun q => ?_)
  have hp := bI_d1 q
  refine bX10_taps_8 hw (fun q1 => bad (by omega)) (fun q1 => ?_)
  refine bX10_taps_12 hw (fun q2 => ?_) (fun q2 => bad (by omega))
  have ev : tapV a.1 i j w = if hasT a.1 i j then tapX a.1 i j w else -9 := by unfold tapV; rw [if_pos ⟨hp, q1, q2⟩]
  rw [ev] at hX
  refine bX10_taps_19 (k_findTaps h hp.1 hp.2.1) ?_
  rintro z u hz2 ⟨h1, h2, h3⟩
  refine bX10_taps_25 hz2 (fun q3 => ?_) (fun q3 => ?_)
  · rcases h1 with ⟨a1, a2⟩ | ⟨a1, a2, a3⟩
    · rw [if_neg a2] at hX
      exact bX10_taps_39 (bX10_taps_41 hX ⟨by decide, by decide⟩ ⟨rfl, h2, up.fq h3⟩)
    · omega
  · rcases h1 with ⟨a1, a2⟩ | ⟨a1, a2, a3⟩
    · omega
    · rw [if_pos a2] at hX
      have hin : ∀ x, 0 ≤ x → x ≤ 3 → inI (u 85 x) := fun x g1 g2 => by rw [eq4_at a3 ⟨g1, g2⟩]; exact c97_inI (m97_at (tap97 _ _ _) ⟨g1, g2⟩)
      refine bX10_taps_28 (c_entry (Or.inr (Or.inr (Or.inl rfl))) ⟨q1, q2⟩ u hin) ?_
      rintro z u2 hz3 ⟨rfl, rfl⟩
      exact bX10_taps_36 (bX10_taps_41 hX hz3 ⟨eq4_at a3 ⟨q1, q2⟩, h2, up.fq h3⟩)
-- the best order
theorem ordE_vw {N : Int} {a : AS} {σ : St} (h : CR N a σ) {c : Row} (hc : ∀ j, 0 ≤ j → j < a.1 64 → 0 ≤ c j ∧ c j < a.1 64) : ordE σ 0 c = ordV a.1 c := by
  have e := h.n64
  rw [ordV_eq h.1.1 h.n33.2.1 e.2.1 hc]
  unfold ordE ordV
  rw [air_vw h.st, vw_32, vw_64, errF_eq (fun j a b => (vw_s σ 0 j a b).symm)]
  rw [permG_eq (fun j a b => (vw_s σ 0 j a b).symm) (n := σ (0 + 5)) (l := chV (vwC σ 0)) (w := a.1 64) (fun j g1 g2 => (vw_ch σ 0 j g1 (by omega)).symm) _ (fun j g1 g2 => hc j g1 (by rw [show σ (0 + 4) 2 = a.1 64 from e.1] at g2; omega))]
theorem pr_in {N : Int} {a : AS} {σ : St} (h : CR N a σ) {t : Nat} (ht : t < facN (a.1 64).toNat) : ∀ j, 0 ≤ j → j < a.1 64 → 0 ≤ pr (a.1 64).toNat t j ∧ pr (a.1 64).toNat t j < a.1 64 := by
  intro j g1 g2
  have e := h.n64
  have := pr_bd (n := (a.1 64).toNat) (t := t) (by omega) ht g1 (by omega)
  omega
theorem bestT_vw {N : Int} {a : AS} {σ : St} (h : CR N a σ) : bestT σ 0 = bestV a.1 := by
  have e := h.n64
  have hf := facN_bd (a.1 64).toNat (by omega)
  unfold bestT bestV
  rw [show σ (0 + 4) 2 = a.1 64 from e.1]
  exact amn_eq _ (fun i hi => ordE_vw h (pr_in h (by omega)))
theorem bestV_lt {N : Int} {a : AS} {σ : St} (h : CR N a σ) : bestV a.1 < facN (a.1 64).toNat := by
  have e := h.n64
  have hf := facN_bd (a.1 64).toNat (by omega)
  have := amn_bd (fun t => ordV a.1 (pr (a.1 64).toNat t)) (facN (a.1 64).toNat - 1)
  unfold bestV
  omega
def bestP (v : Row) : Row := pr (v 64).toNat (bestV v)
theorem bestP_in {N : Int} {a : AS} {σ : St} (h : CR N a σ) : ∀ j, 0 ≤ j → j < a.1 64 → 0 ≤ bestP a.1 j ∧ bestP a.1 j < a.1 64 := pr_in h (bestV_lt h)
theorem k_findBest {N : Int} {a : AS} {σ : St} (h : CR N a σ) : CI mdX10_findBestOrder [vr 60] σ (fun z u => z = ordV a.1 (bestP a.1) ∧ eqN (a.1 64) (u 83) (bestP a.1) ∧ u 81 2 = a.1 64 ∧ CR N a u ∧ Fq σ u) := by
  have e := h.n64
  refine (c_findBestOrder σ h.z1 h.z2 h.st).mono ?_
  rintro z u ⟨h1, h2, h3, h4, h5, h6⟩
  rw [bestT_vw h, e.1] at h1 h2
  rw [e.1] at h3
  exact ⟨h1.trans (ordE_vw h (bestP_in h)), h2, h3, h.fq h6 h4 h5, h6⟩
theorem inI_o (v c : Row) : inI (ordV v c) := inI_e _ _
def orderV (v : Row) (k : Int) : Int := if k < -1 then -1 else if v 64 ≤ k then -9 else if k = -1 then ordV v (bestP v) else bestP v k
theorem k_order {N : Int} {a : AS} {σ : St} (h : CR N a σ) {k : Int} (hk : inI k) : CI mdX10_order [vr 60, vi k] σ (fun z u => z = orderV a.1 k ∧ CR N a u ∧ up σ u) := by
  refine CI_of (by decide +kernel) (Nat.le_of_ble_eq_true rfl) rfl (fun X hX => ?_)
  have e := h.n64
  refine bX10_order_0 hk (fun q => ?_) (fun q => bX10_order_5 hX ⟨by unfold orderV; rw [if_pos q], h, up.rf⟩)
  refine bX10_order_7 ⟨hk, ⟨by omega, by omega⟩⟩ (fun q2 => ?_) (fun q2 => bX10_order_21 hX ⟨by unfold orderV; rw [if_neg (by omega), if_pos (by omega)], h, up.rf⟩)
  have ev : orderV a.1 k = if k = -1 then ordV a.1 (bestP a.1) else bestP a.1 k := by unfold orderV; rw [if_neg (by omega), if_neg (by omega)]
  rw [ev] at hX
  refine bX10_order_24 (k_findBest h) ?_
  rintro z u hz ⟨rfl, h2, h3, h4, h5⟩
  refine bX10_order_28 hk (fun q3 => ?_) (fun q3 => ?_)
  · rw [if_neg q3] at hX
    have hb := bestP_in h k (by omega) (by omega)
    refine bX10_order_38 (by omega) ?_
    rw [h2 k (by omega) (by omega)]
    exact bX10_order_47 hX ⟨by omega, by omega⟩ ⟨rfl, h4, up.fq h5⟩
  · rw [if_pos q3] at hX
    exact bX10_order_34 (bX10_order_47 hX hz ⟨rfl, h4, up.fq h5⟩)
-- skew
def skL (E : Nat → Int) : Nat → Int × Int
  | 0 => (0, 33)
  | n + 1 => if E n < (skL E n).2 then ((n : Int), E n) else skL E n
def skE (v : Row) (n : Nat) : Int := errM (v 32) (lateF (16 - n) (rcvV v (v 64))) v
def skewV (v : Row) : Int := (skL (skE v) 16).1
theorem errM_bd (m : Int) (f s : Row) : 0 ≤ errM m f s ∧ errM m f s ≤ 32 := by
  have h := cnt_bd (fun i => mk m (i % 16) && !(dec (f i) == s i)) 32
  exact ⟨h.1, h.2⟩
theorem skL_bd (E : Nat → Int) (h : ∀ n, 0 ≤ E n ∧ E n ≤ 32) : ∀ n, (0 ≤ (skL E n).1 ∧ (skL E n).1 ≤ n) ∧ 0 ≤ (skL E n).2 ∧ (skL E n).2 ≤ 33
  | 0 => by unfold skL; exact ⟨⟨by decide, by decide⟩, by decide, by decide⟩
  | n + 1 => by
    have ih := skL_bd E h n
    have hn := h n
    unfold skL
    split
    · exact ⟨⟨by show (0 : Int) ≤ (n : Int); omega, by show (n : Int) ≤ _; omega⟩, hn.1, by show E n ≤ 33; omega⟩
    · exact ⟨⟨ih.1.1, by omega⟩, ih.2⟩
theorem k_skew {N : Int} {a : AS} {σ : St} (h : CR N a σ) : CI mdX10_skew [vr 60] σ (fun z u => z = skewV a.1 ∧ CR N a u ∧ up σ u) := by
  refine CI_of (by decide +kernel) (Nat.le_of_ble_eq_true rfl) rfl (fun X hX => ?_)
  have e := h.n64
  have hE : ∀ n, 0 ≤ skE a.1 n ∧ skE a.1 n ≤ 32 := fun n => errM_bd _ _ _
  refine bX10_skew_0 (by rw [e.1]; exact c_rcv σ h.z1 h.st ⟨e.2.1, by rw [e.1]; omega⟩) ?_
  rintro u ⟨h1, hB⟩
  rw [h.rcv ⟨e.2.1, Int.le_refl _⟩] at h1
  have hg := good_rcvV h.1.2 (a.1 64)
  have hu := h.bA hB (by rw [h1]; exact hg.2)
  have huF : Fq σ u := Fq.ofB isBkA hB
  refine bX10_skew_21 ?_
  have key : ∀ (d n : Nat) (u : St), n + d = 16 → u 72 = rcvV a.1 (a.1 64) → CR N a u → Fq σ u → G mdX10_skew X 28 [(0, vr 60), (1, vi (skL (skE a.1) n).1), (2, vi (skL (skE a.1) n).2), (3, vi (n : Int))] [] u := by
    intro d
    induction d with
    | zero =>
      intro n u hn hu1 hu2 hu3
      have hb := skL_bd _ hE n
      obtain rfl : n = 16 := by omega
      exact bX10_skew_28 (by decide) (fun _ => bX10_skew_86 hX (by omega) ⟨rfl, hu2, up.fq hu3⟩) (fun q => by omega)
    | succ d ih =>
      intro n u hn hu1 hu2 hu3
      have hb := skL_bd _ hE n
      have hEn := hE n
      refine bX10_skew_28 (by omega) (fun q => by omega) (fun _ => ?_)
      refine bX10_skew_34 (c_bTake isBkB isBkA u hu2.z2 hu2.z1) ?_
      rintro u1 rfl
      refine bX10_skew_45 (c_late isBkB _ ⟨by omega, by omega⟩) ?_
      rintro u2 ⟨g1, g2⟩
      have e77 : setr u 77 (u 72) 77 = u 72 := setr_at _ _ _
      have g1' : u2 77 = lateF (16 - n) (rcvV a.1 (a.1 64)) := by
        refine g1.trans ?_
        show lateF _ (setr u 77 (u 72) 77) = _
        rw [e77, hu1]
      have hB2 : Bch 76 u u2 := Bch.tr (Bch.set (by decide)) g2
      have gl := good_late (n := 16 - n) hg
      have hu4 : CR N a u2 := hu2.fq (Fq.ofB isBkB hB2) (by rw [hB2 72 (by decide)]; exact hu2.z1) (by rw [g1']; exact gl.2)
      refine bX10_skew_56 (c_errorsAtMarks isBkB isSt0 u2 (by show r97 32 (u2 77); rw [g1']; exact gl.1) hu4.st.1 hu4.st.2.1) ?_
      rintro z u3 hz ⟨rfl, rfl⟩
      have ee : errM (u2 0 1) (u2 (76 + 1)) (u2 (0 + 1)) = skE a.1 n := by
        unfold skE
        rw [hu4.m, show u2 (76 + 1) = _ from g1']
        exact (errM_eq hu4.s32).symm
      rw [ee] at hz ⊢
      have es : skL (skE a.1) (n + 1) = if skE a.1 n < (skL (skE a.1) n).2 then ((n : Int), skE a.1 n) else skL (skE a.1) n := rfl
      have nx := ih (n + 1) u2 (by omega) (by rw [hB2 72 (by decide)]; exact hu1) hu4 (hu3.tr (Fq.ofB isBkB hB2))
      refine bX10_skew_67 ⟨hz, by omega⟩ (fun q => ?_) (fun q => ?_)
      · rw [es, if_neg (by omega)] at nx
        exact bX10_skew_80 nx
      · rw [es, if_pos q] at nx
        exact bX10_skew_75 (bX10_skew_80 nx)
  exact key 16 0 u rfl h1 hu huF
