/-! the model: skew, spreads -/
theorem n_keepRec {N : Int} {a : AS} {σ : St} (h : MR N a σ) : CV mdX11_keepReceived [vr 87] σ (fun u => eqN 32 (u 102) (rcvV a.1 (a.1 64)) ∧ MR N a u ∧ Sf σ u) := by
  refine CV_of (by decide +kernel) (Nat.le_of_ble_eq_true rfl) rfl (fun X hX => ?_)
  refine bX11_keepReceived_0 (n_recv h) ?_
  rintro u ⟨h1, h2, h3⟩
  refine bX11_keepReceived_4 ?_
  have key : G mdX11_keepReceived X 6 [(0, vr 87), (1, vi 0)] [] (setr u 102 (win 0 (u 96) (u 102))) := by
    refine loopUp (Q := fun i => G mdX11_keepReceived X 6 [(0, vr 87), (1, vi i)] [] (setr u 102 (win i (u 96) (u 102)))) (n := 32) ?_ (fun i g1 g2 ih => ?_) (by decide)
    · have sv : Sf u (setr u 102 (win 32 (u 96) (u 102))) := Sf.row (by decide)
      refine bX11_keepReceived_6 ⟨by decide, by decide⟩ (fun _ => bX11_keepReceived_30 hX ⟨fun j c d => ?_, h2.sf sv ?_, (Sf.wf h3).tr sv⟩) (fun q => by omega)
      · rw [setr_at, win_in ⟨c, d⟩, h1]
      · rw [setr_ne _ _ (by decide)]; exact h2.2.2.2.2.2
    · have f96 : setr u 102 (win i (u 96) (u 102)) 96 = u 96 := setr_ne _ _ (by decide)
      refine bX11_keepReceived_6 ⟨by omega, by omega⟩ (fun q => by omega) (fun _ => bX11_keepReceived_12 ⟨g1, g2⟩ ?_)
      rw [f96, wr_win _ _ _ _ g1 rfl]
      exact ih
  rw [win_0, setr_id] at key
  exact key
theorem n_layKept {N : Int} {a : AS} {σ : St} (h : MR N a σ) {g : Row} (hg : good g) (e : eqN 32 (σ 102) g) : CV mdX11_layKept [vr 87] σ (fun u => u 96 = g ∧ MR N a u ∧ Wf σ u) := by
  refine CV_of (by decide +kernel) (Nat.le_of_ble_eq_true rfl) rfl (fun X hX => ?_)
  refine bX11_layKept_0 ?_
  have key : G mdX11_layKept X 2 [(0, vr 87), (1, vi 0)] [] (setr σ 96 (win 0 (σ 102) (σ 96))) := by
    refine loopUp (Q := fun i => G mdX11_layKept X 2 [(0, vr 87), (1, vi i)] [] (setr σ 96 (win i (σ 102) (σ 96)))) (n := 32) ?_ (fun i g1 g2 ih => ?_) (by decide)
    · have sv : Wf σ (setr σ 96 (win 32 (σ 102) (σ 96))) := fun x c d => setr_ne _ _ c
      have e96 : setr σ 96 (win 32 (σ 102) (σ 96)) 96 = g := by
        rw [setr_at]
        funext j
        by_cases q : 0 ≤ j ∧ j < 32
        · rw [win_in q]; exact e j q.1 q.2
        · rw [win_out q, hg.2 j q]; exact h.2.2.2.2.2 j q
      exact bX11_layKept_2 ⟨by decide, by decide⟩ (fun _ => bX11_layKept_26 hX ⟨e96, h.wf sv (by rw [e96]; exact hg.2), sv⟩) (fun q => by omega)
    · have f : setr σ 96 (win i (σ 102) (σ 96)) 102 = σ 102 := setr_ne _ _ (by decide)
      refine bX11_layKept_2 ⟨by omega, by omega⟩ (fun q => by omega) (fun _ => bX11_layKept_8 ⟨g1, g2⟩ ?_)
      rw [f, wr_win _ _ _ _ g1 rfl]
      exact ih
  rw [win_0, setr_id] at key
  exact key
theorem late_m {n : Nat} (hn : n < 16) (g : Row) : lateF ((16 - (n : Int)) % 16) g = lateF (16 - n) g := by
  funext i
  unfold lateF
  by_cases q : 16 ≤ i ∧ i < 32
  · rw [if_pos q, if_pos q]; congr 1; omega
  · rw [if_neg q, if_neg q]
theorem n_skew {N : Int} {a : AS} {σ : St} (h : MR N a σ) : CI mdX11_skew [vr 87] σ (fun z u => z = skewV a.1 ∧ MR N a u ∧ dn σ u) := by
  refine CI_of (by decide +kernel) (Nat.le_of_ble_eq_true rfl) rfl (fun X hX => ?_)
  have hE : ∀ n, 0 ≤ skE a.1 n ∧ skE a.1 n ≤ 32 := fun n => errM_bd _ _ _
  refine bX11_skew_0 (n_keepRec h) ?_
  rintro u ⟨h1, hu, hS⟩
  have hg := good_rcvV h.1.2 (a.1 64)
  refine bX11_skew_4 ?_
  have key : ∀ (d n : Nat) (u : St), n + d = 16 → eqN 32 (u 102) (rcvV a.1 (a.1 64)) → MR N a u → Sf σ u → G mdX11_skew X 11 [(0, vr 87), (1, vi (skL (skE a.1) n).1), (2, vi (skL (skE a.1) n).2), (3, vi (n : Int))] [] u := by
    intro d
    induction d with
    | zero =>
      intro n u hn hu1 hu2 hu3
      have hb := skL_bd _ hE n
      obtain rfl : n = 16 := by omega
      exact bX11_skew_11 ⟨by decide, by decide⟩ (fun _ => bX11_skew_69 hX ⟨by omega, by omega⟩ ⟨rfl, hu2, hu3.dn⟩) (fun q => by omega)
    | succ d ih =>
      intro n u hn hu1 hu2 hu3
      have hb := skL_bd _ hE n
      have hEn := hE n
      refine bX11_skew_11 ⟨by omega, by omega⟩ (fun q => by omega) (fun _ => ?_)
      refine bX11_skew_17 (n_layKept hu2 hg hu1) ?_
      rintro u1 ⟨k1, k2, k3⟩
      refine bX11_skew_21 (m_late u1 ⟨by omega, by omega⟩) ⟨by omega, by omega⟩ ?_
      rintro u2 ⟨g1, g2⟩
      rw [k1, late_m (by omega)] at g1
      have gl := good_late (n := 16 - (n : Int)) hg
      have hu4 : MR N a u2 := k2.wf g2 (by rw [g1]; exact gl.2)
      refine bX11_skew_32 (m_wrongAtMarks u2 (by rw [g1]; exact gl.1) hu4.ok.1 hu4.ok.2) ?_
      rintro z u3 hz ⟨rfl, rfl⟩
      have ee : errM (u2 88 32) (u2 96) (u2 88) = skE a.1 n := by
        unfold skE
        rw [hu4.m, g1]
        exact (errM_eq hu4.s32).symm
      rw [ee] at hz ⊢
      have es : skL (skE a.1) (n + 1) = if skE a.1 n < (skL (skE a.1) n).2 then ((n : Int), skE a.1 n) else skL (skE a.1) n := rfl
      have nx := ih (n + 1) u2 (by omega) (by rw [g2 102 (by decide) (by decide), k3 102 (by decide) (by decide)]; exact hu1) hu4 (hu3.tr ((Sf.wf k3).tr (Sf.wf g2)))
      have e2 : inI (skL (skE a.1) n).2 := ⟨by omega, by omega⟩
      refine bX11_skew_36 ⟨hz, e2⟩ (fun q => ?_) (fun q => ?_)
      · rw [es, if_neg (by omega)] at nx
        exact bX11_skew_48 (bX11_skew_49 ⟨hz, e2⟩ (fun _ => bX11_skew_61 (bX11_skew_62 nx)) (fun q2 => by omega))
      · rw [es, if_pos q] at nx
        exact bX11_skew_44 (bX11_skew_49 ⟨hz, e2⟩ (fun q2 => by omega) (fun _ => bX11_skew_56 (bX11_skew_62 nx)))
  exact key 16 0 u rfl h1 hu hS
/-- none found as long as the count is 0 -/
theorem acL_z (p : Nat → Bool) (val : Nat → Int) (h : ∀ n, n < 1000 → 0 ≤ val n) : ∀ n, n ≤ 1000 → 0 ≤ (acL p val n).1 ∧ ((acL p val n).1 = 0 ↔ (acL p val n).2 = -9)
  | 0, _ => by unfold acL; exact ⟨by decide, ⟨fun _ => rfl, fun _ => rfl⟩⟩
  | n + 1, hn => by
    have ih := acL_z p val h n (by omega)
    have hv := h n (by omega)
    unfold acL
    split
    · refine ⟨by show 0 ≤ (acL p val n).1 + 1; omega, ⟨fun q => ?_, fun q => ?_⟩⟩
      · have q' : (acL p val n).1 + 1 = 0 := q
        omega
      · exfalso
        have q' : (if (acL p val n).2 = -9 then val n else (acL p val n).2) = -9 := q
        by_cases q2 : (acL p val n).2 = -9
        · rw [if_pos q2] at q'; omega
        · rw [if_neg q2] at q'; exact q2 q'
    · exact ih
theorem n_spreads {N : Int} {a : AS} {σ : St} (h : MR N a σ) {w : Int} (hw : inI w) : CI mdX11_spreads [vr 87, vi w] σ (fun z u => z = spreadsV a.1 w ∧ MR N a u ∧ dn σ u) := by
  refine CI_of (by decide +kernel) (Nat.le_of_ble_eq_true rfl) rfl (fun X hX => ?_)
  refine bX11_spreads_0 (m_in hw ⟨by decide, by decide⟩ ⟨by decide, by decide⟩ σ) ?_
  rintro z u hz ⟨rfl, rfl⟩
  refine bX11_spreads_6 hz (fun q => ?_) (fun q => bX11_spreads_9 hX ⟨by unfold spreadsV; rw [if_neg (bI_d0 q)], h, dn.rf⟩)
  have b := bI_d1 q
  have ev : spreadsV a.1 w = if w = 0 then (acL (spP a.1) spVal 96).1 else (acL (spP a.1) spVal 96).2 := by unfold spreadsV; rw [if_pos b]
  rw [ev] at hX
  refine bX11_spreads_11 (n_keepRec h) ?_
  rintro u ⟨h1, hu, hS⟩
  have hg := good_rcvV h.1.2 (a.1 64)
  refine bX11_spreads_15 ?_
  have hb := acL_bd (spP a.1) spVal (fun n hn => by unfold spVal; omega)
  have hz2 := acL_z (spP a.1) spVal (fun n hn => by unfold spVal; omega)
  have key : ∀ (d n : Nat) (u : St), n + d = 96 → eqN 32 (u 102) (rcvV a.1 (a.1 64)) → MR N a u → Sf σ u → G mdX11_spreads X 23 [(0, vr 87), (1, vi w), (2, vi (acL (spP a.1) spVal n).1), (3, vi (acL (spP a.1) spVal n).2), (4, vi ((n : Int) + 1))] [] u := by
    intro d
    induction d with
    | zero =>
      intro n u hn hu1 hu2 hu3
      have hbn := hb n (by omega)
      obtain rfl : n = 96 := by omega
      refine bX11_spreads_23 ⟨by decide, by decide⟩ (fun _ => ?_) (fun q => by omega)
      refine bX11_spreads_78 hw (fun q => ?_) (fun q => ?_)
      · rw [if_neg q] at hX
        exact bX11_spreads_86 (bX11_spreads_87 hX ⟨by omega, by omega⟩ ⟨rfl, hu2, hu3.dn⟩)
      · rw [if_pos q] at hX
        exact bX11_spreads_82 (bX11_spreads_87 hX ⟨by omega, by omega⟩ ⟨rfl, hu2, hu3.dn⟩)
    | succ d ih =>
      intro n u hn hu1 hu2 hu3
      have hbn := hb n (by omega)
      have hzn := hz2 n (by omega)
      have es : acL (spP a.1) spVal (n + 1) = if spP a.1 n then ((acL (spP a.1) spVal n).1 + 1, if (acL (spP a.1) spVal n).2 = -9 then spVal n else (acL (spP a.1) spVal n).2) else acL (spP a.1) spVal n := rfl
      -- behind the body
      have no : ∀ u : St, spP a.1 n = false → eqN 32 (u 102) (rcvV a.1 (a.1 64)) → MR N a u → Sf σ u → G mdX11_spreads X 72 [(0, vr 87), (1, vi w), (2, vi (acL (spP a.1) spVal n).1), (3, vi (acL (spP a.1) spVal n).2), (4, vi ((n : Int) + 1))] [] u := by
        intro u hp g1 g2 g3
        have nx := ih (n + 1) u (by omega) g1 g2 g3
        rw [es, hp] at nx
        push_cast at nx
        exact bX11_spreads_72 nx
      refine bX11_spreads_23 ⟨by omega, by omega⟩ (fun q => by omega) (fun _ => ?_)
      refine bX11_spreads_30 (m_power (v := (n : Int) + 1) (by unfold c97; omega) (n := 16) (by decide) (by decide) u) ?_
      rintro z u2 hz ⟨rfl, rfl⟩
      refine bX11_spreads_37 hz (fun q => ?_) (fun q => ?_)
      · exact no _ (decide_eq_false (fun g => g.1 q)) hu1 hu2 hu3
      · refine bX11_spreads_41 (n_layKept hu2 hg hu1) ?_
        rintro u1 ⟨k1, k2, k3⟩
        refine bX11_spreads_45 (m_unspread u1 (by rw [k1]; exact hg.1) ⟨by omega, by omega⟩) ?_
        rintro u3 ⟨g1, g2⟩
        rw [k1] at g1
        have gl := good_unspread (a := (n : Int) + 1) hg
        have hu4 : MR N a u3 := k2.wf g2 (by rw [g1]; exact gl.2)
        have hu5 : eqN 32 (u3 102) (rcvV a.1 (a.1 64)) := by rw [g2 102 (by decide) (by decide), k3 102 (by decide) (by decide)]; exact hu1
        have hu6 : Sf σ u3 := hu3.tr ((Sf.wf k3).tr (Sf.wf g2))
        refine bX11_spreads_51 (m_wrongAtMarks u3 (by rw [g1]; exact gl.1) hu4.ok.1 hu4.ok.2) ?_
        rintro z u4 hz3 ⟨rfl, rfl⟩
        have ee : errM (u3 88 32) (u3 96) (u3 88) = errM (a.1 32) (unspreadF ((n : Int) + 1) (rcvV a.1 (a.1 64))) a.1 := by
          rw [hu4.m, g1]
          exact (errM_eq hu4.s32).symm
        rw [ee] at hz3 ⊢
        refine bX11_spreads_55 hz3 (fun q5 => ?_) (fun q5 => ?_)
        · exact no _ (decide_eq_false (fun g => q5 g.2)) hu5 hu4 hu6
        · have hp : spP a.1 n = true := decide_eq_true ⟨q, q5⟩
          have nx := ih (n + 1) _ (by omega) hu5 hu4 hu6
          rw [es, hp] at nx
          push_cast at nx
          refine bX11_spreads_58 ⟨by omega, by omega⟩ (fun q6 => ?_) (fun q6 => ?_)
          · rw [if_neg (fun g => q6 (hzn.2.mpr g))] at nx
            exact bX11_spreads_67 (bX11_spreads_68 (bX11_spreads_72 nx))
          · rw [if_pos (hzn.2.mp q6)] at nx
            exact bX11_spreads_62 (bX11_spreads_68 (bX11_spreads_72 nx))
  exact key 96 0 u rfl h1 hu hS
