/-! a state as one row: 0 .. 31 sent, 32 marks, 33 deeds, 34 .. the line, 64 stages, 65 .. the chain, 85 heard, 86 the loss's bits -/
def eqv (v w : Row) : Prop := eqN 34 v w ∧ (∀ j, 0 ≤ j → j < v 33 * 5 → v (34 + j) = w (34 + j)) ∧ v 64 = w 64 ∧ (∀ j, 0 ≤ j → j < v 64 * 5 → v (65 + j) = w (65 + j)) ∧ v 85 = w 85 ∧ v 86 = w 86
theorem eqv.rf {v : Row} : eqv v v := ⟨fun _ _ _ => rfl, fun _ _ _ => rfl, rfl, fun _ _ _ => rfl, rfl, rfl⟩
theorem eqv.sy {v w : Row} (h : eqv v w) : eqv w v := by
  obtain ⟨h1, h2, h3, h4, h5, h6⟩ := h
  have e := h1 33 (by decide) (by decide)
  exact ⟨fun j a b => (h1 j a b).symm, fun j a b => (h2 j a (by rw [e]; exact b)).symm, h3.symm, fun j a b => (h4 j a (by rw [h3]; exact b)).symm, h5.symm, h6.symm⟩
theorem eqv.tr {v w x : Row} (h : eqv v w) (g : eqv w x) : eqv v x := by
  obtain ⟨h1, h2, h3, h4, h5, h6⟩ := h
  obtain ⟨g1, g2, g3, g4, g5, g6⟩ := g
  have e := h1 33 (by decide) (by decide)
  exact ⟨fun j a b => (h1 j a b).trans (g1 j a b), fun j a b => (h2 j a b).trans (g2 j a (by rw [← e]; exact b)), h3.trans g3, fun j a b => (h4 j a b).trans (g4 j a (by rw [← h3]; exact b)), h5.trans g5, h6.trans g6⟩
def lnV (v : Row) : Row := fun j => v (34 + j)
def chV (v : Row) : Row := fun j => v (65 + j)
/-- what a state holds; at most N times heard -/
def okV (N : Int) (v : Row) : Prop := (∀ i, 0 ≤ i → i < 32 → 0 ≤ v i ∧ v i ≤ 3) ∧ (0 ≤ v 32 ∧ v 32 < 65536) ∧ (0 ≤ v 33 ∧ v 33 ≤ 6) ∧ (∀ j, 0 ≤ j → j < v 33 → okA (lnV v) j) ∧ (0 ≤ v 64 ∧ v 64 ≤ 4) ∧ (∀ j, 0 ≤ j → j < v 64 → okB (chV v) j) ∧ (0 ≤ v 85 ∧ v 85 ≤ N) ∧ lossOK (v 86)
theorem okA_eq {n m : Row} {k : Int} (h0 : 0 ≤ k) (h : ∀ j, 0 ≤ j → j < (k + 1) * 5 → n j = m j) (g : okA n k) : okA m k := by
  unfold okA at *
  rw [← h (k * 5) (by omega) (by omega), ← h (k * 5 + 1) (by omega) (by omega), ← h (k * 5 + 2) (by omega) (by omega), ← h (k * 5 + 3) (by omega) (by omega), ← h (k * 5 + 4) (by omega) (by omega)]
  exact g
theorem okB_eq {n m : Row} {k : Int} (h0 : 0 ≤ k) (h : ∀ j, 0 ≤ j → j < (k + 1) * 5 → n j = m j) (g : okB n k) : okB m k := by
  unfold okB at *
  rw [← h (k * 5) (by omega) (by omega), ← h (k * 5 + 1) (by omega) (by omega), ← h (k * 5 + 2) (by omega) (by omega), ← h (k * 5 + 3) (by omega) (by omega), ← h (k * 5 + 4) (by omega) (by omega)]
  exact g
theorem okV.eq {N : Int} {v w : Row} (g : okV N v) (h : eqv v w) : okV N w := by
  obtain ⟨h1, h2, h3, h4, h5, h6⟩ := h
  obtain ⟨g1, g2, g3, g4, g5, g6, g7, g8⟩ := g
  have e32 := h1 32 (by decide) (by decide)
  have e33 := h1 33 (by decide) (by decide)
  refine ⟨fun i a b => by rw [← h1 i a (by omega)]; exact g1 i a b, by rw [← e32]; exact g2, by rw [← e33]; exact g3, fun j a b => ?_, by rw [← h3]; exact g5, fun j a b => ?_, by rw [← h5]; exact g7, by rw [← h6]; exact g8⟩
  · rw [← e33] at b
    exact okA_eq a (fun i c d => h2 i c (by omega)) (g4 j a b)
  · rw [← h3] at b
    exact okB_eq a (fun i c d => h4 i c (by omega)) (g6 j a b)
theorem okV.mono {N M : Int} {v : Row} (g : okV N v) (h : N ≤ M) : okV M v := by
  obtain ⟨g1, g2, g3, g4, g5, g6, g7, g8⟩ := g
  exact ⟨g1, g2, g3, g4, g5, g6, ⟨g7.1, by omega⟩, g8⟩
-- what lies outside does not count
theorem shine_eq {s t : Row} (h : eqN 32 s t) : shineF s = shineF t := by
  funext i
  unfold shineF
  split
  · next q => rw [h i q.1 q.2]
  · rfl
theorem dF_eq {n m : Row} {k : Int} (h0 : 0 ≤ k) (h : ∀ j, 0 ≤ j → j < (k + 1) * 5 → n j = m j) (g : Row) : dF n k g = dF m k g := by
  unfold dF
  rw [h (k * 5) (by omega) (by omega), h (k * 5 + 1) (by omega) (by omega), h (k * 5 + 2) (by omega) (by omega), h (k * 5 + 3) (by omega) (by omega), h (k * 5 + 4) (by omega) (by omega)]
theorem lineF_eq {n m : Row} {g : Row} : ∀ k : Nat, (∀ j, 0 ≤ j → j < (k : Int) * 5 → n j = m j) → lineF n k g = lineF m k g
  | 0, _ => rfl
  | k + 1, h => by
    show dF n k (lineF n k g) = dF m k (lineF m k g)
    rw [lineF_eq k (fun j a b => h j a (by push_cast; omega)), dF_eq (by omega) (fun j a b => h j a (by push_cast; omega))]
theorem bqL_eq {f s t : Row} {p : Int} (h1 : s p = t p) (h2 : s (16 + p) = t (16 + p)) : ∀ n : Nat, bqL f s p n = bqL f t p n
  | 0 => rfl
  | n + 1 => by
    have e : hit2 f s p n = hit2 f t p n := by unfold hit2; rw [h1, h2]
    unfold bqL
    rw [bqL_eq h1 h2 n, e]
theorem bestQ_eq {f s t : Row} {p : Int} (h : eqN 32 s t) (hp : 0 ≤ p ∧ p < 16) : bestQ f s p = bestQ f t p := by
  unfold bestQ
  rw [bqL_eq (h p hp.1 (by omega)) (h (16 + p) (by omega) (by omega))]
theorem mendF_eq {m : Int} {f s t : Row} (h : eqN 32 s t) : mendF m s f = mendF m t f := by
  funext i
  unfold mendF
  by_cases q : 0 ≤ i ∧ i < 32 ∧ fstM m 16 0 ≠ -9
  · rw [if_pos q, if_pos q]
    have hs := fstM_spec m 16 0
    have : 0 ≤ fstM m 16 0 ∧ fstM m 16 0 < 16 := by
      rcases hs with ⟨a, _⟩ | ⟨a, b, _⟩
      · exact absurd a q.2.2
      · exact ⟨a, by omega⟩
    unfold mendQ
    rw [bestQ_eq h (nst_bd m _ this _)]
  · rw [if_neg q, if_neg q]
theorem stageF_eq {m : Int} {f s t : Row} {k a b c d : Int} (h : eqN 32 s t) : stageF m s k a b c d f = stageF m t k a b c d f := by
  unfold stageF
  rw [mendF_eq h]
theorem sF_eq {m : Int} {s t n l : Row} {k : Int} (hs : eqN 32 s t) (h0 : 0 ≤ k) (h : ∀ j, 0 ≤ j → j < (k + 1) * 5 → n j = l j) (g : Row) : sF m s n k g = sF m t l k g := by
  unfold sF
  rw [h (k * 5) (by omega) (by omega), h (k * 5 + 1) (by omega) (by omega), h (k * 5 + 2) (by omega) (by omega), h (k * 5 + 3) (by omega) (by omega), h (k * 5 + 4) (by omega) (by omega), stageF_eq hs]
theorem chainF_eq {m : Int} {s t n l : Row} {g : Row} (hs : eqN 32 s t) : ∀ k : Nat, (∀ j, 0 ≤ j → j < (k : Int) * 5 → n j = l j) → chainF m s n k g = chainF m t l k g
  | 0, _ => rfl
  | k + 1, h => by
    show sF m s n k (chainF m s n k g) = sF m t l k (chainF m t l k g)
    rw [chainF_eq hs k (fun j a b => h j a (by push_cast; omega)), sF_eq hs (by omega) (fun j a b => h j a (by push_cast; omega))]
theorem permG_eq {m : Int} {s t n l c g : Row} (hs : eqN 32 s t) {w : Int} (h : ∀ j, 0 ≤ j → j < w * 5 → n j = l j) : ∀ k : Nat, (∀ j, 0 ≤ j → j < (k : Int) → 0 ≤ c j ∧ c j < w) → permF m s n c k g = permF m t l c k g
  | 0, _ => rfl
  | k + 1, hc => by
    show sF m s n (c k) _ = sF m t l (c k) _
    have := hc k (by omega) (by push_cast; omega)
    rw [permG_eq hs h k (fun j a b => hc j a (by push_cast; omega)), sF_eq hs this.1 (fun j a b => h j a (by omega))]
theorem errF_eq {f s t : Row} (h : eqN 32 s t) : errF f s = errF f t := cnt_congr (fun i a b => by rw [h i a b])
theorem errM_eq {m : Int} {f s t : Row} (h : eqN 32 s t) : errM m f s = errM m f t := cnt_congr (fun i a b => by rw [h i a b])
def airV (v : Row) : Row := lineF (lnV v) (v 33).toNat (shineF v)
def rcvV (v : Row) (n : Int) : Row := chainF (v 32) v (chV v) n.toNat (airV v)
def slipV (v : Row) (a q : Int) : Row := chainF (v 32) v (chV v) (v 64).toNat (slipF a q (airV v))
def ordV (v c : Row) : Int := errF (permF (v 32) v (chV v) c (v 64).toNat (airV v)) v
def bestV (v : Row) : Nat := amn (fun t => ordV v (pr (v 64).toNat t)) (facN (v 64).toNat - 1)
theorem eqv.s32 {v w : Row} (h : eqv v w) : eqN 32 v w := fun j a b => h.1 j a (by omega)
theorem eqv.e32 {v w : Row} (h : eqv v w) : v 32 = w 32 := h.1 32 (by decide) (by decide)
theorem eqv.e33 {v w : Row} (h : eqv v w) : v 33 = w 33 := h.1 33 (by decide) (by decide)
theorem airV_eq {v w : Row} (h : eqv v w) (g : 0 ≤ v 33) : airV v = airV w := by
  unfold airV
  rw [shine_eq h.s32, ← h.e33]
  exact lineF_eq _ (fun j a b => h.2.1 j a (by omega))
theorem rcvV_eq {v w : Row} (h : eqv v w) (g : 0 ≤ v 33) {n : Int} (hn : 0 ≤ n ∧ n ≤ v 64) : rcvV v n = rcvV w n := by
  unfold rcvV
  rw [airV_eq h g, h.e32]
  exact chainF_eq h.s32 _ (fun j a b => h.2.2.2.1 j a (by omega))
theorem slipV_eq {v w : Row} (h : eqv v w) (g : 0 ≤ v 33) (g2 : 0 ≤ v 64) (a q : Int) : slipV v a q = slipV w a q := by
  unfold slipV
  rw [airV_eq h g, h.e32, h.2.2.1]
  exact chainF_eq h.s32 _ (fun j a b => h.2.2.2.1 j a (by rw [h.2.2.1]; omega))
theorem ordV_eq {v w : Row} (h : eqv v w) (g : 0 ≤ v 33) (g2 : 0 ≤ v 64) {c : Row} (hc : ∀ j, 0 ≤ j → j < v 64 → 0 ≤ c j ∧ c j < v 64) : ordV v c = ordV w c := by
  unfold ordV
  rw [airV_eq h g, h.e32, errF_eq h.s32, ← h.2.2.1]
  rw [permG_eq h.s32 (n := chV v) (l := chV w) (w := v 64) (fun j a b => h.2.2.2.1 j a b) (v 64).toNat (fun j a b => hc j a (by omega))]
theorem amn_eq {E F : Nat → Int} : ∀ t : Nat, (∀ i, i ≤ t → E i = F i) → amn E t = amn F t
  | 0, _ => rfl
  | t + 1, h => by
    have e := amn_eq t (fun i hi => h i (by omega))
    have hb := amn_bd F t
    unfold amn
    rw [e, h (t + 1) (by omega), h (amn F t) (by omega)]
theorem bestV_eq {v w : Row} (h : eqv v w) (g : 0 ≤ v 33) (g2 : 0 ≤ v 64 ∧ v 64 ≤ 4) : bestV v = bestV w := by
  unfold bestV
  rw [← h.2.2.1]
  have hf := facN_bd (v 64).toNat (by omega)
  exact amn_eq _ (fun i hi => ordV_eq h g g2.1 (fun j a b => by have := pr_bd (n := (v 64).toNat) (t := i) (by omega) (by omega) a (by omega); omega))
-- the class's states
def vwC (σ : St) (o : Nat) : Row := fun k => if k < 32 then σ (o + 1) k else if k = 32 then σ o 1 else if k = 33 then σ (o + 2) 2 else if k < 64 then σ (o + 3) (k - 34) else if k = 64 then σ (o + 4) 2 else if k < 85 then σ (o + 5) (k - 65) else if k = 85 then σ o 5 else σ o 4
theorem vw_s (σ : St) (o : Nat) : eqN 32 (vwC σ o) (σ (o + 1)) := fun j _ b => by unfold vwC; rw [if_pos b]
theorem vw_32 (σ : St) (o : Nat) : vwC σ o 32 = σ o 1 := rfl
theorem vw_33 (σ : St) (o : Nat) : vwC σ o 33 = σ (o + 2) 2 := rfl
theorem vw_64 (σ : St) (o : Nat) : vwC σ o 64 = σ (o + 4) 2 := rfl
theorem vw_85 (σ : St) (o : Nat) : vwC σ o 85 = σ o 5 := rfl
theorem vw_86 (σ : St) (o : Nat) : vwC σ o 86 = σ o 4 := rfl
theorem vw_ln (σ : St) (o : Nat) : eqN 30 (lnV (vwC σ o)) (σ (o + 3)) := fun j a b => by
  unfold lnV vwC
  rw [if_neg (by omega), if_neg (by omega), if_neg (by omega), if_pos (by omega)]
  congr 1; omega
theorem vw_ch (σ : St) (o : Nat) : eqN 20 (chV (vwC σ o)) (σ (o + 5)) := fun j a b => by
  unfold chV vwC
  rw [if_neg (by omega), if_neg (by omega), if_neg (by omega), if_neg (by omega), if_neg (by omega), if_pos (by omega)]
  congr 1; omega
theorem vwC_same {σ τ : St} {o : Nat} (h : same6 o σ τ) : vwC τ o = vwC σ o := by
  obtain ⟨e0, e1, e2, e3, e4, e5⟩ := h
  unfold vwC
  rw [e0, e1, e2, e3, e4, e5]
theorem st_ok {N : Int} {σ : St} {o : Nat} (g : okV N (vwC σ o)) : StOK σ o := by
  obtain ⟨g1, g2, g3, g4, g5, g6, g7, g8⟩ := g
  rw [vw_33] at g3 g4
  rw [vw_64] at g5 g6
  refine ⟨fun i a b => by rw [← vw_s σ o i a b]; exact g1 i a b, g2, g3, fun j a b => okA_eq a (fun i c d => vw_ln σ o i c (by omega)) (g4 j a b), g5, fun j a b => okB_eq a (fun i c d => vw_ch σ o i c (by omega)) (g6 j a b)⟩
theorem air_vw {σ : St} {o : Nat} (h : StOK σ o) : airF σ o = airV (vwC σ o) := by
  unfold airF airV
  rw [shine_eq (vw_s σ o), vw_33]
  have := h.2.2.1
  exact lineF_eq _ (fun j a b => (vw_ln σ o j a (by omega)).symm)
theorem rcv_vw {σ : St} {o : Nat} (h : StOK σ o) {n : Int} (hn : 0 ≤ n ∧ n ≤ σ (o + 4) 2) : rcvF σ o n = rcvV (vwC σ o) n := by
  unfold rcvF rcvV
  rw [air_vw h, vw_32]
  have := h.2.2.2.2.1
  exact chainF_eq (fun j a b => (vw_s σ o j a b).symm) _ (fun j a b => (vw_ch σ o j a (by omega)).symm)
