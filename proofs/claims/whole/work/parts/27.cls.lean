/-! what an object of the class stands for -/
abbrev AS : Type := Row × (Int × (Int → Row)) × ((Int → Int) × (Int → Row)) × (Int × Row) × (Int × Row × Row)
def imid (i : Int) : Nat := 6 * i.toNat + 12
def cP (N : Int) (P : Row) (σ : St) : Prop := eqv P (vwC σ 0) ∧ okV N P
def ring (σ : St) (hn i : Int) : Nat := pid ((σ 63 1 + 6 - hn + i) % 6)
def cH (N : Int) (h : Int × (Int → Row)) (σ : St) : Prop := (0 ≤ σ 63 1 ∧ σ 63 1 < 6) ∧ σ 63 2 = h.1 ∧ (0 ≤ h.1 ∧ h.1 ≤ 6) ∧ ∀ i, 0 ≤ i → i < h.1 → eqv (h.2 i) (vwC σ (ring σ h.1 i)) ∧ okV N (h.2 i)
def cI (N : Int) (h : (Int → Int) × (Int → Row)) (σ : St) : Prop := ∀ i, 0 ≤ i → i < 2 → σ 62 i = h.1 i ∧ (h.1 i = 0 ∨ h.1 i = 1) ∧ (h.1 i = 1 → eqv (h.2 i) (vwC σ (imid i)) ∧ okV N (h.2 i))
def cT (t : Int × Row) (σ : St) : Prop := σ 65 2 = t.1 ∧ (0 ≤ t.1 ∧ t.1 ≤ 160) ∧ ∀ j, 0 ≤ j → j < t.1 → σ 66 j = t.2 j ∧ 0 ≤ t.2 j ∧ t.2 j ≤ 255
def cS (t : Int × Row × Row) (σ : St) : Prop := σ 68 2 = t.1 ∧ (0 ≤ t.1 ∧ t.1 ≤ 6) ∧ ∀ j, 0 ≤ j → j < t.1 → σ 69 j = t.2.1 j ∧ σ 70 j = t.2.2 j ∧ (0 ≤ t.2.1 j ∧ t.2.1 j < 32) ∧ (0 ≤ t.2.2 j ∧ t.2.2 j ≤ 3)
def cX (σ : St) : Prop := σ 2 1 = 6 ∧ σ 4 1 = 4 ∧ σ 8 1 = 6 ∧ (∀ i : Nat, i < 10 → Zo σ (6 * i)) ∧ zo 32 (σ 72) ∧ zo 32 (σ 77)
def CR (N : Int) (a : AS) (σ : St) : Prop := cP N a.1 σ ∧ cH N a.2.1 σ ∧ cI N a.2.2.1 σ ∧ cT a.2.2.2.1 σ ∧ cS a.2.2.2.2 σ ∧ cX σ
/-- the other side is as it was -/
def up (σ u : St) : Prop := ∀ a, 87 ≤ a → u a = σ a
theorem up.rf {σ : St} : up σ σ := fun _ _ => rfl
theorem up.tr {σ τ υ : St} (h1 : up σ τ) (h2 : up τ υ) : up σ υ := fun a h => (h2 a h).trans (h1 a h)
theorem up.set {a : Nat} {σ : St} {f : Row} (h : a < 87) : up σ (setr σ a f) := fun x hx => setr_ne σ f (by omega)
theorem up.fq {σ u : St} (h : Fq σ u) : up σ u := fun a ha => h a (by omega)
theorem pid_lt {i : Int} (h : 0 ≤ i ∧ i < 6) : pid i < 55 ∧ pid i % 6 = 0 ∧ 24 ≤ pid i := by unfold pid; omega
theorem ring_bd (σ : St) (hn i : Int) : ring σ hn i < 55 ∧ ring σ hn i % 6 = 0 ∧ 24 ≤ ring σ hn i := pid_lt (by omega)
theorem imid_bd {i : Int} (h : 0 ≤ i ∧ i < 2) : imid i < 19 ∧ imid i % 6 = 0 ∧ 12 ≤ imid i := by unfold imid; omega
theorem CR.low {N : Int} {a : AS} {σ u : St} (h : CR N a σ) (e : ∀ x, x < 71 → u x = σ x) (z1 : zo 32 (u 72)) (z2 : zo 32 (u 77)) : CR N a u := by
  have sm : ∀ o, o < 60 → vwC u o = vwC σ o := fun o ho => vwC_same ⟨e _ (by omega), e _ (by omega), e _ (by omega), e _ (by omega), e _ (by omega), e _ (by omega)⟩
  obtain ⟨hP, hH, hI, hT, hS, hX⟩ := h
  refine ⟨?_, ?_, ?_, ?_, ?_, ?_⟩
  · unfold cP at *; rw [sm 0 (by decide)]; exact hP
  · unfold cH at *
    rw [e 63 (by decide)]
    refine ⟨hH.1, hH.2.1, hH.2.2.1, fun i h0 h1 => ?_⟩
    have er : ring u a.2.1.1 i = ring σ a.2.1.1 i := by unfold ring; rw [e 63 (by decide)]
    have := ring_bd σ a.2.1.1 i
    rw [er, sm _ (by omega)]
    exact hH.2.2.2 i h0 h1
  · intro i h0 h1
    have := imid_bd ⟨h0, h1⟩
    rw [e 62 (by decide), sm _ (by omega)]
    exact hI i h0 h1
  · unfold cT at *; rw [e 65 (by decide), e 66 (by decide)]; exact hT
  · unfold cS at *; rw [e 68 (by decide), e 69 (by decide), e 70 (by decide)]; exact hS
  · unfold cX Zo at *
    rw [e 2 (by decide), e 4 (by decide), e 8 (by decide)]
    refine ⟨hX.1, hX.2.1, hX.2.2.1, fun i hi => ?_, z1, z2⟩
    rw [e (6 * i + 1) (by omega), e (6 * i + 3) (by omega), e (6 * i + 5) (by omega)]
    exact hX.2.2.2.1 i hi
theorem CR.fq {N : Int} {a : AS} {σ u : St} (h : CR N a σ) (e : Fq σ u) (z1 : zo 32 (u 72)) (z2 : zo 32 (u 77)) : CR N a u := h.low (fun x hx => e x (by omega)) z1 z2
theorem CR.bA {N : Int} {a : AS} {σ u : St} (h : CR N a σ) (e : Bch 71 σ u) (z1 : zo 32 (u 72)) : CR N a u := h.fq (Fq.ofB isBkA e) z1 (by rw [e 77 (by decide)]; exact h.2.2.2.2.2.2.2.2.2.2)
theorem CR.st {N : Int} {a : AS} {σ : St} (h : CR N a σ) : StOK σ 0 := st_ok (h.1.2.eq h.1.1)
theorem CR.z1 {N : Int} {a : AS} {σ : St} (h : CR N a σ) : zo 32 (σ 72) := h.2.2.2.2.2.2.2.2.2.1
theorem CR.z2 {N : Int} {a : AS} {σ : St} (h : CR N a σ) : zo 32 (σ 77) := h.2.2.2.2.2.2.2.2.2.2
theorem CR.n33 {N : Int} {a : AS} {σ : St} (h : CR N a σ) : σ 2 2 = a.1 33 ∧ 0 ≤ a.1 33 ∧ a.1 33 ≤ 6 := ⟨by rw [h.1.1.e33]; rfl, h.1.2.2.2.1.1, h.1.2.2.2.1.2⟩
theorem CR.n64 {N : Int} {a : AS} {σ : St} (h : CR N a σ) : σ 4 2 = a.1 64 ∧ 0 ≤ a.1 64 ∧ a.1 64 ≤ 4 := ⟨by rw [h.1.1.2.2.1]; rfl, h.1.2.2.2.2.2.1.1, h.1.2.2.2.2.2.1.2⟩
theorem CR.s32 {N : Int} {a : AS} {σ : St} (h : CR N a σ) : eqN 32 a.1 (σ 1) := fun j g1 g2 => (h.1.1.s32 j g1 g2).trans (vw_s σ 0 j g1 g2)
theorem CR.m {N : Int} {a : AS} {σ : St} (h : CR N a σ) : σ 0 1 = a.1 32 := h.1.1.e32.symm
theorem CR.rcv {N : Int} {a : AS} {σ : St} (h : CR N a σ) {n : Int} (hn : 0 ≤ n ∧ n ≤ a.1 64) : rcvF σ 0 n = rcvV a.1 n := by
  have e := h.n64
  rw [rcv_vw h.st (by show 0 ≤ n ∧ n ≤ σ 4 2; rw [e.1]; exact hn), rcvV_eq h.1.1 h.n33.2.1 hn]
theorem CR.air {N : Int} {a : AS} {σ : St} (h : CR N a σ) : airF σ 0 = airV a.1 := by
  rw [air_vw h.st, airV_eq h.1.1 h.n33.2.1]
theorem good_airV {N : Int} {v : Row} (h : okV N v) : good (airV v) := good_line (good_shine _) _ (fun j h1 h2 => h.2.2.2.1 j h1 (by omega))
theorem good_rcvV {N : Int} {v : Row} (h : okV N v) (n : Int) : good (rcvV v n) := good_chain (good_airV h) _
theorem CR.mm {N : Int} {a : AS} {σ : St} (h : CR N a σ) {M : Int} (g : N ≤ M) : CR M a σ := by
  obtain ⟨hP, hH, hI, hT, hS, hX⟩ := h
  exact ⟨⟨hP.1, hP.2.mono g⟩, ⟨hH.1, hH.2.1, hH.2.2.1, fun i a b => ⟨(hH.2.2.2 i a b).1, (hH.2.2.2 i a b).2.mono g⟩⟩, fun i a b => ⟨(hI i a b).1, (hI i a b).2.1, fun c => ⟨((hI i a b).2.2 c).1, ((hI i a b).2.2 c).2.mono g⟩⟩, hT, hS, hX⟩
-- what is asked
def atV (v : Row) (r p w : Int) : Int := if ((0 ≤ r ∧ r < 2) ∧ (0 ≤ p ∧ p < 16)) ∧ (0 ≤ w ∧ w ≤ 3) then (if w = 0 then v (r * 16 + p) else if w = 1 then airV v (r * 16 + p) else if w = 3 then dec (rcvV v (v 64) (r * 16 + p)) else rcvV v (v 64) (r * 16 + p)) else -1
theorem k_at {N : Int} {a : AS} {σ : St} (h : CR N a σ) {r p w : Int} (hr : inI r) (hp : inI p) (hw : inI w) : CI mdX10_at [vr 60, vi r, vi p, vi w] σ (fun z u => z = atV a.1 r p w ∧ CR N a u ∧ up σ u) := by
  refine CI_of (by decide +kernel) (Nat.le_of_ble_eq_true rfl) rfl (fun X hX => ?_)
  refine bX10_at_0 (c_isSpot hr hp σ) ?_
  rintro z u hz ⟨rfl, rfl⟩
  have bad : ¬ (((0 ≤ r ∧ r < 2) ∧ (0 ≤ p ∧ p < 16)) ∧ (0 ≤ w ∧ w ≤ 3)) → G mdX10_at X 17 [] [] σ := fun hn => bX10_at_17 hX ⟨by unfold atV; rw [if_neg hn], h, up.rf⟩
  refine bX10_at_5 hz (fun q => bad (by have := bI_d0 q; omega)) (fun q => ?_)
  have hs := bI_d1 q
  refine bX10_at_8 hw (fun q => bad (by omega)) (fun q1 => ?_)
  refine bX10_at_12 hw (fun q2 => ?_) (fun q => bad (by omega))
  have ea : atV a.1 r p w = (if w = 0 then a.1 (r * 16 + p) else if w = 1 then airV a.1 (r * 16 + p) else if w = 3 then dec (rcvV a.1 (a.1 64) (r * 16 + p)) else rcvV a.1 (a.1 64) (r * 16 + p)) := by unfold atV; rw [if_pos ⟨hs, q1, q2⟩]
  rw [ea] at hX
  have hsp : 0 ≤ r * 16 + p ∧ r * 16 + p < 32 := by omega
  have hn := h.n64
  refine bX10_at_19 hw (fun q3 => ?_) (fun q3 => ?_)
  · rw [if_neg q3] at hX
    -- behind the reception
    have rest : ∀ (n : Int), 0 ≤ n → n ≤ a.1 64 → (∀ u : St, u 72 = rcvV a.1 n → CR N a u → up σ u → G mdX10_at X 72 [(0, vr 60), (3, vi w), (4, vi (r * 16 + p))] [] u) → G mdX10_at X 69 [(0, vr 60), (3, vi w), (4, vi (r * 16 + p))] [vi n, vr 0, vr 71] σ := by
      intro n h0 h1 k
      refine bX10_at_69 (c_rcv σ h.z1 h.st ⟨h0, by rw [hn.1]; exact h1⟩) ?_
      rintro u ⟨e1, hB⟩
      rw [h.rcv ⟨h0, h1⟩] at e1
      exact k u e1 (h.bA hB (by rw [e1]; exact (good_rcvV h.1.2 n).2)) (up.fq (Fq.ofB isBkA hB))
    refine bX10_at_42 hw (fun q4 => ?_) (fun q4 => ?_)
    · rw [if_neg q4] at hX
      refine bX10_at_59 ?_
      rw [hn.1]
      refine rest _ hn.2.1 (Int.le_refl _) (fun u e1 hu hup => ?_)
      have g := (good_rcvV h.1.2 (a.1 64)).1 _ hsp.1 hsp.2
      refine bX10_at_72 ⟨hsp, hw⟩ (fun q5 => ?_) (fun q5 => ?_)
      · rw [if_neg q5] at hX
        rw [e1]
        exact bX10_at_97 (bX10_at_99 hX (c97_inI g) ⟨rfl, hu, hup⟩)
      · rw [if_pos q5] at hX
        rw [e1]
        refine bX10_at_89 (c_decided g u) ?_
        rintro z u2 hz2 ⟨rfl, rfl⟩
        exact bX10_at_94 (bX10_at_99 hX hz2 ⟨rfl, hu, hup⟩)
    · rw [if_pos q4] at hX
      refine bX10_at_55 (rest 0 (by decide) hn.2.1 (fun u e1 hu hup => ?_))
      have g := (good_rcvV h.1.2 0).1 _ hsp.1 hsp.2
      refine bX10_at_72 ⟨hsp, hw⟩ (fun q5 => ?_) (fun q5 => by omega)
      rw [e1]
      exact bX10_at_97 (bX10_at_99 hX (c97_inI g) ⟨rfl, hu, hup⟩)
  · rw [if_pos q3] at hX
    have hs3 := h.st.1 _ hsp.1 hsp.2
    refine bX10_at_31 hX ⟨hsp, ⟨by show -2147483648 ≤ σ (0 + 1) _; omega, by show σ (0 + 1) _ < _; omega⟩⟩ ⟨(h.s32 _ hsp.1 hsp.2).symm, h, up.rf⟩
def numV (n : Int) (f : Row) (k w : Int) : Int := if (0 ≤ k ∧ k < n) ∧ (0 ≤ w ∧ w < 5) then f (k * 5 + w) else -1
theorem numV_inI {n : Int} {f : Row} {k w : Int} (h : ∀ j, 0 ≤ j → j < n * 5 → inI (f j)) : inI (numV n f k w) := by
  unfold numV
  split
  · next q => exact h _ (by omega) (by omega)
  · exact ⟨by decide, by decide⟩
theorem k_deed {N : Int} {a : AS} {σ : St} (h : CR N a σ) {k w : Int} (hk : inI k) (hw : inI w) : CI mdX10_deed [vr 60, vi k, vi w] σ (fun z u => z = numV (a.1 33) (lnV a.1) k w ∧ CR N a u ∧ up σ u) := by
  refine CI_of (by decide +kernel) (Nat.le_of_ble_eq_true rfl) rfl (fun X hX => ?_)
  have hn := h.n33
  have hi := okA_inI h.st.2.2.2.1
  refine bX10_deed_0 (c_numberOf ⟨by decide, by decide⟩ σ (by omega) hk hw hi) ?_
  rintro z u hz ⟨rfl, rfl⟩
  refine bX10_deed_12 hX hz ⟨?_, h, up.rf⟩
  unfold numV
  rw [hn.1]
  split
  · next q => exact ((h.1.1.2.1 _ (by omega) (by omega)).trans (vw_ln σ 0 _ (by omega) (by omega))).symm
  · rfl
theorem k_stage {N : Int} {a : AS} {σ : St} (h : CR N a σ) {k w : Int} (hk : inI k) (hw : inI w) : CI mdX10_stage [vr 60, vi k, vi w] σ (fun z u => z = numV (a.1 64) (chV a.1) k w ∧ CR N a u ∧ up σ u) := by
  refine CI_of (by decide +kernel) (Nat.le_of_ble_eq_true rfl) rfl (fun X hX => ?_)
  have hn := h.n64
  have hi := okB_inI h.st.2.2.2.2.2
  refine bX10_stage_0 (c_numberOf ⟨by decide, by decide⟩ σ (by omega) hk hw hi) ?_
  rintro z u hz ⟨rfl, rfl⟩
  refine bX10_stage_12 hX hz ⟨?_, h, up.rf⟩
  unfold numV
  rw [hn.1]
  split
  · next q => exact ((h.1.1.2.2.2.1 _ (by omega) (by omega)).trans (vw_ch σ 0 _ (by omega) (by omega))).symm
  · rfl
theorem k_errorsAfter {N : Int} {a : AS} {σ : St} (h : CR N a σ) {n : Int} (hn : 0 ≤ n ∧ n ≤ a.1 64) : CI mdX10_errorsAfter [vr 60, vi n] σ (fun z u => z = errF (rcvV a.1 n) a.1 ∧ CR N a u ∧ Fq σ u) := by
  have e := h.n64
  refine (c_errorsAfter σ h.z1 h.st (n := n) (by rw [e.1]; exact hn)).mono ?_
  rintro z u ⟨rfl, e1, hB⟩
  rw [h.rcv hn] at e1
  refine ⟨?_, h.bA hB (by rw [e1]; exact (good_rcvV h.1.2 n).2), Fq.ofB isBkA hB⟩
  rw [h.rcv hn, errF_eq h.s32]

theorem inI_e (f s : Row) : inI (errF f s) := by have := errF_bd f s; exact ⟨by omega, by omega⟩
def wrongV (v : Row) (n : Int) : Int := if 0 ≤ n ∧ n ≤ v 64 then errF (rcvV v n) v else -1
theorem k_wrong {N : Int} {a : AS} {σ : St} (h : CR N a σ) {n : Int} (hn : inI n) : CI mdX10_wrong [vr 60, vi n] σ (fun z u => z = wrongV a.1 n ∧ CR N a u ∧ up σ u) := by
  refine CI_of (by decide +kernel) (Nat.le_of_ble_eq_true rfl) rfl (fun X hX => ?_)
  have e := h.n64
  have bad : ¬ (0 ≤ n ∧ n ≤ a.1 64) → G mdX10_wrong X 18 [] [] σ := fun g => bX10_wrong_18 hX ⟨by unfold wrongV; rw [if_neg g], h, up.rf⟩
  refine bX10_wrong_0 hn (fun q => bad (by omega)) (fun q1 => ?_)
  refine bX10_wrong_4 ⟨hn, ⟨by omega, by omega⟩⟩ (fun q2 => ?_) (fun q2 => bad (by omega))
  refine bX10_wrong_20 (k_errorsAfter h ⟨q1, by omega⟩) ?_
  rintro z u hz ⟨rfl, hu, hF⟩
  refine bX10_wrong_25 hX hz ⟨?_, hu, up.fq hF⟩
  unfold wrongV
  rw [if_pos ⟨q1, by omega⟩]
theorem k_loss {N : Int} {a : AS} {σ : St} (h : CR N a σ) : CI mdX10_loss [vr 60] σ (fun z u => z = lossV (a.1 86) ∧ CR N a u ∧ up σ u) := by
  refine CI_of (by decide +kernel) (Nat.le_of_ble_eq_true rfl) rfl (fun X hX => ?_)
  have e : σ 0 4 = a.1 86 := h.1.1.2.2.2.2.2.symm
  have hl := h.1.2.2.2.2.2.2.2.2
  refine bX10_loss_0 (by rw [e]; exact loss_v hl) hX (inI_of _) ⟨by rw [e]; rfl, h, up.rf⟩
def lagL (m p : Int) : Nat → Int → Int
  | 0, k => k
  | n + 1, k => if mk m ((p + k) % 16) then k else lagL m p n (k + 1)
def lagV (v : Row) (p : Int) : Int := if 0 ≤ p ∧ p < 16 then lagL (v 32) p 16 0 else -1
theorem k_lag {N : Int} {a : AS} {σ : St} (h : CR N a σ) {p : Int} (hp : inI p) : CI mdX10_lag [vr 60, vi p] σ (fun z u => z = lagV a.1 p ∧ CR N a u ∧ up σ u) := by
  refine CI_of (by decide +kernel) (Nat.le_of_ble_eq_true rfl) rfl (fun X hX => ?_)
  refine bX10_lag_0 (c_isPlace hp σ) ?_
  rintro z u hz ⟨rfl, rfl⟩
  refine bX10_lag_4 hz (fun q => ?_) (fun q => bX10_lag_7 hX ⟨by unfold lagV; rw [if_neg (bI_d0 q)], h, up.rf⟩)
  have hq := bI_d1 q
  refine bX10_lag_9 ?_
  have ev : lagV a.1 p = lagL (a.1 32) p 16 0 := by unfold lagV; rw [if_pos hq]
  have key : ∀ (n : Nat) (k : Int), 0 ≤ k → k + n = 16 → lagL (a.1 32) p n k = lagV a.1 p → G mdX10_lag X 11 [(0, vr 60), (1, vi p), (2, vi k)] [] σ := by
    intro n
    induction n with
    | zero =>
      intro k h0 h1 h2
      exact bX10_lag_11 (by omega) (fun q => bX10_lag_39 hX (by omega) ⟨h2, h, up.rf⟩) (fun q => by omega)
    | succ n ih =>
      intro k h0 h1 h2
      have e : lagL (a.1 32) p (n + 1) k = if mk (a.1 32) ((p + k) % 16) then k else lagL (a.1 32) p n (k + 1) := rfl
      rw [e] at h2
      refine bX10_lag_11 (by omega) (fun q => by omega) (fun _ => ?_)
      refine bX10_lag_17 (c_isMarked isSt0 σ h.st.2.1 (by omega)) (by omega) ?_
      rw [h.m]
      rintro z u hz ⟨rfl, rfl⟩
      refine bX10_lag_30 hz (fun q1 => ?_) (fun q1 => ?_)
      · rw [if_pos (bI_1.mp q1)] at h2
        exact bX10_lag_39 hX (by omega) ⟨h2, h, up.rf⟩
      · rw [bI_0.mp q1] at h2
        exact bX10_lag_33 (ih (k + 1) (by omega) (by omega) h2)
  exact key 16 0 (by decide) (by decide) ev.symm
def countV (a : AS) (w : Int) : Int := if w = 0 then a.1 33 else if w = 1 then a.1 64 else if w = 2 then cnt (mk (a.1 32)) 16 else if w = 3 then errF (rcvV a.1 (a.1 64)) a.1 else if w = 4 then a.1 85 else if w = 5 then a.2.2.2.2.1 else if w = 6 then a.2.2.2.1.1 else if w = 7 then a.2.1.1 else -1
theorem k_count {N : Int} (hN : N < 1000000) {a : AS} {σ : St} (h : CR N a σ) {w : Int} (hw : inI w) : CI mdX10_count [vr 60, vi w] σ (fun z u => z = countV a w ∧ CR N a u ∧ up σ u) := by
  refine CI_of (by decide +kernel) (Nat.le_of_ble_eq_true rfl) rfl (fun X hX => ?_)
  obtain ⟨hP, hH, hI, hT, hS, hx⟩ := id h
  have e33 := h.n33
  have e64 := h.n64
  have e85 : σ 0 5 = a.1 85 := hP.1.2.2.2.2.1.symm
  have b85 := hP.2.2.2.2.2.2.2.1
  have em := h.m
  have ht1 := hT.1
  have ht2 := hT.2.1
  have hs1 := hS.1
  have hs2 := hS.2.1
  have hh1 := hH.2.1
  have hh2 := hH.2.2.1
  refine bX10_count_0 hw (fun q => ?_) (fun q => ?_) (fun q => ?_) (fun q => ?_) (fun q => ?_) (fun q => ?_) (fun q => ?_) (fun q => ?_) (fun q => ?_)
  · subst q; exact bX10_count_48 hX ⟨by omega, by omega⟩ ⟨e33.1, h, up.rf⟩
  · subst q; exact bX10_count_59 hX ⟨by omega, by omega⟩ ⟨e64.1, h, up.rf⟩
  · subst q
    refine bX10_count_70 (c_bitCount h.st.2.1 σ) ?_
    rintro z u hz ⟨rfl, rfl⟩
    exact bX10_count_80 hX hz ⟨by rw [em]; rfl, h, up.rf⟩
  · subst q
    refine bX10_count_81 (by rw [e64.1]; exact k_errorsAfter h ⟨e64.2.1, Int.le_refl _⟩) ?_
    rintro z u hz ⟨rfl, hu, hF⟩
    exact bX10_count_95 hX hz ⟨rfl, hu, up.fq hF⟩
  · subst q; exact bX10_count_96 hX ⟨by omega, by omega⟩ ⟨e85, h, up.rf⟩
  · subst q; exact bX10_count_104 hX ⟨by omega, by omega⟩ ⟨hs1, h, up.rf⟩
  · subst q; exact bX10_count_112 hX ⟨by omega, by omega⟩ ⟨ht1, h, up.rf⟩
  · subst q; exact bX10_count_120 hX ⟨by omega, by omega⟩ ⟨hh1, h, up.rf⟩
  · refine bX10_count_128 hX ⟨?_, h, up.rf⟩
    unfold countV
    rw [if_neg (by omega), if_neg (by omega), if_neg (by omega), if_neg (by omega), if_neg (by omega), if_neg (by omega), if_neg (by omega), if_neg (by omega)]
