/-! what an object of the model stands for -/
def vwM (σ : St) : Row := fun k => if k = 86 then σ 87 1 else σ 88 k
def pastM (σ : St) (i : Int) : Row := fun k => if k = 86 then σ 90 i else σ 89 (86 * i + k)
def imgM (σ : St) (i : Int) : Row := fun k => if k = 86 then σ 92 i else σ 91 (86 * i + k)
def mP (N : Int) (P : Row) (σ : St) : Prop := eqv P (vwM σ) ∧ okV N P
def mH (N : Int) (h : Int × (Int → Row)) (σ : St) : Prop := σ 87 4 = h.1 ∧ (0 ≤ h.1 ∧ h.1 ≤ 6) ∧ ∀ i, 0 ≤ i → i < h.1 → eqv (h.2 i) (pastM σ i) ∧ okV N (h.2 i)
def mI (N : Int) (h : (Int → Int) × (Int → Row)) (σ : St) : Prop := ∀ i, 0 ≤ i → i < 2 → σ 93 i = h.1 i ∧ (h.1 i = 0 ∨ h.1 i = 1) ∧ (h.1 i = 1 → eqv (h.2 i) (imgM σ i) ∧ okV N (h.2 i))
def mT (t : Int × Row) (σ : St) : Prop := σ 87 9 = t.1 ∧ (0 ≤ t.1 ∧ t.1 ≤ 160) ∧ ∀ j, 0 ≤ j → j < t.1 → σ 94 j = t.2 j ∧ 0 ≤ t.2 j ∧ t.2 j ≤ 255
def mS (t : Int × Row × Row) (σ : St) : Prop := σ 87 27 = t.1 ∧ (0 ≤ t.1 ∧ t.1 ≤ 6) ∧ ∀ j, 0 ≤ j → j < t.1 → σ 103 j = t.2.1 j ∧ σ 104 j = t.2.2 j ∧ (0 ≤ t.2.1 j ∧ t.2.1 j < 32) ∧ (0 ≤ t.2.2 j ∧ t.2.2 j ≤ 3)
def MR (N : Int) (a : AS) (σ : St) : Prop := mP N a.1 σ ∧ mH N a.2.1 σ ∧ mI N a.2.2.1 σ ∧ mT a.2.2.2.1 σ ∧ mS a.2.2.2.2 σ ∧ zo 32 (σ 96)
/-- the class's side is as it was -/
def dn (σ u : St) : Prop := ∀ a, a < 87 → u a = σ a
theorem dn.rf {σ : St} : dn σ σ := fun _ _ => rfl
theorem dn.tr {σ τ υ : St} (h1 : dn σ τ) (h2 : dn τ υ) : dn σ υ := fun a h => (h2 a h).trans (h1 a h)
theorem dn.wf {σ u : St} (h : Wf σ u) : dn σ u := fun a ha => h a (by omega) (by omega)
theorem MR.wf {N : Int} {a : AS} {σ u : St} (h : MR N a σ) (e : Wf σ u) (z : ∀ i, ¬ (0 ≤ i ∧ i < 32) → u 96 i = 0) : MR N a u := by
  have g : ∀ x, x ≠ 96 → x ≠ 97 → u x = σ x := e
  obtain ⟨hP, hH, hI, hT, hS, hz⟩ := h
  refine ⟨?_, ?_, ?_, ?_, ?_, z⟩
  · unfold mP vwM at *
    rw [g 87 (by decide) (by decide), g 88 (by decide) (by decide)]; exact hP
  · unfold mH pastM at *
    rw [g 87 (by decide) (by decide), g 89 (by decide) (by decide), g 90 (by decide) (by decide)]; exact hH
  · unfold mI imgM at *
    rw [g 93 (by decide) (by decide), g 91 (by decide) (by decide), g 92 (by decide) (by decide)]; exact hI
  · unfold mT at *
    rw [g 87 (by decide) (by decide), g 94 (by decide) (by decide)]; exact hT
  · unfold mS at *
    rw [g 87 (by decide) (by decide), g 103 (by decide) (by decide), g 104 (by decide) (by decide)]; exact hS
theorem vwM_at (σ : St) {k : Int} (h : k ≠ 86) : vwM σ k = σ 88 k := if_neg h
theorem MR.low {N : Int} {a : AS} {σ : St} (h : MR N a σ) : eqN 34 a.1 (σ 88) := fun j c d => (h.1.1.1 j c d).trans (vwM_at σ (by omega))
theorem MR.n33 {N : Int} {a : AS} {σ : St} (h : MR N a σ) : σ 88 33 = a.1 33 ∧ 0 ≤ a.1 33 ∧ a.1 33 ≤ 6 := ⟨(h.low 33 (by decide) (by decide)).symm, h.1.2.2.2.1.1, h.1.2.2.2.1.2⟩
theorem MR.n64 {N : Int} {a : AS} {σ : St} (h : MR N a σ) : σ 88 64 = a.1 64 ∧ 0 ≤ a.1 64 ∧ a.1 64 ≤ 4 := ⟨(h.1.1.2.2.1.trans (vwM_at σ (by decide))).symm, h.1.2.2.2.2.2.1.1, h.1.2.2.2.2.2.1.2⟩
theorem MR.m {N : Int} {a : AS} {σ : St} (h : MR N a σ) : σ 88 32 = a.1 32 := (h.low 32 (by decide) (by decide)).symm
theorem MR.s32 {N : Int} {a : AS} {σ : St} (h : MR N a σ) : eqN 32 a.1 (σ 88) := fun j c d => h.low j c (by omega)
theorem MR.ln {N : Int} {a : AS} {σ : St} (h : MR N a σ) : ∀ j, 0 ≤ j → j < a.1 33 * 5 → lnV a.1 j = lnV (σ 88) j := fun j c d => (h.1.1.2.1 j c d).trans (vwM_at σ (by have := h.n33; omega))
theorem MR.ch {N : Int} {a : AS} {σ : St} (h : MR N a σ) : ∀ j, 0 ≤ j → j < a.1 64 * 5 → chV a.1 j = chV (σ 88) j := fun j c d => (h.1.1.2.2.2.1 j c d).trans (vwM_at σ (by have := h.n64; omega))
theorem MR.ok {N : Int} {a : AS} {σ : St} (h : MR N a σ) : MsOK σ := ⟨fun i c d => by rw [← h.s32 i c d]; exact h.1.2.1 i c d, by rw [h.m]; exact h.1.2.2.1⟩
theorem MR.air {N : Int} {a : AS} {σ : St} (h : MR N a σ) : airV (σ 88) = airV a.1 := by
  unfold airV
  rw [h.n33.1, ← shine_eq h.s32]
  exact (lineF_eq _ (fun j c d => h.ln j c (by have := h.n33; omega))).symm
theorem n_air {N : Int} {a : AS} {σ : St} (h : MR N a σ) : CV mdX11_layAir [vr 87] σ (fun u => u 96 = airV a.1 ∧ MR N a u ∧ Wf σ u) := by
  have e := h.n33
  refine (m_layAir σ h.2.2.2.2.2 h.ok (by omega) (fun j c d => okA_eq c (fun i x y => h.ln i x (by omega)) (h.1.2.2.2.2.1 j c (by omega)))).mono ?_
  rintro u ⟨h1, h2⟩
  rw [h.air] at h1
  exact ⟨h1, h.wf h2 (by rw [h1]; exact (good_airV h.1.2).2), h2⟩
theorem n_go {N : Int} {a : AS} {σ : St} (h : MR N a σ) {g : Row} (hg : good g) (e96 : σ 96 = g) {n : Int} (hn : 0 ≤ n ∧ n ≤ a.1 64) : CV mdX11_goThrough [vr 87, vi n] σ (fun u => u 96 = chainF (a.1 32) a.1 (chV a.1) n.toNat g ∧ MR N a u ∧ Wf σ u) := by
  have e := h.n64
  refine (m_goThrough σ (by rw [e96]; exact hg) h.ok (by omega) (fun j c d => okB_eq c (fun i x y => h.ch i x (by omega)) (h.1.2.2.2.2.2.2.1 j c (by omega)))).mono ?_
  rintro u ⟨h1, h2⟩
  have h3 : u 96 = chainF (a.1 32) a.1 (chV a.1) n.toNat g := by
    rw [h1, h.m, e96]
    exact (chainF_eq h.s32 _ (fun j c d => h.ch j c (by omega))).symm
  exact ⟨h3, h.wf h2 (by rw [h3]; exact (good_chain hg _).2), h2⟩
theorem n_wrongNow {N : Int} {a : AS} {σ : St} (h : MR N a σ) {g : Row} (hg : good g) (e96 : σ 96 = g) : CIe mdX11_wrongNow [vr 87] σ (errF g a.1) σ := by
  refine (m_wrongNow σ (by rw [e96]; exact hg.1) h.ok.1).mono ?_
  rintro z u ⟨rfl, rfl⟩
  exact ⟨by rw [e96, errF_eq h.s32], rfl⟩
theorem n_wrong {N : Int} {a : AS} {σ : St} (h : MR N a σ) {n : Int} (hn : inI n) : CI mdX11_wrong [vr 87, vi n] σ (fun z u => z = wrongV a.1 n ∧ MR N a u ∧ dn σ u) := by
  refine CI_of (by decide +kernel) (Nat.le_of_ble_eq_true rfl) rfl (fun X hX => ?_)
  have e := h.n64
  refine bX11_wrong_0 (by rw [e.1]; exact m_in hn ⟨by decide, by decide⟩ ⟨by omega, by omega⟩ σ) ?_
  rintro z u hz ⟨rfl, rfl⟩
  refine bX11_wrong_12 hz (fun q => ?_) (fun q => bX11_wrong_15 hX ⟨by unfold wrongV; rw [if_neg (bI_d0 q)], h, dn.rf⟩)
  have hq := bI_d1 q
  refine bX11_wrong_17 (n_air h) ?_
  rintro u ⟨h1, h2, h3⟩
  refine bX11_wrong_21 (n_go h2 (good_airV h.1.2) h1 hq) ?_
  rintro u2 ⟨h4, h5, h6⟩
  refine bX11_wrong_26 (n_wrongNow h5 (good_rcvV h.1.2 n) h4) ?_
  rintro z u3 hz2 ⟨rfl, rfl⟩
  refine bX11_wrong_30 hX hz2 ⟨?_, h5, dn.wf (h3.tr h6)⟩
  unfold wrongV
  rw [if_pos hq]
