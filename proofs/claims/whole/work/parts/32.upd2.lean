/-! what changes an object of the class: text, seen, sends, marks, cuts, drops -/
def setTS (a : AS) (t : Int × Row) (s : Int × Row × Row) : AS := (a.1, a.2.1, a.2.2.1, t, s)
theorem CR.ts {N : Int} {a : AS} {σ u : St} (h : CR N a σ) (e : ∀ x, x < 64 ∨ x = 72 ∨ x = 77 → u x = σ x) {t : Int × Row} {s : Int × Row × Row} (ht : cT t u) (hs : cS s u) : CR N (setTS a t s) u := by
  have sm : ∀ o, o < 57 → vwC u o = vwC σ o := fun o ho => vwC_same ⟨e _ (by omega), e _ (by omega), e _ (by omega), e _ (by omega), e _ (by omega), e _ (by omega)⟩
  obtain ⟨hP, hH, hI, hT, hS, hX⟩ := h
  refine ⟨?_, ?_, ?_, ht, hs, ?_⟩
  · unfold cP at *; rw [sm 0 (by decide)]; exact hP
  · unfold cH at *
    rw [e 63 (by decide)]
    refine ⟨hH.1, hH.2.1, hH.2.2.1, fun i h0 h1 => ?_⟩
    have er : ring u a.2.1.1 i = ring σ a.2.1.1 i := by unfold ring; rw [e 63 (by decide)]
    have := ring_bd σ a.2.1.1 i
    show eqv (a.2.1.2 i) (vwC u (ring u a.2.1.1 i)) ∧ _
    rw [er, sm _ (by omega)]
    exact hH.2.2.2 i h0 h1
  · intro i h0 h1
    have := imid_bd ⟨h0, h1⟩
    rw [e 62 (by decide), sm _ (by omega)]
    exact hI i h0 h1
  · unfold cX Zo at *
    rw [e 2 (by decide), e 4 (by decide), e 8 (by decide), e 72 (by decide), e 77 (by decide)]
    refine ⟨hX.1, hX.2.1, hX.2.2.1, fun i hi => ?_, hX.2.2.2.2⟩
    rw [e (6 * i + 1) (by omega), e (6 * i + 3) (by omega), e (6 * i + 5) (by omega)]
    exact hX.2.2.2.1 i hi
def clearA (a : AS) : Int × AS := (a.2.2.2.1.1, setTS a (0, a.2.2.2.1.2) a.2.2.2.2)
theorem k_clear {N : Int} {a : AS} {σ : St} (h : CR N a σ) : CI mdX10_clear [vr 60] σ (fun z u => z = (clearA a).1 ∧ CR N (clearA a).2 u ∧ up σ u) := by
  refine CI_of (by decide +kernel) (Nat.le_of_ble_eq_true rfl) rfl (fun X hX => ?_)
  obtain ⟨t1, t2, t3⟩ := h.2.2.2.1
  have e : wr σ 65 2 0 = setS σ 65 2 0 := wr_setr _ _ _ _
  refine bX10_clear_0 hX ⟨by omega, by omega⟩ ?_
  rw [e]
  refine ⟨t1, h.ts (u := setS σ 65 2 0) (fun x hx => setS_ne _ _ _ (by omega)) ?_ ?_, up.set (by decide)⟩
  · exact ⟨setS_at _ _ _ _, ⟨Int.le_refl 0, by show (0 : Int) ≤ 160; decide⟩, fun j g1 g2 => absurd g2 (by show ¬ j < (0 : Int); omega)⟩
  · have hS := h.2.2.2.2.1
    unfold cS at *
    rw [setS_ne _ _ _ (by decide), setS_ne _ _ _ (by decide), setS_ne _ _ _ (by decide)]
    exact hS
def typeA (a : AS) (c : Int) : Int × AS := if 0 ≤ c ∧ c ≤ 255 then (if a.2.2.2.1.1 < 160 then (a.2.2.2.1.1 + 1, setTS a (a.2.2.2.1.1 + 1, fun j => if j = a.2.2.2.1.1 then c else a.2.2.2.1.2 j) a.2.2.2.2) else (-3, a)) else (-1, a)
theorem c_txAppend (σ : St) {c : Int} (hs : 0 ≤ σ 65 2 ∧ σ 65 2 ≤ 160) : CI mdX9_append [vr 65, vi c] σ (fun z u => (160 ≤ σ 65 2 ∧ z = 0 ∧ σ = u) ∨ (σ 65 2 < 160 ∧ z = 1 ∧ setS (setr σ 66 (fun j => if j = σ 65 2 then c else σ 66 j)) 65 2 (σ 65 2 + 1) = u)) := by
  refine CI_of (by decide +kernel) (Nat.le_of_ble_eq_true rfl) rfl (fun X hX => ?_)
  refine bX9_append_0 (by omega) (fun q => ?_) (fun q => bX9_append_10 hX (Or.inl ⟨q, rfl, rfl⟩))
  refine bX9_append_12 hX (by omega) (Or.inr ⟨q, rfl, ?_⟩)
  have e : (wr σ 66 (σ 65 2) c) 65 2 = σ 65 2 := by rw [wr_setr, setr_ne _ _ (by decide)]
  rw [e]
  unfold setS
  rw [wr_setr, wr_setr]
theorem k_type {N : Int} {a : AS} {σ : St} (h : CR N a σ) {c : Int} (hc : inI c) : CI mdX10_type [vr 60, vi c] σ (fun z u => z = (typeA a c).1 ∧ CR N (typeA a c).2 u ∧ up σ u) := by
  refine CI_of (by decide +kernel) (Nat.le_of_ble_eq_true rfl) rfl (fun X hX => ?_)
  obtain ⟨t1, t2, t3⟩ := h.2.2.2.1
  have bad : ¬ (0 ≤ c ∧ c ≤ 255) → G mdX10_type X 11 [] [] σ := fun g => bX10_type_11 hX (by unfold typeA; rw [if_neg g]; exact ⟨rfl, h, up.rf⟩)
  refine bX10_type_0 hc (fun q => bad (by omega)) (fun q1 => ?_)
  refine bX10_type_4 hc (fun q2 => ?_) (fun q2 => bad (by omega))
  have ev : typeA a c = if a.2.2.2.1.1 < 160 then (a.2.2.2.1.1 + 1, setTS a (a.2.2.2.1.1 + 1, fun j => if j = a.2.2.2.1.1 then c else a.2.2.2.1.2 j) a.2.2.2.2) else (-3, a) := by unfold typeA; rw [if_pos ⟨q1, q2⟩]
  rw [ev] at hX
  refine bX10_type_13 (c_txAppend σ (by rw [t1]; exact t2)) ?_
  rintro z u hz (⟨g1, rfl, rfl⟩ | ⟨g1, rfl, rfl⟩)
  · rw [if_neg (by omega)] at hX
    exact bX10_type_21 hz (fun _ => bX10_type_34 (bX10_type_36 hX ⟨by decide, by decide⟩ ⟨rfl, h, up.rf⟩)) (fun q => absurd rfl q)
  · rw [if_pos (by omega)] at hX
    refine bX10_type_21 hz (fun q => absurd q (by decide)) (fun _ => ?_)
    refine bX10_type_24 ?_
    rw [setS_at]
    refine bX10_type_36 hX ⟨by omega, by omega⟩ ⟨by show _ = a.2.2.2.1.1 + 1; omega, h.ts (u := setS (setr σ 66 (fun j => if j = σ 65 2 then c else σ 66 j)) 65 2 (σ 65 2 + 1)) (fun x hx => by rw [setS_ne _ _ _ (by omega), setr_ne _ _ (by omega)]) ?_ ?_, ?_⟩
    · refine ⟨by rw [setS_at, t1], ⟨by show 0 ≤ a.2.2.2.1.1 + 1; omega, by show a.2.2.2.1.1 + 1 ≤ 160; omega⟩, fun j g2 g3 => ?_⟩
      have g3' : j < a.2.2.2.1.1 + 1 := g3
      rw [setS_ne _ _ _ (by decide), setr_at, t1]
      show (if j = a.2.2.2.1.1 then c else σ 66 j) = (if j = a.2.2.2.1.1 then c else a.2.2.2.1.2 j) ∧ 0 ≤ (if j = a.2.2.2.1.1 then c else a.2.2.2.1.2 j) ∧ (if j = a.2.2.2.1.1 then c else a.2.2.2.1.2 j) ≤ 255
      by_cases q : j = a.2.2.2.1.1
      · simp only [if_pos q]; exact ⟨trivial, q1, q2⟩
      · simp only [if_neg q]; exact t3 j g2 (by omega)
    · have hS := h.2.2.2.2.1
      unfold cS at *
      rw [setS_ne _ _ _ (by decide), setS_ne _ _ _ (by decide), setS_ne _ _ _ (by decide), setr_ne _ _ (by decide), setr_ne _ _ (by decide), setr_ne _ _ (by decide)]
      exact hS
    · exact up.tr (up.set (by decide)) (up.set (by decide))
def forgetA (a : AS) : Int × AS := (a.2.2.2.2.1, setTS a a.2.2.2.1 (0, a.2.2.2.2.2))
theorem k_forget {N : Int} {a : AS} {σ : St} (h : CR N a σ) : CI mdX10_forget [vr 60] σ (fun z u => z = (forgetA a).1 ∧ CR N (forgetA a).2 u ∧ up σ u) := by
  refine CI_of (by decide +kernel) (Nat.le_of_ble_eq_true rfl) rfl (fun X hX => ?_)
  obtain ⟨t1, t2, t3⟩ := h.2.2.2.2.1
  have e : wr σ 68 2 0 = setS σ 68 2 0 := wr_setr _ _ _ _
  refine bX10_forget_0 hX ⟨by omega, by omega⟩ ?_
  rw [e]
  refine ⟨t1, h.ts (u := setS σ 68 2 0) (fun x hx => setS_ne _ _ _ (by omega)) ?_ ?_, up.set (by decide)⟩
  · have hT := h.2.2.2.1
    unfold cT at *
    rw [setS_ne _ _ _ (by decide), setS_ne _ _ _ (by decide)]
    exact hT
  · exact ⟨setS_at _ _ _ _, ⟨Int.le_refl 0, by show (0 : Int) ≤ 6; decide⟩, fun j g1 g2 => absurd g2 (by show ¬ j < (0 : Int); omega)⟩
abbrev seeOK (r p s : Int) : Prop := ((0 ≤ r ∧ r < 2) ∧ (0 ≤ p ∧ p < 16)) ∧ (0 ≤ s ∧ s < 4)
def seesA (a : AS) (r p s : Int) : Int × AS := if seeOK r p s then (if a.2.2.2.2.1 < 6 then (a.2.2.2.2.1 + 1, setTS a a.2.2.2.1 (a.2.2.2.2.1 + 1, fun j => if j = a.2.2.2.2.1 then r * 16 + p else a.2.2.2.2.2.1 j, fun j => if j = a.2.2.2.2.1 then s else a.2.2.2.2.2.2 j)) else (-3, a)) else (-1, a)
theorem k_sees {N : Int} {a : AS} {σ : St} (h : CR N a σ) {r p s : Int} (hr : inI r) (hp : inI p) (hs : inI s) : CI mdX10_sees [vr 60, vi r, vi p, vi s] σ (fun z u => z = (seesA a r p s).1 ∧ CR N (seesA a r p s).2 u ∧ up σ u) := by
  refine CI_of (by decide +kernel) (Nat.le_of_ble_eq_true rfl) rfl (fun X hX => ?_)
  obtain ⟨t1, t2, t3⟩ := h.2.2.2.2.1
  have bad : ¬ seeOK r p s → G mdX10_sees X 15 [] [] σ := fun g => bX10_sees_15 hX (by unfold seesA; rw [if_neg g]; exact ⟨rfl, h, up.rf⟩)
  refine bX10_sees_0 (c_isSpot hr hp σ) ?_
  rintro z u hz ⟨rfl, rfl⟩
  refine bX10_sees_5 hz (fun q => bad (fun g => bI_d0 q g.1)) (fun q => ?_)
  have b1 := bI_d1 q
  refine bX10_sees_8 (c_isSymbol hs σ) ?_
  rintro z u hz ⟨rfl, rfl⟩
  refine bX10_sees_12 hz (fun q => ?_) (fun q => bad (fun g => bI_d0 q g.2))
  have b2 := bI_d1 q
  have ev : seesA a r p s = if a.2.2.2.2.1 < 6 then (a.2.2.2.2.1 + 1, setTS a a.2.2.2.1 (a.2.2.2.2.1 + 1, fun j => if j = a.2.2.2.2.1 then r * 16 + p else a.2.2.2.2.2.1 j, fun j => if j = a.2.2.2.2.1 then s else a.2.2.2.2.2.2 j)) else (-3, a) := by unfold seesA; rw [if_pos ⟨b1, b2⟩]
  rw [ev] at hX
  refine bX10_sees_17 (c_seAppend σ (by rw [t1]; exact t2)) ?_
  rintro z u hz2 (⟨g1, rfl, rfl⟩ | ⟨g1, rfl, rfl⟩)
  · rw [if_neg (by omega)] at hX
    exact bX10_sees_31 hz2 (fun _ => bX10_sees_44 (bX10_sees_46 hX ⟨by decide, by decide⟩ ⟨rfl, h, up.rf⟩)) (fun q => absurd rfl q)
  · rw [if_pos (by omega)] at hX
    refine bX10_sees_31 hz2 (fun q => absurd q (by decide)) (fun _ => ?_)
    refine bX10_sees_34 ?_
    rw [setS_at]
    refine bX10_sees_46 hX ⟨by omega, by omega⟩ ⟨by show _ = a.2.2.2.2.1 + 1; omega, h.ts (u := setS (setr (setr σ 69 (fun j => if j = σ 68 2 then r * 16 + p else σ 69 j)) 70 (fun j => if j = σ 68 2 then s else σ 70 j)) 68 2 (σ 68 2 + 1)) (fun x hx => by rw [setS_ne _ _ _ (by omega), setr_ne _ _ (by omega), setr_ne _ _ (by omega)]) ?_ ?_, ?_⟩
    · have hT := h.2.2.2.1
      unfold cT at *
      rw [setS_ne _ _ _ (by decide), setS_ne _ _ _ (by decide), setr_ne _ _ (by decide), setr_ne _ _ (by decide), setr_ne _ _ (by decide), setr_ne _ _ (by decide)]
      exact hT
    · refine ⟨by rw [setS_at, t1], ⟨by show 0 ≤ a.2.2.2.2.1 + 1; omega, by show a.2.2.2.2.1 + 1 ≤ 6; omega⟩, fun j g2 g3 => ?_⟩
      have g3' : j < a.2.2.2.2.1 + 1 := g3
      rw [setS_ne _ _ _ (by decide), setS_ne _ _ _ (by decide), setr_at, setr_ne _ _ (by decide), setr_at, t1]
      show (if j = a.2.2.2.2.1 then r * 16 + p else σ 69 j) = (if j = a.2.2.2.2.1 then r * 16 + p else a.2.2.2.2.2.1 j) ∧ (if j = a.2.2.2.2.1 then s else σ 70 j) = (if j = a.2.2.2.2.1 then s else a.2.2.2.2.2.2 j) ∧ (0 ≤ (if j = a.2.2.2.2.1 then r * 16 + p else a.2.2.2.2.2.1 j) ∧ (if j = a.2.2.2.2.1 then r * 16 + p else a.2.2.2.2.2.1 j) < 32) ∧ (0 ≤ (if j = a.2.2.2.2.1 then s else a.2.2.2.2.2.2 j) ∧ (if j = a.2.2.2.2.1 then s else a.2.2.2.2.2.2 j) ≤ 3)
      by_cases q : j = a.2.2.2.2.1
      · simp only [if_pos q]; exact ⟨trivial, trivial, by omega, by omega⟩
      · simp only [if_neg q]; exact t3 j g2 (by omega)
    · exact up.tr (up.set (by decide)) (up.tr (up.set (by decide)) (up.set (by decide)))
