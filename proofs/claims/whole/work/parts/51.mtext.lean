/-! what changes an object of the model: type, clear, forget -/
theorem MR.ts {N : Int} {a : AS} {σ u : St} (h : MR N a σ) (e : ∀ x, 88 ≤ x → x ≠ 94 → x ≠ 103 → x ≠ 104 → u x = σ x) (e1 : u 87 1 = σ 87 1) (e4 : u 87 4 = σ 87 4) {t : Int × Row} {s : Int × Row × Row} (ht : mT t u) (hs : mS s u) : MR N (setTS a t s) u := by
  obtain ⟨hP, hH, hI, hT, hS, hz⟩ := h
  refine ⟨?_, ?_, ?_, ht, hs, ?_⟩
  · unfold mP vwM at *
    rw [e1, e 88 (by decide) (by decide) (by decide) (by decide)]; exact hP
  · unfold mH pastM at *
    rw [e4, e 89 (by decide) (by decide) (by decide) (by decide), e 90 (by decide) (by decide) (by decide) (by decide)]; exact hH
  · unfold mI imgM at *
    rw [e 93 (by decide) (by decide) (by decide) (by decide), e 91 (by decide) (by decide) (by decide) (by decide), e 92 (by decide) (by decide) (by decide) (by decide)]; exact hI
  · rw [e 96 (by decide) (by decide) (by decide) (by decide)]; exact hz
theorem dn.set {a : Nat} {σ : St} {f : Row} (h : 87 ≤ a) : dn σ (setr σ a f) := fun x hx => setr_ne σ f (by omega)
theorem n_clear {N : Int} {a : AS} {σ : St} (h : MR N a σ) : CI mdX11_clear [vr 87] σ (fun z u => z = (clearA a).1 ∧ MR N (clearA a).2 u ∧ dn σ u) := by
  refine CI_of (by decide +kernel) (Nat.le_of_ble_eq_true rfl) rfl (fun X hX => ?_)
  obtain ⟨t1, t2, t3⟩ := h.2.2.2.1
  have e : wr σ 87 9 0 = setS σ 87 9 0 := wr_setr _ _ _ _
  refine bX11_clear_0 hX ⟨by omega, by omega⟩ ?_
  rw [e]
  refine ⟨t1, h.ts (u := setS σ 87 9 0) (fun x hx _ _ _ => setS_ne _ _ _ (by omega)) (setS_at2 _ _ _ (by decide)) (setS_at2 _ _ _ (by decide)) ?_ ?_, dn.set (by decide)⟩
  · exact ⟨setS_at _ _ _ _, ⟨Int.le_refl 0, by show (0 : Int) ≤ 160; decide⟩, fun j g1 g2 => absurd g2 (by show ¬ j < (0 : Int); omega)⟩
  · have hS := h.2.2.2.2.1
    unfold mS at *
    rw [setS_at2 _ _ _ (by decide), setS_ne _ _ _ (by decide), setS_ne _ _ _ (by decide)]
    exact hS
theorem n_forget {N : Int} {a : AS} {σ : St} (h : MR N a σ) : CI mdX11_forget [vr 87] σ (fun z u => z = (forgetA a).1 ∧ MR N (forgetA a).2 u ∧ dn σ u) := by
  refine CI_of (by decide +kernel) (Nat.le_of_ble_eq_true rfl) rfl (fun X hX => ?_)
  obtain ⟨t1, t2, t3⟩ := h.2.2.2.2.1
  have e : wr σ 87 27 0 = setS σ 87 27 0 := wr_setr _ _ _ _
  refine bX11_forget_0 hX ⟨by omega, by omega⟩ ?_
  rw [e]
  refine ⟨t1, h.ts (u := setS σ 87 27 0) (fun x hx _ _ _ => setS_ne _ _ _ (by omega)) (setS_at2 _ _ _ (by decide)) (setS_at2 _ _ _ (by decide)) ?_ ?_, dn.set (by decide)⟩
  · have hT := h.2.2.2.1
    unfold mT at *
    rw [setS_at2 _ _ _ (by decide), setS_ne _ _ _ (by decide)]
    exact hT
  · exact ⟨setS_at _ _ _ _, ⟨Int.le_refl 0, by show (0 : Int) ≤ 6; decide⟩, fun j g1 g2 => absurd g2 (by show ¬ j < (0 : Int); omega)⟩
theorem n_type {N : Int} {a : AS} {σ : St} (h : MR N a σ) {c : Int} (hc : inI c) : CI mdX11_type [vr 87, vi c] σ (fun z u => z = (typeA a c).1 ∧ MR N (typeA a c).2 u ∧ dn σ u) := by
  refine CI_of (by decide +kernel) (Nat.le_of_ble_eq_true rfl) rfl (fun X hX => ?_)
  obtain ⟨t1, t2, t3⟩ := h.2.2.2.1
  refine bX11_type_0 (m_in hc ⟨by decide, by decide⟩ ⟨by decide, by decide⟩ σ) ?_
  rintro z u hz ⟨rfl, rfl⟩
  refine bX11_type_8 hz (fun q => ?_) (fun q => bX11_type_11 hX (by unfold typeA; rw [if_neg (bI_d0 q)]; exact ⟨rfl, h, dn.rf⟩))
  have hq := bI_d1 q
  have ev : typeA a c = if a.2.2.2.1.1 < 160 then (a.2.2.2.1.1 + 1, setTS a (a.2.2.2.1.1 + 1, fun j => if j = a.2.2.2.1.1 then c else a.2.2.2.1.2 j) a.2.2.2.2) else (-3, a) := by unfold typeA; rw [if_pos hq]
  rw [ev] at hX
  refine bX11_type_13 ⟨by omega, by omega⟩ (fun q1 => ?_) (fun q1 => ?_)
  · rw [if_pos (by omega)] at hX
    have e0 : (wr σ 94 (σ 87 9) c) 87 9 = σ 87 9 := by rw [wr_setr, setr_ne _ _ (by decide)]
    have eu : wr (wr σ 94 (σ 87 9) c) 87 9 (((wr σ 94 (σ 87 9) c) 87 9) + 1) = setS (setr σ 94 (fun j => if j = σ 87 9 then c else σ 94 j)) 87 9 (σ 87 9 + 1) := by
      rw [e0, wr_setr, wr_setr]; rfl
    refine bX11_type_26 hX ⟨by omega, by rw [eu, setS_at]; exact ⟨by omega, by omega⟩⟩ ?_
    rw [eu, setS_at]
    refine ⟨by show _ = a.2.2.2.1.1 + 1; omega, h.ts (u := setS (setr σ 94 (fun j => if j = σ 87 9 then c else σ 94 j)) 87 9 (σ 87 9 + 1)) (fun x hx h94 _ _ => by rw [setS_ne _ _ _ (by omega), setr_ne _ _ h94]) (by rw [setS_at2 _ _ _ (by decide), setr_ne _ _ (by decide)]) (by rw [setS_at2 _ _ _ (by decide), setr_ne _ _ (by decide)]) ?_ ?_, dn.tr (dn.set (by decide)) (dn.set (by decide))⟩
    · refine ⟨by rw [setS_at, t1], ⟨by show 0 ≤ a.2.2.2.1.1 + 1; omega, by show a.2.2.2.1.1 + 1 ≤ 160; omega⟩, fun j g2 g3 => ?_⟩
      have g3' : j < a.2.2.2.1.1 + 1 := g3
      rw [setS_ne _ _ _ (by decide), setr_at, t1]
      show (if j = a.2.2.2.1.1 then c else σ 94 j) = (if j = a.2.2.2.1.1 then c else a.2.2.2.1.2 j) ∧ 0 ≤ (if j = a.2.2.2.1.1 then c else a.2.2.2.1.2 j) ∧ (if j = a.2.2.2.1.1 then c else a.2.2.2.1.2 j) ≤ 255
      by_cases q : j = a.2.2.2.1.1
      · simp only [if_pos q]; exact ⟨trivial, hq.1, hq.2⟩
      · simp only [if_neg q]; exact t3 j g2 (by omega)
    · have hS := h.2.2.2.2.1
      unfold mS at *
      rw [setS_at2 _ _ _ (by decide), setS_ne _ _ _ (by decide), setS_ne _ _ _ (by decide), setr_ne _ _ (by decide), setr_ne _ _ (by decide), setr_ne _ _ (by decide)]
      exact hS
  · rw [if_neg (by omega)] at hX
    exact bX11_type_23 hX ⟨rfl, h, dn.rf⟩
