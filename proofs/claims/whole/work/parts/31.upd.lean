/-! what changes an object of the class: the history, one place of the present state -/
def pushH (h : Int × (Int → Row)) (P : Row) : Int × (Int → Row) := if h.1 < 6 then (h.1 + 1, fun i => if i = h.1 then P else h.2 i) else (6, fun i => if i = 5 then P else h.2 (i + 1))
def noteA (a : AS) : AS := (a.1, pushH a.2.1 a.1, a.2.2)
def putP (a : AS) (P : Row) : AS := (P, a.2)
theorem vw_stc {σ : St} {o p : Nat} : vwC (stc σ o p) o = vwC σ p := by
  have n1 : ¬ o + 1 = o := by omega
  have n2 : ¬ o + 2 = o := by omega
  have n21 : ¬ o + 2 = o + 1 := by omega
  have n3 : ¬ o + 3 = o := by omega
  have n31 : ¬ o + 3 = o + 1 := by omega
  have n32 : ¬ o + 3 = o + 2 := by omega
  have n4 : ¬ o + 4 = o := by omega
  have n41 : ¬ o + 4 = o + 1 := by omega
  have n42 : ¬ o + 4 = o + 2 := by omega
  have n43 : ¬ o + 4 = o + 3 := by omega
  have n5 : ¬ o + 5 = o := by omega
  have n51 : ¬ o + 5 = o + 1 := by omega
  have n52 : ¬ o + 5 = o + 2 := by omega
  have n53 : ¬ o + 5 = o + 3 := by omega
  have n54 : ¬ o + 5 = o + 4 := by omega
  have e0 : stc σ o p o = (fun j => if j = 1 then σ p 1 else if j = 4 then σ p 4 else if j = 5 then σ p 5 else σ o j) := if_pos rfl
  have e1 : stc σ o p (o + 1) = σ (p + 1) := by unfold stc; rw [if_neg n1, if_pos rfl]
  have e2 : stc σ o p (o + 2) = (fun j => if j = 2 then σ (p + 2) 2 else σ (o + 2) j) := by unfold stc; rw [if_neg n2, if_neg n21, if_pos rfl]
  have e3 : stc σ o p (o + 3) = σ (p + 3) := by unfold stc; rw [if_neg n3, if_neg n31, if_neg n32, if_pos rfl]
  have e4 : stc σ o p (o + 4) = (fun j => if j = 2 then σ (p + 4) 2 else σ (o + 4) j) := by unfold stc; rw [if_neg n4, if_neg n41, if_neg n42, if_neg n43, if_pos rfl]
  have e5 : stc σ o p (o + 5) = σ (p + 5) := by unfold stc; rw [if_neg n5, if_neg n51, if_neg n52, if_neg n53, if_neg n54, if_pos rfl]
  unfold vwC
  rw [e0, e1, e2, e3, e4, e5]
  rfl
theorem stc_ne {σ : St} {o p x : Nat} (h : x < o ∨ o + 6 ≤ x) : stc σ o p x = σ x := by
  unfold stc
  rw [if_neg (by omega), if_neg (by omega), if_neg (by omega), if_neg (by omega), if_neg (by omega), if_neg (by omega)]
theorem stc_room {σ : St} {o p : Nat} : stc σ o p (o + 2) 1 = σ (o + 2) 1 ∧ stc σ o p (o + 4) 1 = σ (o + 4) 1 := by
  constructor
  · unfold stc; rw [if_neg (by omega), if_neg (by omega), if_pos rfl]; rfl
  · unfold stc; rw [if_neg (by omega), if_neg (by omega), if_neg (by omega), if_neg (by omega), if_pos rfl]; rfl
theorem stc_Zo {σ : St} {o p : Nat} (h : Zo σ p) : Zo (stc σ o p) o := by
  have e1 : stc σ o p (o + 1) = σ (p + 1) := by unfold stc; rw [if_neg (by omega), if_pos rfl]
  have e3 : stc σ o p (o + 3) = σ (p + 3) := by unfold stc; rw [if_neg (by omega), if_neg (by omega), if_neg (by omega), if_pos rfl]
  have e5 : stc σ o p (o + 5) = σ (p + 5) := by unfold stc; rw [if_neg (by omega), if_neg (by omega), if_neg (by omega), if_neg (by omega), if_neg (by omega), if_pos rfl]
  unfold Zo
  rw [e1, e3, e5]
  exact h
theorem CR.zst {N : Int} {a : AS} {σ : St} (h : CR N a σ) {o : Nat} (ho : isSt o) : Zo σ o := by
  have := h.2.2.2.2.2.2.2.2.1 (o / 6) (by obtain ⟨h1, h2⟩ := ho; omega)
  rwa [show 6 * (o / 6) = o by obtain ⟨h1, h2⟩ := ho; omega] at this
theorem setS_ne (σ : St) {o x : Nat} (k v : Int) (h : x ≠ o) : setS σ o k v x = σ x := setr_ne _ _ h
theorem setS_at (σ : St) (o : Nat) (k v : Int) : setS σ o k v o k = v := by unfold setS; rw [setr_at, if_pos rfl]
theorem setS_at2 (σ : St) (o : Nat) {k j : Int} (v : Int) (h : j ≠ k) : setS σ o k v o j = σ o j := by unfold setS; rw [setr_at, if_neg h]
/-- only the ring has changed -/
def nf (σ u : St) : Prop := ∀ x, (x < 24 ∨ 60 ≤ x) → x ≠ 63 → u x = σ x
theorem nf.up {σ u : St} (h : nf σ u) : up σ u := fun x hx => h x (by omega) (by omega)
theorem rem_nf {σ : St} (hn : 0 ≤ σ 63 1 ∧ σ 63 1 < 6) : nf σ (remC σ) := by
  intro x h1 h2
  have := pid_lt hn
  unfold remC
  rw [setS_ne _ _ _ h2, setS_ne _ _ _ h2, stc_ne (by omega)]
theorem CR.rem {N : Int} {a : AS} {σ : St} (h : CR N a σ) : CR N (noteA a) (remC σ) := by
  obtain ⟨hP, hH, hI, hT, hS, hX⟩ := id h
  have hn := hH.1
  have hnf := rem_nf hn
  have hp := pid_lt hn
  have e63 : stc σ (pid (σ 63 1)) 0 63 = σ 63 := stc_ne (by omega)
  have sm : ∀ o, o < 19 → vwC (remC σ) o = vwC σ o := fun o ho => vwC_same ⟨hnf _ (by omega) (by omega), hnf _ (by omega) (by omega), hnf _ (by omega) (by omega), hnf _ (by omega) (by omega), hnf _ (by omega) (by omega), hnf _ (by omega) (by omega)⟩
  have r1 : remC σ 63 1 = (σ 63 1 + 1) % 6 := by
    unfold remC
    rw [setS_at2 _ _ _ (by decide), setS_at]
  have r2 : remC σ 63 2 = if σ 63 2 + 1 ≤ 6 then σ 63 2 + 1 else 6 := setS_at _ _ _ _
  -- a state of the ring
  have old : ∀ i, 0 ≤ i → i < 6 → i ≠ σ 63 1 → vwC (remC σ) (pid i) = vwC σ (pid i) := by
    intro i g1 g2 g3
    have hi := pid_lt ⟨g1, g2⟩
    have hd : pid i + 6 ≤ pid (σ 63 1) ∨ pid (σ 63 1) + 6 ≤ pid i := by unfold pid; omega
    have e : ∀ x, pid i ≤ x → x < pid i + 6 → remC σ x = σ x := fun x c1 c2 => by
      unfold remC
      rw [setS_ne _ _ _ (by omega), setS_ne _ _ _ (by omega), stc_ne (by omega)]
    exact vwC_same ⟨e _ (by omega) (by omega), e _ (by omega) (by omega), e _ (by omega) (by omega), e _ (by omega) (by omega), e _ (by omega) (by omega), e _ (by omega) (by omega)⟩
  have new : vwC (remC σ) (pid (σ 63 1)) = vwC σ 0 := by
    refine Eq.trans (vwC_same (σ := stc σ (pid (σ 63 1)) 0) ?_) vw_stc
    have e : ∀ x, x < 60 → remC σ x = stc σ (pid (σ 63 1)) 0 x := fun x c => by
      unfold remC
      rw [setS_ne _ _ _ (by omega), setS_ne _ _ _ (by omega)]
    exact ⟨e _ (by omega), e _ (by omega), e _ (by omega), e _ (by omega), e _ (by omega), e _ (by omega)⟩
  have h1 := hH.2.1
  have h2 := hH.2.2.1
  refine ⟨?_, ?_, ?_, ?_, ?_, ?_⟩
  · unfold cP at *; rw [sm 0 (by decide)]; exact hP
  · show cH N (pushH a.2.1 a.1) (remC σ)
    unfold pushH cH
    rw [r1, r2, h1]
    by_cases q : a.2.1.1 < 6
    · rw [if_pos q]
      refine ⟨by omega, by rw [if_pos (by omega)], by show 0 ≤ a.2.1.1 + 1 ∧ a.2.1.1 + 1 ≤ 6; omega, fun i g1 g2 => ?_⟩
      have g2' : i < a.2.1.1 + 1 := g2
      show eqv (if i = a.2.1.1 then a.1 else a.2.1.2 i) (vwC (remC σ) (ring (remC σ) (a.2.1.1 + 1) i)) ∧ okV N (if i = a.2.1.1 then a.1 else a.2.1.2 i)
      unfold ring
      rw [r1]
      by_cases e : i = a.2.1.1
      · rw [if_pos e, show ((σ 63 1 + 1) % 6 + 6 - (a.2.1.1 + 1) + i) % 6 = σ 63 1 by omega, new]
        exact hP
      · rw [if_neg e, show ((σ 63 1 + 1) % 6 + 6 - (a.2.1.1 + 1) + i) % 6 = (σ 63 1 + 6 - a.2.1.1 + i) % 6 by omega, old _ (by omega) (by omega) (by omega)]
        exact hH.2.2.2 i g1 (by omega)
    · rw [if_neg q]
      refine ⟨by omega, by rw [if_neg (by omega)], ⟨by show (0 : Int) ≤ 6; decide, by show (6 : Int) ≤ 6; decide⟩, fun i g1 g2 => ?_⟩
      have g2' : i < 6 := g2
      show eqv (if i = 5 then a.1 else a.2.1.2 (i + 1)) (vwC (remC σ) (ring (remC σ) 6 i)) ∧ okV N (if i = 5 then a.1 else a.2.1.2 (i + 1))
      unfold ring
      rw [r1]
      by_cases e : i = 5
      · rw [if_pos e, show ((σ 63 1 + 1) % 6 + 6 - 6 + i) % 6 = σ 63 1 by omega, new]
        exact hP
      · rw [if_neg e, show ((σ 63 1 + 1) % 6 + 6 - 6 + i) % 6 = (σ 63 1 + 6 - a.2.1.1 + (i + 1)) % 6 by omega, old _ (by omega) (by omega) (by omega)]
        exact hH.2.2.2 (i + 1) (by omega) (by omega)
  · intro i h0 h1
    have := imid_bd ⟨h0, h1⟩
    rw [hnf 62 (by decide) (by decide), sm _ (by omega)]
    exact hI i h0 h1
  · unfold cT at *; rw [hnf 65 (by decide) (by decide), hnf 66 (by decide) (by decide)]; exact hT
  · unfold cS at *; rw [hnf 68 (by decide) (by decide), hnf 69 (by decide) (by decide), hnf 70 (by decide) (by decide)]; exact hS
  · unfold cX at *
    rw [hnf 2 (by decide) (by decide), hnf 4 (by decide) (by decide), hnf 8 (by decide) (by decide), hnf 72 (by decide) (by decide), hnf 77 (by decide) (by decide)]
    refine ⟨hX.1, hX.2.1, hX.2.2.1, fun i hi => ?_, hX.2.2.2.2⟩
    by_cases e : 6 * i = pid (σ 63 1)
    · rw [e]
      have z := stc_Zo (σ := σ) (o := pid (σ 63 1)) (p := 0) (hX.2.2.2.1 0 (by decide))
      have e : ∀ x, x < 60 → remC σ x = stc σ (pid (σ 63 1)) 0 x := fun x c => by
        unfold remC
        rw [setS_ne _ _ _ (by omega), setS_ne _ _ _ (by omega)]
      unfold Zo at *
      rw [e _ (by omega), e _ (by omega), e _ (by omega)]
      exact z
    · have e : ∀ x, 6 * i ≤ x → x < 6 * i + 6 → remC σ x = σ x := fun x c1 c2 => by
        unfold remC
        rw [setS_ne _ _ _ (by omega), setS_ne _ _ _ (by omega), stc_ne (by omega)]
      have z := hX.2.2.2.1 i hi
      unfold Zo at *
      rw [e _ (by omega) (by omega), e _ (by omega) (by omega), e _ (by omega) (by omega)]
      exact z
theorem CR.fb {N : Int} {a : AS} {σ : St} (h : CR N a σ) : fbit (σ 0 4) := by
  rw [show σ 0 4 = a.1 86 from h.1.1.2.2.2.2.2.symm]
  exact h.1.2.2.2.2.2.2.2.2.1
theorem k_note {N : Int} {a : AS} {σ : St} (h : CR N a σ) : CV mdX3_remember [vr 63, vr 0] σ (fun u => CR N (noteA a) u ∧ nf σ u) := by
  have hH := h.2.1
  have hn := hH.1
  refine (c_remember σ hn (by rw [hH.2.1]; exact hH.2.2.1) (fun i g1 g2 => h.zst (by have := pid_lt ⟨g1, g2⟩; exact ⟨this.2.1, by omega⟩)) (h.zst isSt0) h.fb).mono ?_
  rintro u rfl
  exact ⟨h.rem, rem_nf hn⟩
theorem CR.setP {N M : Int} {a : AS} {σ u : St} (h : CR N a σ) (hm : N ≤ M) {P : Row} (e : ∀ x, 6 ≤ x → u x = σ x) (hP : eqv P (vwC u 0)) (ok : okV M P) (r2 : u 2 1 = σ 2 1) (r4 : u 4 1 = σ 4 1) (z : Zo u 0) : CR M (putP a P) u := by
  obtain ⟨-, hH, hI, hT, hS, hX⟩ := h.mm hm
  have sm : ∀ o, 6 ≤ o → vwC u o = vwC σ o := fun o ho => vwC_same ⟨e _ (by omega), e _ (by omega), e _ (by omega), e _ (by omega), e _ (by omega), e _ (by omega)⟩
  refine ⟨⟨hP, ok⟩, ?_, ?_, ?_, ?_, ?_⟩
  · unfold cH at *
    rw [e 63 (by decide)]
    refine ⟨hH.1, hH.2.1, hH.2.2.1, fun i h0 h1 => ?_⟩
    have er : ring u a.2.1.1 i = ring σ a.2.1.1 i := by unfold ring; rw [e 63 (by decide)]
    have := ring_bd σ a.2.1.1 i
    show eqv (a.2.1.2 i) (vwC u (ring u a.2.1.1 i)) ∧ _
    rw [er, sm _ (by omega)]
    exact hH.2.2.2 i h0 h1
  · intro i h0 h1
    have := imid_bd ⟨h0, h1⟩
    rw [e 62 (by decide), sm _ (by omega)]
    exact hI i h0 h1
  · unfold cT at *; rw [e 65 (by decide), e 66 (by decide)]; exact hT
  · unfold cS at *; rw [e 68 (by decide), e 69 (by decide), e 70 (by decide)]; exact hS
  · unfold cX at *
    rw [r2, r4, e 8 (by decide), e 72 (by decide), e 77 (by decide)]
    refine ⟨hX.1, hX.2.1, hX.2.2.1, fun i hi => ?_, hX.2.2.2.2⟩
    by_cases q : i = 0
    · rw [q]; exact z
    · have z2 := hX.2.2.2.1 i hi
      unfold Zo at *
      rw [e _ (by omega), e _ (by omega), e _ (by omega)]
      exact z2
