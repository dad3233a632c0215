/-! contracts: State (copies, marks, rows), Steps.arrange, History, Sightings -/
theorem ite_ap {c : Prop} [Decidable c] (f g : Row) (j : Int) : (if c then f else g) j = if c then f j else g j := by split <;> rfl
/-- numbers of a float that are its bits -/
def fbit (x : Int) : Prop := 0 ≤ x ∧ x < 4294967296
theorem fl_int {x : Int} (h : fbit x) : ((fl x).toNat : Int) = x := by
  unfold fl
  have h1 := h.1
  have h2 := h.2
  show ((BitVec.ofNat 32 x.toNat).toNat : Int) = x
  rw [BitVec.toNat_ofNat]
  omega
/-- the state o becomes the state p -/
def stc (σ : St) (o p : Nat) : St := fun a =>
  if a = o then (fun j => if j = 1 then σ p 1 else if j = 4 then σ p 4 else if j = 5 then σ p 5 else σ o j)
  else if a = o + 1 then σ (p + 1)
  else if a = o + 2 then (fun j => if j = 2 then σ (p + 2) 2 else σ (o + 2) j)
  else if a = o + 3 then σ (p + 3)
  else if a = o + 4 then (fun j => if j = 2 then σ (p + 4) 2 else σ (o + 4) j)
  else if a = o + 5 then σ (p + 5)
  else σ a
def Zo (σ : St) (o : Nat) : Prop := zo 32 (σ (o + 1)) ∧ zo 30 (σ (o + 3)) ∧ zo 30 (σ (o + 5))
theorem c_stTake {o p : Nat} (ho : isSt o) (hp : isSt p) (hne : o ≠ p) (σ : St) (h1 : Zo σ o) (h2 : Zo σ p) (hf : fbit (σ p 4)) : CVe mdX7_takeFrom [vr o, vr p] σ (stc σ o p) := by
  refine CV_of (by decide +kernel) (Nat.le_of_ble_eq_true rfl) rfl (fun X hX => ?_)
  have d : o + 6 ≤ p ∨ p + 6 ≤ o := by obtain ⟨a1, a2⟩ := ho; obtain ⟨b1, b2⟩ := hp; omega
  have e0 : cp σ (p + 1) 0 (o + 1) 0 32 = setr σ (o + 1) (σ (p + 1)) := by
    rw [cp_setr]
    congr 1
    funext j
    by_cases h : 0 ≤ j ∧ j < 0 + 32
    · rw [if_pos h]; congr 1; omega
    · rw [if_neg h, h1.1 j (by omega), h2.1 j (by omega)]
  refine bX7_takeFrom_0 ho hp (by
    rw [e0, wr_setr]
    exact c_spTake (sp_line ho) (sp_line hp) (by omega) _ (by rw [setr_ne _ _ (by omega), setr_ne _ _ (by omega)]; exact h1.2.1) (by rw [setr_ne _ _ (by omega), setr_ne _ _ (by omega)]; exact h2.2.1)) ?_
  rintro u rfl
  refine bX7_takeFrom_34 ho hp (c_spTake (sp_chain ho) (sp_chain hp) (by omega) _ (by
    unfold setS
    rw [setr_ne _ _ (by omega), setr_ne _ _ (by omega), setr_ne _ _ (by omega), setr_ne _ _ (by omega)]; exact h1.2.2) (by
    unfold setS
    rw [setr_ne _ _ (by omega), setr_ne _ _ (by omega), setr_ne _ _ (by omega), setr_ne _ _ (by omega)]; exact h2.2.2)) ?_
  rintro u rfl
  refine bX7_takeFrom_45 ho hp hX ?_
  funext a j
  have hfi := fl_int hf
  clear hX h1 h2 e0 ho hp
  simp only [setS, wr, setr, stc, ite_ap]
  by_cases a0 : a = o
  · subst a0
    grind (splits := 30)
  · by_cases a1 : a = o + 1
    · subst a1
      grind (splits := 30)
    · by_cases a2 : a = o + 2
      · subst a2
        grind (splits := 30)
      · by_cases a3 : a = o + 3
        · subst a3
          grind (splits := 30)
        · by_cases a4 : a = o + 4
          · subst a4
            grind (splits := 30)
          · by_cases a5 : a = o + 5
            · subst a5
              grind (splits := 30)
            · grind (splits := 30)
theorem c_mark1 {o : Nat} (ho : isSt o) (σ : St) (hm : 0 ≤ σ o 1 ∧ σ o 1 < 65536) {p : Int} (hp : 0 ≤ p ∧ p < 16) (h : mk (σ o 1) p = false) : CVe mdX7_mark [vr o, vi p, vi 1] σ (setS σ o 1 (mset (σ o 1) p)) := by
  refine CV_of (by decide +kernel) (Nat.le_of_ble_eq_true rfl) rfl (fun X hX => ?_)
  refine bX7_mark_0 ho (by decide) (fun q => absurd q (by decide)) (fun q => bX7_mark_9 ho (bX7_mark_26 ho hX ?_))
  rw [wr_setr, bits_or hm hp h]
  rfl
theorem c_mark0 {o : Nat} (ho : isSt o) (σ : St) (hm : 0 ≤ σ o 1 ∧ σ o 1 < 65536) {p : Int} (hp : 0 ≤ p ∧ p < 16) (h : mk (σ o 1) p = true) : CVe mdX7_mark [vr o, vi p, vi 0] σ (setS σ o 1 (mclr (σ o 1) p)) := by
  refine CV_of (by decide +kernel) (Nat.le_of_ble_eq_true rfl) rfl (fun X hX => ?_)
  refine bX7_mark_0 ho (by decide) (fun q => bX7_mark_18 ho (bX7_mark_26 ho hX ?_)) (fun q => absurd rfl q)
  rw [wr_setr, bits_clr hm hp h]
  rfl
theorem c_tellNothing {o : Nat} (ho : isSt o) (σ : St) : CVe mdX7_tellNothing [vr o] σ (setS (setS (setr σ (o + 1) (win 32 (fun _ => 0) (σ (o + 1)))) o 1 4369) (o + 2) 2 0) := by
  refine CV_of (by decide +kernel) (Nat.le_of_ble_eq_true rfl) rfl (fun X hX => ?_)
  refine bX7_tellNothing_0 ho (c_fill (sh_sent ho) σ) ?_
  rintro u rfl
  refine bX7_tellNothing_8 ho hX ?_
  rw [wr_setr, wr_setr]
  rfl
theorem c_emptyRow {o : Nat} (ho : isSt o) (σ : St) {r : Int} (hr : 0 ≤ r ∧ r ≤ 1) : CVe mdX7_emptyRow [vr o, vi r] σ (setr σ (o + 1) (fun j => if r * 16 ≤ j ∧ j < r * 16 + 16 then 0 else σ (o + 1) j)) := by
  refine CV_of (by decide +kernel) (Nat.le_of_ble_eq_true rfl) rfl (fun X hX => ?_)
  refine bX7_emptyRow_0 ho ?_
  have key : G mdX7_emptyRow X 2 [(0, vr o), (1, vi r), (2, vi 0)] [] (setr σ (o + 1) (fun j => if r * 16 ≤ j ∧ j < r * 16 + 0 then 0 else σ (o + 1) j)) := by
    refine loopUp (Q := fun i => G mdX7_emptyRow X 2 [(0, vr o), (1, vi r), (2, vi i)] [] (setr σ (o + 1) (fun j => if r * 16 ≤ j ∧ j < r * 16 + i then 0 else σ (o + 1) j))) (n := 16) ?_ (fun i h1 h2 ih => ?_) (by decide)
    · exact bX7_emptyRow_2 ho (by decide) (fun q => bX7_emptyRow_26 hX rfl) (fun q => by omega)
    · refine bX7_emptyRow_2 ho (by omega) (fun q => by omega) (fun q => bX7_emptyRow_8 ho (by omega) ?_)
      rw [wr_wr]
      have e : (fun j => if j = (r * 16) + i then 0 else (if r * 16 ≤ j ∧ j < r * 16 + i then 0 else σ (o + 1) j)) = (fun j => if r * 16 ≤ j ∧ j < r * 16 + (i + 1) then 0 else σ (o + 1) j) := by
        funext j
        by_cases c1 : j = r * 16 + i
        · rw [if_pos c1, if_pos (by omega)]
        · rw [if_neg c1]
          by_cases c2 : r * 16 ≤ j ∧ j < r * 16 + i
          · rw [if_pos c2, if_pos (by omega)]
          · rw [if_neg c2, if_neg (by omega)]
      rw [e]
      exact ih
  have e : (fun j => if r * 16 ≤ j ∧ j < r * 16 + 0 then 0 else σ (o + 1) j) = σ (o + 1) := by
    funext j; rw [if_neg (by omega)]
  rw [e, setr_id] at key
  exact key
/-- steps put in another order -/
def arrR (n : Int) (f ord g : Row) : Row := fun j => if 0 ≤ j ∧ j < n * 5 then f (ord (j / 5) * 5 + j % 5) else g j
theorem c_arrange {o p w : Nat} (ho : isSp o) (hp : isSp p) (hw : shp w = (1, 4, [])) (hne : p + 1 ≠ o + 1) (hwo : w ≠ o + 1) (σ : St) (h2 : 0 ≤ σ o 2 ∧ σ o 2 ≤ 4) (hi : ∀ i, 0 ≤ i → i < σ o 2 → 0 ≤ σ w i ∧ σ w i < 4) : CVe mdX8_arrange [vr o, vr p, vr w] σ (setr σ (o + 1) (arrR (σ o 2) (σ (p + 1)) (σ w) (σ (o + 1)))) := by
  refine CV_of (by decide +kernel) (Nat.le_of_ble_eq_true rfl) rfl (fun X hX => ?_)
  refine bX8_arrange_0 ho hp hw ?_
  have eo : ∀ f, setr σ (o + 1) f o = σ o := fun f => setr_ne _ _ (by omega)
  have ep : ∀ f, setr σ (o + 1) f (p + 1) = σ (p + 1) := fun f => setr_ne _ _ hne
  have ew : ∀ f, setr σ (o + 1) f w = σ w := fun f => setr_ne _ _ hwo
  have key : G mdX8_arrange X 2 [(0, vr o), (1, vr p), (2, vr w), (3, vi 0)] [] (setr σ (o + 1) (arrR 0 (σ (p + 1)) (σ w) (σ (o + 1)))) := by
    refine loopUp (Q := fun k => G mdX8_arrange X 2 [(0, vr o), (1, vr p), (2, vr w), (3, vi k)] [] (setr σ (o + 1) (arrR k (σ (p + 1)) (σ w) (σ (o + 1))))) (n := σ o 2) ?_ (fun k h1 h3 ih => ?_) (by omega)
    · exact bX8_arrange_2 ho hp hw (by rw [eo]; omega) (fun q => bX8_arrange_36 hX rfl) (fun q => by rw [eo] at q; omega)
    · have hk := hi k h1 h3
      refine bX8_arrange_2 ho hp hw (by rw [eo]; omega) (fun q => by rw [eo] at q; omega) (fun q => bX8_arrange_10 ho hp hw (by rw [ew]; omega) ?_)
      rw [cp_setr, setr_setr, setr_at, ep, ew]
      have e : (fun j => if k * 5 ≤ j ∧ j < k * 5 + 5 then σ (p + 1) (j - k * 5 + σ w k * 5) else arrR k (σ (p + 1)) (σ w) (σ (o + 1)) j) = arrR (k + 1) (σ (p + 1)) (σ w) (σ (o + 1)) := by
        funext j
        unfold arrR
        by_cases c1 : k * 5 ≤ j ∧ j < k * 5 + 5
        · rw [if_pos c1, if_pos (by omega), show j / 5 = k by omega]
          congr 1
          omega
        · rw [if_neg c1]
          by_cases c2 : 0 ≤ j ∧ j < k * 5
          · rw [if_pos c2, if_pos (by omega)]
          · rw [if_neg c2, if_neg (by omega)]
      rw [e]
      exact ih
  have e : arrR 0 (σ (p + 1)) (σ w) (σ (o + 1)) = σ (o + 1) := by
    funext j; unfold arrR; rw [if_neg (by omega)]
  rw [e, setr_id] at key
  exact key
-- History: a ring of six
def pid (i : Int) : Nat := 6 * i.toNat + 24
/-- the present state goes into the ring -/
def remC (σ : St) : St := setS (setS (stc σ (pid (σ 63 1)) 0) 63 1 ((σ 63 1 + 1) % 6)) 63 2 (if σ 63 2 + 1 ≤ 6 then σ 63 2 + 1 else 6)
theorem c_remember (σ : St) (hn : 0 ≤ σ 63 1 ∧ σ 63 1 < 6) (hs : 0 ≤ σ 63 2 ∧ σ 63 2 ≤ 6) (hz : ∀ i, 0 ≤ i → i < 6 → Zo σ (pid i)) (h0 : Zo σ 0) (hf : fbit (σ 0 4)) : CVe mdX3_remember [vr 63, vr 0] σ (remC σ) := by
  refine CV_of (by decide +kernel) (Nat.le_of_ble_eq_true rfl) rfl (fun X hX => ?_)
  have hp := st_pa hn
  refine bX3_remember_0 st_0 (c_stTake hp st_0 (by omega) σ (hz _ hn.1 hn.2) h0 hf) hn ?_
  rintro u rfl
  have e63 : stc σ (6 * (σ 63 1).toNat + 24) 0 63 = σ 63 := by
    funext j
    unfold stc
    have : (σ 63 1).toNat < 6 := by omega
    rw [if_neg (by omega), if_neg (by omega), if_neg (by omega), if_neg (by omega), if_neg (by omega), if_neg (by omega)]
  rw [show (6 * (σ 63 1).toNat + 24) = pid (σ 63 1) from rfl] at *
  refine bX3_remember_13 (c_min (x := (wr (stc σ (pid (σ 63 1)) 0) 63 1 (((stc σ (pid (σ 63 1)) 0 63 1) + 1) % 6)) 63 2 + 1) (y := 6) ?_ ⟨by decide, by decide⟩ _) (by rw [e63]; omega) ?_
  · unfold wr; rw [if_neg (by decide), e63]; exact ⟨by omega, by omega⟩
  · rintro z u hz ⟨rfl, rfl⟩
    refine bX3_remember_38 hX ?_
    have e2 : wr (stc σ (pid (σ 63 1)) 0) 63 1 ((stc σ (pid (σ 63 1)) 0 63 1 + 1) % 6) 63 2 = σ 63 2 := by unfold wr; rw [if_neg (by decide), e63]
    rw [e2, wr_setr, wr_setr, e63]
    unfold remC setS
    rw [e63]
/-- the last state of the ring comes back -/
def lastI (σ : St) : Int := (σ 63 1 + 6 - 1) % 6
def resC (σ : St) : St := setS (stc (setS σ 63 1 (lastI σ)) 0 (pid (lastI σ))) 63 2 (if 0 ≤ σ 63 2 - 1 then σ 63 2 - 1 else 0)
theorem c_restore (σ : St) (hn : 0 ≤ σ 63 1 ∧ σ 63 1 < 6) (hs : 0 ≤ σ 63 2 ∧ σ 63 2 ≤ 6) (hz : ∀ i, 0 ≤ i → i < 6 → Zo σ (pid i)) (h0 : Zo σ 0) (hf : fbit (σ (pid (lastI σ)) 4)) : CVe mdX3_restore [vr 63, vr 0] σ (resC σ) := by
  refine CV_of (by decide +kernel) (Nat.le_of_ble_eq_true rfl) rfl (fun X hX => ?_)
  have hl : 0 ≤ lastI σ ∧ lastI σ < 6 := by unfold lastI; omega
  have e1 : wr σ 63 1 (((σ 63 1 + 6) - 1) % 6) = setS σ 63 1 (lastI σ) := wr_setr _ _ _ _
  have e2 : setS σ 63 1 (lastI σ) 63 1 = lastI σ := by unfold setS; rw [setr_at, if_pos rfl]
  have ne : ∀ a, a ≠ 63 → setS σ 63 1 (lastI σ) a = σ a := fun a h => setr_ne _ _ h
  have hp : isSt (pid (lastI σ)) := st_pa hl
  have hpb : pid (lastI σ) < 55 := by unfold pid; omega
  refine bX3_restore_0 st_0 (P := fun u => stc (setS σ 63 1 (lastI σ)) 0 (pid (lastI σ)) = u) ?_ ⟨by omega, by rw [e1, e2]; exact hl⟩ ?_
  · rw [e1, e2]
    refine c_stTake st_0 hp (by unfold pid; omega) _ ?_ ?_ ?_
    · unfold Zo; rw [ne _ (by decide), ne _ (by decide), ne _ (by decide)]; exact h0
    · unfold Zo; rw [ne _ (by omega), ne _ (by omega), ne _ (by omega)]; exact hz _ hl.1 hl.2
    · rw [ne _ (by omega)]; exact hf
  · rintro u rfl
    have e63 : stc (setS σ 63 1 (lastI σ)) 0 (pid (lastI σ)) 63 2 = σ 63 2 := by
      show setS σ 63 1 (lastI σ) 63 2 = _
      unfold setS
      rw [setr_at, if_neg (by decide)]
    refine bX3_restore_29 (c_max (by rw [e63]; exact ⟨by omega, by omega⟩) ⟨by decide, by decide⟩ _) ?_
    rintro z u hz2 ⟨rfl, rfl⟩
    refine bX3_restore_40 hX ?_
    rw [e63, wr_setr]
    rfl
