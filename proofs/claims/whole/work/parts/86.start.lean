/-! the start: new objects on both sides -/
def σZ : St := fun o => if o < 60 then (if o % 6 = 0 then (fun j => if j = 1 then 4369 else 0) else if o % 6 = 2 then (fun j => if j = 1 then 6 else 0) else if o % 6 = 4 then (fun j => if j = 1 then 4 else 0) else fun _ => 0) else if o = 88 then (fun j => if j = 32 then 4369 else 0) else fun _ => 0
def PZ : Row := fun j => if j = 32 then 4369 else 0
def aZ : AS := (PZ, (0, fun _ => zR), (fun _ => 0, fun _ => zR), (0, zR), (0, zR, zR))
theorem sZ_hi {o : Nat} (h : 60 ≤ o) (h2 : o ≠ 88) (j : Int) : σZ o j = 0 := by
  unfold σZ
  rw [if_neg (by omega), if_neg h2]
theorem sZ_odd {o : Nat} (h : o < 60) (h1 : o % 6 = 1 ∨ o % 6 = 3 ∨ o % 6 = 5) (j : Int) : σZ o j = 0 := by
  unfold σZ
  rw [if_pos h, if_neg (by omega), if_neg (by omega), if_neg (by omega)]
theorem okZ : okV 0 PZ := by
  have e : ∀ j : Int, j ≠ 32 → PZ j = 0 := fun j h => if_neg h
  refine ⟨fun i a b => by rw [e i (by omega)]; omega, ⟨by decide, by decide⟩, by rw [e _ (by decide)]; omega, fun j a b => ?_, by rw [e _ (by decide)]; omega, fun j a b => ?_, by rw [e _ (by decide)]; omega, by rw [e _ (by decide)]; exact loss_0⟩
  · rw [e _ (by decide)] at b; omega
  · rw [e _ (by decide)] at b; omega
theorem CR_start : CR 0 aZ σZ := by
  have e : ∀ j : Int, j ≠ 32 → PZ j = 0 := fun j h => if_neg h
  refine ⟨⟨⟨fun j a b => ?_, fun j a b => ?_, ?_, fun j a b => ?_, ?_, ?_⟩, okZ⟩, ⟨?_, ?_, ⟨by show (0 : Int) ≤ 0; decide, by show (0 : Int) ≤ 6; decide⟩, fun i a b => absurd b (by show ¬ i < 0; omega)⟩, fun i a b => ⟨?_, Or.inl rfl, fun g => absurd g (show ¬ (0 : Int) = 1 by decide)⟩, ⟨?_, ⟨by show (0 : Int) ≤ 0; decide, by show (0 : Int) ≤ 160; decide⟩, fun j a b => absurd b (by show ¬ j < 0; omega)⟩, ⟨?_, ⟨by show (0 : Int) ≤ 0; decide, by show (0 : Int) ≤ 6; decide⟩, fun j a b => absurd b (by show ¬ j < 0; omega)⟩, ⟨rfl, rfl, rfl, fun i hi => ⟨fun j _ => sZ_odd (by omega) (by omega) j, fun j _ => sZ_odd (by omega) (by omega) j, fun j _ => sZ_odd (by omega) (by omega) j⟩, fun j _ => sZ_hi (by decide) (by decide) j, fun j _ => sZ_hi (by decide) (by decide) j⟩⟩
  · show PZ j = vwC σZ 0 j
    unfold vwC
    by_cases c : j < 32
    · rw [if_pos c, e j (by omega)]
      exact (sZ_odd (by decide) (by decide) j).symm
    · rw [if_neg c]
      by_cases c2 : j = 32
      · rw [if_pos c2, c2]; rfl
      · rw [if_neg c2, if_pos (by omega), e j c2]; rfl
  · rw [show aZ.1 33 = 0 from rfl] at b; omega
  · rfl
  · rw [show aZ.1 64 = 0 from rfl] at b; omega
  · rfl
  · rfl
  · rw [sZ_hi (by decide) (by decide)]; decide
  · exact sZ_hi (by decide) (by decide) _
  · exact sZ_hi (by decide) (by decide) _
  · exact sZ_hi (by decide) (by decide) _
  · exact sZ_hi (by decide) (by decide) _
theorem MR_start : MR 0 aZ σZ := by
  have e : ∀ j : Int, j ≠ 32 → PZ j = 0 := fun j h => if_neg h
  refine ⟨⟨⟨fun j a b => ?_, fun j a b => ?_, ?_, fun j a b => ?_, ?_, ?_⟩, okZ⟩, ⟨?_, ⟨by show (0 : Int) ≤ 0; decide, by show (0 : Int) ≤ 6; decide⟩, fun i a b => absurd b (by show ¬ i < 0; omega)⟩, fun i a b => ⟨?_, Or.inl rfl, fun g => absurd g (show ¬ (0 : Int) = 1 by decide)⟩, ⟨?_, ⟨by show (0 : Int) ≤ 0; decide, by show (0 : Int) ≤ 160; decide⟩, fun j a b => absurd b (by show ¬ j < 0; omega)⟩, ⟨?_, ⟨by show (0 : Int) ≤ 0; decide, by show (0 : Int) ≤ 6; decide⟩, fun j a b => absurd b (by show ¬ j < 0; omega)⟩, fun j _ => sZ_hi (by decide) (by decide) j⟩
  · rw [vwM_at σZ (by omega)]; rfl
  · rw [show aZ.1 33 = 0 from rfl] at b; omega
  · rfl
  · rw [show aZ.1 64 = 0 from rfl] at b; omega
  · rfl
  · rfl
  · exact sZ_hi (by decide) (by decide) _
  · exact sZ_hi (by decide) (by decide) _
  · exact sZ_hi (by decide) (by decide) _
  · exact sZ_hi (by decide) (by decide) _
