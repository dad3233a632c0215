/-! slips that fit, taps, one step more -/
def slipG (σ : St) (a q : Int) (f : Row) : Row := chainF (σ 0 1) (σ 1) (σ 5) (σ 4 2).toNat (slipF a q f)
theorem c_slipFits (σ : St) (hg : good (σ 72)) (hz : zo 32 (σ 77)) (hst : StOK σ 0) (hs : SeOK σ) {a q : Int} (ha : 0 ≤ a ∧ a ≤ 15) (hq : 0 ≤ q ∧ q ≤ 3) : CI mdX10_slipFits [vr 60, vi a, vi q] σ (fun z u => ((z = 1 ∧ seenOK (σ 68 2) (σ 69) (σ 70) (slipG σ a q (σ 72))) ∨ (z = 0 ∧ ¬ seenOK (σ 68 2) (σ 69) (σ 70) (slipG σ a q (σ 72)))) ∧ zo 32 (u 77) ∧ Bch 76 σ u) := by
  refine CI_of (by decide +kernel) (Nat.le_of_ble_eq_true rfl) rfl (fun X hX => ?_)
  have hcs : 0 ≤ σ 4 2 ∧ σ 4 2 ≤ 4 := hst.2.2.2.2.1
  refine bX10_slipFits_0 (c_bTake isBkB isBkA σ hz hg.2) ?_
  rintro u rfl
  have e77 : setr σ 77 (σ 72) 77 = σ 72 := setr_at _ _ _
  refine bX10_slipFits_11 (c_slip isBkB _ (by show r97 32 (setr σ 77 (σ 72) 77); rw [e77]; exact hg.1) ha hq) ?_
  rintro u rfl
  show G mdX10_slipFits X 20 _ [] (setr (setr σ 77 (σ 72)) 77 (slipF a q (setr σ 77 (σ 72) 77)))
  rw [e77, setr_setr]
  have gs := good_slip (a := a) (q := q) ha.1 hg
  refine bX10_slipFits_20 ?_
  have key : ∀ u : St, u 77 = chainF (σ 0 1) (σ 1) (σ 5) (0 : Int).toNat (slipF a q (σ 72)) → Bch 76 σ u → G mdX10_slipFits X 22 [(0, vr 60), (3, vi 0)] [] u := by
    refine loopUp (Q := fun k => ∀ u : St, u 77 = chainF (σ 0 1) (σ 1) (σ 5) k.toNat (slipF a q (σ 72)) → Bch 76 σ u → G mdX10_slipFits X 22 [(0, vr 60), (3, vi k)] [] u) (a := 0) (n := σ 4 2) ?_ (fun k g1 g2 ih => ?_) hcs.1
    · intro u hu hB
      have hs6 := hB.st (o := 0) isBkB (by decide)
      have e4 : u 4 = σ 4 := hs6.2.2.2.2.1
      have hgu : good (u 77) := by rw [hu]; exact good_chain gs _
      have e68 : u 68 = σ 68 := hB 68 (by decide)
      have e69 : u 69 = σ 69 := hB 69 (by decide)
      have e70 : u 70 = σ 70 := hB 70 (by decide)
      have hsu : SeOK u := by unfold SeOK; rw [e68, e69, e70]; exact hs
      refine bX10_slipFits_22 ⟨by omega, by rw [e4]; omega⟩ (fun _ => ?_) (fun q => by rw [e4] at q; omega)
      refine bX10_slipFits_54 (c_areTrueOf isBkB u hgu.1 hsu) ?_
      rintro z u2 hz2 ⟨h1, rfl⟩
      rw [e68, e69, e70] at h1
      refine bX10_slipFits_65 hX (by omega) ⟨?_, hgu.2, hB⟩
      rw [show u (76 + 1) = slipG σ a q (σ 72) from hu] at h1
      exact h1
    · intro u hu hB
      have hs6 := hB.st (o := 0) isBkB (by decide)
      have hstu := hst.same hs6
      obtain ⟨e0, e1, e2, e3, e4, e5⟩ := id hs6
      have e4' : u 4 = σ 4 := e4
      refine bX10_slipFits_22 ⟨by omega, by rw [e4']; omega⟩ (fun q => by rw [e4'] at q; omega) (fun _ => ?_)
      refine bX10_slipFits_36 (c_passStage isBkB isSt0 u (by show good (u 77); rw [hu]; exact good_chain gs _) hstu.1 hstu.2.1 hstu.2.2.2.2.1 (k := k) (by show _ ∧ _ < u 4 2; rw [e4']; exact ⟨g1, g2⟩) hstu.2.2.2.2.2) ?_
      rintro u2 ⟨h3, h4⟩
      refine bX10_slipFits_48 (ih u2 ?_ (hB.tr h4))
      rw [chainF_step _ _ _ g1]
      refine Eq.trans h3 ?_
      show sF (u 0 1) (u 1) (u 5) k (u 77) = _
      rw [hu, show u 0 = σ 0 from e0, show u 1 = σ 1 from e1, show u 5 = σ 5 from e5]
  exact key _ (setr_at _ _ _) (Bch.set (by decide))
-- taps
def zR : Row := fun _ => 0
def recM (f : Row) (i j : Int) : Row := rowM (f i) (f j) (f (16 + i)) (f (16 + j)) zR
def lgtM (s : Row) (i j : Int) : Row := rowM (lgt (s i)) (lgt (s j)) (lgt (s (16 + i))) (lgt (s (16 + j))) zR
def tapM (f s : Row) (i j : Int) : Row := leftR (lgtM s i j) (invR (recM f i j) zR) zR
def eq4 (f g : Row) : Prop := f 0 = g 0 ∧ f 1 = g 1 ∧ f 2 = g 2 ∧ f 3 = g 3
theorem lgt97 (s : Int) : c97 (lgt s) := by have := lgt_bd s; unfold c97; omega
theorem c_findTaps (σ : St) (hz : zo 32 (σ 72)) (hst : StOK σ 0) {i j : Int} (hi : 0 ≤ i ∧ i < 16) (hj : 0 ≤ j ∧ j < 16) : CI mdX10_findTaps [vr 60, vi i, vi j] σ (fun z u => ((z = 0 ∧ (detR (recM (rcvF σ 0 (σ 4 2)) i j) = 0 ∨ detR (lgtM (σ 1) i j) = 0)) ∨ (z = 1 ∧ detR (recM (rcvF σ 0 (σ 4 2)) i j) ≠ 0 ∧ detR (lgtM (σ 1) i j) ≠ 0 ∧ eq4 (u 85) (tapM (rcvF σ 0 (σ 4 2)) (σ 1) i j))) ∧ zo 32 (u 72) ∧ u 77 = σ 77 ∧ Fq σ u) := by
  refine CI_of (by decide +kernel) (Nat.le_of_ble_eq_true rfl) rfl (fun X hX => ?_)
  have hcs : 0 ≤ σ 4 2 ∧ σ 4 2 ≤ 4 := hst.2.2.2.2.1
  have mA : isMx 85 := Or.inr (Or.inr (Or.inl rfl))
  have mB : isMx 86 := Or.inr (Or.inr (Or.inr rfl))
  refine bX10_findTaps_0 (c_rcv σ hz hst ⟨hcs.1, Int.le_refl _⟩) ?_
  rintro u ⟨h1, hB⟩
  have hg : good (u 72) := by rw [h1]; exact good_rcv hst _
  have e1 : u 1 = σ 1 := hB 1 (by decide)
  have hF : Fq σ u := Fq.ofB isBkA hB
  have e77 : u 77 = σ 77 := hB 77 (by decide)
  have r1 := hg.1 i hi.1 (by omega)
  have r2 := hg.1 j hj.1 (by omega)
  have r3 := hg.1 (16 + i) (by omega) (by omega)
  have r4 := hg.1 (16 + j) (by omega) (by omega)
  have s1 := hst.1 i hi.1 (by omega)
  have s2 := hst.1 j hj.1 (by omega)
  have s3 := hst.1 (16 + i) (by omega) (by omega)
  have s4 := hst.1 (16 + j) (by omega) (by omega)
  rw [← h1] at hX
  refine bX10_findTaps_21 (c_put mA (c97_inI r1) (c97_inI r2) (c97_inI r3) (c97_inI r4) u) (by omega) ?_
  rw [m97_row _ _ _ _ _ r1 r2 r3 r4]
  rintro u1 rfl
  have f1 : setr u 85 (rowM (u 72 i) (u 72 j) (u 72 (16 + i)) (u 72 (16 + j)) (u 85)) 1 = σ 1 := by rw [setr_ne _ _ (by decide)]; exact e1
  refine bX10_findTaps_63 (by rw [f1]; exact c_light s1 _) (by omega) ?_
  rintro z u2 hz2 ⟨rfl, rfl⟩
  refine bX10_findTaps_74 (by rw [f1]; exact c_light s2 _) (by omega) ?_
  rintro z u2 hz2 ⟨rfl, rfl⟩
  refine bX10_findTaps_81 (by rw [f1]; exact c_light s3 _) (by omega) ?_
  rintro z u2 hz2 ⟨rfl, rfl⟩
  refine bX10_findTaps_91 (by rw [f1]; exact c_light s4 _) (by omega) ?_
  rintro z u2 hz2 ⟨rfl, rfl⟩
  refine bX10_findTaps_101 (c_put mB (c97_inI (lgt97 _)) (c97_inI (lgt97 _)) (c97_inI (lgt97 _)) (c97_inI (lgt97 _)) _) ?_
  rw [m97_row _ _ _ _ _ (lgt97 _) (lgt97 _) (lgt97 _) (lgt97 _)]
  rintro u2 rfl
  obtain ⟨v, hv⟩ : ∃ v, v = setr (setr u 85 (rowM (u 72 i) (u 72 j) (u 72 (16 + i)) (u 72 (16 + j)) (u 85))) 86 (rowM (lgt (σ 1 i)) (lgt (σ 1 j)) (lgt (σ 1 (16 + i))) (lgt (σ 1 (16 + j))) (setr u 85 (rowM (u 72 i) (u 72 j) (u 72 (16 + i)) (u 72 (16 + j)) (u 85)) 86)) := ⟨_, rfl⟩
  rw [← hv]
  have v85 : v 85 = rowM (u 72 i) (u 72 j) (u 72 (16 + i)) (u 72 (16 + j)) (u 85) := by rw [hv, setr_ne _ _ (by decide), setr_at]
  have v86 : ∃ g, v 86 = rowM (lgt (σ 1 i)) (lgt (σ 1 j)) (lgt (σ 1 (16 + i))) (lgt (σ 1 (16 + j))) g := ⟨_, by rw [hv, setr_at]⟩
  obtain ⟨g86, v86⟩ := v86
  have ne : ∀ a, a ≠ 85 → a ≠ 86 → v a = u a := fun a n1 n2 => by rw [hv, setr_ne _ _ n2, setr_ne _ _ n1]
  have hFv : Fq σ v := fun a ha => by rw [ne a (by omega) (by omega)]; exact hF a ha
  have mv85 : m97 (v 85) := by rw [v85]; exact ⟨r1, r2, r3, r4⟩
  have mv86 : m97 (v 86) := by rw [v86]; exact ⟨lgt97 _, lgt97 _, lgt97 _, lgt97 _⟩
  have d85 : detR (v 85) = detR (recM (u 72) i j) := by rw [v85]; rfl
  have d86 : detR (v 86) = detR (lgtM (σ 1) i j) := by rw [v86]; rfl
  refine bX10_findTaps_104 (c_det mA v mv85) ?_
  rintro z w hz3 ⟨rfl, rfl⟩
  refine bX10_findTaps_111 hz3 (fun q => ?_) (fun q => ?_)
  · exact bX10_findTaps_124 hX ⟨Or.inl ⟨rfl, Or.inl (by rw [← d85]; exact q)⟩, by rw [ne 72 (by decide) (by decide)]; exact hg.2, by rw [ne 77 (by decide) (by decide)]; exact e77, hFv⟩
  · refine bX10_findTaps_114 (c_det mB v mv86) ?_
    rintro z w hz4 ⟨rfl, rfl⟩
    refine bX10_findTaps_121 hz4 (fun q2 => ?_) (fun q2 => ?_)
    · refine bX10_findTaps_126 (c_invert mA v mv85) ?_
      rintro w rfl
      have w85 : setr v 85 (invR (v 85) (v 85)) 85 = invR (v 85) (v 85) := setr_at _ _ _
      have w86 : setr v 85 (invR (v 85) (v 85)) 86 = v 86 := setr_ne _ _ (by decide)
      refine bX10_findTaps_133 (c_left mA mB _ (by rw [w85]; exact m97_inv _ _) (by rw [w86]; exact mv86)) ?_
      rw [w85, w86, setr_setr]
      rintro w rfl
      refine bX10_findTaps_144 hX ⟨Or.inr ⟨rfl, by rw [← d85]; exact q, by rw [← d86]; exact q2, ?_⟩, ?_, ?_, ?_⟩
      · rw [setr_at, v85, v86]
        exact ⟨rfl, rfl, rfl, rfl⟩
      · rw [setr_ne _ _ (by decide), ne 72 (by decide) (by decide)]; exact hg.2
      · rw [setr_ne _ _ (by decide), ne 77 (by decide) (by decide)]; exact e77
      · exact hFv.tr (Fq.set (by decide))
    · exact bX10_findTaps_124 hX ⟨Or.inl ⟨rfl, Or.inr (by rw [← d86]; exact q2)⟩, by rw [ne 72 (by decide) (by decide)]; exact hg.2, by rw [ne 77 (by decide) (by decide)]; exact e77, hFv⟩
