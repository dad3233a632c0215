/-! the model: what may be -/
theorem bI_of {b : Bool} {p : Prop} [Decidable p] (h : b = true ↔ p) : bI b = bI (decide p) := by
  by_cases q : p
  · rw [h.mpr q, decide_eq_true q]
  · rw [Bool.eq_false_iff.mpr (fun g => q (h.mp g)), decide_eq_false q]
def mbR (k a b c : Int) : Row := stepR k a b c 0 zR
theorem al_0_2 (a b c v : Int) : bI (alw 106 (mbR 0 a b c) 2 v) = bI (decide (0 ≤ v ∧ v ≤ 0)) := bI_of (by
  rw [alw_i 106 (mbR 0 a b c) (i := 2) (k := 0) (lo := 0) (hi := 0) (by decide) rfl (by decide +kernel) (by decide +kernel)]
  exact ⟨fun g => g.1, fun g => ⟨g, fun x y => absurd y (by decide), fun x y => absurd x (by decide)⟩⟩)
theorem al_0_3 (a b c v : Int) : bI (alw 106 (mbR 0 a b c) 3 v) = bI (decide (0 ≤ v ∧ v ≤ 0)) := bI_of (by
  rw [alw_i 106 (mbR 0 a b c) (i := 3) (k := 0) (lo := 0) (hi := 0) (by decide) rfl (by decide +kernel) (by decide +kernel)]
  exact ⟨fun g => g.1, fun g => ⟨g, fun x y => absurd y (by decide), fun x y => absurd x (by decide)⟩⟩)
theorem al_0_4 (a b c v : Int) : bI (alw 106 (mbR 0 a b c) 4 v) = bI (decide (0 ≤ v ∧ v ≤ 0)) := bI_of (by
  rw [alw_i 106 (mbR 0 a b c) (i := 4) (k := 0) (lo := 0) (hi := 0) (by decide) rfl (by decide +kernel) (by decide +kernel)]
  exact ⟨fun g => g.1, fun g => ⟨g, fun x y => absurd y (by decide), fun x y => absurd x (by decide)⟩⟩)
theorem al_1_1 (a b c v : Int) : bI (alw 106 (mbR 1 a b c) 1 v) = bI (decide (0 ≤ v ∧ v ≤ 96)) := bI_of (by
  rw [alw_i 106 (mbR 1 a b c) (i := 1) (k := 1) (lo := 0) (hi := 96) (by decide) rfl (by decide +kernel) (by decide +kernel)]
  exact ⟨fun g => g.1, fun g => ⟨g, fun x y => absurd x (by decide), fun x y => absurd y (by decide)⟩⟩)
theorem al_1_2 (a b c v : Int) : bI (alw 106 (mbR 1 a b c) 2 v) = bI (decide (0 ≤ v ∧ v ≤ 96)) := bI_of (by
  rw [alw_i 106 (mbR 1 a b c) (i := 2) (k := 1) (lo := 0) (hi := 96) (by decide) rfl (by decide +kernel) (by decide +kernel)]
  exact ⟨fun g => g.1, fun g => ⟨g, fun x y => absurd x (by decide), fun x y => absurd y (by decide)⟩⟩)
theorem al_1_3 (a b c v : Int) : bI (alw 106 (mbR 1 a b c) 3 v) = bI (decide (0 ≤ v ∧ v ≤ 96)) := bI_of (by
  rw [alw_i 106 (mbR 1 a b c) (i := 3) (k := 1) (lo := 0) (hi := 96) (by decide) rfl (by decide +kernel) (by decide +kernel)]
  exact ⟨fun g => g.1, fun g => ⟨g, fun x y => absurd x (by decide), fun x y => absurd y (by decide)⟩⟩)
theorem al_2_1 (a b c v : Int) : bI (alw 106 (mbR 2 a b c) 1 v) = bI (decide (0 ≤ v ∧ v ≤ 15)) := bI_of (by
  rw [alw_i 106 (mbR 2 a b c) (i := 1) (k := 2) (lo := 0) (hi := 15) (by decide) rfl (by decide +kernel) (by decide +kernel)]
  exact ⟨fun g => g.1, fun g => ⟨g, fun x y => absurd x (by decide), fun x y => absurd x (by decide)⟩⟩)
theorem al_2_2 (a b c v : Int) : bI (alw 106 (mbR 2 a b c) 2 v) = bI (decide (1 ≤ v ∧ v ≤ 3)) := bI_of (by
  rw [alw_i 106 (mbR 2 a b c) (i := 2) (k := 2) (lo := 1) (hi := 3) (by decide) rfl (by decide +kernel) (by decide +kernel)]
  exact ⟨fun g => g.1, fun g => ⟨g, fun x y => absurd x (by decide), fun x y => absurd x (by decide)⟩⟩)
theorem al_2_3 (a b c v : Int) : bI (alw 106 (mbR 2 a b c) 3 v) = bI (decide (0 ≤ v ∧ v ≤ 0)) := bI_of (by
  rw [alw_i 106 (mbR 2 a b c) (i := 3) (k := 2) (lo := 0) (hi := 0) (by decide) rfl (by decide +kernel) (by decide +kernel)]
  exact ⟨fun g => g.1, fun g => ⟨g, fun x y => absurd x (by decide), fun x y => absurd x (by decide)⟩⟩)
theorem al_2_4 (a b c v : Int) : bI (alw 106 (mbR 2 a b c) 4 v) = bI (decide (0 ≤ v ∧ v ≤ 0)) := bI_of (by
  rw [alw_i 106 (mbR 2 a b c) (i := 4) (k := 2) (lo := 0) (hi := 0) (by decide) rfl (by decide +kernel) (by decide +kernel)]
  exact ⟨fun g => g.1, fun g => ⟨g, fun x y => absurd x (by decide), fun x y => absurd x (by decide)⟩⟩)
theorem al_3_1 (a b c v : Int) : bI (alw 106 (mbR 3 a b c) 1 v) = bI (decide (1 ≤ v ∧ v ≤ 15)) := bI_of (by
  rw [alw_i 106 (mbR 3 a b c) (i := 1) (k := 3) (lo := 1) (hi := 15) (by decide) rfl (by decide +kernel) (by decide +kernel)]
  exact ⟨fun g => g.1, fun g => ⟨g, fun x y => absurd x (by decide), fun x y => absurd x (by decide)⟩⟩)
theorem al_3_2 (a b c v : Int) : bI (alw 106 (mbR 3 a b c) 2 v) = bI (decide (0 ≤ v ∧ v ≤ 0)) := bI_of (by
  rw [alw_i 106 (mbR 3 a b c) (i := 2) (k := 3) (lo := 0) (hi := 0) (by decide) rfl (by decide +kernel) (by decide +kernel)]
  exact ⟨fun g => g.1, fun g => ⟨g, fun x y => absurd x (by decide), fun x y => absurd x (by decide)⟩⟩)
theorem al_3_3 (a b c v : Int) : bI (alw 106 (mbR 3 a b c) 3 v) = bI (decide (0 ≤ v ∧ v ≤ 0)) := bI_of (by
  rw [alw_i 106 (mbR 3 a b c) (i := 3) (k := 3) (lo := 0) (hi := 0) (by decide) rfl (by decide +kernel) (by decide +kernel)]
  exact ⟨fun g => g.1, fun g => ⟨g, fun x y => absurd x (by decide), fun x y => absurd x (by decide)⟩⟩)
theorem al_3_4 (a b c v : Int) : bI (alw 106 (mbR 3 a b c) 4 v) = bI (decide (0 ≤ v ∧ v ≤ 0)) := bI_of (by
  rw [alw_i 106 (mbR 3 a b c) (i := 4) (k := 3) (lo := 0) (hi := 0) (by decide) rfl (by decide +kernel) (by decide +kernel)]
  exact ⟨fun g => g.1, fun g => ⟨g, fun x y => absurd x (by decide), fun x y => absurd x (by decide)⟩⟩)
theorem al_4_1 (a b c v : Int) : bI (alw 106 (mbR 4 a b c) 1 v) = bI (decide (0 ≤ v ∧ v ≤ 1)) := bI_of (by
  rw [alw_i 106 (mbR 4 a b c) (i := 1) (k := 4) (lo := 0) (hi := 1) (by decide) rfl (by decide +kernel) (by decide +kernel)]
  exact ⟨fun g => g.1, fun g => ⟨g, fun x y => absurd x (by decide), fun x y => absurd x (by decide)⟩⟩)
theorem al_4_2 (a b c v : Int) : bI (alw 106 (mbR 4 a b c) 2 v) = bI (decide (0 ≤ v ∧ v ≤ 15)) := bI_of (by
  rw [alw_i 106 (mbR 4 a b c) (i := 2) (k := 4) (lo := 0) (hi := 15) (by decide) rfl (by decide +kernel) (by decide +kernel)]
  exact ⟨fun g => g.1, fun g => ⟨g, fun x y => absurd x (by decide), fun x y => absurd x (by decide)⟩⟩)
theorem al_4_3 (a b c v : Int) : bI (alw 106 (mbR 4 a b c) 3 v) = bI (decide (1 ≤ v ∧ v ≤ 96)) := bI_of (by
  rw [alw_i 106 (mbR 4 a b c) (i := 3) (k := 4) (lo := 1) (hi := 96) (by decide) rfl (by decide +kernel) (by decide +kernel)]
  exact ⟨fun g => g.1, fun g => ⟨g, fun x y => absurd x (by decide), fun x y => absurd x (by decide)⟩⟩)
theorem al_4_4 (a b c v : Int) : bI (alw 106 (mbR 4 a b c) 4 v) = bI (decide (0 ≤ v ∧ v ≤ 0)) := bI_of (by
  rw [alw_i 106 (mbR 4 a b c) (i := 4) (k := 4) (lo := 0) (hi := 0) (by decide) rfl (by decide +kernel) (by decide +kernel)]
  exact ⟨fun g => g.1, fun g => ⟨g, fun x y => absurd x (by decide), fun x y => absurd x (by decide)⟩⟩)
theorem al_0_1 (a b c v : Int) : bI (alw 106 (mbR 0 a b c) 1 v) = bI (decide ((1 ≤ v ∧ v ≤ 96) ∧ pw v 16 ≠ 1)) := bI_of (by
  rw [alw_i 106 (mbR 0 a b c) (i := 1) (k := 0) (lo := 1) (hi := 96) (by decide) rfl (by decide +kernel) (by decide +kernel)]
  exact ⟨fun g => ⟨g.1, g.2.1 rfl rfl⟩, fun g => ⟨g.1, fun _ _ => g.2, fun x y => absurd x (by decide)⟩⟩)
theorem al_1_4 (a b c v : Int) : bI (alw 106 (mbR 1 a b c) 4 v) = bI (decide ((0 ≤ v ∧ v ≤ 96) ∧ (a * v - b * c) % 97 ≠ 0)) := bI_of (by
  rw [alw_i 106 (mbR 1 a b c) (i := 4) (k := 1) (lo := 0) (hi := 96) (by decide) rfl (by decide +kernel) (by decide +kernel)]
  exact ⟨fun g => ⟨g.1, g.2.2 rfl rfl⟩, fun g => ⟨g.1, fun x y => absurd x (by decide), fun _ _ => g.2⟩⟩)
theorem al_z (v : Int) : bI (decide (0 ≤ v ∧ v ≤ 0)) = if v = 0 then 1 else 0 := by
  by_cases q : v = 0
  · rw [if_pos q, decide_eq_true (by omega)]; rfl
  · rw [if_neg q, decide_eq_false (by omega)]; rfl
theorem m_mayBe {k i v a b c : Int} (hk : 0 ≤ k ∧ k < 5) (hi : 1 ≤ i ∧ i < 5) (hv : inI v) (h4 : k = 1 → i = 4 → c97 a ∧ c97 b ∧ c97 c) (σ : St) : CIe mdX11_mayBe [vi k, vi i, vi v, vi a, vi b, vi c] σ (bI (alw 106 (mbR k a b c) i v)) σ := by
  refine CI_of (by decide +kernel) (Nat.le_of_ble_eq_true rfl) rfl (fun X hX => ?_)
  have hn : ∀ n : Nat, n < 1000 → inI (n : Int) := fun n h => ⟨by omega, by omega⟩
  have hi2 : inI i := ⟨by omega, by omega⟩
  have i4 : i = 1 ∨ i = 2 ∨ i = 3 ∨ i = 4 := by omega
  have inn : ∀ x : Int, 0 ≤ x → x < 1000 → inI x := fun x g h => ⟨by omega, by omega⟩
  refine bX11_mayBe_0 ⟨by omega, by omega⟩ (fun q => ?_) (fun q => ?_) (fun q => ?_) (fun q => ?_) (fun q => ?_)
  · subst q
    refine bX11_mayBe_32 hi2 (fun q1 => ?_) (fun q1 => ?_)
    · have ez : bI (alw 106 (mbR 0 a b c) i v) = if v = 0 then 1 else 0 := by
        rw [← al_z]
        rcases i4 with rfl | rfl | rfl | rfl
        · exact absurd rfl q1
        · exact al_0_2 a b c v
        · exact al_0_3 a b c v
        · exact al_0_4 a b c v
      rw [ez] at hX
      refine bX11_mayBe_65 hv (fun q2 => ?_) (fun q2 => ?_)
      · rw [if_neg q2] at hX
        exact bX11_mayBe_73 (bX11_mayBe_74 hX (Or.inl rfl) ⟨rfl, rfl⟩)
      · rw [if_pos q2] at hX
        exact bX11_mayBe_69 (bX11_mayBe_74 hX (Or.inr rfl) ⟨rfl, rfl⟩)
    · subst q1
      rw [al_0_1] at hX
      refine bX11_mayBe_37 (m_in hv (inn 1 (by decide) (by decide)) (inn 96 (by decide) (by decide)) σ) ?_
      rintro z u hz ⟨rfl, rfl⟩
      refine bX11_mayBe_44 hz (fun q2 => ?_) (fun q2 => ?_)
      · have g := bI_d0 q2
        exact bX11_mayBe_61 (bX11_mayBe_74 hX (Or.inl rfl) ⟨bJ_f (fun x => g x.1), rfl⟩)
      · have g := bI_d1 q2
        refine bX11_mayBe_47 (m_power (v := v) (by unfold c97; omega) (n := 16) (by decide) (by decide) σ) ?_
        rintro z u hz2 ⟨rfl, rfl⟩
        refine bX11_mayBe_53 hz2 (fun q3 => ?_) (fun q3 => ?_)
        · exact bX11_mayBe_61 (bX11_mayBe_74 hX (Or.inl rfl) ⟨bJ_f (fun x => x.2 q3), rfl⟩)
        · exact bX11_mayBe_57 (bX11_mayBe_74 hX (Or.inr rfl) ⟨bJ_t ⟨g, q3⟩, rfl⟩)
  · subst q
    refine bX11_mayBe_75 (m_in hv (inn 0 (by decide) (by decide)) (inn 96 (by decide) (by decide)) σ) ?_
    rintro z u hz ⟨rfl, rfl⟩
    have low : i < 4 → bI (alw 106 (mbR 1 a b c) i v) = bI (decide (0 ≤ v ∧ v ≤ 96)) := by
      intro g
      rcases i4 with rfl | rfl | rfl | rfl
      · exact al_1_1 a b c v
      · exact al_1_2 a b c v
      · exact al_1_3 a b c v
      · exact absurd g (by decide)
    refine bX11_mayBe_82 hz (fun q2 => ?_) (fun q2 => ?_)
    · have g := bI_d0 q2
      refine bX11_mayBe_109 (bX11_mayBe_110 hX (Or.inl rfl) ⟨?_, rfl⟩)
      by_cases h : i < 4
      · rw [low h]; exact bJ_f g
      · obtain rfl : i = 4 := by omega
        rw [al_1_4]; exact bJ_f (fun x => g x.1)
    · have g := bI_d1 q2
      refine bX11_mayBe_85 hi2 (fun q3 => ?_) (fun q3 => ?_)
      · exact bX11_mayBe_105 (bX11_mayBe_110 hX (Or.inr rfl) ⟨by rw [low q3]; exact bJ_t g, rfl⟩)
      · obtain rfl : i = 4 := by omega
        obtain ⟨ha, hb, hc⟩ := h4 rfl rfl
        rw [al_1_4] at hX
        refine bX11_mayBe_90 (m_left (inI_sub (m_bd ha ⟨g.1, g.2⟩) (m_bd hb hc)) σ) ?_
        rintro z u hz2 ⟨rfl, rfl⟩
        refine bX11_mayBe_102 hz2 (fun q4 => ?_) (fun q4 => ?_)
        · exact bX11_mayBe_109 (bX11_mayBe_110 hX (Or.inl rfl) ⟨bJ_f (fun x => x.2 q4), rfl⟩)
        · exact bX11_mayBe_105 (bX11_mayBe_110 hX (Or.inr rfl) ⟨bJ_t ⟨g, q4⟩, rfl⟩)
  · subst q
    refine bX11_mayBe_111 hi2 (fun q1 => ?_) (fun q1 => ?_)
    · refine bX11_mayBe_126 hi2 (fun q2 => ?_) (fun q2 => ?_)
      · have ez : bI (alw 106 (mbR 2 a b c) i v) = if v = 0 then 1 else 0 := by
          rw [← al_z]
          rcases i4 with rfl | rfl | rfl | rfl
          · exact absurd rfl q1
          · exact absurd rfl q2
          · exact al_2_3 a b c v
          · exact al_2_4 a b c v
        rw [ez] at hX
        refine bX11_mayBe_140 hv (fun q3 => ?_) (fun q3 => ?_)
        · rw [if_neg q3] at hX
          exact bX11_mayBe_148 (bX11_mayBe_149 hX (Or.inl rfl) ⟨rfl, rfl⟩)
        · rw [if_pos q3] at hX
          exact bX11_mayBe_144 (bX11_mayBe_149 hX (Or.inr rfl) ⟨rfl, rfl⟩)
      · subst q2
        rw [al_2_2] at hX
        refine bX11_mayBe_131 (m_in hv (inn 1 (by decide) (by decide)) (inn 3 (by decide) (by decide)) σ) ?_
        rintro z u hz ⟨rfl, rfl⟩
        exact bX11_mayBe_137 (bX11_mayBe_149 hX (bI_01 _) ⟨rfl, rfl⟩)
    · subst q1
      rw [al_2_1] at hX
      refine bX11_mayBe_116 (m_in hv (inn 0 (by decide) (by decide)) (inn 15 (by decide) (by decide)) σ) ?_
      rintro z u hz ⟨rfl, rfl⟩
      exact bX11_mayBe_123 (bX11_mayBe_149 hX (bI_01 _) ⟨rfl, rfl⟩)
  · subst q
    refine bX11_mayBe_150 hi2 (fun q1 => ?_) (fun q1 => ?_)
    · have ez : bI (alw 106 (mbR 3 a b c) i v) = if v = 0 then 1 else 0 := by
        rw [← al_z]
        rcases i4 with rfl | rfl | rfl | rfl
        · exact absurd rfl q1
        · exact al_3_2 a b c v
        · exact al_3_3 a b c v
        · exact al_3_4 a b c v
      rw [ez] at hX
      refine bX11_mayBe_165 hv (fun q3 => ?_) (fun q3 => ?_)
      · rw [if_neg q3] at hX
        exact bX11_mayBe_173 (bX11_mayBe_174 hX (Or.inl rfl) ⟨rfl, rfl⟩)
      · rw [if_pos q3] at hX
        exact bX11_mayBe_169 (bX11_mayBe_174 hX (Or.inr rfl) ⟨rfl, rfl⟩)
    · subst q1
      rw [al_3_1] at hX
      refine bX11_mayBe_155 (m_in hv (inn 1 (by decide) (by decide)) (inn 15 (by decide) (by decide)) σ) ?_
      rintro z u hz ⟨rfl, rfl⟩
      exact bX11_mayBe_162 (bX11_mayBe_174 hX (bI_01 _) ⟨rfl, rfl⟩)
  · obtain rfl : k = 4 := by omega
    refine bX11_mayBe_175 hi2 (fun q1 => ?_) (fun q1 => ?_)
    · refine bX11_mayBe_189 hi2 (fun q2 => ?_) (fun q2 => ?_)
      · refine bX11_mayBe_204 hi2 (fun q3 => ?_) (fun q3 => ?_)
        · obtain rfl : i = 4 := by omega
          rw [al_4_4, al_z] at hX
          refine bX11_mayBe_219 hv (fun q5 => ?_) (fun q5 => ?_)
          · rw [if_neg q5] at hX
            exact bX11_mayBe_227 (bX11_mayBe_228 hX (Or.inl rfl) ⟨rfl, rfl⟩)
          · rw [if_pos q5] at hX
            exact bX11_mayBe_223 (bX11_mayBe_228 hX (Or.inr rfl) ⟨rfl, rfl⟩)
        · subst q3
          rw [al_4_3] at hX
          refine bX11_mayBe_209 (m_in hv (inn 1 (by decide) (by decide)) (inn 96 (by decide) (by decide)) σ) ?_
          rintro z u hz ⟨rfl, rfl⟩
          exact bX11_mayBe_216 (bX11_mayBe_228 hX (bI_01 _) ⟨rfl, rfl⟩)
      · subst q2
        rw [al_4_2] at hX
        refine bX11_mayBe_194 (m_in hv (inn 0 (by decide) (by decide)) (inn 15 (by decide) (by decide)) σ) ?_
        rintro z u hz ⟨rfl, rfl⟩
        exact bX11_mayBe_201 (bX11_mayBe_228 hX (bI_01 _) ⟨rfl, rfl⟩)
    · subst q1
      rw [al_4_1] at hX
      refine bX11_mayBe_180 (m_in hv (inn 0 (by decide) (by decide)) (inn 1 (by decide) (by decide)) σ) ?_
      rintro z u hz ⟨rfl, rfl⟩
      exact bX11_mayBe_186 (bX11_mayBe_228 hX (bI_01 _) ⟨rfl, rfl⟩)
