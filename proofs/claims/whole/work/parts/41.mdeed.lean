/-! the model: deeds and stages that may be -/
theorem alw_lt {o : Nat} {f g : Row} {i v : Int} (h0 : f 0 = g 0) (hi : i ≠ 4) : alw o f i v = alw o g i v := by
  unfold alw
  rw [h0]
  have : ∀ k : Int, ¬ (k = 1 ∧ i = 4) := fun k x => hi x.2
  simp only [if_neg (this _)]
theorem posB_eq {k a b c d : Int} : posB 106 (stepR k a b c d zR) = (decide (0 ≤ k ∧ k < 5) && alw 106 (mbR k 0 0 0) 1 a && alw 106 (mbR k a 0 0) 2 b && alw 106 (mbR k a b 0) 3 c && alw 106 (mbR k a b c) 4 d) := by
  have e0 : alw 106 (stepR k a b c d zR) 0 (stepR k a b c d zR 0) = decide (0 ≤ k ∧ k < 5) := by unfold alw; rw [if_pos rfl]; rfl
  have e1 : alw 106 (stepR k a b c d zR) 1 (stepR k a b c d zR 1) = alw 106 (mbR k 0 0 0) 1 a := alw_lt rfl (by decide)
  have e2 : alw 106 (stepR k a b c d zR) 2 (stepR k a b c d zR 2) = alw 106 (mbR k a 0 0) 2 b := alw_lt rfl (by decide)
  have e3 : alw 106 (stepR k a b c d zR) 3 (stepR k a b c d zR 3) = alw 106 (mbR k a b 0) 3 c := alw_lt rfl (by decide)
  have e4 : alw 106 (stepR k a b c d zR) 4 (stepR k a b c d zR 4) = alw 106 (mbR k a b c) 4 d := rfl
  unfold posB
  rw [e0, e1, e2, e3, e4]
theorem al1_97 {i v : Int} {a b c : Int} (hi : i = 1 ∨ i = 2 ∨ i = 3) (h : alw 106 (mbR 1 a b c) i v = true) : c97 v := by
  have e : bI (alw 106 (mbR 1 a b c) i v) = bI (decide (0 ≤ v ∧ v ≤ 96)) := by
    rcases hi with rfl | rfl | rfl
    · exact al_1_1 a b c v
    · exact al_1_2 a b c v
    · exact al_1_3 a b c v
  rw [h] at e
  by_cases q : 0 ≤ v ∧ v ≤ 96
  · exact q
  · rw [decide_eq_false q] at e; exact absurd e (by decide)
theorem m_isDeed {k a b c d : Int} (hk : inI k) (ha : inI a) (hb : inI b) (hc : inI c) (hd : inI d) (σ : St) : CIe mdX11_isDeed [vi k, vi a, vi b, vi c, vi d] σ (bI (posB 106 (stepR k a b c d zR))) σ := by
  refine CI_of (by decide +kernel) (Nat.le_of_ble_eq_true rfl) rfl (fun X hX => ?_)
  rw [posB_eq] at hX
  have no : (decide (0 ≤ k ∧ k < 5) && alw 106 (mbR k 0 0 0) 1 a && alw 106 (mbR k a 0 0) 2 b && alw 106 (mbR k a b 0) 3 c && alw 106 (mbR k a b c) 4 d) = false → G mdX11_isDeed X 62 [] [] σ := fun g => bX11_isDeed_62 (bX11_isDeed_63 hX (Or.inl rfl) ⟨by rw [g]; rfl, rfl⟩)
  refine bX11_isDeed_0 (m_in hk ⟨by decide, by decide⟩ ⟨by decide, by decide⟩ σ) ?_
  rintro z u hz ⟨rfl, rfl⟩
  refine bX11_isDeed_6 hz (fun q => no ?_) (fun q => ?_)
  · have := bI_d0 q
    rw [decide_eq_false (show ¬ (0 ≤ k ∧ k < 5) by omega)]; rfl
  · have g := bI_d1 q
    have hk5 : 0 ≤ k ∧ k < 5 := by omega
    rw [decide_eq_true hk5, Bool.true_and] at no hX
    refine bX11_isDeed_9 (m_mayBe hk5 (by decide) ha (fun _ x => absurd x (by decide)) σ) ?_
    rintro z u hz1 ⟨rfl, rfl⟩
    refine bX11_isDeed_18 hz1 (fun q1 => no (by rw [bI_0.mp q1]; rfl)) (fun q1 => ?_)
    have t1 := bI_1.mp q1
    rw [t1, Bool.true_and] at no hX
    refine bX11_isDeed_21 (m_mayBe hk5 (by decide) hb (fun _ x => absurd x (by decide)) σ) ?_
    rintro z u hz2 ⟨rfl, rfl⟩
    refine bX11_isDeed_30 hz2 (fun q2 => no (by rw [bI_0.mp q2]; rfl)) (fun q2 => ?_)
    have t2 := bI_1.mp q2
    rw [t2, Bool.true_and] at no hX
    refine bX11_isDeed_33 (m_mayBe hk5 (by decide) hc (fun _ x => absurd x (by decide)) σ) ?_
    rintro z u hz3 ⟨rfl, rfl⟩
    refine bX11_isDeed_42 hz3 (fun q3 => no (by rw [bI_0.mp q3]; rfl)) (fun q3 => ?_)
    have t3 := bI_1.mp q3
    rw [t3, Bool.true_and] at no hX
    refine bX11_isDeed_45 (m_mayBe hk5 (by decide) hd (fun x _ => ?_) σ) ?_
    · subst x
      exact ⟨al1_97 (Or.inl rfl) t1, al1_97 (Or.inr (Or.inl rfl)) t2, al1_97 (Or.inr (Or.inr rfl)) t3⟩
    rintro z u hz4 ⟨rfl, rfl⟩
    refine bX11_isDeed_55 hz4 (fun q4 => no (bI_0.mp q4)) (fun q4 => ?_)
    exact bX11_isDeed_58 (bX11_isDeed_63 hX (Or.inr rfl) ⟨by rw [bI_1.mp q4]; rfl, rfl⟩)
theorem posS_eq {k a b c d : Int} : posB 107 (stepR k a b c d zR) = true ↔ okS k a b c d := by
  rw [posB_5]; exact posS
theorem posD_eq {k a b c d : Int} : posB 106 (stepR k a b c d zR) = true ↔ okD k a b c d := by
  rw [posB_5]; exact posD
theorem bI_iff {x y : Bool} (h : x = true ↔ y = true) : bI x = bI y := by
  cases x <;> cases y <;> simp_all
theorem m_isStage {k a b c d : Int} (hk : inI k) (ha : inI a) (hb : inI b) (hc : inI c) (hd : inI d) (σ : St) : CIe mdX11_isStage [vi k, vi a, vi b, vi c, vi d] σ (bI (posB 107 (stepR k a b c d zR))) σ := by
  refine CI_of (by decide +kernel) (Nat.le_of_ble_eq_true rfl) rfl (fun X hX => ?_)
  have at10 : k = 3 ∨ k = 4 → G mdX11_isStage X 10 [(1, vi a), (2, vi b), (3, vi c), (4, vi d)] [] σ := by
    intro hk34
    have ez : posB 107 (stepR k a b c d zR) = true ↔ (a = 0 ∧ b = 0 ∧ c = 0 ∧ d = 0) := by
      rw [posS_eq]
      unfold okS
      constructor
      · rintro (⟨g, _⟩ | ⟨g, _⟩ | ⟨g, _⟩ | ⟨_, g⟩)
        · omega
        · omega
        · omega
        · exact g
      · intro g
        exact Or.inr (Or.inr (Or.inr ⟨hk34, g⟩))
    have no : ¬ (a = 0 ∧ b = 0 ∧ c = 0 ∧ d = 0) → G mdX11_isStage X 31 [] [] σ := fun g => bX11_isStage_31 (bX11_isStage_32 hX (Or.inl rfl) ⟨by rw [Bool.eq_false_iff.mpr (fun x => g (ez.mp x))]; rfl, rfl⟩)
    refine bX11_isStage_10 ha (fun q => no (fun g => q g.1)) (fun q1 => ?_)
    refine bX11_isStage_14 hb (fun q => no (fun g => q g.2.1)) (fun q2 => ?_)
    refine bX11_isStage_18 hc (fun q => no (fun g => q g.2.2.1)) (fun q3 => ?_)
    refine bX11_isStage_22 hd (fun q => no (fun g => q g.2.2.2)) (fun q4 => ?_)
    exact bX11_isStage_27 (bX11_isStage_32 hX (Or.inr rfl) ⟨by rw [ez.mpr ⟨q1, q2, q3, q4⟩]; rfl, rfl⟩)
  refine bX11_isStage_0 hk (fun q => at10 (Or.inl q)) (fun q => ?_)
  refine bX11_isStage_5 hk (fun q2 => ?_) (fun q2 => at10 (Or.inr q2))
  refine bX11_isStage_33 (m_in hk ⟨by decide, by decide⟩ ⟨by decide, by decide⟩ σ) ?_
  rintro z u hz ⟨rfl, rfl⟩
  refine bX11_isStage_39 hz (fun q3 => ?_) (fun q3 => ?_)
  · have g := bI_d0 q3
    have e : posB 107 (stepR k a b c d zR) = false := Bool.eq_false_iff.mpr (fun x => by
      have := (okS_bd (posS_eq.mp x)).1
      omega)
    exact bX11_isStage_67 (bX11_isStage_68 hX (Or.inl rfl) ⟨by rw [e]; rfl, rfl⟩)
  · have g := bI_d1 q3
    have fin : ∀ k2 : Int, k2 = (if k = 2 then 3 else k) → G mdX11_isStage X 52 [(1, vi a), (2, vi b), (3, vi c), (4, vi d)] [vi k2] σ := by
      intro k2 hk2
      have e : posB 107 (stepR k a b c d zR) = posB 106 (stepR k2 a b c d zR) := by
        have h1 : posB 107 (stepR k a b c d zR) = true ↔ posB 106 (stepR k2 a b c d zR) = true := by
          rw [posS_eq, posD_eq]
          have : k = 0 ∨ k = 1 ∨ k = 2 := by omega
          rcases this with rfl | rfl | rfl
          · rw [if_neg (by decide)] at hk2
            subst hk2
            unfold okS okD
            simp
          · rw [if_neg (by decide)] at hk2
            subst hk2
            unfold okS okD
            simp
          · rw [if_pos rfl] at hk2
            subst hk2
            unfold okS okD
            simp
        cases h2 : posB 107 (stepR k a b c d zR) with
        | true => exact (h1.mp h2).symm
        | false =>
          cases h3 : posB 106 (stepR k2 a b c d zR) with
          | false => rfl
          | true => rw [h1.mpr h3] at h2; exact absurd h2 (by decide)
      rw [e] at hX
      refine bX11_isStage_52 (m_isDeed (by subst hk2; split; exact ⟨by decide, by decide⟩; exact hk) ha hb hc hd σ) ?_
      rintro z u hz2 ⟨rfl, rfl⟩
      refine bX11_isStage_60 hz2 (fun q4 => ?_) (fun q4 => ?_)
      · exact bX11_isStage_67 (bX11_isStage_68 hX (Or.inl rfl) ⟨q4.symm, rfl⟩)
      · exact bX11_isStage_63 (bX11_isStage_68 hX (Or.inr rfl) ⟨by rw [bI_1.mp q4]; rfl, rfl⟩)
    refine bX11_isStage_42 hk (fun q4 => ?_) (fun q4 => ?_)
    · exact bX11_isStage_51 (fin k (by rw [if_neg q4]))
    · exact bX11_isStage_47 (fin 3 (by rw [if_pos q4]))
