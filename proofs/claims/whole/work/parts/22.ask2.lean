/-! a step is possible; what is seen; taps -/
def pos5 (o : Nat) (f : Row) : Prop := ∀ i, 0 ≤ i → i < 5 → alw o f i (f i) = true
theorem pos5_and {o : Nat} {f : Row} : pos5 o f ↔ alw o f 0 (f 0) = true ∧ alw o f 1 (f 1) = true ∧ alw o f 2 (f 2) = true ∧ alw o f 3 (f 3) = true ∧ alw o f 4 (f 4) = true := by
  constructor
  · intro h
    exact ⟨h 0 (by decide) (by decide), h 1 (by decide) (by decide), h 2 (by decide) (by decide), h 3 (by decide) (by decide), h 4 (by decide) (by decide)⟩
  · rintro ⟨h0, h1, h2, h3, h4⟩ i g1 g2
    have : i = 0 ∨ i = 1 ∨ i = 2 ∨ i = 3 ∨ i = 4 := by omega
    rcases this with rfl | rfl | rfl | rfl | rfl
    · exact h0
    · exact h1
    · exact h2
    · exact h3
    · exact h4
theorem alw_0 (o : Nat) (f : Row) (v : Int) : alw o f 0 v = true ↔ 0 ≤ v ∧ v < 5 := by
  unfold alw
  rw [if_pos rfl, decide_eq_true_iff]
theorem alw_i (o : Nat) (f : Row) {i k lo hi : Int} (hi0 : i ≠ 0) (hk : f 0 = k) (h1 : rot o (8 * k + 2 * (i - 1)) = lo) (h2 : rot o (8 * k + 2 * (i - 1) + 1) = hi) (v : Int) : alw o f i v = true ↔ (lo ≤ v ∧ v ≤ hi) ∧ (k = 0 → i = 1 → pw v 16 ≠ 1) ∧ (k = 1 → i = 4 → (f 1 * v - f 2 * f 3) % 97 ≠ 0) := by
  unfold alw
  rw [if_neg hi0, hk, h1, h2]
  by_cases a : lo ≤ v ∧ v ≤ hi
  · rw [if_pos a]
    by_cases b : k = 0 ∧ i = 1
    · rw [if_pos b]
      simp [a, b]
    · rw [if_neg b]
      by_cases c : k = 1 ∧ i = 4
      · rw [if_pos c]
        simp [a, c]
      · rw [if_neg c]
        refine ⟨fun _ => ⟨a, fun g1 g2 => absurd ⟨g1, g2⟩ b, fun g1 g2 => absurd ⟨g1, g2⟩ c⟩, fun _ => rfl⟩
  · rw [if_neg a]
    exact ⟨fun h => absurd h (by decide), fun h => absurd h.1 a⟩
theorem posD_0 {f : Row} (h : f 0 = 0) : pos5 106 f ↔ okD (f 0) (f 1) (f 2) (f 3) (f 4) := by
  rw [pos5_and, alw_0]
  rw [alw_i 106 f (i := 1) (lo := 1) (hi := 96) (by decide) h (by decide +kernel) (by decide +kernel)]
  rw [alw_i 106 f (i := 2) (lo := 0) (hi := 0) (by decide) h (by decide +kernel) (by decide +kernel)]
  rw [alw_i 106 f (i := 3) (lo := 0) (hi := 0) (by decide) h (by decide +kernel) (by decide +kernel)]
  rw [alw_i 106 f (i := 4) (lo := 0) (hi := 0) (by decide) h (by decide +kernel) (by decide +kernel)]
  unfold okD
  generalize f 0 = x0 at *
  generalize f 1 = x1 at *
  generalize f 2 = x2 at *
  generalize f 3 = x3 at *
  generalize f 4 = x4 at *
  subst h
  grind
theorem posD_1 {f : Row} (h : f 0 = 1) : pos5 106 f ↔ okD (f 0) (f 1) (f 2) (f 3) (f 4) := by
  rw [pos5_and, alw_0]
  rw [alw_i 106 f (i := 1) (lo := 0) (hi := 96) (by decide) h (by decide +kernel) (by decide +kernel)]
  rw [alw_i 106 f (i := 2) (lo := 0) (hi := 96) (by decide) h (by decide +kernel) (by decide +kernel)]
  rw [alw_i 106 f (i := 3) (lo := 0) (hi := 96) (by decide) h (by decide +kernel) (by decide +kernel)]
  rw [alw_i 106 f (i := 4) (lo := 0) (hi := 96) (by decide) h (by decide +kernel) (by decide +kernel)]
  unfold okD
  unfold okT c97
  generalize f 0 = x0 at *
  generalize f 1 = x1 at *
  generalize f 2 = x2 at *
  generalize f 3 = x3 at *
  generalize f 4 = x4 at *
  subst h
  grind
theorem posD_2 {f : Row} (h : f 0 = 2) : pos5 106 f ↔ okD (f 0) (f 1) (f 2) (f 3) (f 4) := by
  rw [pos5_and, alw_0]
  rw [alw_i 106 f (i := 1) (lo := 0) (hi := 15) (by decide) h (by decide +kernel) (by decide +kernel)]
  rw [alw_i 106 f (i := 2) (lo := 1) (hi := 3) (by decide) h (by decide +kernel) (by decide +kernel)]
  rw [alw_i 106 f (i := 3) (lo := 0) (hi := 0) (by decide) h (by decide +kernel) (by decide +kernel)]
  rw [alw_i 106 f (i := 4) (lo := 0) (hi := 0) (by decide) h (by decide +kernel) (by decide +kernel)]
  unfold okD
  generalize f 0 = x0 at *
  generalize f 1 = x1 at *
  generalize f 2 = x2 at *
  generalize f 3 = x3 at *
  generalize f 4 = x4 at *
  subst h
  grind
theorem posD_3 {f : Row} (h : f 0 = 3) : pos5 106 f ↔ okD (f 0) (f 1) (f 2) (f 3) (f 4) := by
  rw [pos5_and, alw_0]
  rw [alw_i 106 f (i := 1) (lo := 1) (hi := 15) (by decide) h (by decide +kernel) (by decide +kernel)]
  rw [alw_i 106 f (i := 2) (lo := 0) (hi := 0) (by decide) h (by decide +kernel) (by decide +kernel)]
  rw [alw_i 106 f (i := 3) (lo := 0) (hi := 0) (by decide) h (by decide +kernel) (by decide +kernel)]
  rw [alw_i 106 f (i := 4) (lo := 0) (hi := 0) (by decide) h (by decide +kernel) (by decide +kernel)]
  unfold okD
  generalize f 0 = x0 at *
  generalize f 1 = x1 at *
  generalize f 2 = x2 at *
  generalize f 3 = x3 at *
  generalize f 4 = x4 at *
  subst h
  grind
theorem posD_4 {f : Row} (h : f 0 = 4) : pos5 106 f ↔ okD (f 0) (f 1) (f 2) (f 3) (f 4) := by
  rw [pos5_and, alw_0]
  rw [alw_i 106 f (i := 1) (lo := 0) (hi := 1) (by decide) h (by decide +kernel) (by decide +kernel)]
  rw [alw_i 106 f (i := 2) (lo := 0) (hi := 15) (by decide) h (by decide +kernel) (by decide +kernel)]
  rw [alw_i 106 f (i := 3) (lo := 1) (hi := 96) (by decide) h (by decide +kernel) (by decide +kernel)]
  rw [alw_i 106 f (i := 4) (lo := 0) (hi := 0) (by decide) h (by decide +kernel) (by decide +kernel)]
  unfold okD
  generalize f 0 = x0 at *
  generalize f 1 = x1 at *
  generalize f 2 = x2 at *
  generalize f 3 = x3 at *
  generalize f 4 = x4 at *
  subst h
  grind
theorem posD {f : Row} : pos5 106 f ↔ okD (f 0) (f 1) (f 2) (f 3) (f 4) := by
  by_cases h : 0 ≤ f 0 ∧ f 0 < 5
  · have : f 0 = 0 ∨ f 0 = 1 ∨ f 0 = 2 ∨ f 0 = 3 ∨ f 0 = 4 := by omega
    rcases this with e | e | e | e | e
    · exact posD_0 e
    · exact posD_1 e
    · exact posD_2 e
    · exact posD_3 e
    · exact posD_4 e
  · constructor
    · intro g; exact absurd ((alw_0 _ _ _).mp (g 0 (by decide) (by decide))) h
    · intro g; exact absurd (okD_bd g).1 (by omega)
theorem posS_0 {f : Row} (h : f 0 = 0) : pos5 107 f ↔ okS (f 0) (f 1) (f 2) (f 3) (f 4) := by
  rw [pos5_and, alw_0]
  rw [alw_i 107 f (i := 1) (lo := 1) (hi := 96) (by decide) h (by decide +kernel) (by decide +kernel)]
  rw [alw_i 107 f (i := 2) (lo := 0) (hi := 0) (by decide) h (by decide +kernel) (by decide +kernel)]
  rw [alw_i 107 f (i := 3) (lo := 0) (hi := 0) (by decide) h (by decide +kernel) (by decide +kernel)]
  rw [alw_i 107 f (i := 4) (lo := 0) (hi := 0) (by decide) h (by decide +kernel) (by decide +kernel)]
  unfold okS
  generalize f 0 = x0 at *
  generalize f 1 = x1 at *
  generalize f 2 = x2 at *
  generalize f 3 = x3 at *
  generalize f 4 = x4 at *
  subst h
  grind
theorem posS_1 {f : Row} (h : f 0 = 1) : pos5 107 f ↔ okS (f 0) (f 1) (f 2) (f 3) (f 4) := by
  rw [pos5_and, alw_0]
  rw [alw_i 107 f (i := 1) (lo := 0) (hi := 96) (by decide) h (by decide +kernel) (by decide +kernel)]
  rw [alw_i 107 f (i := 2) (lo := 0) (hi := 96) (by decide) h (by decide +kernel) (by decide +kernel)]
  rw [alw_i 107 f (i := 3) (lo := 0) (hi := 96) (by decide) h (by decide +kernel) (by decide +kernel)]
  rw [alw_i 107 f (i := 4) (lo := 0) (hi := 96) (by decide) h (by decide +kernel) (by decide +kernel)]
  unfold okS
  unfold okT c97
  generalize f 0 = x0 at *
  generalize f 1 = x1 at *
  generalize f 2 = x2 at *
  generalize f 3 = x3 at *
  generalize f 4 = x4 at *
  subst h
  grind
theorem posS_2 {f : Row} (h : f 0 = 2) : pos5 107 f ↔ okS (f 0) (f 1) (f 2) (f 3) (f 4) := by
  rw [pos5_and, alw_0]
  rw [alw_i 107 f (i := 1) (lo := 1) (hi := 15) (by decide) h (by decide +kernel) (by decide +kernel)]
  rw [alw_i 107 f (i := 2) (lo := 0) (hi := 0) (by decide) h (by decide +kernel) (by decide +kernel)]
  rw [alw_i 107 f (i := 3) (lo := 0) (hi := 0) (by decide) h (by decide +kernel) (by decide +kernel)]
  rw [alw_i 107 f (i := 4) (lo := 0) (hi := 0) (by decide) h (by decide +kernel) (by decide +kernel)]
  unfold okS
  generalize f 0 = x0 at *
  generalize f 1 = x1 at *
  generalize f 2 = x2 at *
  generalize f 3 = x3 at *
  generalize f 4 = x4 at *
  subst h
  grind
theorem posS_3 {f : Row} (h : f 0 = 3) : pos5 107 f ↔ okS (f 0) (f 1) (f 2) (f 3) (f 4) := by
  rw [pos5_and, alw_0]
  rw [alw_i 107 f (i := 1) (lo := 0) (hi := 0) (by decide) h (by decide +kernel) (by decide +kernel)]
  rw [alw_i 107 f (i := 2) (lo := 0) (hi := 0) (by decide) h (by decide +kernel) (by decide +kernel)]
  rw [alw_i 107 f (i := 3) (lo := 0) (hi := 0) (by decide) h (by decide +kernel) (by decide +kernel)]
  rw [alw_i 107 f (i := 4) (lo := 0) (hi := 0) (by decide) h (by decide +kernel) (by decide +kernel)]
  unfold okS
  generalize f 0 = x0 at *
  generalize f 1 = x1 at *
  generalize f 2 = x2 at *
  generalize f 3 = x3 at *
  generalize f 4 = x4 at *
  subst h
  grind
theorem posS_4 {f : Row} (h : f 0 = 4) : pos5 107 f ↔ okS (f 0) (f 1) (f 2) (f 3) (f 4) := by
  rw [pos5_and, alw_0]
  rw [alw_i 107 f (i := 1) (lo := 0) (hi := 0) (by decide) h (by decide +kernel) (by decide +kernel)]
  rw [alw_i 107 f (i := 2) (lo := 0) (hi := 0) (by decide) h (by decide +kernel) (by decide +kernel)]
  rw [alw_i 107 f (i := 3) (lo := 0) (hi := 0) (by decide) h (by decide +kernel) (by decide +kernel)]
  rw [alw_i 107 f (i := 4) (lo := 0) (hi := 0) (by decide) h (by decide +kernel) (by decide +kernel)]
  unfold okS
  generalize f 0 = x0 at *
  generalize f 1 = x1 at *
  generalize f 2 = x2 at *
  generalize f 3 = x3 at *
  generalize f 4 = x4 at *
  subst h
  grind
theorem posS {f : Row} : pos5 107 f ↔ okS (f 0) (f 1) (f 2) (f 3) (f 4) := by
  by_cases h : 0 ≤ f 0 ∧ f 0 < 5
  · have : f 0 = 0 ∨ f 0 = 1 ∨ f 0 = 2 ∨ f 0 = 3 ∨ f 0 = 4 := by omega
    rcases this with e | e | e | e | e
    · exact posS_0 e
    · exact posS_1 e
    · exact posS_2 e
    · exact posS_3 e
    · exact posS_4 e
  · constructor
    · intro g; exact absurd ((alw_0 _ _ _).mp (g 0 (by decide) (by decide))) h
    · intro g; exact absurd (okS_bd g).1 (by omega)

/-- what is asked may change the two blocks only so -/
def Qs (σ u : St) : Prop := Fq σ u ∧ zo 32 (u 72) ∧ zo 32 (u 77)
theorem isBkA : isBk 71 := Or.inl rfl
theorem isBkB : isBk 76 := Or.inr rfl
theorem isSt0 : isSt 0 := ⟨rfl, by decide⟩
theorem c_rcv (σ : St) (hz : zo 32 (σ 72)) (hst : StOK σ 0) {n : Int} (hn : 0 ≤ n ∧ n ≤ σ 4 2) : CV mdX1_receive [vr 71, vr 0, vi n] σ (fun u => u 72 = rcvF σ 0 n ∧ Bch 71 σ u) := c_receive isBkA isSt0 σ hz hst hn
theorem c_errorsAfter (σ : St) (hz : zo 32 (σ 72)) (hst : StOK σ 0) {n : Int} (hn : 0 ≤ n ∧ n ≤ σ 4 2) : CI mdX10_errorsAfter [vr 60, vi n] σ (fun z u => z = errF (rcvF σ 0 n) (σ 1) ∧ u 72 = rcvF σ 0 n ∧ Bch 71 σ u) := by
  refine CI_of (by decide +kernel) (Nat.le_of_ble_eq_true rfl) rfl (fun X hX => ?_)
  refine bX10_errorsAfter_0 (c_rcv σ hz hst hn) ?_
  rintro u ⟨h1, hB⟩
  have hs6 := hB.st (o := 0) isBkA (by decide)
  have hstu := hst.same hs6
  have hg : good (u 72) := by rw [h1]; exact good_rcv hst n
  refine bX10_errorsAfter_12 (c_errors isBkA isSt0 u hg.1 hstu.1) ?_
  rintro z u2 hz2 ⟨rfl, rfl⟩
  have e1 : u 1 = σ 1 := hs6.2.1
  refine bX10_errorsAfter_23 hX hz2 ⟨?_, h1, hB⟩
  show errF (u 72) (u 1) = _
  rw [h1, e1]
theorem c_unspreadFits (σ : St) (hg : good (σ 72)) (hz : zo 32 (σ 77)) (hst : StOK σ 0) {a : Int} (ha : 1 ≤ a ∧ a ≤ 96) (hp : pw a 16 ≠ 1) : CI mdX10_unspreadFits [vr 60, vi a] σ (fun z u => z = bI (decide (errM (σ 0 1) (unspreadF a (σ 72)) (σ 1) = 0)) ∧ zo 32 (u 77) ∧ Bch 76 σ u) := by
  refine CI_of (by decide +kernel) (Nat.le_of_ble_eq_true rfl) rfl (fun X hX => ?_)
  refine bX10_unspreadFits_0 (c_bTake isBkB isBkA σ hz hg.2) ?_
  rintro u rfl
  have e77 : setr σ 77 (σ 72) 77 = σ 72 := setr_at _ _ _
  refine bX10_unspreadFits_11 (c_unspread isBkB _ (by show r97 32 (setr σ 77 (σ 72) 77); rw [e77]; exact hg.1) ha hp) ?_
  rintro u rfl
  show G mdX10_unspreadFits X 19 _ [] (setr (setr σ 77 (σ 72)) 77 (unspreadF a (setr σ 77 (σ 72) 77)))
  rw [e77, setr_setr]
  have e78 : setr σ 77 (unspreadF a (σ 72)) 77 = unspreadF a (σ 72) := setr_at _ _ _
  have hgu := good_unspread (a := a) hg
  refine bX10_unspreadFits_19 (c_errorsAtMarks isBkB isSt0 _ (by show r97 32 (setr σ 77 (unspreadF a (σ 72)) 77); rw [e78]; exact hgu.1) hst.1 hst.2.1) ?_
  rintro z u hz2 ⟨rfl, rfl⟩
  have e : errM (setr σ 77 (unspreadF a (σ 72)) 0 1) (setr σ 77 (unspreadF a (σ 72)) (76 + 1)) (setr σ 77 (unspreadF a (σ 72)) (0 + 1)) = errM (σ 0 1) (unspreadF a (σ 72)) (σ 1) := by
    rw [show setr σ 77 (unspreadF a (σ 72)) (76 + 1) = unspreadF a (σ 72) from e78]
    rfl
  rw [e] at hz2 ⊢
  have hB : Bch 76 σ (setr σ 77 (unspreadF a (σ 72))) := Bch.set (by decide)
  have hz3 : zo 32 (setr σ 77 (unspreadF a (σ 72)) 77) := by rw [e78]; exact hgu.2
  refine bX10_unspreadFits_30 hz2 (fun q => ?_) (fun q => ?_)
  · exact bX10_unspreadFits_37 (bX10_unspreadFits_38 hX (Or.inl rfl) ⟨bJ_f q, hz3, hB⟩)
  · exact bX10_unspreadFits_33 (bX10_unspreadFits_38 hX (Or.inr rfl) ⟨bJ_t q, hz3, hB⟩)
-- what is seen
def SeOK (σ : St) : Prop := (0 ≤ σ 68 2 ∧ σ 68 2 ≤ 6) ∧ ∀ j, 0 ≤ j → j < σ 68 2 → (0 ≤ σ 69 j ∧ σ 69 j < 32) ∧ (0 ≤ σ 70 j ∧ σ 70 j ≤ 3)
def seenOK (n : Int) (at_ as_ f : Row) : Prop := ∀ j, 0 ≤ j → j < n → dec (f (at_ j)) = as_ j
theorem c_areTrueOf {b : Nat} (hb : isBk b) (σ : St) (hr : r97 32 (σ (b + 1))) (hs : SeOK σ) : CI mdX6_areTrueOf [vr 68, vr b] σ (fun z u => ((z = 1 ∧ seenOK (σ 68 2) (σ 69) (σ 70) (σ (b + 1))) ∨ (z = 0 ∧ ¬ seenOK (σ 68 2) (σ 69) (σ 70) (σ (b + 1)))) ∧ σ = u) := by
  refine CI_of (by decide +kernel) (Nat.le_of_ble_eq_true rfl) rfl (fun X hX => ?_)
  refine bX6_areTrueOf_0 hb ?_
  have key : (∀ j, 0 ≤ j → j < 0 → dec (σ (b + 1) (σ 69 j)) = σ 70 j) → G mdX6_areTrueOf X 2 [(0, vr 68), (1, vr b), (2, vi 0)] [] σ := by
    refine loopUp (Q := fun i => (∀ j, 0 ≤ j → j < i → dec (σ (b + 1) (σ 69 j)) = σ 70 j) → G mdX6_areTrueOf X 2 [(0, vr 68), (1, vr b), (2, vi i)] [] σ) (n := σ 68 2) ?_ (fun i h1 h2 ih => ?_) hs.1.1
    · intro h
      exact bX6_areTrueOf_2 hb (by have := hs.1; omega) (fun q => bX6_areTrueOf_41 hX ⟨Or.inl ⟨rfl, h⟩, rfl⟩) (fun q => by omega)
    · intro h
      have h6 := hs.1
      have hj := hs.2 i h1 h2
      have h97 := hr (σ 69 i) hj.1.1 (by omega)
      have hd := dec_bd (σ (b + 1) (σ 69 i))
      refine bX6_areTrueOf_2 hb (by omega) (fun q => by omega) (fun q => ?_)
      refine bX6_areTrueOf_10 hb (c_decided h97 σ) ⟨by omega, hj.1⟩ ?_
      rintro z u hz ⟨rfl, rfl⟩
      refine bX6_areTrueOf_24 hb ⟨by omega, hz, by omega, by omega⟩ (fun q1 => ?_) (fun q1 => ?_)
      · refine bX6_areTrueOf_35 hb (ih (fun j g1 g2 => ?_))
        by_cases e : j = i
        · rw [e]; exact q1
        · exact h j g1 (by omega)
      · exact bX6_areTrueOf_33 hX ⟨Or.inr ⟨rfl, fun g => q1 (g i h1 h2)⟩, rfl⟩
  exact key (fun j h1 h2 => by omega)
theorem c_seAppend (σ : St) (hs : 0 ≤ σ 68 2 ∧ σ 68 2 ≤ 6) {s v : Int} : CI mdX6_append [vr 68, vi s, vi v] σ (fun z u => (6 ≤ σ 68 2 ∧ z = 0 ∧ σ = u) ∨ (σ 68 2 < 6 ∧ z = 1 ∧ setS (setr (setr σ 69 (fun j => if j = σ 68 2 then s else σ 69 j)) 70 (fun j => if j = σ 68 2 then v else σ 70 j)) 68 2 (σ 68 2 + 1) = u)) := by
  refine CI_of (by decide +kernel) (Nat.le_of_ble_eq_true rfl) rfl (fun X hX => ?_)
  refine bX6_append_0 (by omega) (fun q => ?_) (fun q => ?_)
  · have e : (wr σ 69 (σ 68 2) s) 68 2 = σ 68 2 := by rw [wr_setr, setr_ne _ _ (by decide)]
    refine bX6_append_11 hX ⟨⟨by omega, q⟩, by rw [e]; omega⟩ (Or.inr ⟨q, rfl, ?_⟩)
    rw [e]
    have e2 : wr (wr σ 69 (σ 68 2) s) 70 (σ 68 2) v 68 2 = σ 68 2 := by rw [wr_setr, wr_setr, setr_ne _ _ (by decide), setr_ne _ _ (by decide)]
    rw [e2]
    unfold setS
    rw [wr_setr, wr_setr, wr_setr, setr_ne _ _ (show (70 : Nat) ≠ 69 by decide)]
  · exact bX6_append_9 hX (Or.inl ⟨q, rfl, rfl⟩)
