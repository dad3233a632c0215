/-! what changes an object of the class: sends, marks, cuts, drops -/
def setV (v : Row) (k x : Int) : Row := fun j => if j = k then x else v j
theorem setV_at (v : Row) (k x : Int) : setV v k x k = x := if_pos rfl
theorem setV_ne (v : Row) {k j : Int} (x : Int) (h : j ≠ k) : setV v k x j = v j := if_neg h
theorem eqv_set {v w : Row} (h : eqv v w) {k x : Int} (h1 : k ≠ 33) (h2 : k ≠ 64) : eqv (setV v k x) (setV w k x) := by
  have g : ∀ j, v j = w j → setV v k x j = setV w k x j := fun j e => by
    unfold setV
    by_cases q : j = k
    · rw [if_pos q, if_pos q]
    · rw [if_neg q, if_neg q]; exact e
  obtain ⟨a1, a2, a3, a4, a5, a6⟩ := h
  refine ⟨fun j c d => g j (a1 j c d), fun j c d => g _ (a2 j c ?_), g _ a3, fun j c d => g _ (a4 j c ?_), g _ a5, g _ a6⟩
  · rwa [setV_ne _ _ (Ne.symm h1)] at d
  · rwa [setV_ne _ _ (Ne.symm h2)] at d
theorem okV.alt {N M : Int} {v w : Row} (g : okV N v) (h1 : ∀ i, 0 ≤ i → i < 32 → 0 ≤ w i ∧ w i ≤ 3) (h2 : 0 ≤ w 32 ∧ w 32 < 65536) (h3 : 0 ≤ w 33 ∧ w 33 ≤ v 33) (h4 : ∀ j, 34 ≤ j → j < 34 + w 33 * 5 → w j = v j) (h5 : 0 ≤ w 64 ∧ w 64 ≤ v 64) (h6 : ∀ j, 65 ≤ j → j < 65 + w 64 * 5 → w j = v j) (h7 : 0 ≤ w 85 ∧ w 85 ≤ M) (h8 : lossOK (w 86)) : okV M w := by
  obtain ⟨g1, g2, g3, g4, g5, g6, g7, g8⟩ := g
  refine ⟨h1, h2, by omega, fun j a b => ?_, by omega, fun j a b => ?_, h7, h8⟩
  · exact okA_eq a (fun i c d => (h4 (34 + i) (by omega) (by omega)).symm) (g4 j a (by omega))
  · exact okB_eq a (fun i c d => (h6 (65 + i) (by omega) (by omega)).symm) (g6 j a (by omega))
theorem okV.set {N : Int} {v : Row} (g : okV N v) {k x : Int} (hk : (0 ≤ k ∧ k < 32 ∧ 0 ≤ x ∧ x ≤ 3) ∨ (k = 32 ∧ 0 ≤ x ∧ x < 65536)) : okV N (setV v k x) := by
  obtain ⟨g1, g2, g3, g4, g5, g6, g7, g8⟩ := id g
  have e : ∀ j, 33 ≤ j → setV v k x j = v j := fun j h => setV_ne _ _ (by omega)
  refine g.alt (fun i a b => ?_) ?_ (by rw [e 33 (by decide)]; omega) (fun j a b => e j (by omega)) (by rw [e 64 (by decide)]; omega) (fun j a b => e j (by omega)) (by rw [e 85 (by decide)]; exact g7) (by rw [e 86 (by decide)]; exact g8)
  · by_cases q : i = k
    · rw [q, setV_at]; omega
    · rw [setV_ne _ _ q]; exact g1 i a b
  · by_cases q : 32 = k
    · rw [q, setV_at]; omega
    · rw [setV_ne _ _ q]; exact g2
theorem vw_sent (σ : St) (o : Nat) {k x : Int} (hk : 0 ≤ k ∧ k < 32) : vwC (setr σ (o + 1) (fun j => if j = k then x else σ (o + 1) j)) o = setV (vwC σ o) k x := by
  have e : ∀ y, y ≠ o + 1 → setr σ (o + 1) (fun j => if j = k then x else σ (o + 1) j) y = σ y := fun y h => setr_ne _ _ h
  funext j
  unfold vwC setV
  rw [setr_at, e o (by omega), e (o + 2) (by omega), e (o + 3) (by omega), e (o + 4) (by omega), e (o + 5) (by omega)]
  by_cases q : j < 32
  · simp only [if_pos q]
  · simp only [if_neg q, if_neg (show ¬ j = k by omega)]
theorem vw_mark (σ : St) (o : Nat) {x : Int} : vwC (setS σ o 1 x) o = setV (vwC σ o) 32 x := by
  have e : ∀ y, y ≠ o → setS σ o 1 x y = σ y := fun y h => setS_ne _ _ _ h
  have e0 : ∀ j, j ≠ 1 → setS σ o 1 x o j = σ o j := fun j h => setS_at2 _ _ _ h
  funext j
  unfold vwC setV
  rw [setS_at, e (o + 1) (by omega), e (o + 2) (by omega), e (o + 3) (by omega), e (o + 4) (by omega), e (o + 5) (by omega), e0 5 (by decide), e0 4 (by decide)]
  by_cases q : j = 32
  · subst q; rfl
  · simp only [if_neg q]
def sendsA (a : AS) (r p s : Int) : Int × AS := if seeOK r p s then (if a.1 (r * 16 + p) = s then (-2, a) else (a.1 (r * 16 + p), putP (noteA a) (setV a.1 (r * 16 + p) s))) else (-1, a)
theorem k_sends {N : Int} {a : AS} {σ : St} (h : CR N a σ) {r p s : Int} (hr : inI r) (hp : inI p) (hs : inI s) : CI mdX10_sends [vr 60, vi r, vi p, vi s] σ (fun z u => z = (sendsA a r p s).1 ∧ CR N (sendsA a r p s).2 u ∧ up σ u) := by
  refine CI_of (by decide +kernel) (Nat.le_of_ble_eq_true rfl) rfl (fun X hX => ?_)
  have bad : ¬ seeOK r p s → G mdX10_sends X 15 [] [] σ := fun g => bX10_sends_15 hX (by unfold sendsA; rw [if_neg g]; exact ⟨rfl, h, up.rf⟩)
  refine bX10_sends_0 (c_isSpot hr hp σ) ?_
  rintro z u hz ⟨rfl, rfl⟩
  refine bX10_sends_5 hz (fun q => bad (fun g => bI_d0 q g.1)) (fun q => ?_)
  have b1 := bI_d1 q
  refine bX10_sends_8 (c_isSymbol hs σ) ?_
  rintro z u hz ⟨rfl, rfl⟩
  refine bX10_sends_12 hz (fun q => ?_) (fun q => bad (fun g => bI_d0 q g.2))
  have b2 := bI_d1 q
  have hk : 0 ≤ r * 16 + p ∧ r * 16 + p < 32 := by omega
  have es : σ 1 (r * 16 + p) = a.1 (r * 16 + p) := (h.s32 _ hk.1 hk.2).symm
  have h3 := h.1.2.1 _ hk.1 hk.2
  have ev : sendsA a r p s = if a.1 (r * 16 + p) = s then (-2, a) else (a.1 (r * 16 + p), putP (noteA a) (setV a.1 (r * 16 + p) s)) := by unfold sendsA; rw [if_pos ⟨b1, b2⟩]
  rw [ev] at hX
  refine bX10_sends_17 ⟨hk, ⟨by omega, by omega⟩, hs⟩ (fun q => ?_) (fun q => ?_)
  · rw [if_neg (by rw [← es]; exact q)] at hX
    refine bX10_sends_42 (k_note h) ?_
    rintro u ⟨hu, hn⟩
    have e1 : u 1 = σ 1 := hn 1 (by decide) (by decide)
    refine bX10_sends_53 hX ⟨hk, ⟨by omega, by omega⟩⟩ ⟨es, ?_, ?_⟩
    · rw [wr_setr]
      refine hu.setP (Int.le_refl N) (fun x hx => setr_ne _ _ (by omega)) ?_ (h.1.2.set (Or.inl ⟨hk.1, hk.2, b2.1, by omega⟩)) (by rw [setr_ne _ _ (by decide)]) (by rw [setr_ne _ _ (by decide)]) ?_
      · rw [vw_sent u 0 hk]
        exact eqv_set hu.1.1 (by omega) (by omega)
      · obtain ⟨z1, z2, z3⟩ := hu.zst isSt0
        refine ⟨?_, ?_, ?_⟩
        · show zo 32 (setr u 1 _ 1)
          rw [setr_at]
          intro i hi
          show (if i = r * 16 + p then s else u 1 i) = 0
          rw [if_neg (by omega)]
          exact z1 i hi
        · show zo 30 (setr u 1 _ 3)
          rw [setr_ne _ _ (by decide)]; exact z2
        · show zo 30 (setr u 1 _ 5)
          rw [setr_ne _ _ (by decide)]; exact z3
    · rw [wr_setr]
      exact hn.up.tr (up.set (by decide))
  · rw [if_pos (by rw [← es]; exact q)] at hX
    exact bX10_sends_39 hX ⟨rfl, h, up.rf⟩
abbrev maOK (p i : Int) : Prop := (0 ≤ p ∧ p < 16) ∧ (0 ≤ i ∧ i ≤ 1)
def markM (m p i : Int) : Int := if i = 1 then mset m p else mclr m p
def marksA (a : AS) (p i : Int) : Int × AS := if maOK p i then (if bI (mk (a.1 32) p) = i then (-2, a) else (cnt (mk (markM (a.1 32) p i)) 16, putP (noteA a) (setV a.1 32 (markM (a.1 32) p i)))) else (-1, a)
theorem k_marks {N : Int} {a : AS} {σ : St} (h : CR N a σ) {p i : Int} (hp : inI p) (hi : inI i) : CI mdX10_marks [vr 60, vi p, vi i] σ (fun z u => z = (marksA a p i).1 ∧ CR N (marksA a p i).2 u ∧ up σ u) := by
  refine CI_of (by decide +kernel) (Nat.le_of_ble_eq_true rfl) rfl (fun X hX => ?_)
  have bad : ¬ maOK p i → G mdX10_marks X 16 [] [] σ := fun g => bX10_marks_16 hX (by unfold marksA; rw [if_neg g]; exact ⟨rfl, h, up.rf⟩)
  refine bX10_marks_0 (c_isPlace hp σ) ?_
  rintro z u hz ⟨rfl, rfl⟩
  refine bX10_marks_4 hz (fun q => bad (fun g => bI_d0 q g.1)) (fun q => ?_)
  have b1 := bI_d1 q
  refine bX10_marks_7 hi (fun q => bad (by omega)) (fun q1 => ?_)
  refine bX10_marks_11 hi (fun q2 => ?_) (fun q => bad (by omega))
  have hm := h.1.2.2.1
  have em := h.m
  refine bX10_marks_18 (c_isMarked isSt0 σ h.st.2.1 b1) ?_
  rw [em]
  rintro z u hz ⟨rfl, rfl⟩
  have ev : marksA a p i = if bI (mk (a.1 32) p) = i then (-2, a) else (cnt (mk (markM (a.1 32) p i)) 16, putP (noteA a) (setV a.1 32 (markM (a.1 32) p i))) := by unfold marksA; rw [if_pos ⟨b1, q1, q2⟩]
  rw [ev] at hX
  -- behind the comparison
  have at36 : ∀ x : Int, x = i → G mdX10_marks X 36 [(0, vr 60), (1, vi p), (2, vi i)] [vi x, vi (bI (mk (a.1 32) p))] σ := by
    rintro x rfl
    refine bX10_marks_36 ⟨bI_rng _, hi⟩ (fun q => ?_) (fun q => ?_)
    · have hne : ¬ bI (mk (a.1 32) p) = x := q
      rw [if_neg (by first | exact hne | exact q)] at hX
      refine bX10_marks_42 (k_note h) ?_
      rintro u ⟨hu, hn⟩
      have hum : u 0 1 = a.1 32 := hu.m
      have fin : ∀ m', m' = markM (a.1 32) p x → 0 ≤ m' ∧ m' < 65536 → G mdX10_marks X 71 [(0, vr 60)] [] (setS u 0 1 m') := by
        rintro m' rfl hb
        refine bX10_marks_71 (c_bitCount (by rw [setS_at]; exact hb) _) ?_
        rintro z u2 hz2 ⟨rfl, rfl⟩
        refine bX10_marks_81 hX hz2 ⟨by rw [setS_at], ?_, hn.up.tr (up.set (by decide))⟩
        refine hu.setP (Int.le_refl N) (fun x hx => setS_ne _ _ _ (by omega)) ?_ (h.1.2.set (Or.inr ⟨rfl, hb⟩)) (by rw [setS_ne _ _ _ (by decide)]) (by rw [setS_ne _ _ _ (by decide)]) ?_
        · rw [vw_mark]
          exact eqv_set hu.1.1 (by decide) (by decide)
        · obtain ⟨z1, z2, z3⟩ := hu.zst isSt0
          refine ⟨?_, ?_, ?_⟩
          · rw [setS_ne _ _ _ (by decide)]; exact z1
          · rw [setS_ne _ _ _ (by decide)]; exact z2
          · rw [setS_ne _ _ _ (by decide)]; exact z3
      refine bX10_marks_53 hi (fun q3 => ?_) (fun q3 => ?_)
      · have hk : mk (a.1 32) p = true := by
          cases hk : mk (a.1 32) p with
          | true => rfl
          | false => rw [hk] at hne; exact absurd (by show (0 : Int) = x; omega) hne
        refine bX10_marks_67 (bX10_marks_68 (c_mark0 isSt0 u hu.st.2.1 b1 (by rw [hum]; exact hk)) ?_)
        rw [hum]
        rintro u2 rfl
        exact fin _ (by unfold markM; rw [if_neg q3]) (mclr_bd hm b1 hk)
      · have hk : mk (a.1 32) p = false := by
          cases hk : mk (a.1 32) p with
          | false => rfl
          | true => rw [hk] at hne; exact absurd (by show (1 : Int) = x; omega) hne
        refine bX10_marks_63 (bX10_marks_68 (c_mark1 isSt0 u hu.st.2.1 b1 (by rw [hum]; exact hk)) ?_)
        rw [hum]
        rintro u2 rfl
        exact fin _ (by unfold markM; rw [if_pos q3]) (mset_bd hm b1 hk)
    · rw [if_pos (by first | exact q | exact q.symm)] at hX
      exact bX10_marks_39 hX ⟨rfl, h, up.rf⟩
  refine bX10_marks_26 hi (fun q3 => ?_) (fun q3 => ?_)
  · exact bX10_marks_35 (at36 0 (by omega))
  · exact bX10_marks_31 (at36 1 (by omega))
