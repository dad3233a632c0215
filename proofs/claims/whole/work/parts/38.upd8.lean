/-! what changes an object of the class: orders, learns -/
def idL (c : Row) : Nat → Bool
  | 0 => true
  | k + 1 => idL c k && decide (c k = k)
theorem idL_ok (c : Row) : ∀ n : Nat, idL c n = true ↔ ∀ j : Int, 0 ≤ j → j < n → c j = j
  | 0 => ⟨fun _ j a b => by omega, fun _ => rfl⟩
  | n + 1 => by
    unfold idL
    rw [Bool.and_eq_true, idL_ok c n, decide_eq_true_iff]
    constructor
    · rintro ⟨g1, g2⟩ j a b
      by_cases e : j = n
      · rw [e]; exact g2
      · exact g1 j a (by push_cast at b; omega)
    · intro g
      exact ⟨fun j a b => g j a (by push_cast; omega), g n (by omega) (by push_cast; omega)⟩
def ordS (v c : Row) : Row := fun j => if 65 ≤ j ∧ j < 65 + v 64 * 5 then v (65 + (c ((j - 65) / 5) * 5 + (j - 65) % 5)) else v j
def ordersA (a : AS) : Int × AS := if idL (bestP a.1) (a.1 64).toNat then (-2, a) else (ordV a.1 (bestP a.1), putP (noteA a) (ordS a.1 (bestP a.1)))
/-- the draft does not count -/
theorem CR.draft {N : Int} {a : AS} {σ u : St} (h : CR N a σ) (e : ∀ x, x < 6 ∨ 12 ≤ x → u x = σ x) (e8 : u 8 1 = σ 8 1) (z : Zo u 6) : CR N a u := by
  obtain ⟨hP, hH, hI, hT, hS, hX⟩ := h
  have sm : ∀ o, o = 0 ∨ 12 ≤ o → vwC u o = vwC σ o := fun o ho => vwC_same ⟨e _ (by omega), e _ (by omega), e _ (by omega), e _ (by omega), e _ (by omega), e _ (by omega)⟩
  refine ⟨?_, ?_, ?_, ?_, ?_, ?_⟩
  · unfold cP at *; rw [sm 0 (by decide)]; exact hP
  · unfold cH at *
    rw [e 63 (by decide)]
    refine ⟨hH.1, hH.2.1, hH.2.2.1, fun i h0 h1 => ?_⟩
    have er : ring u a.2.1.1 i = ring σ a.2.1.1 i := by unfold ring; rw [e 63 (by decide)]
    have := ring_bd σ a.2.1.1 i
    rw [er, sm _ (by omega)]
    exact hH.2.2.2 i h0 h1
  · intro i h0 h1
    have := imid_bd ⟨h0, h1⟩
    rw [e 62 (by decide), sm _ (by omega)]
    exact hI i h0 h1
  · unfold cT at *; rw [e 65 (by decide), e 66 (by decide)]; exact hT
  · unfold cS at *; rw [e 68 (by decide), e 69 (by decide), e 70 (by decide)]; exact hS
  · unfold cX at *
    rw [e 2 (by decide), e 4 (by decide), e8, e 72 (by decide), e 77 (by decide)]
    refine ⟨hX.1, hX.2.1, hX.2.2.1, fun i hi => ?_, hX.2.2.2.2⟩
    by_cases q : i = 1
    · rw [q]; exact z
    · have z2 := hX.2.2.2.1 i hi
      unfold Zo at *
      rw [e _ (by omega), e _ (by omega), e _ (by omega)]
      exact z2
theorem setS_same (σ : St) (o : Nat) (k : Int) : setS σ o k (σ o k) = σ := by
  unfold setS
  have : (fun j => if j = k then σ o k else σ o j) = σ o := by
    funext j
    by_cases q : j = k
    · rw [if_pos q, q]
    · rw [if_neg q]
  rw [this, setr_id]
theorem k_orders {N : Int} {a : AS} {σ : St} (h : CR N a σ) : CI mdX10_orders [vr 60] σ (fun z u => z = (ordersA a).1 ∧ CR N (ordersA a).2 u ∧ up σ u) := by
  refine CI_of (by decide +kernel) (Nat.le_of_ble_eq_true rfl) rfl (fun X hX => ?_)
  have e := h.n64
  have hb := bestP_in h
  refine bX10_orders_0 (k_findBest h) ?_
  rintro z u hz ⟨rfl, h2, h3, hu, hF⟩
  have eid : idL (bestP a.1) (a.1 64).toNat = true ↔ ∀ j, 0 ≤ j → j < a.1 64 → u 83 j = j := by
    rw [idL_ok, Int.toNat_of_nonneg e.2.1]
    constructor
    · intro g j c d; rw [h2 j c d]; exact g j c d
    · intro g j c d; rw [← h2 j c d]; exact g j c d
  refine bX10_orders_4 (c_bestIsPresent u h3 e.2 (fun j c d => by have := hb j c d; rw [h2 j c d]; exact ⟨by omega, by omega⟩)) ?_
  rintro z u2 hz2 ⟨g, rfl⟩
  rw [← eid] at g
  refine bX10_orders_12 hz2 (fun q => ?_) (fun q => ?_)
  · have hid : ¬ idL (bestP a.1) (a.1 64).toNat = true := by
      rcases g with ⟨g1, g2⟩ | ⟨g1, g2⟩
      · omega
      · exact g2
    have ev : ordersA a = (ordV a.1 (bestP a.1), putP (noteA a) (ordS a.1 (bestP a.1))) := by unfold ordersA; rw [if_neg hid]
    rw [ev] at hX
    refine bX10_orders_18 (k_note hu) ?_
    rintro u1 ⟨hu1, hn1⟩
    have sA : isSp 10 := ⟨by decide, by decide⟩
    have sB : isSp 4 := ⟨by decide, by decide⟩
    have z6 := hu1.zst (o := 6) ⟨by decide, by decide⟩
    have z0 := hu1.zst isSt0
    refine bX10_orders_29 (c_spTake sA sB (by decide) u1 z6.2.2 z0.2.2) ?_
    rintro u2 rfl
    have f4 : u1 4 2 = a.1 64 := hu1.n64.1
    show G mdX10_orders X 46 _ [] (setS (setr u1 11 (u1 5)) 10 2 (u1 4 2))
    generalize hv : setS (setr u1 11 (u1 5)) 10 2 (u1 4 2) = v
    have ve : ∀ x, x ≠ 10 → x ≠ 11 → v x = u1 x := fun x c d => by rw [← hv, setS_ne _ _ _ c, setr_ne _ _ d]
    have v11 : v 11 = u1 5 := by rw [← hv, setS_ne _ _ _ (by decide), setr_at]
    have hv1 : CR N (noteA a) v := by
      refine hu1.draft (fun x hx => ve x (by omega) (by omega)) (by rw [ve 8 (by decide) (by decide)]) ?_
      refine ⟨by rw [ve _ (by decide) (by decide)]; exact z6.1, by rw [ve _ (by decide) (by decide)]; exact z6.2.1, ?_⟩
      show ∀ i, ¬ (0 ≤ i ∧ i < 30) → v 11 i = 0
      rw [v11]; exact z0.2.2
    have v4 : v 4 2 = a.1 64 := by rw [ve _ (by decide) (by decide)]; exact f4
    have v83 : eqN (a.1 64) (v 83) (bestP a.1) := by
      rw [ve _ (by decide) (by decide), hn1 83 (by decide) (by decide)]
      exact h2
    refine bX10_orders_46 (c_arrange sB sA rfl (by decide) (by decide) v (by omega) (fun i c d => by rw [v4] at d; have := hb i c d; rw [v83 i c d]; omega)) ?_
    rintro u3 rfl
    rw [v4]
    refine bX10_orders_70 hX hz ⟨rfl, ?_, ?_⟩
    · show CR N (putP (noteA a) (ordS a.1 (bestP a.1))) (setr v 5 (arrR (a.1 64) (v 11) (v 83) (v 5)))
      have ec : setr v 5 (arrR (a.1 64) (v 11) (v 83) (v 5)) = setS (setr v 5 (arrR (a.1 64) (v 11) (v 83) (v 5))) 4 2 (a.1 64) := by
        have := setS_same (setr v 5 (arrR (a.1 64) (v 11) (v 83) (v 5))) 4 2
        rw [setr_ne _ _ (show (4 : Nat) ≠ 5 by decide), v4] at this
        exact this.symm
      rw [ec]
      have hch : ∀ j, 0 ≤ j → j < a.1 64 * 5 → a.1 (65 + j) = u1 5 j := fun j c d => (hu1.1.1.2.2.2.1 j c d).trans (vw_ch u1 0 j c (by omega))
      have hbj : ∀ j, 0 ≤ j → j < a.1 64 * 5 → 0 ≤ bestP a.1 (j / 5) * 5 + j % 5 ∧ bestP a.1 (j / 5) * 5 + j % 5 < a.1 64 * 5 := fun j c d => by
        have := hb (j / 5) (by omega) (by omega)
        omega
      refine hv1.chain (fun j c d => ?_) ?_ (fun j c d => ?_) ?_ ?_ e.2 (fun j c d => ?_) ?_
      · unfold ordS; rw [if_neg (by omega)]; rfl
      · unfold ordS; rw [if_neg (by omega)]
      · have hj := hbj j c d
        unfold ordS arrR
        rw [if_pos (by omega), if_pos ⟨c, d⟩, v83 (j / 5) (by omega) (by omega), v11, ← hch _ hj.1 hj.2, show 65 + j - 65 = j by omega]
      · unfold ordS; rw [if_neg (by omega)]; rfl
      · unfold ordS; rw [if_neg (by omega)]; rfl
      · have hbk := hb j c d
        have g := h.1.2.2.2.2.2.2.1 (bestP a.1 j) hbk.1 hbk.2
        have ee : ∀ i, 0 ≤ i → i < 5 → chV (ordS a.1 (bestP a.1)) (j * 5 + i) = chV a.1 (bestP a.1 j * 5 + i) := fun i x y => by
          unfold chV ordS
          rw [if_pos (by omega), show (65 + (j * 5 + i) - 65) / 5 = j by omega, show (65 + (j * 5 + i) - 65) % 5 = i by omega]
        unfold okB at g ⊢
        have e0 := ee 0 (by decide) (by decide)
        rw [Int.add_zero, Int.add_zero] at e0
        rw [e0, ee 1 (by decide) (by decide), ee 2 (by decide) (by decide), ee 3 (by decide) (by decide), ee 4 (by decide) (by decide)]
        exact g
      · intro i hi
        unfold arrR
        rw [if_neg (by omega)]
        exact (hv1.zst isSt0).2.2 i hi
    · refine (up.fq hF).tr (hn1.up.tr ?_)
      intro x hx
      rw [setr_ne _ _ (by omega)]
      exact ve x (by omega) (by omega)
  · have hid : idL (bestP a.1) (a.1 64).toNat = true := by
      rcases g with ⟨g1, g2⟩ | ⟨g1, g2⟩
      · exact g2
      · omega
    have ev : ordersA a = (-2, a) := by unfold ordersA; rw [if_pos hid]
    rw [ev] at hX
    exact bX10_orders_15 hX ⟨rfl, hu, up.fq hF⟩
-- learns: the step is a possible one
theorem nz97 : ∀ x : Nat, x < 97 → ∀ y : Nat, y < 97 → x ≠ 0 → y ≠ 0 → x * y % 97 ≠ 0 := by decide +kernel
theorem nz_mul {x y : Int} (hx : x % 97 ≠ 0) (hy : y % 97 ≠ 0) : (x * y) % 97 ≠ 0 := by
  have h := nz97 (x % 97).toNat (by omega) (y % 97).toNat (by omega) (by omega) (by omega)
  rw [Int.mul_emod]
  intro g
  apply h
  have e1 : ((x % 97).toNat : Int) = x % 97 := by omega
  have e2 : ((y % 97).toNat : Int) = y % 97 := by omega
  have : (((x % 97).toNat * (y % 97).toNat % 97 : Nat) : Int) = 0 := by push_cast; rw [e1, e2]; exact g
  omega
theorem det_mod (x y z w : Int) : (x % 97 * (y % 97) - z % 97 * (w % 97)) % 97 = (x * y - z * w) % 97 := by
  rw [Int.sub_emod, ← Int.mul_emod, ← Int.mul_emod, ← Int.sub_emod]
theorem det_left (l f g : Row) : detR (leftR l f g) = (detR l * detR f) % 97 := by
  show ((l 0 * f 0 + l 1 * f 2) % 97 * ((l 2 * f 1 + l 3 * f 3) % 97) - (l 0 * f 1 + l 1 * f 3) % 97 * ((l 2 * f 0 + l 3 * f 2) % 97)) % 97 = ((l 0 * l 3 - l 1 * l 2) % 97 * ((f 0 * f 3 - f 1 * f 2) % 97)) % 97
  rw [det_mod, ← Int.mul_emod]
  congr 1
  generalize l 0 = a0; generalize l 1 = a1; generalize l 2 = a2; generalize l 3 = a3
  generalize f 0 = b0; generalize f 1 = b1; generalize f 2 = b2; generalize f 3 = b3
  grind
theorem det_inv {f g : Row} (h : detR f ≠ 0) : detR (invR f g) ≠ 0 := by
  have hd : 0 ≤ detR f ∧ detR f ≤ 96 := md97 _
  have hi := inv_ok (v := detR f) (by omega)
  obtain ⟨i, hiv⟩ : ∃ i, i = inv97 (detR f) := ⟨_, rfl⟩
  have e : detR (invR f g) = (i * i * (f 0 * f 3 - f 1 * f 2)) % 97 := by
    show ((inv97 (detR f) * f 3) % 97 * ((inv97 (detR f) * f 0) % 97) - (-inv97 (detR f) * f 1) % 97 * ((-inv97 (detR f) * f 2) % 97)) % 97 = _
    rw [det_mod, ← hiv]
    congr 1
    generalize f 0 = b0; generalize f 1 = b1; generalize f 2 = b2; generalize f 3 = b3
    grind
  have ni : i % 97 ≠ 0 := by
    intro q
    rw [← hiv, Int.mul_emod, q, Int.mul_zero] at hi
    exact absurd hi (by decide)
  have nd : (f 0 * f 3 - f 1 * f 2) % 97 ≠ 0 := h
  rw [e]
  exact nz_mul (nz_mul ni ni) nd
theorem det_mod97 (f : Row) : detR f % 97 = detR f := m97_id _
theorem tap_det {v : Row} {i j : Int} (h : hasT v i j) : detR (tapX v i j) ≠ 0 := by
  unfold tapX tapM
  rw [det_left]
  refine nz_mul ?_ ?_
  · rw [det_mod97]; exact h.2
  · rw [det_mod97]; exact det_inv h.1
def tapS (v : Row) (i j : Int) : Row := stepR 1 (invR (tapX v i j) zR 0) (invR (tapX v i j) zR 1) (invR (tapX v i j) zR 2) (invR (tapX v i j) zR 3) zR
theorem tapS_ok {v : Row} {i j : Int} (h : hasT v i j) : okS (tapS v i j 0) (tapS v i j 1) (tapS v i j 2) (tapS v i j 3) (tapS v i j 4) := by
  have m := m97_inv (tapX v i j) zR
  exact Or.inr (Or.inl ⟨rfl, m.1, m.2.1, m.2.2.1, m.2.2.2, det_inv (g := zR) (tap_det h)⟩)
theorem inv_eq4 {f g : Row} (h : eq4 f g) (x : Row) : eq4 (invR f x) (invR g zR) := by
  obtain ⟨h0, h1, h2, h3⟩ := h
  have hd : detR f = detR g := by unfold detR; rw [h0, h1, h2, h3]
  refine ⟨?_, ?_, ?_, ?_⟩
  · show (inv97 (detR f) * f 3) % 97 = (inv97 (detR g) * g 3) % 97
    rw [hd, h3]
  · show (-inv97 (detR f) * f 1) % 97 = (-inv97 (detR g) * g 1) % 97
    rw [hd, h1]
  · show (-inv97 (detR f) * f 2) % 97 = (-inv97 (detR g) * g 2) % 97
    rw [hd, h2]
  · show (inv97 (detR f) * f 0) % 97 = (inv97 (detR g) * g 0) % 97
    rw [hd, h0]
def learnsA (a : AS) (i j : Int) : Int × AS := if pairOK i j then (if hasT a.1 i j then (if a.1 64 = 4 then (-3, a) else (a.1 64 + 1, putP (noteA a) (appS a.1 (tapS a.1 i j)))) else (-2, a)) else (-1, a)
theorem k_learns {N : Int} {a : AS} {σ : St} (h : CR N a σ) {i j : Int} (hi : inI i) (hj : inI j) : CI mdX10_learns [vr 60, vi i, vi j] σ (fun z u => z = (learnsA a i j).1 ∧ CR N (learnsA a i j).2 u ∧ up σ u) := by
  refine CI_of (by decide +kernel) (Nat.le_of_ble_eq_true rfl) rfl (fun X hX => ?_)
  refine bX10_learns_0 (c_isPair hi hj σ) ?_
  rintro z u hz ⟨rfl, rfl⟩
  refine bX10_learns_5 hz (fun q => ?_) (fun q => bX10_learns_8 hX (by unfold learnsA; rw [if_neg (bI_d0 q)]; exact ⟨rfl, h, up.rf⟩))
  have hp : pairOK i j := bI_d1 q
  refine bX10_learns_10 (k_findTaps h hp.1 hp.2.1) ?_
  rintro z u hz2 ⟨h1, h2, h3⟩
  refine bX10_learns_16 hz2 (fun q3 => ?_) (fun q3 => ?_)
  · rcases h1 with ⟨a1, a2⟩ | ⟨a1, a2, a3⟩
    · omega
    · have ev : learnsA a i j = if a.1 64 = 4 then (-3, a) else (a.1 64 + 1, putP (noteA a) (appS a.1 (tapS a.1 i j))) := by unfold learnsA; rw [if_pos hp, if_pos a2]
      rw [ev] at hX
      have m85 : m97 (u 85) := by
        have t := tap97 a.1 i j
        obtain ⟨e0, e1, e2, e3⟩ := a3
        unfold m97
        rw [e0, e1, e2, e3]
        exact t
      refine bX10_learns_22 (c_invert (Or.inr (Or.inr (Or.inl rfl))) u m85) ?_
      rintro u1 rfl
      have w85 : setr u 85 (invR (u 85) (u 85)) 85 = invR (u 85) (u 85) := setr_at _ _ _
      have ei := inv_eq4 a3 (u 85)
      refine bX10_learns_29 (c_putStep _) ?_
      rw [w85, ei.1, ei.2.1, ei.2.2.1, ei.2.2.2]
      rintro u2 rfl
      generalize hw : setr (setr u 85 (invR (u 85) (u 85))) 84 (stepR 1 (invR (tapX a.1 i j) zR 0) (invR (tapX a.1 i j) zR 1) (invR (tapX a.1 i j) zR 2) (invR (tapX a.1 i j) zR 3) (setr u 85 (invR (u 85) (u 85)) 84)) = w
      have we : ∀ x, x ≠ 84 → x ≠ 85 → w x = u x := fun x c d => by rw [← hw, setr_ne _ _ c, setr_ne _ _ d]
      have w84 : w 84 = stepR 1 (invR (tapX a.1 i j) zR 0) (invR (tapX a.1 i j) zR 1) (invR (tapX a.1 i j) zR 2) (invR (tapX a.1 i j) zR 3) (setr u 85 (invR (u 85) (u 85)) 84) := by rw [← hw, setr_at]
      have hF : Fq u w := fun x hx => we x (by omega) (by omega)
      have hw1 : CR N a w := h2.fq hF (by rw [we 72 (by decide) (by decide)]; exact h2.z1) (by rw [we 77 (by decide) (by decide)]; exact h2.z2)
      refine bX10_learns_62 (k_appChain hw1 (st := tapS a.1 i j) (by rw [w84]; exact step_g _ _ _ _ _ _) (tapS_ok a2)) ?_
      rintro z u3 hz4 ⟨c1, c2, c3⟩
      exact bX10_learns_73 hX hz4 ⟨c1, c2, (up.fq h3).tr ((up.fq hF).tr c3)⟩
  · rcases h1 with ⟨a1, a2⟩ | ⟨a1, a2, a3⟩
    · have ev : learnsA a i j = (-2, a) := by unfold learnsA; rw [if_pos hp, if_neg a2]
      rw [ev] at hX
      exact bX10_learns_19 hX ⟨rfl, h2, up.fq h3⟩
    · omega
