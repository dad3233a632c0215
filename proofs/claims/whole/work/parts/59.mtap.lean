/-! the model: taps, learns -/
/-- scratch alone has changed -/
def Sf (σ u : St) : Prop := (∀ x, x ≠ 87 → ¬ (96 ≤ x ∧ x ≤ 102) → u x = σ x) ∧ ∀ j, j ≠ 19 → j ≠ 20 → j ≠ 24 → u 87 j = σ 87 j
theorem Sf.rf {σ : St} : Sf σ σ := ⟨fun _ _ _ => rfl, fun _ _ _ _ => rfl⟩
theorem Sf.tr {σ τ υ : St} (h1 : Sf σ τ) (h2 : Sf τ υ) : Sf σ υ := ⟨fun x a b => (h2.1 x a b).trans (h1.1 x a b), fun j a b c => (h2.2 j a b c).trans (h1.2 j a b c)⟩
theorem Sf.wf {σ u : St} (h : Wf σ u) : Sf σ u := ⟨fun x _ b => h x (by omega) (by omega), fun j _ _ _ => by rw [h 87 (by decide) (by decide)]⟩
theorem Sf.dn {σ u : St} (h : Sf σ u) : ∀ a, a < 87 → u a = σ a := fun a ha => h.1 a (by omega) (by omega)
theorem Sf.row {σ : St} {x : Nat} (hx : 96 ≤ x ∧ x ≤ 102) {f : Row} : Sf σ (setr σ x f) := ⟨fun y _ b => setr_ne _ _ (by omega), fun j _ _ _ => by rw [setr_ne _ _ (by omega)]⟩
theorem Sf.fld {σ : St} {k v : Int} (hk : k = 19 ∨ k = 20 ∨ k = 24) : Sf σ (setS σ 87 k v) := ⟨fun y a _ => setS_ne _ _ _ a, fun j a b c => setS_at2 _ _ _ (by omega)⟩
theorem Sf.e88 {σ u : St} (h : Sf σ u) : u 88 = σ 88 := h.1 88 (by decide) (by decide)
theorem MR.sf {N : Int} {a : AS} {σ u : St} (h : MR N a σ) (e : Sf σ u) (z : zo 32 (u 96)) : MR N a u := by
  obtain ⟨g, g7⟩ := e
  obtain ⟨hP, hH, hI, hT, hS, hz⟩ := h
  refine ⟨?_, ?_, ?_, ?_, ?_, z⟩
  · unfold mP vwM at *
    rw [g7 1 (by decide) (by decide) (by decide), g 88 (by decide) (by decide)]; exact hP
  · unfold mH pastM at *
    rw [g7 4 (by decide) (by decide) (by decide), g 89 (by decide) (by decide), g 90 (by decide) (by decide)]; exact hH
  · unfold mI imgM at *
    rw [g 93 (by decide) (by decide), g 91 (by decide) (by decide), g 92 (by decide) (by decide)]; exact hI
  · unfold mT at *
    rw [g7 9 (by decide) (by decide) (by decide), g 94 (by decide) (by decide)]; exact hT
  · unfold mS at *
    rw [g7 27 (by decide) (by decide) (by decide), g 103 (by decide) (by decide), g 104 (by decide) (by decide)]; exact hS
theorem m_arePlaces {i j : Int} (hi : inI i) (hj : inI j) (σ : St) : CIe mdX11_arePlaces [vi i, vi j] σ (bI (decide (pairOK i j))) σ := by
  refine CI_of (by decide +kernel) (Nat.le_of_ble_eq_true rfl) rfl (fun X hX => ?_)
  have bad : ¬ pairOK i j → G mdX11_arePlaces X 29 [] [] σ := fun g => bX11_arePlaces_29 (bX11_arePlaces_30 hX (Or.inl rfl) ⟨bJ_f g, rfl⟩)
  refine bX11_arePlaces_0 (m_in hi ⟨by decide, by decide⟩ ⟨by decide, by decide⟩ σ) ?_
  rintro z u hz ⟨rfl, rfl⟩
  refine bX11_arePlaces_7 hz (fun q => bad (by have := bI_d0 q; omega)) (fun q => ?_)
  have b1 := bI_d1 q
  refine bX11_arePlaces_10 (m_in hj ⟨by decide, by decide⟩ ⟨by decide, by decide⟩ _) ?_
  rintro z u hz ⟨rfl, rfl⟩
  refine bX11_arePlaces_17 hz (fun q => bad (by have := bI_d0 q; omega)) (fun q => ?_)
  have b2 := bI_d1 q
  refine bX11_arePlaces_20 ⟨hi, hj⟩ (fun q3 => bad (by omega)) (fun q3 => ?_)
  exact bX11_arePlaces_25 (bX11_arePlaces_30 hX (Or.inr rfl) ⟨bJ_t (by omega), rfl⟩)
theorem md_l (x y : Int) : (x % 97 * y) % 97 = (x * y) % 97 := by
  rw [Int.mul_emod, Int.emod_emod, ← Int.mul_emod]
theorem md_2 (x y p q : Int) : (x * (p % 97) + y * (q % 97)) % 97 = (x * p + y * q) % 97 := by
  rw [Int.add_emod, Int.mul_emod x, Int.emod_emod, ← Int.mul_emod x, Int.mul_emod y, Int.emod_emod, ← Int.mul_emod y, ← Int.add_emod]
/-- a row's taps, as the model reckons them -/
def tU (f : Row) (i j one two : Int) : Int := ((one * f (16 + j) - two * f (16 + i)) % 97 * inv97 (detR (recM f i j))) % 97
def tV (f : Row) (i j one two : Int) : Int := ((two * f i - one * f j) % 97 * inv97 (detR (recM f i j))) % 97
theorem tap_0 (f s : Row) (i j : Int) : tapM f s i j 0 = tU f i j (lgt (s i)) (lgt (s j)) := by
  unfold tU
  show (lgt (s i) * ((inv97 (detR (recM f i j)) * f (16 + j)) % 97) + lgt (s j) * ((-inv97 (detR (recM f i j)) * f (16 + i)) % 97)) % 97 = _
  rw [md_2, md_l]
  congr 1
  generalize inv97 (detR (recM f i j)) = w; generalize lgt (s i) = x; generalize lgt (s j) = y; generalize f (16 + i) = p; generalize f (16 + j) = q
  grind
theorem tap_1 (f s : Row) (i j : Int) : tapM f s i j 1 = tV f i j (lgt (s i)) (lgt (s j)) := by
  unfold tV
  show (lgt (s i) * ((-inv97 (detR (recM f i j)) * f j) % 97) + lgt (s j) * ((inv97 (detR (recM f i j)) * f i) % 97)) % 97 = _
  rw [md_2, md_l]
  congr 1
  generalize inv97 (detR (recM f i j)) = w; generalize lgt (s i) = x; generalize lgt (s j) = y; generalize f i = p; generalize f j = q
  grind
theorem tap_2 (f s : Row) (i j : Int) : tapM f s i j 2 = tU f i j (lgt (s (16 + i))) (lgt (s (16 + j))) := by
  unfold tU
  show (lgt (s (16 + i)) * ((inv97 (detR (recM f i j)) * f (16 + j)) % 97) + lgt (s (16 + j)) * ((-inv97 (detR (recM f i j)) * f (16 + i)) % 97)) % 97 = _
  rw [md_2, md_l]
  congr 1
  generalize inv97 (detR (recM f i j)) = w; generalize lgt (s (16 + i)) = x; generalize lgt (s (16 + j)) = y; generalize f (16 + i) = p; generalize f (16 + j) = q
  grind
theorem tap_3 (f s : Row) (i j : Int) : tapM f s i j 3 = tV f i j (lgt (s (16 + i))) (lgt (s (16 + j))) := by
  unfold tV
  show (lgt (s (16 + i)) * ((-inv97 (detR (recM f i j)) * f j) % 97) + lgt (s (16 + j)) * ((inv97 (detR (recM f i j)) * f i) % 97)) % 97 = _
  rw [md_2, md_l]
  congr 1
  generalize inv97 (detR (recM f i j)) = w; generalize lgt (s (16 + i)) = x; generalize lgt (s (16 + j)) = y; generalize f i = p; generalize f j = q
  grind
theorem m_findTaps (σ : St) {f : Row} (hf : ∀ k, 0 ≤ k → k < 32 → c97 (f k)) (e96 : σ 96 = f) (hs : ∀ k, 0 ≤ k → k < 32 → 0 ≤ σ 88 k ∧ σ 88 k ≤ 3) {i j r : Int} (hi : 0 ≤ i ∧ i < 16) (hj : 0 ≤ j ∧ j < 16) (hr : 0 ≤ r ∧ r < 2) : CI mdX11_findTaps [vr 87, vi i, vi j, vi r] σ (fun z u => (z = 0 ∧ detR (recM f i j) = 0 ∧ σ = u) ∨ (z = 1 ∧ detR (recM f i j) ≠ 0 ∧ setS (setS σ 87 19 (tU f i j (lgt (σ 88 (16 * r + i))) (lgt (σ 88 (16 * r + j))))) 87 20 (tV f i j (lgt (σ 88 (16 * r + i))) (lgt (σ 88 (16 * r + j)))) = u)) := by
  refine CI_of (by decide +kernel) (Nat.le_of_ble_eq_true rfl) rfl (fun X hX => ?_)
  have h1 := hf i hi.1 (by omega)
  have h2 := hf j hj.1 (by omega)
  have h3 := hf (16 + i) (by omega) (by omega)
  have h4 := hf (16 + j) (by omega) (by omega)
  have s1 := hs (16 * r + i) (by omega) (by omega)
  have s2 := hs (16 * r + j) (by omega) (by omega)
  have m1 := m_bd h1 h4
  have m2 := m_bd h2 h3
  refine bX11_findTaps_0 (by rw [e96]; exact m_left (inI_sub m1 m2) σ) ⟨⟨by omega, by omega⟩, ⟨by omega, by omega⟩, ⟨by omega, by omega⟩, by omega, by omega⟩ ?_
  rintro z u hz ⟨rfl, rfl⟩
  have ed : (f i * f (16 + j) - f j * f (16 + i)) % 97 = detR (recM f i j) := rfl
  rw [ed] at hz ⊢
  have hd : c97 (detR (recM f i j)) := md97 _
  have hw := inv_bd (detR (recM f i j))
  refine bX11_findTaps_36 hz (fun q => ?_) (fun q => bX11_findTaps_43 hX (Or.inl ⟨rfl, q, rfl⟩))
  refine bX11_findTaps_45 (m_light ⟨by omega, by omega⟩ _) ⟨by omega, by omega⟩ ?_
  rintro z u hz1 ⟨rfl, rfl⟩
  refine bX11_findTaps_59 (m_light ⟨by omega, by omega⟩ _) ⟨by omega, by omega⟩ ?_
  rintro z u hz2 ⟨rfl, rfl⟩
  have l1 := lgt97 (σ 88 (16 * r + i))
  have l2 := lgt97 (σ 88 (16 * r + j))
  refine bX11_findTaps_75 (m_inverse hd _) ?_
  rintro z u hz3 ⟨rfl, rfl⟩
  refine bX11_findTaps_82 (by rw [e96]; exact m_left (inI_sub (m_bd l1 h4) (m_bd l2 h3)) _) ⟨⟨by omega, by omega⟩, by omega, by omega⟩ ?_
  rintro z u hz4 ⟨rfl, rfl⟩
  have t1 := md97 (lgt (σ 88 (16 * r + i)) * f (16 + j) - lgt (σ 88 (16 * r + j)) * f (16 + i))
  have mU := m_bd t1 ⟨hw.1, hw.2⟩
  have ew : ∀ v, wr σ 87 19 v = setS σ 87 19 v := fun v => by rw [wr_setr]; rfl
  refine bX11_findTaps_113 (P := fun z u => z = (lgt (σ 88 (16 * r + j)) * f i - lgt (σ 88 (16 * r + i)) * f j) % 97 ∧ setS σ 87 19 (tU f i j (lgt (σ 88 (16 * r + i))) (lgt (σ 88 (16 * r + j)))) = u) ?_ ⟨⟨mU.1, by omega⟩, ⟨by omega, by omega⟩, by omega, by omega⟩ ?_
  · rw [ew, setS_ne _ _ _ (by decide), e96]
    exact m_left (inI_sub (m_bd l2 h1) (m_bd l1 h2)) _
  · rintro z u hz5 ⟨rfl, rfl⟩
    have t2 := md97 (lgt (σ 88 (16 * r + j)) * f i - lgt (σ 88 (16 * r + i)) * f j)
    have mV := m_bd t2 ⟨hw.1, hw.2⟩
    refine bX11_findTaps_145 hX ⟨mV.1, by omega⟩ (Or.inr ⟨rfl, q, ?_⟩)
    rw [wr_setr]
    rfl
theorem tap_det0 {v : Row} {i j : Int} (h : detR (lgtM v i j) = 0) : detR (tapX v i j) = 0 := by
  unfold tapX tapM
  rw [det_left, h, Int.zero_mul]; rfl
theorem det_eq4 {f g : Row} (h : eq4 f g) : detR f = detR g := by
  obtain ⟨h0, h1, h2, h3⟩ := h
  unfold detR; rw [h0, h1, h2, h3]
theorem n_areTaps {N : Int} {a : AS} {σ : St} (h : MR N a σ) {i j : Int} (hi : 0 ≤ i ∧ i < 16) (hj : 0 ≤ j ∧ j < 16) : CI mdX11_areTaps [vr 87, vi i, vi j] σ (fun z u => ((z = 0 ∧ ¬ hasT a.1 i j) ∨ (z = 1 ∧ hasT a.1 i j ∧ eq4 (u 98) (tapX a.1 i j))) ∧ MR N a u ∧ Sf σ u) := by
  refine CI_of (by decide +kernel) (Nat.le_of_ble_eq_true rfl) rfl (fun X hX => ?_)
  refine bX11_areTaps_0 (n_recv h) ?_
  rintro u ⟨e96, hu, hW⟩
  generalize hf : rcvV a.1 (a.1 64) = f at e96
  have hg : good f := by rw [← hf]; exact good_rcvV h.1.2 _
  have hs : ∀ w : St, Sf u w → ∀ k, 0 ≤ k → k < 32 → 0 ≤ w 88 k ∧ w 88 k ≤ 3 := fun w hw k c d => by
    rw [hw.e88, ← hu.s32 k c d]; exact h.1.2.1 k c d
  have hl : ∀ w : St, Sf u w → ∀ k, 0 ≤ k → k < 32 → w 88 k = a.1 k := fun w hw k c d => by
    rw [hw.e88]; exact (hu.s32 k c d).symm
  have hz : ∀ w : St, Sf u w → w 96 = f → MR N a w := fun w hw e => hu.sf hw (by rw [e]; exact hg.2)
  have no : ∀ w : St, Sf u w → w 96 = f → ¬ hasT a.1 i j → G mdX11_areTaps X 21 [] [] w := fun w hw e g => bX11_areTaps_21 hX ⟨Or.inl ⟨rfl, g⟩, hz w hw e, (Sf.wf hW).tr hw⟩
  refine bX11_areTaps_4 (bX11_areTaps_6 ⟨by decide, by decide⟩ (fun q => by omega) (fun _ => ?_))
  refine bX11_areTaps_11 (m_findTaps u hg.1 e96 (hs u Sf.rf) hi hj ⟨by decide, by decide⟩) ?_
  rintro z u1 hz1 h1
  have hT : hasT a.1 i j ↔ detR (recM f i j) ≠ 0 ∧ detR (lgtM a.1 i j) ≠ 0 := by unfold hasT; rw [hf]
  rcases h1 with ⟨rfl, h1, rfl⟩ | ⟨rfl, h1, rfl⟩
  · exact bX11_areTaps_18 hz1 (fun q => absurd rfl q) (fun _ => no _ Sf.rf e96 (fun g => (hT.mp g).1 h1))
  refine bX11_areTaps_18 hz1 (fun _ => ?_) (fun q => absurd q (by decide))
  rw [show (16 : Int) * 0 + i = i by omega, show (16 : Int) * 0 + j = j by omega, hl u Sf.rf i hi.1 (by omega), hl u Sf.rf j hj.1 (by omega), ← tap_0 f a.1, ← tap_1 f a.1]
  refine bX11_areTaps_23 ⟨⟨by decide, by decide⟩, by decide, by decide⟩ ?_
  generalize hw : setS (setS u 87 19 (tapM f a.1 i j 0)) 87 20 (tapM f a.1 i j 1) = w
  have sw : Sf u w := by rw [← hw]; exact (Sf.fld (Or.inl rfl)).tr (Sf.fld (Or.inr (Or.inl rfl)))
  have w96 : w 96 = f := by rw [← hw, setS_ne _ _ _ (by decide), setS_ne _ _ _ (by decide), e96]
  have w19 : w 87 19 = tapM f a.1 i j 0 := by rw [← hw, setS_at2 _ _ _ (by decide), setS_at]
  have w20 : w 87 20 = tapM f a.1 i j 1 := by rw [← hw, setS_at]
  have ex : wr (wr w 98 (2 * 0) (w 87 19)) 98 (2 * 0 + 1) ((wr w 98 (2 * 0) (w 87 19)) 87 20) = setS (setS w 98 0 (tapM f a.1 i j 0)) 98 1 (tapM f a.1 i j 1) := by
    rw [w19, wr_setr, wr_setr, setr_ne _ _ (by decide), w20]; rfl
  rw [ex]
  generalize hx : setS (setS w 98 0 (tapM f a.1 i j 0)) 98 1 (tapM f a.1 i j 1) = x
  have sx : Sf u x := by rw [← hx]; exact sw.tr ((Sf.row (by decide)).tr (Sf.row (by decide)))
  have x96 : x 96 = f := by rw [← hx, setS_ne _ _ _ (by decide), setS_ne _ _ _ (by decide), w96]
  have x0 : x 98 0 = tapM f a.1 i j 0 := by rw [← hx, setS_at2 _ _ _ (by decide), setS_at]
  have x1 : x 98 1 = tapM f a.1 i j 1 := by rw [← hx, setS_at]
  refine bX11_areTaps_6 ⟨by decide, by decide⟩ (fun q => by omega) (fun _ => ?_)
  refine bX11_areTaps_11 (m_findTaps x hg.1 x96 (hs x sx) hi hj ⟨by decide, by decide⟩) ?_
  rintro z u2 hz2 h2
  rcases h2 with ⟨rfl, h2, rfl⟩ | ⟨rfl, h2, rfl⟩
  · exact absurd h2 h1
  refine bX11_areTaps_18 hz2 (fun _ => ?_) (fun q => absurd q (by decide))
  rw [show (16 : Int) * (0 + 1) + i = 16 + i by omega, show (16 : Int) * (0 + 1) + j = 16 + j by omega, hl x sx (16 + i) (by omega) (by omega), hl x sx (16 + j) (by omega) (by omega), ← tap_2 f a.1, ← tap_3 f a.1]
  refine bX11_areTaps_23 ⟨⟨by decide, by decide⟩, by decide, by decide⟩ ?_
  generalize hv : setS (setS x 87 19 (tapM f a.1 i j 2)) 87 20 (tapM f a.1 i j 3) = v
  have sv : Sf u v := by rw [← hv]; exact sx.tr ((Sf.fld (Or.inl rfl)).tr (Sf.fld (Or.inr (Or.inl rfl))))
  have v96 : v 96 = f := by rw [← hv, setS_ne _ _ _ (by decide), setS_ne _ _ _ (by decide), x96]
  have v98 : v 98 = x 98 := by rw [← hv, setS_ne _ _ _ (by decide), setS_ne _ _ _ (by decide)]
  have v19 : v 87 19 = tapM f a.1 i j 2 := by rw [← hv, setS_at2 _ _ _ (by decide), setS_at]
  have v20 : v 87 20 = tapM f a.1 i j 3 := by rw [← hv, setS_at]
  have ey : wr (wr v 98 (2 * (0 + 1)) (v 87 19)) 98 (2 * (0 + 1) + 1) ((wr v 98 (2 * (0 + 1)) (v 87 19)) 87 20) = setS (setS v 98 2 (tapM f a.1 i j 2)) 98 3 (tapM f a.1 i j 3) := by
    rw [v19, wr_setr, wr_setr, setr_ne _ _ (by decide), v20]; rfl
  rw [ey]
  generalize hy : setS (setS v 98 2 (tapM f a.1 i j 2)) 98 3 (tapM f a.1 i j 3) = y
  have sy : Sf u y := by rw [← hy]; exact sv.tr ((Sf.row (by decide)).tr (Sf.row (by decide)))
  have y96 : y 96 = f := by rw [← hy, setS_ne _ _ _ (by decide), setS_ne _ _ _ (by decide), v96]
  have y4 : eq4 (y 98) (tapX a.1 i j) := by
    unfold tapX
    rw [hf]
    refine ⟨?_, ?_, ?_, ?_⟩
    · rw [← hy, setS_at2 _ _ _ (by decide), setS_at2 _ _ _ (by decide), v98, x0]
    · rw [← hy, setS_at2 _ _ _ (by decide), setS_at2 _ _ _ (by decide), v98, x1]
    · rw [← hy, setS_at2 _ _ _ (by decide), setS_at]
    · rw [← hy, setS_at]
  refine bX11_areTaps_6 ⟨by decide, by decide⟩ (fun _ => ?_) (fun q => by omega)
  have t97 := tap97 a.1 i j
  have y97 : m97 (y 98) := by
    obtain ⟨e0, e1, e2, e3⟩ := y4
    unfold m97
    rw [e0, e1, e2, e3]
    exact t97
  refine bX11_areTaps_55 (m_left (inI_sub (m_bd y97.1 y97.2.2.2) (m_bd y97.2.1 y97.2.2.1)) _) ?_
  rintro z u3 hz3 ⟨rfl, rfl⟩
  have ed : (y 98 0 * y 98 3 - y 98 1 * y 98 2) % 97 = detR (tapX a.1 i j) := det_eq4 y4
  rw [ed] at hz3 ⊢
  have hfr := (Sf.wf hW).tr sy
  refine bX11_areTaps_85 hz3 (fun q => ?_) (fun q => ?_)
  · refine bX11_areTaps_92 (bX11_areTaps_93 hX (Or.inl rfl) ⟨Or.inl ⟨rfl, fun g => tap_det g q⟩, hz y sy y96, hfr⟩)
  · refine bX11_areTaps_88 (bX11_areTaps_93 hX (Or.inr rfl) ⟨Or.inr ⟨rfl, hT.mpr ⟨h1, fun g => q (tap_det0 g)⟩, y4⟩, hz y sy y96, hfr⟩)
theorem n_taps {N : Int} {a : AS} {σ : St} (h : MR N a σ) {i j w : Int} (hi : inI i) (hj : inI j) (hw : inI w) : CI mdX11_taps [vr 87, vi i, vi j, vi w] σ (fun z u => z = tapV a.1 i j w ∧ MR N a u ∧ dn σ u) := by
  refine CI_of (by decide +kernel) (Nat.le_of_ble_eq_true rfl) rfl (fun X hX => ?_)
  have bad : ¬ (pairOK i j ∧ (0 ≤ w ∧ w ≤ 3)) → G mdX11_taps X 17 [] [] σ := fun g => bX11_taps_17 hX ⟨by unfold tapV; rw [if_neg g], h, dn.rf⟩
  refine bX11_taps_0 (m_arePlaces hi hj σ) ?_
  rintro z u hz ⟨rfl, rfl⟩
  refine bX11_taps_5 hz (fun q => bad (fun g => bI_d0 q g.1)) (fun q => ?_)
  have hp : pairOK i j := bI_d1 q
  refine bX11_taps_8 (m_in hw ⟨by decide, by decide⟩ ⟨by decide, by decide⟩ _) ?_
  rintro z u hz1 ⟨rfl, rfl⟩
  refine bX11_taps_14 hz1 (fun q => ?_) (fun q => bad (by have := bI_d0 q; omega))
  have b := bI_d1 q
  have ev : tapV a.1 i j w = if hasT a.1 i j then tapX a.1 i j w else -9 := by unfold tapV; rw [if_pos ⟨hp, b⟩]
  rw [ev] at hX
  refine bX11_taps_19 (n_areTaps h hp.1 hp.2.1) ?_
  rintro z u hz2 ⟨h1, h2, h3⟩
  refine bX11_taps_25 hz2 (fun q3 => ?_) (fun q3 => ?_)
  · rcases h1 with ⟨a1, a2⟩ | ⟨a1, a2, a3⟩
    · rw [if_neg a2] at hX
      exact bX11_taps_37 (bX11_taps_39 hX ⟨by decide, by decide⟩ ⟨rfl, h2, h3.dn⟩)
    · omega
  · rcases h1 with ⟨a1, a2⟩ | ⟨a1, a2, a3⟩
    · omega
    · rw [if_pos a2] at hX
      refine bX11_taps_28 ⟨b.1, by omega⟩ (bX11_taps_39 hX (by rw [eq4_at a3 b]; exact c97_inI (m97_at (tap97 _ _ _) b)) ⟨eq4_at a3 b, h2, h3.dn⟩)
theorem n_learns {N : Int} {a : AS} {σ : St} (h : MR N a σ) {i j : Int} (hi : inI i) (hj : inI j) : CI mdX11_learns [vr 87, vi i, vi j] σ (fun z u => z = (learnsA a i j).1 ∧ MR N (learnsA a i j).2 u ∧ dn σ u) := by
  refine CI_of (by decide +kernel) (Nat.le_of_ble_eq_true rfl) rfl (fun X hX => ?_)
  refine bX11_learns_0 (m_arePlaces hi hj σ) ?_
  rintro z u hz ⟨rfl, rfl⟩
  refine bX11_learns_5 hz (fun q => ?_) (fun q => bX11_learns_8 hX (by unfold learnsA; rw [if_neg (bI_d0 q)]; exact ⟨rfl, h, dn.rf⟩))
  have hp : pairOK i j := bI_d1 q
  refine bX11_learns_10 (n_areTaps h hp.1 hp.2.1) ?_
  rintro z u hz2 ⟨h1, h2, h3⟩
  have e := h2.n64
  refine bX11_learns_16 hz2 (fun q3 => ?_) (fun q3 => ?_)
  · rcases h1 with ⟨a1, a2⟩ | ⟨a1, a2, a3⟩
    · omega
    have ev : learnsA a i j = if a.1 64 = 4 then (-3, a) else (a.1 64 + 1, putP (noteA a) (appS a.1 (tapS a.1 i j))) := by unfold learnsA; rw [if_pos hp, if_pos a2]
    rw [ev] at hX
    refine bX11_learns_22 ⟨by omega, by omega⟩ (fun q => ?_) (fun q => ?_)
    · rw [if_neg (by omega)] at hX
      refine bX11_learns_36 (n_note h2) ?_
      rintro u1 ⟨hu, hn⟩
      have e98 : u1 98 = u 98 := hn.1 98 (by decide) (by decide) (by decide)
      have f1 : u1 88 64 = a.1 64 := hu.n64.1
      obtain ⟨T, hT⟩ : ∃ T, T = tapX a.1 i j := ⟨_, rfl⟩
      have t97 : m97 T := by rw [hT]; exact tap97 a.1 i j
      have e4 : eq4 (u1 98) T := by rw [e98, hT]; exact a3
      obtain ⟨g0, g1, g2, g3⟩ := id e4
      have u97 : m97 (u1 98) := by
        unfold m97
        rw [g0, g1, g2, g3]; exact t97
      refine bX11_learns_40 (m_left (inI_sub (m_bd u97.1 u97.2.2.2) (m_bd u97.2.1 u97.2.2.1)) _) ?_
      rintro z u2 hz3 ⟨rfl, rfl⟩
      have ed : (u1 98 0 * u1 98 3 - u1 98 1 * u1 98 2) % 97 = detR T := det_eq4 e4
      rw [ed]
      have hd : c97 (detR T) := md97 _
      refine bX11_learns_70 (m_inverse hd _) ?_
      rintro z u2 hz4 ⟨rfl, rfl⟩
      have hw := inv_bd (detR T)
      have hw' : c97 (inv97 (detR T)) := ⟨hw.1, hw.2⟩
      have n1 := m_bd t97.2.1 hw'
      have n2 := m_bd t97.2.2.1 hw'
      have n3 := m_bd t97.2.2.2 hw'
      have n0 := m_bd t97.1 hw'
      have k1 : -T 1 * inv97 (detR T) = -(T 1 * inv97 (detR T)) := Int.neg_mul _ _
      have k2 : -T 2 * inv97 (detR T) = -(T 2 * inv97 (detR T)) := Int.neg_mul _ _
      refine bX11_learns_73 (by rw [g1]; exact m_left ⟨by omega, by omega⟩ _) (by rw [g3]; exact ⟨n3.1, by omega⟩) ?_
      rintro z u2 hz5 ⟨rfl, rfl⟩
      refine bX11_learns_111 (by rw [g2]; exact m_left ⟨by omega, by omega⟩ _) ?_
      rintro z u2 hz6 ⟨rfl, rfl⟩
      refine bX11_learns_123 (m_lay _ (by omega)) (by rw [g0]; exact ⟨n0.1, by omega⟩) ?_
      rintro u2 rfl
      rw [g0, g3]
      have es : stepR 1 ((T 3 * inv97 (detR T)) % 97) ((-T 1 * inv97 (detR T)) % 97) ((-T 2 * inv97 (detR T)) % 97) ((T 0 * inv97 (detR T)) % 97) zR = tapS a.1 i j := by
        unfold tapS
        rw [← hT]
        show _ = stepR 1 ((inv97 (detR T) * T 3) % 97) ((-inv97 (detR T) * T 1) % 97) ((-inv97 (detR T) * T 2) % 97) ((inv97 (detR T) * T 0) % 97) zR
        rw [Int.mul_comm (T 3), Int.mul_comm (T 0), show -T 1 * inv97 (detR T) = -inv97 (detR T) * T 1 by rw [Int.neg_mul, Int.neg_mul, Int.mul_comm], show -T 2 * inv97 (detR T) = -inv97 (detR T) * T 2 by rw [Int.neg_mul, Int.neg_mul, Int.mul_comm]]
      rw [es]
      have f2 : setr u1 88 (layR (65 + 5 * u1 88 64) (tapS a.1 i j) (u1 88)) 88 64 = u1 88 64 := by
        rw [setr_at]; unfold layR; rw [if_neg (by omega)]
      refine bX11_learns_137 hX ?_ ?_
      · rw [wr_setr, f2]; show inI (setS _ 88 64 _ 88 64); rw [setS_at]; exact ⟨by omega, by omega⟩
      · rw [wr_setr, f2]
        show (setS _ 88 64 _ 88 64) = _ ∧ MR N _ (setS _ 88 64 _) ∧ dn σ (setS _ 88 64 _)
        rw [setS_at]
        have hdn : dn σ u1 := dn.tr h3.dn hn.dn
        refine ⟨by rw [f1], ?_, hdn.tr (dn.tr (dn.set (by decide)) (dn.set (by decide)))⟩
        refine hu.setP (Int.le_refl N) (fun x hx => by rw [setS_ne _ _ _ (by omega), setr_ne _ _ (by omega)]) (fun j _ => by rw [setS_ne _ _ _ (by decide), setr_ne _ _ (by decide)]) ?_ (okV_appS h.1.2 (by omega) (tapS_ok a2))
        rw [vw_appS u1 _ (by omega)]
        exact eqv_appS hu.1.1 _ (by show 0 ≤ a.1 33 ∧ a.1 33 ≤ 6; have := h.n33; omega) (by show 0 ≤ a.1 64 ∧ a.1 64 < 4; omega)
    · rw [if_pos (by omega)] at hX
      exact bX11_learns_33 hX ⟨rfl, h2, h3.dn⟩
  · rcases h1 with ⟨a1, a2⟩ | ⟨a1, a2, a3⟩
    · have ev : learnsA a i j = (-2, a) := by unfold learnsA; rw [if_pos hp, if_neg a2]
      rw [ev] at hX
      exact bX11_learns_19 hX ⟨rfl, h2, h3.dn⟩
    · omega
