/-! the model: mend, all marks -/
def mW (m start k : Int) (s f : Row) : Row := fun j => if (0 ≤ j ∧ j < 32) ∧ owM m start (j % 16) < k then (f j * lgt (bestQ f s (owM m start (j % 16)))) % 97 else f j
theorem m_mend (σ : St) (hr : r97 32 (σ 96)) (hs : ∀ i, 0 ≤ i → i < 32 → 0 ≤ σ 88 i ∧ σ 88 i ≤ 3) (hm : 0 ≤ σ 88 32 ∧ σ 88 32 < 65536) : CV mdX11_mend [vr 87] σ (fun u => u 96 = mendF (σ 88 32) (σ 88) (σ 96) ∧ Wf σ u) := by
  refine CV_of (by decide +kernel) (Nat.le_of_ble_eq_true rfl) rfl (fun X hX => ?_)
  refine bX11_mend_0 ?_
  generalize hst : fstM (σ 88 32) 16 0 = start
  rcases fstM_spec (σ 88 32) 16 0 with ⟨h9, hno⟩ | ⟨g1, g2, g3, g4⟩
  · have e : mendF (σ 88 32) (σ 88) (σ 96) = σ 96 := by
      funext i; unfold mendF; rw [if_neg (fun x => x.2.2 h9)]
    rw [e] at hX
    refine loopUp (Q := fun i => G mdX11_mend X 2 [(0, vr 87), (1, vi i)] [] σ) (n := 16) ?_ (fun i h1 h2 ih => ?_) (by decide)
    · exact bX11_mend_2 (by decide) (fun _ => bX11_mend_156 hX ⟨rfl, Wf.rf⟩) (fun q => by omega)
    · refine bX11_mend_2 ⟨by omega, by omega⟩ (fun q => by omega) (fun _ => bX11_mend_8 (m_has hm (by omega) σ) ?_)
      rintro z u hz ⟨rfl, rfl⟩
      have hf := hno i h1 (by omega)
      refine bX11_mend_19 hz (fun _ => bX11_mend_150 ih) (fun q => ?_)
      rw [hf] at q
      exact absurd rfl q
  · rw [hst] at g1 g2 g3 g4
    have hsb : 0 ≤ start ∧ start < 16 := by omega
    obtain ⟨W, hW⟩ : ∃ W : Int → Row, W = fun k => mW (σ 88 32) start k (σ 88) (σ 96) := ⟨_, rfl⟩
    have wv : ∀ k j, W k j = if (0 ≤ j ∧ j < 32) ∧ owM (σ 88 32) start (j % 16) < k then (σ 96 j * lgt (bestQ (σ 96) (σ 88) (owM (σ 88 32) start (j % 16)))) % 97 else σ 96 j := fun k j => by rw [hW]; rfl
    have w97 : ∀ k, r97 32 (W k) := fun k i a b => by
      rw [wv]
      split
      · exact md97 _
      · exact hr i a b
    have owb : ∀ p, 0 ≤ owM (σ 88 32) start p ∧ owM (σ 88 32) start p < 16 := fun p => nst_bd _ _ hsb _
    have owm : ∀ p, mk (σ 88 32) (owM (σ 88 32) start p) = true := fun p => by
      obtain ⟨e, _, _, h3, _⟩ := nst_spec (σ 88 32) start hsb g3 ((p - start) % 16).toNat
      exact h3
    have key : G mdX11_mend X 2 [(0, vr 87), (1, vi 0)] [] (setr σ 96 (W 0)) := by
      refine loopUp (Q := fun k => G mdX11_mend X 2 [(0, vr 87), (1, vi k)] [] (setr σ 96 (W k))) (n := 16) ?_ (fun k h1 h2 ih => ?_) (by decide)
      · refine bX11_mend_2 (by decide) (fun _ => bX11_mend_156 hX ⟨?_, Wf.s96⟩) (fun q => by omega)
        rw [setr_at]
        funext j
        rw [wv]
        unfold mendF mendQ
        rw [hst]
        have := owb (j % 16)
        by_cases q : 0 ≤ j ∧ j < 32
        · rw [if_pos ⟨q, this.2⟩, if_pos ⟨q.1, q.2, by omega⟩]
          rfl
        · rw [if_neg (fun x => q x.1), if_neg (fun x => q ⟨x.1, x.2.1⟩)]
      · have e88 : setr σ 96 (W k) 88 = σ 88 := setr_ne _ _ (by decide)
        refine bX11_mend_2 ⟨by omega, by omega⟩ (fun q => by omega) (fun _ => bX11_mend_8 (by rw [e88]; exact m_has hm (by omega) _) ?_)
        rintro z u hz ⟨rfl, rfl⟩
        refine bX11_mend_19 hz (fun q => ?_) (fun q => ?_)
        · have hf := bI_0.mp q
          have ew : W (k + 1) = W k := by
            funext j
            rw [wv, wv]
            have hne : owM (σ 88 32) start (j % 16) ≠ k := fun x => by
              have := owm (j % 16)
              rw [x, hf] at this
              exact absurd this (by decide)
            by_cases q2 : (0 ≤ j ∧ j < 32) ∧ owM (σ 88 32) start (j % 16) < k
            · rw [if_pos q2, if_pos ⟨q2.1, by omega⟩]
            · rw [if_neg q2, if_neg (fun x => q2 ⟨x.1, by omega⟩)]
          rw [ew] at ih
          exact bX11_mend_150 ih
        · have hmk := bI_1.mp q
          have hself := ow_self hsb g3 ⟨h1, h2⟩ hmk
          have e1 : W k k = σ 96 k := by rw [wv, show k % 16 = k by omega, hself, if_neg (by omega)]
          have e2 : W k (16 + k) = σ 96 (16 + k) := by rw [wv, show (16 + k) % 16 = k by omega, hself, if_neg (by omega)]
          have r1 := hr k h1 (by omega)
          have r2 := hr (16 + k) (by omega) (by omega)
          have s1 := hs k h1 (by omega)
          have s2 := hs (16 + k) (by omega) (by omega)
          have hq4 := bestQ_bd (σ 96) (σ 88) k
          refine bX11_mend_22 ?_
          have inner : ∀ (d n : Nat), n + d = 4 → G mdX11_mend X 29 [(0, vr 87), (1, vi k), (2, vi (bqL (σ 96) (σ 88) k n).1), (3, vi (bqL (σ 96) (σ 88) k n).2), (4, vi (n : Int))] [] (setr σ 96 (W k)) := by
            intro d
            induction d with
            | zero =>
              intro n hn
              obtain rfl : n = 4 := by omega
              refine bX11_mend_29 (by decide) (fun _ => ?_) (fun q => absurd q (by decide))
              refine bX11_mend_144 (m_mendFrom _ (by rw [setr_at]; exact w97 k) (by rw [e88]; exact hm) ⟨h1, h2⟩ (by rw [e88]; exact hmk) hq4) ?_
              rw [e88, setr_at]
              rintro u ⟨T, t1, t2, t3, rfl⟩
              rw [setr_setr]
              refine bX11_mend_150 ?_
              have ew : walkF k T (bestQ (σ 96) (σ 88) k) (W k) = W (k + 1) := by
                funext j
                have hi := ow_iff hsb g3 ⟨h1, h2⟩ hmk t1 t2 t3 (p := j % 16) (by omega)
                have hw := wv k j
                unfold walkF
                rw [wv (k + 1)]
                by_cases q5 : 0 ≤ j ∧ j < 32
                · by_cases q6 : (j % 16 - k) % 16 < T
                  · have ho := hi.mpr q6
                    rw [ho, if_neg (by omega)] at hw
                    rw [if_pos ⟨q5, q6⟩, ho, if_pos ⟨q5, by omega⟩, hw]
                  · have ho : owM (σ 88 32) start (j % 16) ≠ k := fun x => q6 (hi.mp x)
                    rw [if_neg (fun x => q6 x.2), hw]
                    by_cases q7 : owM (σ 88 32) start (j % 16) < k
                    · rw [if_pos ⟨q5, q7⟩, if_pos ⟨q5, by omega⟩]
                    · rw [if_neg (fun x => q7 x.2), if_neg (fun x => q7 (by omega))]
                · rw [if_neg (fun x => q5 x.1), hw, if_neg (fun x => q5 x.1), if_neg (fun x => q5 x.1)]
              rw [show walkF k T (bqL (σ 96) (σ 88) k 4).1 (W k) = W (k + 1) from ew]
              exact ih
            | succ d ihd =>
              intro n hn
              have hb := bqL_bd (σ 96) (σ 88) k n
              have hl := lgt97 (n : Int)
              have m1 := m_bd r1 hl
              have m2 := m_bd r2 hl
              have hd1 := dec_bd ((σ 96 k * lgt n) % 97)
              have hd2 := dec_bd ((σ 96 (16 + k) * lgt n) % 97)
              have nx := ihd (n + 1) (by omega)
              have es : bqL (σ 96) (σ 88) k (n + 1) = if (bqL (σ 96) (σ 88) k n).2 < hit2 (σ 96) (σ 88) k n then ((n : Int), hit2 (σ 96) (σ 88) k n) else bqL (σ 96) (σ 88) k n := rfl
              have hh := hit2_bd (σ 96) (σ 88) k n
              -- behind the count
              have at109 : ∀ x y : Int, x + y = hit2 (σ 96) (σ 88) k n → G mdX11_mend X 109 [(0, vr 87), (1, vi k), (2, vi (bqL (σ 96) (σ 88) k n).1), (3, vi (bqL (σ 96) (σ 88) k n).2), (4, vi (n : Int))] [vi y, vi x] (setr σ 96 (W k)) := by
                intro x y hxy
                refine bX11_mend_109 ⟨⟨by omega, by omega⟩, ⟨by omega, by omega⟩⟩ (fun q5 => ?_) (fun q5 => ?_)
                · rw [hxy] at q5 ⊢
                  rw [es, if_neg (by omega)] at nx
                  push_cast at nx
                  refine bX11_mend_123 (bX11_mend_124 ⟨⟨by omega, by omega⟩, ⟨by omega, by omega⟩⟩ (fun _ => ?_) (fun q6 => by omega))
                  exact bX11_mend_136 (bX11_mend_137 nx)
                · rw [hxy] at q5 ⊢
                  rw [es, if_pos q5] at nx
                  push_cast at nx
                  refine bX11_mend_118 (bX11_mend_124 ⟨⟨by omega, by omega⟩, ⟨by omega, by omega⟩⟩ (fun q6 => by omega) (fun _ => ?_))
                  exact bX11_mend_131 (bX11_mend_137 nx)
              have at67 : ∀ x : Int, x = bI (decide (dec ((σ 96 k * lgt n) % 97) = σ 88 k)) → G mdX11_mend X 67 [(0, vr 87), (1, vi k), (2, vi (bqL (σ 96) (σ 88) k n).1), (3, vi (bqL (σ 96) (σ 88) k n).2), (4, vi (n : Int))] [vi x] (setr σ 96 (W k)) := by
                intro x hx
                refine bX11_mend_67 (m_light ⟨by omega, by omega⟩ _) ⟨by omega, by omega⟩ ?_
                rintro z u hz5 ⟨rfl, rfl⟩
                rw [setr_at, e2]
                refine bX11_mend_85 (m_decided (md97 _) _) ⟨m2.1, by omega⟩ ?_
                rintro z u hz6 ⟨rfl, rfl⟩
                refine bX11_mend_92 ⟨⟨by omega, by omega⟩, hz6, by rw [e88]; exact ⟨by omega, by omega⟩⟩ (fun q5 => ?_) (fun q5 => ?_)
                · rw [e88] at q5
                  refine bX11_mend_108 (at109 x 0 ?_)
                  unfold hit2
                  rw [← hx, decide_eq_false q5]; rfl
                · rw [e88] at q5
                  refine bX11_mend_104 (at109 x 1 ?_)
                  unfold hit2
                  rw [← hx, decide_eq_true q5]; rfl
              refine bX11_mend_29 ⟨by omega, by omega⟩ (fun q => by omega) (fun _ => ?_)
              refine bX11_mend_35 (m_light ⟨by omega, by omega⟩ _) ⟨by omega, by omega⟩ ?_
              rintro z u hz3 ⟨rfl, rfl⟩
              rw [setr_at, e1]
              refine bX11_mend_46 (m_decided (md97 _) _) ⟨m1.1, by omega⟩ ?_
              rintro z u hz4 ⟨rfl, rfl⟩
              refine bX11_mend_53 ⟨⟨by omega, by omega⟩, hz4, by rw [e88]; exact ⟨by omega, by omega⟩⟩ (fun q5 => ?_) (fun q5 => ?_)
              · rw [e88] at q5
                exact bX11_mend_66 (at67 0 (bJ_f q5))
              · rw [e88] at q5
                exact bX11_mend_62 (at67 1 (bJ_t q5))
          exact inner 4 0 rfl
    have e0 : W 0 = σ 96 := by
      funext j
      rw [wv]
      have := owb (j % 16)
      rw [if_neg (fun x => by omega)]
    rw [e0, setr_id] at key
    exact key
