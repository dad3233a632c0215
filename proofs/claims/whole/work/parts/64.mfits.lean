/-! the model: fits -/
theorem n_isSeenBy {N : Int} {a : AS} {σ : St} (h : MR N a σ) {x q : Int} (hx : 0 ≤ x ∧ x ≤ 15) (hq : 0 ≤ q ∧ q ≤ 3) : CI mdX11_isSeenBy [vr 87, vi x, vi q] σ (fun z u => z = bI (seenB a.2.2.2.2.2.1 a.2.2.2.2.2.2 (slipV a.1 x q) a.2.2.2.2.1.toNat) ∧ MR N a u ∧ Sf σ u) := by
  refine CI_of (by decide +kernel) (Nat.le_of_ble_eq_true rfl) rfl (fun X hX => ?_)
  have e := h.n64
  have hg := good_airV h.1.2
  have hs := good_slip (q := q) hx.1 hg
  refine bX11_isSeenBy_0 (n_air h) ?_
  rintro u ⟨h1, h2, h3⟩
  refine bX11_isSeenBy_4 (m_slip u (by rw [h1]; exact hg.1) hx hq) ?_
  rintro u1 ⟨g1, g2⟩
  rw [h1] at g1
  have k2 : MR N a u1 := h2.wf g2 (by rw [g1]; exact hs.2)
  refine bX11_isSeenBy_10 (by rw [k2.n64.1]; exact n_go k2 hs g1 ⟨e.2.1, Int.le_refl _⟩) ?_
  rintro u2 ⟨p1, p2, p3⟩
  have hF : Sf σ u2 := (Sf.wf h3).tr ((Sf.wf g2).tr (Sf.wf p3))
  have e96 : u2 96 = slipV a.1 x q := p1
  have gs : good (u2 96) := by rw [p1]; exact good_chain hs _
  obtain ⟨s1, s2, s3⟩ := p2.2.2.2.2.1
  refine bX11_isSeenBy_21 ?_
  rw [← e96] at hX
  have key : G mdX11_isSeenBy X 26 [(0, vr 87), (3, vi (bI (seenB a.2.2.2.2.2.1 a.2.2.2.2.2.2 (u2 96) (0 : Int).toNat))), (4, vi 0)] [] u2 := by
    refine loopUp (Q := fun i => G mdX11_isSeenBy X 26 [(0, vr 87), (3, vi (bI (seenB a.2.2.2.2.2.1 a.2.2.2.2.2.2 (u2 96) i.toNat))), (4, vi i)] [] u2) (n := a.2.2.2.2.1) ?_ (fun i c1 c2 ih => ?_) s2.1
    · refine bX11_isSeenBy_26 ⟨⟨by omega, by omega⟩, by omega, by omega⟩ (fun _ => bX11_isSeenBy_76 hX (bI_01 _) ⟨rfl, p2, hF⟩) (fun q => by omega)
    · obtain ⟨b1, b2, b3, b4⟩ := s3 i c1 c2
      have es : seenB a.2.2.2.2.2.1 a.2.2.2.2.2.2 (u2 96) (i + 1).toNat = (seenB a.2.2.2.2.2.1 a.2.2.2.2.2.2 (u2 96) i.toNat && decide (dec (u2 96 (a.2.2.2.2.2.1 i)) = a.2.2.2.2.2.2 i)) := by
        rw [show (i + 1).toNat = i.toNat + 1 by omega]
        show (_ && decide (dec (u2 96 (a.2.2.2.2.2.1 (i.toNat : Int))) = a.2.2.2.2.2.2 (i.toNat : Int))) = _
        rw [Int.toNat_of_nonneg c1]
      rw [es] at ih
      refine bX11_isSeenBy_26 ⟨⟨by omega, by omega⟩, by omega, by omega⟩ (fun q => by omega) (fun _ => ?_)
      refine bX11_isSeenBy_35 (bI_rng _) (fun q => ?_) (fun q => ?_)
      · rw [bI_0.mp q] at ih
        exact bX11_isSeenBy_68 (bX11_isSeenBy_69 ih)
      · rw [bI_1.mp q] at ih
        have c9 := gs.1 (a.2.2.2.2.2.1 i) b3.1 b3.2
        refine bX11_isSeenBy_39 (by rw [b1]; exact m_decided c9 _) (by rw [b1]; exact ⟨⟨c1, by omega⟩, b3⟩) ?_
        rintro z u3 hz ⟨rfl, rfl⟩
        refine bX11_isSeenBy_54 ⟨⟨c1, by omega⟩, hz, by rw [b2]; exact ⟨by omega, by omega⟩⟩ (fun q2 => ?_) (fun q2 => ?_)
        · rw [b2] at q2
          rw [decide_eq_false q2] at ih
          exact bX11_isSeenBy_68 (bX11_isSeenBy_69 ih)
        · rw [b2] at q2
          rw [decide_eq_true q2] at ih
          exact bX11_isSeenBy_64 (bX11_isSeenBy_69 ih)
  exact key
theorem n_fits {N : Int} {a : AS} {σ : St} (h : MR N a σ) {w : Int} (hw : inI w) : CI mdX11_fits [vr 87, vi w] σ (fun z u => z = fitsV a w ∧ MR N a u ∧ dn σ u) := by
  refine CI_of (by decide +kernel) (Nat.le_of_ble_eq_true rfl) rfl (fun X hX => ?_)
  refine bX11_fits_0 (m_in hw ⟨by decide, by decide⟩ ⟨by decide, by decide⟩ σ) ?_
  rintro z u hz ⟨rfl, rfl⟩
  refine bX11_fits_6 hz (fun q => ?_) (fun q => bX11_fits_9 hX ⟨by unfold fitsV; rw [if_neg (bI_d0 q)], h, dn.rf⟩)
  have b := bI_d1 q
  have ev : fitsV a w = if w = 0 then (acL (fiP a) fiVal 48).1 else (acL (fiP a) fiVal 48).2 := by unfold fitsV; rw [if_pos b]
  rw [ev] at hX
  refine bX11_fits_11 ?_
  have hb := acL_bd (fiP a) fiVal (fun n hn => by unfold fiVal; omega)
  have hz2 := acL_z (fiP a) fiVal (fun n hn => by unfold fiVal; omega)
  have key : ∀ (d n : Nat) (u : St), n + d = 48 → MR N a u → Sf σ u → (n % 3 = 0 → G mdX11_fits X 19 [(0, vr 87), (1, vi w), (2, vi (acL (fiP a) fiVal n).1), (3, vi (acL (fiP a) fiVal n).2), (4, vi ((n / 3 : Nat) : Int))] [] u) ∧ (n < 48 → G mdX11_fits X 29 [(0, vr 87), (1, vi w), (2, vi (acL (fiP a) fiVal n).1), (3, vi (acL (fiP a) fiVal n).2), (4, vi ((n / 3 : Nat) : Int)), (5, vi (((n % 3 : Nat) : Int) + 1))] [] u) := by
    intro d
    induction d with
    | zero =>
      intro n u hn hu2 hu3
      have hbn := hb n (by omega)
      obtain rfl : n = 48 := by omega
      refine ⟨fun _ => ?_, fun q => absurd q (by decide)⟩
      refine bX11_fits_19 ⟨by decide, by decide⟩ (fun _ => ?_) (fun q => absurd q (by decide))
      refine bX11_fits_77 hw (fun q => ?_) (fun q => ?_)
      · rw [if_neg q] at hX
        exact bX11_fits_85 (bX11_fits_86 hX ⟨by omega, by omega⟩ ⟨rfl, hu2, hu3.dn⟩)
      · rw [if_pos q] at hX
        exact bX11_fits_81 (bX11_fits_86 hX ⟨by omega, by omega⟩ ⟨rfl, hu2, hu3.dn⟩)
    | succ d ih =>
      intro n u hn hu2 hu3
      have hbn := hb n (by omega)
      have hzn := hz2 n (by omega)
      have es : acL (fiP a) fiVal (n + 1) = if fiP a n then ((acL (fiP a) fiVal n).1 + 1, if (acL (fiP a) fiVal n).2 = -9 then fiVal n else (acL (fiP a) fiVal n).2) else acL (fiP a) fiVal n := rfl
      -- to the next
      have next : ∀ u : St, MR N a u → Sf σ u → G mdX11_fits X 65 [(0, vr 87), (1, vi w), (2, vi (acL (fiP a) fiVal (n + 1)).1), (3, vi (acL (fiP a) fiVal (n + 1)).2), (4, vi ((n / 3 : Nat) : Int)), (5, vi (((n % 3 : Nat) : Int) + 1))] [] u := by
        intro u g2 g3
        obtain ⟨n1, n2⟩ := ih (n + 1) u (by omega) g2 g3
        refine bX11_fits_65 ?_
        by_cases h3 : n % 3 = 2
        · refine bX11_fits_29 ⟨by omega, by omega⟩ (fun _ => ?_) (fun q => by omega)
          refine bX11_fits_71 ?_
          have := n1 (by omega)
          rw [show ((n / 3 : Nat) : Int) + 1 = (((n + 1) / 3 : Nat) : Int) by omega]
          exact this
        · have := n2 (by omega)
          rw [show (((n + 1) / 3 : Nat) : Int) = ((n / 3 : Nat) : Int) by omega, show (((n + 1) % 3 : Nat) : Int) + 1 = (((n % 3 : Nat) : Int) + 1) + 1 by omega] at this
          exact this
      have body : G mdX11_fits X 29 [(0, vr 87), (1, vi w), (2, vi (acL (fiP a) fiVal n).1), (3, vi (acL (fiP a) fiVal n).2), (4, vi ((n / 3 : Nat) : Int)), (5, vi (((n % 3 : Nat) : Int) + 1))] [] u := by
        refine bX11_fits_29 ⟨by omega, by omega⟩ (fun q => by omega) (fun _ => ?_)
        refine bX11_fits_35 (n_isSeenBy hu2 ⟨by omega, by omega⟩ ⟨by omega, by omega⟩) ?_
        rintro z u3 hz3 ⟨e1, hu4, e3⟩
        have ep : z = bI (fiP a n) := e1
        subst ep
        have nx := next u3 hu4 (hu3.tr e3)
        refine bX11_fits_43 hz3 (fun q5 => ?_) (fun q5 => ?_)
        · rw [es, bI_0.mp q5] at nx
          exact nx
        · have hp := bI_1.mp q5
          rw [es, hp] at nx
          refine bX11_fits_46 ⟨by omega, by omega⟩ (fun q6 => ?_) (fun q6 => ?_)
          · rw [if_pos rfl, if_neg (fun g => q6 (hzn.2.mpr g))] at nx
            exact bX11_fits_60 (bX11_fits_61 nx)
          · rw [if_pos rfl, if_pos (hzn.2.mp q6)] at nx
            exact bX11_fits_50 (bX11_fits_61 nx)
      refine ⟨fun h3 => ?_, fun _ => body⟩
      refine bX11_fits_19 ⟨by omega, by omega⟩ (fun q => by omega) (fun _ => bX11_fits_26 ?_)
      rw [show ((n % 3 : Nat) : Int) + 1 = 1 by omega] at body
      exact body
  exact (key 48 0 _ rfl h Sf.rf).1 rfl
