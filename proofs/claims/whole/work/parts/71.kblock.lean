/-! the class: block -/
theorem txK_of {N : Int} {a : AS} {u : St} (h : CR N a u) : txK a.2.2.2.1.2 a.2.2.2.1.1 u := h.2.2.2.1
theorem k_readInto {N : Int} {a : AS} {σ : St} (h : CR N a σ) (hd : eqv a.1 (vwC σ 6)) : CI mdX9_readInto [vr 65, vr 6] σ (fun z u => (((resA a).1 ≠ -9 ∧ z = -10 - (resA a).1 ∧ z < 0) ∨ ((resA a).1 = -9 ∧ z = (resA a).2.1 ∧ 0 ≤ z ∧ eqv (resA a).2.2 (vwC u 6) ∧ okV N (resA a).2.2)) ∧ CR N a u ∧ up σ u) := by
  refine CI_of (by decide +kernel) (Nat.le_of_ble_eq_true rfl) rfl (fun X hX => ?_)
  generalize hR : resA a = R at hX
  have hR' : runT a.2.2.2.1.2 a.2.2.2.1.1 0 (startQ a.1) = R := hR
  generalize hT : a.2.2.2.1.2 = T at hR'
  generalize hL : a.2.2.2.1.1 = L at hR'
  have hL6 : 0 ≤ L ∧ L ≤ 160 := by rw [← hL]; exact h.2.2.2.1.2.1
  have tx : ∀ u, CR N a u → txK T L u := fun u hu => by rw [← hT, ← hL]; exact txK_of hu
  refine bX9_readInto_0 isSt6 (c_tellNothing isSt6 σ) ?_
  rintro u rfl
  refine bX9_readInto_4 isSt6 ?_
  -- the end
  have fin : ∀ (p : Int) (q : QS) (u : St), L ≤ p → KQ N a q u → okQ N p q → p ≤ 160 → up σ u → runT T L p q = R → G mdX9_readInto X 71 [(0, vr 65)] [] u := by
    intro p q u g1 g2 g3 g4 g5 g6
    obtain ⟨h1, h2, h3, h4, h5, h6, h7⟩ := id g2
    have l2 := (tx u h1).1
    have hi : inI (u 65 3) := by
      rw [h3]
      rcases g3.1 with c | c | c | c | c <;> rw [c] <;> exact ⟨by decide, by decide⟩
    have it := g3.2.2.1
    refine bX9_readInto_71 hi (fun c => ?_) (fun c => ?_)
    · rw [run_cut g1 (by omega)] at g6
      refine bX9_readInto_87 (bX9_readInto_94 hX (by rw [l2]; exact ⟨by omega, by omega⟩) ⟨Or.inl ?_, h1, g5⟩)
      rw [← g6, l2]
      exact ⟨by show L ≠ -9; omega, rfl, by show -10 - L < 0; omega⟩
    · rw [run_end g1 (by omega)] at g6
      refine bX9_readInto_80 (bX9_readInto_94 hX (by rw [h5]; exact ⟨by omega, by omega⟩) ⟨Or.inr ?_, h1, g5⟩)
      rw [← g6, h5]
      exact ⟨rfl, rfl, it.1, h2, g3.2.2.2.2.2⟩
  have key : ∀ (d : Nat) (p tk : Int) (q : QS) (u : St), L - p ≤ d → KQ N a q u → okQ N p q → up σ u → runT T L p q = R → 0 ≤ p → p ≤ L → 0 ≤ tk → tk ≤ p → G mdX9_readInto X 24 [(0, vr 65), (1, vr 6), (2, vi p), (3, vi tk)] [] u := by
    intro d
    induction d with
    | zero =>
      intro p tk q u g1 g2 g3 g4 g5 g6 g7 g8 g9
      have l2 := (tx u g2.1).1
      have fi := fin p q u (by omega) g2 g3 (by omega) g4 g5
      exact bX9_readInto_24 isSt6 ⟨by omega, by omega⟩ (fun _ => fi) (fun _ => bX9_readInto_31 isSt6 (by rw [l2]; exact ⟨⟨by omega, by omega⟩, by omega, by omega⟩) (fun _ => fi) (fun c => by omega))
    | succ d ih =>
      intro p tk q u g1 g2 g3 g4 g5 g6 g7 g8 g9
      have l2 := (tx u g2.1).1
      refine bX9_readInto_24 isSt6 ⟨by omega, by omega⟩ (fun c => fin p q u (by omega) g2 g3 (by omega) g4 g5) (fun _ => ?_)
      refine bX9_readInto_31 isSt6 (by rw [l2]; exact ⟨⟨by omega, by omega⟩, by omega, by omega⟩) (fun c => fin p q u (by omega) g2 g3 (by omega) g4 g5) (fun c => ?_)
      have hlt : p < L := by omega
      have hb := endT_bd (T := T) g6 hlt hL6.2
      refine bX9_readInto_39 isSt6 (c_endOfToken u (tx u g2.1) ⟨g6, hlt⟩) ?_
      rintro z u2 hz ⟨rfl, rfl⟩
      refine bX9_readInto_44 isSt6 (k_takesToken g2 (tx _ g2.1) ⟨g6, hlt⟩ g3) ?_
      rintro z u3 hz2 ⟨k1, k2⟩
      rcases k1 with ⟨rfl, k3, k4⟩ | ⟨rfl, q', k3, k4⟩
      · refine bX9_readInto_54 isSt6 hz2 (fun c2 => absurd rfl c2) (fun _ => bX9_readInto_57 hX ⟨by omega, by omega⟩ ⟨Or.inl ?_, k4, g4.tr k2⟩)
        rw [run_none hlt k3] at g5
        rw [← g5]
        exact ⟨by show p ≠ -9; omega, rfl, by omega⟩
      · refine bX9_readInto_54 isSt6 hz2 (fun _ => bX9_readInto_62 isSt6 ?_) (fun c2 => absurd c2 (by decide))
        rw [run_step hL6.2 g6 hlt k3] at g5
        exact ih (endT T L p) (tk + 1) q' u3 (by omega) k4 (okQ_tok ⟨g6, hlt⟩ hL6.2 g3 k3) (g4.tr k2) g5 (by omega) hb.2 (by omega) (by omega)
  have ew : ∀ w : St, wr (wr (wr w 65 3 32) 65 5 0) 65 6 0 = setS (setS (setS w 65 3 32) 65 5 0) 65 6 0 := fun w => by rw [wr_setr, wr_setr, wr_setr]; rfl
  rw [ew]
  show G mdX9_readInto X 24 _ [] (setS (setS (setS (setS (setS (setr σ 7 (win 32 (fun _ => 0) (σ 7))) 6 1 4369) 8 2 0) 65 3 32) 65 5 0) 65 6 0)
  generalize hu : setS (setS (setS (setS (setS (setr σ 7 (win 32 (fun _ => 0) (σ 7))) 6 1 4369) 8 2 0) 65 3 32) 65 5 0) 65 6 0 = u
  have e : ∀ x, x ≠ 6 → x ≠ 7 → x ≠ 8 → x ≠ 65 → u x = σ x := fun x c d g f => by rw [← hu, setS_ne _ _ _ f, setS_ne _ _ _ f, setS_ne _ _ _ f, setS_ne _ _ _ g, setS_ne _ _ _ c, setr_ne _ _ d]
  have e65 : ∀ j, j ≠ 3 → j ≠ 5 → j ≠ 6 → u 65 j = σ 65 j := fun j c d g => by rw [← hu, setS_at2 _ _ _ g, setS_at2 _ _ _ d, setS_at2 _ _ _ c, setS_ne _ _ _ (by decide), setS_ne _ _ _ (by decide), setr_ne _ _ (by decide)]
  have e6 : ∀ j, j ≠ 1 → u 6 j = σ 6 j := fun j c => by rw [← hu, setS_ne _ _ _ (by decide), setS_ne _ _ _ (by decide), setS_ne _ _ _ (by decide), setS_ne _ _ _ (by decide), setS_at2 _ _ _ c, setr_ne _ _ (by decide)]
  have e61 : u 6 1 = 4369 := by rw [← hu, setS_ne _ _ _ (by decide), setS_ne _ _ _ (by decide), setS_ne _ _ _ (by decide), setS_ne _ _ _ (by decide), setS_at]
  have e8 : ∀ j, j ≠ 2 → u 8 j = σ 8 j := fun j c => by rw [← hu, setS_ne _ _ _ (by decide), setS_ne _ _ _ (by decide), setS_ne _ _ _ (by decide), setS_at2 _ _ _ c, setS_ne _ _ _ (by decide), setr_ne _ _ (by decide)]
  have e82 : u 8 2 = 0 := by rw [← hu, setS_ne _ _ _ (by decide), setS_ne _ _ _ (by decide), setS_ne _ _ _ (by decide), setS_at]
  have e7 : u 7 = win 32 (fun _ => 0) (σ 7) := by rw [← hu, setS_ne _ _ _ (by decide), setS_ne _ _ _ (by decide), setS_ne _ _ _ (by decide), setS_ne _ _ _ (by decide), setS_ne _ _ _ (by decide), setr_at]
  have hu1 : CR N a u := by
    refine h.txt (fun x c d _ => e x (by omega) (by omega) (by omega) d) (e65 2 (by decide) (by decide) (by decide)) (e8 1 (by decide)) ?_
    obtain ⟨z1, z2, z3⟩ := h.zst isSt6
    refine ⟨?_, by rw [e _ (by decide) (by decide) (by decide) (by decide)]; exact z2, by rw [e _ (by decide) (by decide) (by decide) (by decide)]; exact z3⟩
    show zo 32 (u 7)
    rw [e7]
    exact zo_in z1 (fun j cj => win_out (by omega))
  have hv : eqv (startV (vwC σ 6)) (vwC u 6) := by
    have f9 : u 9 = σ 9 := e 9 (by decide) (by decide) (by decide) (by decide)
    have f10 : u 10 = σ 10 := e 10 (by decide) (by decide) (by decide) (by decide)
    have f11 : u 11 = σ 11 := e 11 (by decide) (by decide) (by decide) (by decide)
    have hi : ∀ j, 64 ≤ j → startV (vwC σ 6) j = vwC u 6 j := fun j c => by
      unfold startV
      rw [if_neg (by omega), if_neg (by omega), if_neg (by omega)]
      unfold vwC
      simp only [if_neg (show ¬ j < 32 by omega), if_neg (show ¬ j = 32 by omega), if_neg (show ¬ j = 33 by omega), if_neg (show ¬ j < 64 by omega)]
      rw [show u (6 + 4) = σ (6 + 4) from f10, show u (6 + 5) = σ (6 + 5) from f11, e6 5 (by decide), e6 4 (by decide)]
    refine ⟨fun j c d => ?_, fun j c d => absurd d (by show ¬ j < 0 * 5; omega), hi _ (by decide), fun j c d => hi _ (by omega), hi _ (by decide), hi _ (by decide)⟩
    by_cases c1 : j < 32
    · unfold startV
      rw [if_pos ⟨c, c1⟩, vw_s u 6 j c c1]
      show 0 = u 7 j
      rw [e7, win_in ⟨c, c1⟩]
    · by_cases c2 : j = 32
      · rw [c2]
        show 4369 = u 6 1
        rw [e61]
      · obtain rfl : j = 33 := by omega
        show 0 = u 8 2
        rw [e82]
  refine key L.toNat 0 0 (startQ a.1) u (by omega) ⟨hu1, (eqv_start hd).tr hv, ?_, fun g => absurd rfl g, ?_, ?_, fun g => absurd g (show ¬ (32 : Int) = 100 by decide)⟩ (okQ_start h.1.2) (fun x hx => e x (by omega) (by omega) (by omega) (by omega)) hR' (by decide) hL6.1 (by decide) (by decide)
  · show u 65 3 = 32
    rw [← hu, setS_at2 _ _ _ (by decide), setS_at2 _ _ _ (by decide), setS_at]
  · show u 65 5 = 0
    rw [← hu, setS_at2 _ _ _ (by decide), setS_at]
  · show u 65 6 = 0
    rw [← hu, setS_at]
theorem k_block {N : Int} {a : AS} {σ : St} (h : CR N a σ) : CI mdX10_block [vr 60] σ (fun z u => z = (blockA a).1 ∧ CR N (blockA a).2 u ∧ up σ u) := by
  refine CI_of (by decide +kernel) (Nat.le_of_ble_eq_true rfl) rfl (fun X hX => ?_)
  have z6 := h.zst isSt6
  have z0 := h.zst isSt0
  have hf : fbit (σ 0 4) := h.fb
  refine bX10_block_0 (c_stTake isSt6 isSt0 (by decide) σ z6 z0 hf) ?_
  rintro u rfl
  have hu : CR N a (stc σ 6 0) := h.txt (fun x c _ _ => stc_ne (by omega)) (by rw [stc_ne (by decide)]) (stc_room (o := 6) (p := 0)).1 (stc_Zo z0)
  have hv : eqv a.1 (vwC (stc σ 6 0) 6) := by rw [vw_stc]; exact h.1.1
  have hup : up σ (stc σ 6 0) := fun x hx => stc_ne (by omega)
  refine bX10_block_11 (k_readInto hu hv) ?_
  rintro z u1 hz ⟨h1, h2, h3⟩
  rcases h1 with ⟨g1, rfl, g3⟩ | ⟨g1, rfl, g3, g4, g5⟩
  · have ev : blockA a = (-10 - (resA a).1, a) := by unfold blockA; rw [if_neg g1]
    rw [ev] at hX
    exact bX10_block_22 hz (fun c => by omega) (fun _ => bX10_block_27 hX hz ⟨rfl, h2, hup.tr h3⟩)
  · have ev : blockA a = ((resA a).2.1, setTS (putP (noteA a) (resA a).2.2) (0, a.2.2.2.1.2) (0, a.2.2.2.2.2)) := by unfold blockA; rw [if_pos g1]
    rw [ev] at hX
    refine bX10_block_22 hz (fun _ => ?_) (fun c => by omega)
    refine bX10_block_29 (k_note h2) ?_
    rintro u2 ⟨k1, k2⟩
    have v6 : vwC u2 6 = vwC u1 6 := vwC_same ⟨k2 _ (by decide) (by decide), k2 _ (by decide) (by decide), k2 _ (by decide) (by decide), k2 _ (by decide) (by decide), k2 _ (by decide) (by decide), k2 _ (by decide) (by decide)⟩
    have hf6 : fbit (u2 6 4) := by
      have e86 : (resA a).2.2 86 = u1 6 4 := g4.2.2.2.2.2
      rw [k2 6 (by decide) (by decide), ← e86]
      exact g5.2.2.2.2.2.2.2.1
    refine bX10_block_40 (c_stTake isSt0 isSt6 (by decide) u2 (k1.zst isSt0) (k1.zst isSt6) hf6) ?_
    rintro u3 rfl
    have r0 := k1.room
    have hu3 : CR N (putP (noteA a) (resA a).2.2) (stc u2 0 6) := by
      refine k1.setP (Int.le_refl N) (fun x hx => stc_ne (by omega)) (by rw [vw_stc, v6]; exact g4) g5 ?_ ?_ (stc_Zo (k1.zst isSt6))
      · exact (stc_room (o := 0) (p := 6)).1
      · exact (stc_room (o := 0) (p := 6)).2
    refine bX10_block_51 hX hz ⟨rfl, ?_, ?_⟩
    · have ew : wr (wr (stc u2 0 6) 65 2 0) 68 2 0 = setS (setS (stc u2 0 6) 65 2 0) 68 2 0 := by rw [wr_setr, wr_setr]; rfl
      rw [ew]
      obtain ⟨t1, t2, t3⟩ := hu3.2.2.2.1
      obtain ⟨s1, s2, s3⟩ := hu3.2.2.2.2.1
      refine hu3.ts (fun x hx => by rw [setS_ne _ _ _ (by omega), setS_ne _ _ _ (by omega)]) ?_ ?_
      · exact ⟨by rw [setS_ne _ _ _ (by decide), setS_at], ⟨by show (0 : Int) ≤ 0; decide, by show (0 : Int) ≤ 160; decide⟩, fun j x y => absurd y (by show ¬ j < 0; omega)⟩
      · exact ⟨by rw [setS_at], ⟨by show (0 : Int) ≤ 0; decide, by show (0 : Int) ≤ 6; decide⟩, fun j x y => absurd y (by show ¬ j < 0; omega)⟩
    · rw [wr_setr, wr_setr]
      refine (hup.tr h3).tr (k2.up.tr ?_)
      exact up.tr (fun x hx => stc_ne (by omega)) (up.tr (up.set (by decide)) (up.set (by decide)))
