/-! the model: readItem, block -/
theorem tok_let {T : Row} {L p c : Int} (h : tkN T L p = c) (hc : c = 120 ∨ c = 121 ∨ c = 109 ∨ c = 100) (q : QS) : tokQ T L p q = letQ q c := by
  obtain ⟨h1, h2, h3⟩ := tkN_c h (by omega)
  unfold tokQ
  rw [if_neg (by omega), if_neg h2, if_neg (by omega), h3]
theorem tok_no {T : Row} {L p : Int} {q : QS} (h0 : p < L) (h : T p ≠ 32) (hq : q.1 = 32) (h1 : tkN T L p ≠ 120) (h2 : tkN T L p ≠ 121) (h3 : tkN T L p = 109 → q.2.2.2.1 ≠ 0) (h4 : tkN T L p = 100 → ¬ q.2.2.2.2.2 33 < 6) : tokQ T L p q = none := by
  unfold tkN at h1 h2 h3 h4
  rw [if_neg (by omega)] at h1 h2 h3 h4
  unfold tokQ
  rw [if_neg h]
  by_cases q2 : isDg (T p)
  · rw [if_pos q2]
    unfold numQ
    by_cases q3 : valT T p (endT T L p) < 0
    · rw [if_pos q3]
    · rw [if_neg q3, if_neg (by omega), if_neg (by omega), if_neg (by omega), if_neg (by omega)]
  · rw [if_neg q2] at h1 h2 h3 h4 ⊢
    by_cases q3 : T p = 59
    · rw [if_pos q3]
      unfold semQ
      rw [if_neg (by omega)]
    · rw [if_neg q3]
      unfold letQ
      rw [if_pos hq]
      obtain ⟨x1, x2, x3, x4, x5⟩ := tkC_eq (T p)
      by_cases c1 : T p = 120
      · exact absurd ((x1 c1).trans c1) h1
      rw [if_neg c1]
      by_cases c2 : T p = 121
      · exact absurd ((x2 c2).trans c2) h2
      rw [if_neg c2]
      by_cases c3 : T p = 109
      · rw [if_pos c3, if_neg (h3 ((x3 c3).trans c3))]
      rw [if_neg c3]
      by_cases c4 : T p = 100
      · rw [if_pos c4, if_neg (h4 ((x4 c4).trans c4))]
      · rw [if_neg c4]
theorem EndI.up {N : Int} {T : Row} {L : Int} {R : Int × Int × Row} {σ x u : St} {p p1 n : Int} (h : EndI N T L R x p1 n u) (hp : p < p1) (e : Pf σ x) : EndI N T L R σ p n u := by
  obtain ⟨h1, h2⟩ := h
  refine ⟨?_, e.tr h2⟩
  rcases h1 with ⟨p', q', g1, g⟩ | h1
  · exact Or.inl ⟨p', q', by omega, g⟩
  · exact Or.inr h1
theorem m_readItem {N : Int} {T : Row} {L : Int} {R : Int × Int × Row} {p : Int} {q : QS} {σ : St} (h : JT N T L R p q σ) (hq : q.1 = 32) (hp : p < L) (h16 : σ 87 16 = q.2.2.2.1) (hV : eqv q.2.2.2.2.2 (dV σ)) (tx : txM T L σ) : CV mdX11_readItem [vr 87] σ (EndI N T L R σ p q.2.2.1) := by
  refine CV_of (by decide +kernel) (Nat.le_of_ble_eq_true rfl) rfl (fun X hX => ?_)
  have hL := tx.2.1
  have tk := h.tk
  have tb := tkN_bd T L p
  have e33 : σ 95 33 = q.2.2.2.2.2 33 := (hV.1 33 (by decide) (by decide)).symm
  have b33 := h.2.2.1.2.2.2.2.2.2.2.1
  have m01 := h.2.2.1.2.2.2.1
  obtain ⟨c, hc⟩ : ∃ c, c = tkN T L p := ⟨_, rfl⟩
  have ci : inI c := ⟨by omega, by omega⟩
  have e13 : σ 87 13 = c := by rw [hc]; exact tk.1
  -- it may not stand there
  have no : (c ≠ 120 ∧ c ≠ 121 ∧ (c = 109 → q.2.2.2.1 ≠ 0) ∧ (c = 100 → ¬ q.2.2.2.2.2 33 < 6)) → G mdX11_readItem X 52 [(0, vr 87), (1, vi c)] [] σ := by
    rintro ⟨g1, g2, g3, g4⟩
    have hr := run_none (T := T) hp (tok_no hp (h.1.2.2.2.1 hp).1 hq (by rw [← hc]; exact g1) (by rw [← hc]; exact g2) (by rw [← hc]; exact g3) (by rw [← hc]; exact g4))
    refine bX11_readItem_52 (bX11_readItem_53 (m_must_0 σ h.2.1) ?_)
    rintro x rfl
    refine bX11_readItem_59 ⟨by decide, by decide⟩ (fun g => absurd rfl g) (fun _ => bX11_readItem_63 hX ⟨Or.inr (J_fault h rfl hL.2 hr), Pf.fld (by decide)⟩)
  -- it may
  have yes : ∀ q' : QS, letQ q c = some q' → (c = 120 ∨ c = 121 ∨ c = 109 ∨ c = 100) → (∀ x p1, p < p1 → JT N T L R p1 q' x → Nf σ x → G mdX11_readItem X 64 [(0, vr 87), (1, vi c)] [] x) → G mdX11_readItem X 48 [(0, vr 87), (1, vi c)] [] σ := by
    intro q' g1 g2 k
    refine bX11_readItem_48 (bX11_readItem_53 (m_must_1 σ h.2.1 (J_next h rfl tx hp ((tok_let hc.symm g2 q).trans g1))) ?_)
    rintro x ⟨⟨p1, k1, k2⟩, k3⟩
    exact bX11_readItem_59 ⟨by decide, by decide⟩ (fun _ => k x p1 k1 k2 k3) (fun g => absurd g (by decide))
  have row : ∀ r : Int, (r = 0 ∨ r = 1) → c = 120 + r → G mdX11_readItem X 48 [(0, vr 87), (1, vi c)] [] σ := by
    intro r hr hcr
    have el : letQ q c = some (120 + r, 0, q.2.2.1, q.2.2.2.1, q.2.2.2.2.1, rowZ q.2.2.2.2.2 r) := by
      unfold letQ
      rw [if_pos hq]
      rcases hr with rfl | rfl
      · rw [if_pos (by omega)]; rfl
      · rw [if_neg (by omega), if_pos (by omega)]; rfl
    refine yes _ el (by omega) (fun x p1 k1 k2 k3 => ?_)
    refine bX11_readItem_64 ci (fun _ => ?_) (fun g => by omega)
    refine bX11_readItem_77 ci (fun _ => ?_) (fun g => by omega)
    refine bX11_readItem_90 (by rw [show c - 120 = r by omega]; exact m_readRow hr k2 (by rw [k3.2 16 (by decide)]; exact h16) (by rw [dV_nf k3]; exact hV) (tx.pf (Pf.nf k3))) ?_
    intro u hu
    exact bX11_readItem_98 hX (hu.up k1 (Pf.nf k3))
  refine bX11_readItem_0 tk.2 (fun g => ?_) (fun g => ?_)
  · rw [e13] at g ⊢
    exact row 0 (Or.inl rfl) (by omega)
  rw [e13] at g ⊢
  refine bX11_readItem_11 ci (fun g2 => row 1 (Or.inr rfl) (by omega)) (fun g2 => ?_)
  -- a deed
  have deed : ¬ (c = 109 ∧ q.2.2.2.1 = 0) → G mdX11_readItem X 30 [(0, vr 87), (1, vi c)] [] σ := by
    intro g3
    refine bX11_readItem_30 ci (fun g4 => no ⟨g, g2, fun a b => g3 ⟨a, b⟩, fun a => absurd a g4⟩) (fun g4 => ?_)
    refine bX11_readItem_36 (by rw [e33]; exact ⟨by omega, by omega⟩) (fun g5 => no ⟨g, g2, fun a => by omega, fun _ => by omega⟩) (fun g5 => ?_)
    have el : letQ q c = some (100, 0, q.2.2.1, q.2.2.2.1, q.2.2.2.2.1, q.2.2.2.2.2) := by
      unfold letQ
      rw [if_pos hq, if_neg g, if_neg g2, if_neg (by omega), if_pos g4, if_pos (by omega)]
    refine yes _ el (by omega) (fun x p1 k1 k2 k3 => ?_)
    refine bX11_readItem_64 ci (fun _ => ?_) (fun g => by omega)
    refine bX11_readItem_77 ci (fun g => absurd g4 g) (fun _ => ?_)
    refine bX11_readItem_83 (m_readDeed k2 (by rw [k3.2 16 (by decide)]; exact h16) (by rw [dV_nf k3]; exact hV) (tx.pf (Pf.nf k3))) ?_
    intro u hu
    exact bX11_readItem_87 (bX11_readItem_98 hX (hu.up k1 (Pf.nf k3)))
  refine bX11_readItem_17 ci (fun g3 => deed (fun g4 => g3 g4.1)) (fun g3 => ?_)
  refine bX11_readItem_23 (by rw [h16]; rcases m01 with m | m <;> rw [m] <;> exact ⟨by decide, by decide⟩) (fun g4 => ?_) (fun g4 => deed (fun g5 => g4 (h16.trans g5.2)))
  have el : letQ q c = some (109, 0, q.2.2.1, 1, q.2.2.2.2.1, setV q.2.2.2.2.2 32 0) := by
    unfold letQ
    rw [if_pos hq, if_neg g, if_neg g2, if_pos g3, if_pos (by omega)]
  refine yes _ el (by omega) (fun x p1 k1 k2 k3 => ?_)
  refine bX11_readItem_64 ci (fun g => absurd g3 g) (fun _ => ?_)
  refine bX11_readItem_70 (m_readMarks k2 (by rw [dV_nf k3]; exact hV) (tx.pf (Pf.nf k3))) ?_
  intro u hu
  exact bX11_readItem_74 (bX11_readItem_98 hX (hu.up k1 (Pf.nf k3)))
theorem MR.pf {N : Int} {a : AS} {σ u : St} (h : MR N a σ) (e : Pf σ u) : MR N a u := by
  obtain ⟨g, g7⟩ := e
  obtain ⟨hP, hH, hI, hT, hS, hz⟩ := h
  refine ⟨?_, ?_, ?_, ?_, ?_, by rw [g 96 (by decide) (by decide)]; exact hz⟩
  · unfold mP vwM at *
    rw [g7 1 (by decide), g 88 (by decide) (by decide)]; exact hP
  · unfold mH pastM at *
    rw [g7 4 (by decide), g 89 (by decide) (by decide), g 90 (by decide) (by decide)]; exact hH
  · unfold mI imgM at *
    rw [g 93 (by decide) (by decide), g 91 (by decide) (by decide), g 92 (by decide) (by decide)]; exact hI
  · unfold mT at *
    rw [g7 9 (by decide), g 94 (by decide) (by decide)]; exact hT
  · unfold mS at *
    rw [g7 27 (by decide), g 103 (by decide) (by decide), g 104 (by decide) (by decide)]; exact hS
theorem Pf.dn {σ u : St} (h : Pf σ u) : dn σ u := fun a ha => h.1 a (by omega) (by omega)
theorem txM_of {N : Int} {a : AS} {u : St} (h : MR N a u) : txM a.2.2.2.1.2 a.2.2.2.1.1 u := h.2.2.2.1
theorem n_block {N : Int} {a : AS} {σ : St} (h : MR N a σ) : CI mdX11_block [vr 87] σ (fun z u => z = (blockA a).1 ∧ MR N (blockA a).2 u ∧ dn σ u) := by
  refine CI_of (by decide +kernel) (Nat.le_of_ble_eq_true rfl) rfl (fun X hX => ?_)
  have ok := h.1.2
  obtain ⟨R, hR⟩ : ∃ R, R = resA a := ⟨_, rfl⟩
  have hR' : runT a.2.2.2.1.2 a.2.2.2.1.1 0 (startQ a.1) = R := hR.symm
  obtain ⟨T, hT⟩ : ∃ T, T = a.2.2.2.1.2 := ⟨_, rfl⟩
  obtain ⟨L, hL0⟩ : ∃ L, L = a.2.2.2.1.1 := ⟨_, rfl⟩
  rw [← hT, ← hL0] at hR'
  have tx : ∀ u, MR N a u → txM T L u := fun u hu => by rw [hT, hL0]; exact txM_of hu
  have hL := (tx σ h).2.1
  -- behind a fault
  have fail : ∀ (u : St) (i : Int), FT R u → Pf σ u → G mdX11_block X 102 [(0, vr 87), (1, vi i)] [] u := by
    intro u i g1 g2
    have ev : blockA a = (-10 - R.1, a) := by
      unfold blockA
      rw [← hR, if_neg (by have := g1.1; omega)]
    rw [ev] at hX
    have g := g1.1
    refine bX11_block_102 g1.nn.2 (fun c => absurd c g1.nn.1) (fun _ => bX11_block_111 hX (by rw [g.1]; exact ⟨by omega, by omega⟩) ⟨by rw [g.1], h.pf g2, g2.dn⟩)
  -- the end
  have fin : ∀ (u : St), u 87 15 = -9 → R.1 = -9 → eqv R.2.2 (dV u) → okV N R.2.2 → Pf σ u → 0 ≤ R.2.1 → R.2.1 ≤ 160 → G mdX11_block X 102 [(0, vr 87), (1, vi R.2.1)] [] u := by
    intro u g0 g1 g2 g3 g4 g5 g6
    have ev : blockA a = (R.2.1, setTS (putP (noteA a) R.2.2) (0, a.2.2.2.1.2) (0, a.2.2.2.2.2)) := by
      unfold blockA
      rw [← hR, if_pos g1]
    rw [ev] at hX
    refine bX11_block_102 (by rw [g0]; exact ⟨by decide, by decide⟩) (fun _ => ?_) (fun c => absurd g0 c)
    refine bX11_block_119 (n_note (h.pf g4)) ?_
    rintro x ⟨k1, k2⟩
    have x95 : x 95 = u 95 := k2.1 95 (by decide) (by decide) (by decide)
    have xd : dV x = dV u := dV_eq x95 (k2.2 1 (by decide))
    refine bX11_block_123 ?_
    have key : G mdX11_block X 125 [(0, vr 87), (1, vi R.2.1), (2, vi 0)] [] (setr x 88 (win 0 (x 95) (x 88))) := by
      refine loopUp (Q := fun i => G mdX11_block X 125 [(0, vr 87), (1, vi R.2.1), (2, vi i)] [] (setr x 88 (win i (x 95) (x 88)))) (n := 86) ?_ (fun i h1 h2 ih => ?_) (by decide)
      · refine bX11_block_125 ⟨by decide, by decide⟩ (fun _ => bX11_block_149 hX ⟨by omega, by omega⟩ ?_) (fun c => by omega)
        have y7 : setr x 88 (win 86 (x 95) (x 88)) 87 = x 87 := setr_ne _ _ (by decide)
        have hy : MR N (putP (noteA a) R.2.2) (setr x 88 (win 86 (x 95) (x 88))) := by
          refine k1.setP (Int.le_refl N) (fun y hy => setr_ne _ _ (by omega)) (fun j _ => by rw [y7]) ?_ g3
          rw [← xd] at g2
          have s1 := g3.2.2.1
          have s2 := g3.2.2.2.2.1
          have s3 := g2.e33
          have s4 := g2.2.2.1
          refine g2.tr (eqv_of (fun k k0 k1 => ?_) (by omega) (by omega))
          unfold dV vwM
          rw [y7, setr_at]
          by_cases q86 : k = 86
          · rw [if_pos q86, if_pos q86]
          · rw [if_neg q86, if_neg q86, win_in ⟨k0, by omega⟩]
        have ew : wr (wr (setr x 88 (win 86 (x 95) (x 88))) 87 9 0) 87 27 0 = setS (setS (setr x 88 (win 86 (x 95) (x 88))) 87 9 0) 87 27 0 := by rw [wr_setr, wr_setr]; rfl
        rw [ew]
        refine ⟨rfl, ?_, ?_⟩
        · refine hy.ts (fun y hy _ _ _ => by rw [setS_ne _ _ _ (by omega), setS_ne _ _ _ (by omega)]) (by rw [setS_at2 _ _ _ (by decide), setS_at2 _ _ _ (by decide)]) (by rw [setS_at2 _ _ _ (by decide), setS_at2 _ _ _ (by decide)]) ?_ ?_
          · exact ⟨by rw [setS_at2 _ _ _ (by decide), setS_at], ⟨by show (0 : Int) ≤ 0; decide, by show (0 : Int) ≤ 160; decide⟩, fun j c d => absurd d (by show ¬ j < 0; omega)⟩
          · exact ⟨by rw [setS_at], ⟨by show (0 : Int) ≤ 0; decide, by show (0 : Int) ≤ 6; decide⟩, fun j c d => absurd d (by show ¬ j < 0; omega)⟩
        · exact dn.tr (dn.tr g4.dn k2.dn) (dn.tr (dn.set (by decide)) (dn.tr (dn.set (by decide)) (dn.set (by decide))))
      · have w95 : setr x 88 (win i (x 95) (x 88)) 95 = x 95 := setr_ne _ _ (by decide)
        refine bX11_block_125 ⟨by omega, by omega⟩ (fun c => by omega) (fun _ => bX11_block_131 ⟨h1, h2⟩ ?_)
        rw [w95, wr_win _ _ _ _ h1 rfl]
        exact ih
    rw [win_0, setr_id] at key
    exact key
  have key : ∀ (d : Nat) (p : Int) (q : QS) (u : St), L - p < d → q.1 = 32 → JT N T L R p q u → u 87 16 = q.2.2.2.1 → eqv q.2.2.2.2.2 (dV u) → Pf σ u → G mdX11_block X 76 [(0, vr 87), (1, vi q.2.2.1)] [] u := by
    intro d
    induction d with
    | zero =>
      intro p q u g0 g2 g4 g5 g6 g7
      have hp := g4.1.1
      omega
    | succ d ih =>
      intro p q u g0 g2 g4 g5 g6 g7
      have hp := g4.1.1
      have tk := g4.tk
      have hf := g4.2.1
      have ib := g4.2.2.1.2.2.1
      refine bX11_block_76 (by rw [hf]; exact ⟨by decide, by decide⟩) (fun c => absurd hf c) (fun _ => ?_)
      refine bX11_block_85 tk.2 (fun c => ?_) (fun c => ?_)
      · rw [tk.1] at c
        have hLp : L ≤ p := by
          by_cases c2 : L ≤ p
          · exact c2
          · exfalso
            unfold tkN at c
            rw [if_neg c2] at c
            by_cases c3 : isDg (T p)
            · rw [if_pos c3] at c
              split at c <;> omega
            · rw [if_neg c3] at c
              unfold tkC at c
              split at c <;> omega
        have hr := g4.2.2.2
        rw [run_end hLp g2] at hr
        have f := fin u hf (by rw [← hr]) (by rw [← hr]; exact g6) (by rw [← hr]; exact g4.2.2.1.2.2.2.2.2) g7 (by rw [← hr]; exact ib.1) (by rw [← hr]; show q.2.2.1 ≤ 160; omega)
        rw [← hr] at f
        exact f
      · rw [tk.1] at c
        have hlt : p < L := by
          by_cases c2 : L ≤ p
          · exfalso; apply c; unfold tkN; rw [if_pos c2]
          · omega
        refine bX11_block_92 (m_readItem g4 g2 hlt g5 g6 ((tx σ h).pf g7)) ?_
        rintro x ⟨k1, k2⟩
        refine bX11_block_96 ?_
        rcases k1 with ⟨p', q', k3, k4, k5, k6, k7, k8⟩ | k1
        · rw [← k5]
          exact ih p' q' x (by omega) k4 k6 k7 k8 (g7.tr k2)
        · exact bX11_block_76 k1.nn.2 (fun _ => fail x _ k1 (g7.tr k2)) (fun c2 => absurd c2 k1.nn.1)
  refine bX11_block_0 ?_
  have lay : G mdX11_block X 2 [(0, vr 87), (1, vi 0)] [] (setr σ 95 (win 0 (fun j => if j < 32 then 0 else σ 88 j) (σ 95))) := by
    refine loopUp (Q := fun i => G mdX11_block X 2 [(0, vr 87), (1, vi i)] [] (setr σ 95 (win i (fun j => if j < 32 then 0 else σ 88 j) (σ 95)))) (n := 86) ?_ (fun i h1 h2 ih => ?_) (by decide)
    · refine bX11_block_2 ⟨by decide, by decide⟩ (fun _ => ?_) (fun c => by omega)
      generalize hw : setr σ 95 (win 86 (fun j => if j < 32 then 0 else σ 88 j) (σ 95)) = w
      have ew : wr (wr (wr (wr (wr w 95 32 4369) 95 33 0) 87 16 0) 87 11 0) 87 15 (-9) = setS (setS (setS (setS (setS w 95 32 4369) 95 33 0) 87 16 0) 87 11 0) 87 15 (-9) := by
        rw [wr_setr, wr_setr, wr_setr, wr_setr, wr_setr]; rfl
      generalize hu : setS (setS (setS (setS (setS w 95 32 4369) 95 33 0) 87 16 0) 87 11 0) 87 15 (-9) = u at ew
      have pu : Pf σ u := by
        rw [← hu, ← hw]
        exact Pf.tr Pf.row (Pf.tr Pf.row (Pf.tr Pf.row (Pf.tr (Pf.fld (by decide)) (Pf.tr (Pf.fld (by decide)) (Pf.fld (by decide))))))
      have u11 : u 87 11 = 0 := by rw [← hu, setS_at2 _ _ _ (by decide), setS_at]
      have u15 : u 87 15 = -9 := by rw [← hu, setS_at]
      have u16 : u 87 16 = 0 := by rw [← hu, setS_at2 _ _ _ (by decide), setS_at2 _ _ _ (by decide), setS_at]
      have u95 : u 95 = fun j => if j = 33 then 0 else if j = 32 then 4369 else w 95 j := by
        rw [← hu, setS_ne _ _ _ (by decide), setS_ne _ _ _ (by decide), setS_ne _ _ _ (by decide)]
        funext j
        by_cases c : j = 33
        · rw [if_pos c, c, setS_at]
        · rw [if_neg c, setS_at2 _ _ _ c]
          by_cases c2 : j = 32
          · rw [if_pos c2, c2, setS_at]
          · rw [if_neg c2, setS_at2 _ _ _ c2]
      have u95k : ∀ k, u 95 k = if k = 33 then 0 else if k = 32 then 4369 else w 95 k := fun k => by rw [u95]
      have w95 : w 95 = win 86 (fun j => if j < 32 then 0 else σ 88 j) (σ 95) := by rw [← hw, setr_at]
      have ed : eqv (startV a.1) (dV u) := by
        refine (eqv_start h.1.1).tr (eqv_of (fun k k0 k1 => ?_) (by show (0 : Int) ≤ 6; decide) ?_)
        · unfold dV startV vwM
          rw [pu.2 1 (by decide), u95k, w95]
          by_cases c86 : k = 86
          · rw [if_neg (by omega), if_neg (by omega), if_neg (by omega), if_pos c86, if_pos c86]
          · rw [if_neg c86, if_neg c86]
            by_cases c1 : k = 33
            · rw [if_neg (by omega), if_neg (by omega), if_pos c1, if_pos c1]
            · rw [if_neg c1]
              by_cases c2 : k = 32
              · rw [if_neg (by omega), if_pos c2, if_neg c1, if_pos c2]
              · rw [if_neg c2, if_neg c1, if_neg c2, win_in ⟨k0, by omega⟩]
                by_cases c3 : k < 32
                · rw [if_pos ⟨k0, c3⟩, if_pos c3]
                · rw [if_neg (by omega), if_neg c3]
        · have := h.n64
          show (if (0 : Int) ≤ 64 ∧ (64 : Int) < 32 then (0 : Int) else if (64 : Int) = 32 then 4369 else if (64 : Int) = 33 then 0 else vwM σ 64) ≤ 4
          rw [if_neg (by decide), if_neg (by decide), if_neg (by decide), vwM_at σ (by decide)]
          omega
      refine bX11_block_36 (by rw [ew]; exact m_next u ((tx σ h).pf pu) u11 ⟨by decide, hL.1⟩) ?_
      rintro x ⟨⟨p, g1, g2, g3⟩, g4⟩
      have q0 := okQ_start ok
      refine key (L - p + 1).toNat p (startQ a.1) x (by have := g2.1; omega) rfl ⟨g2, by rw [g4.2 15 (by decide)]; exact u15, ⟨q0.1, q0.2.1, ⟨q0.2.2.1.1, g2.1.1⟩, q0.2.2.2⟩, by rw [← g3]; exact hR'⟩ (by rw [g4.2 16 (by decide)]; exact u16) (by rw [dV_nf g4]; exact ed) (pu.tr (Pf.nf g4))
    · have w88 : setr σ 95 (win i (fun j => if j < 32 then 0 else σ 88 j) (σ 95)) 88 = σ 88 := setr_ne _ _ (by decide)
      have nx : ∀ v : Int, v = (if i < 32 then 0 else σ 88 i) → G mdX11_block X 29 [(0, vr 87), (1, vi i)] [vi v, vi i, vr 95] (setr σ 95 (win i (fun j => if j < 32 then 0 else σ 88 j) (σ 95))) := by
        intro v hv
        refine bX11_block_29 ⟨h1, h2⟩ ?_
        rw [wr_win _ _ _ _ h1 hv]
        exact ih
      refine bX11_block_2 ⟨by omega, by omega⟩ (fun c => by omega) (fun _ => bX11_block_8 ⟨by omega, by omega⟩ (fun c => ?_) (fun c => ?_))
      · refine bX11_block_23 ⟨h1, h2⟩ ?_
        rw [w88]
        exact nx _ (by rw [if_neg (by omega)])
      · exact bX11_block_19 (nx 0 (by rw [if_pos c]))
  rw [win_0, setr_id] at lay
  exact lay
