/-! the model: rows and marks of a text -/
theorem tkN_bd (T : Row) (L p : Int) : 0 ≤ tkN T L p ∧ tkN T L p ≤ 200 := by
  unfold tkN
  by_cases q : L ≤ p
  · rw [if_pos q]; omega
  · rw [if_neg q]
    by_cases q2 : isDg (T p)
    · rw [if_pos q2]; split <;> omega
    · rw [if_neg q2]
      unfold tkC
      by_cases q3 : T p = 120 ∨ T p = 121 ∨ T p = 109 ∨ T p = 100 ∨ T p = 59
      · rw [if_pos q3]; omega
      · rw [if_neg q3]; omega
theorem tkN_1 {T : Row} {L p : Int} (h : tkN T L p = 1) : p < L ∧ isDg (T p) ∧ ¬ valT T p (endT T L p) < 0 := by
  unfold tkN at h
  by_cases q : L ≤ p
  · rw [if_pos q] at h; omega
  · rw [if_neg q] at h
    by_cases q2 : isDg (T p)
    · rw [if_pos q2] at h
      by_cases q3 : valT T p (endT T L p) < 0
      · rw [if_pos q3] at h; omega
      · exact ⟨by omega, q2, q3⟩
    · rw [if_neg q2] at h
      unfold tkC at h
      by_cases q3 : T p = 120 ∨ T p = 121 ∨ T p = 109 ∨ T p = 100 ∨ T p = 59
      · rw [if_pos q3] at h; omega
      · rw [if_neg q3] at h; omega
/-- a letter -/
theorem tkN_c {T : Row} {L p c : Int} (h : tkN T L p = c) (hc : 3 ≤ c) : p < L ∧ ¬ isDg (T p) ∧ T p = c := by
  unfold tkN at h
  by_cases q : L ≤ p
  · rw [if_pos q] at h; omega
  · rw [if_neg q] at h
    by_cases q2 : isDg (T p)
    · rw [if_pos q2] at h
      by_cases q3 : valT T p (endT T L p) < 0
      · rw [if_pos q3] at h; omega
      · rw [if_neg q3] at h; omega
    · rw [if_neg q2] at h
      unfold tkC at h
      by_cases q3 : T p = 120 ∨ T p = 121 ∨ T p = 109 ∨ T p = 100 ∨ T p = 59
      · rw [if_pos q3] at h; exact ⟨by omega, q2, h⟩
      · rw [if_neg q3] at h; omega
theorem tok_1 {T : Row} {L p : Int} (h : tkN T L p = 1) (q : QS) : tokQ T L p q = numQ q (valT T p (endT T L p)) := by
  obtain ⟨h1, h2, h3⟩ := tkN_1 h
  unfold tokQ
  rw [if_neg (by omega), if_pos h2]
theorem tok_59 {T : Row} {L p : Int} (h : tkN T L p = 59) (q : QS) : tokQ T L p q = semQ q := by
  obtain ⟨h1, h2, h3⟩ := tkN_c h (by decide)
  unfold tokQ
  rw [if_neg (by omega), if_neg h2, if_pos h3]
theorem run_bad {T : Row} {L p : Int} {q : QS} (h0 : p ≤ L) (h : p < L → T p ≠ 32) (hq : q.1 ≠ 32) (h1 : tkN T L p ≠ 1) (h2 : tkN T L p ≠ 59) : runT T L p q = (p, 0, zR) := by
  by_cases c : L ≤ p
  · rw [run_cut c hq, show L = p by omega]
  · refine run_none (by omega) ?_
    have g := h (by omega)
    unfold tkN at h1 h2
    rw [if_neg c] at h1 h2
    unfold tokQ
    rw [if_neg g]
    by_cases q2 : isDg (T p)
    · rw [if_pos q2] at h1 ⊢
      by_cases q3 : valT T p (endT T L p) < 0
      · unfold numQ; rw [if_pos q3]
      · rw [if_neg q3] at h1; exact absurd rfl h1
    · rw [if_neg q2] at h2 ⊢
      by_cases q3 : T p = 59
      · rw [q3] at h2; exact absurd rfl h2
      · rw [if_neg q3]; unfold letQ; rw [if_neg hq]
/-- what reading may change -/
def Pf (σ u : St) : Prop := (∀ x, x ≠ 87 → x ≠ 95 → u x = σ x) ∧ ∀ j, ¬ (11 ≤ j ∧ j ≤ 16) → u 87 j = σ 87 j
theorem Pf.rf {σ : St} : Pf σ σ := ⟨fun _ _ _ => rfl, fun _ _ => rfl⟩
theorem Pf.tr {σ τ υ : St} (h1 : Pf σ τ) (h2 : Pf τ υ) : Pf σ υ := ⟨fun x a b => (h2.1 x a b).trans (h1.1 x a b), fun j a => (h2.2 j a).trans (h1.2 j a)⟩
theorem Pf.nf {σ u : St} (h : Nf σ u) : Pf σ u := ⟨fun x a _ => h.1 x a, fun j a => h.2 j (by omega)⟩
theorem Pf.row {σ : St} {f : Row} : Pf σ (setr σ 95 f) := ⟨fun x _ b => setr_ne _ _ b, fun j _ => by rw [setr_ne _ _ (by decide)]⟩
theorem Pf.fld {σ : St} {k v : Int} (h : 11 ≤ k ∧ k ≤ 16) : Pf σ (setS σ 87 k v) := ⟨fun x a _ => setS_ne _ _ _ a, fun j a => setS_at2 _ _ _ (by omega)⟩
theorem txM.pf {T : Row} {L : Int} {σ u : St} (h : txM T L σ) (e : Pf σ u) : txM T L u := by
  obtain ⟨h1, h2, h3⟩ := h
  refine ⟨by rw [e.2 9 (by decide)]; exact h1, h2, fun j a b => by rw [e.1 94 (by decide) (by decide)]; exact h3 j a b⟩
def dV (u : St) : Row := fun k => if k = 86 then u 87 1 else u 95 k
theorem dV_eq {σ u : St} (h : u 95 = σ 95) (h1 : u 87 1 = σ 87 1) : dV u = dV σ := by
  unfold dV; rw [h, h1]
theorem dV_nf {σ u : St} (h : Nf σ u) : dV u = dV σ := dV_eq (h.1 95 (by decide)) (h.2 1 (by decide))
theorem dV_set (u : St) {k x : Int} (hk : k ≠ 86) : dV (setS u 95 k x) = setV (dV u) k x := by
  funext j
  unfold dV setV
  rw [setS_ne _ _ _ (show (87 : Nat) ≠ 95 by decide)]
  by_cases q : j = 86
  · simp only [if_pos q, if_neg (show ¬ j = k by omega)]
  · simp only [if_neg q]
    by_cases q2 : j = k
    · rw [if_pos q2, q2, setS_at]
    · rw [if_neg q2, setS_at2 _ _ _ q2]
/-- where the model stands in the text -/
def JT (N : Int) (T : Row) (L : Int) (R : Int × Int × Row) (p : Int) (q : QS) (u : St) : Prop := TokAt T L p u ∧ u 87 15 = -9 ∧ okQ N p q ∧ runT T L p q = R
/-- or it has met a fault -/
def FT (R : Int × Int × Row) (u : St) : Prop := (u 87 15 = R.1 ∧ 0 ≤ R.1 ∧ R.1 ≤ 160) ∧ inI (u 87 13)
theorem JT.tk {N : Int} {T : Row} {L : Int} {R : Int × Int × Row} {p : Int} {q : QS} {u : St} (h : JT N T L R p q u) : u 87 13 = tkN T L p ∧ inI (u 87 13) := by
  have := tkN_bd T L p
  have e := h.1.2.2.1
  exact ⟨e, by rw [e]; exact ⟨by omega, by omega⟩⟩
theorem J_next {N : Int} {T : Row} {L : Int} {R : Int × Int × Row} {p : Int} {q q' : QS} {u w : St} (h : JT N T L R p q u) (hw : w 87 = u 87) (tx : txM T L w) (hp : p < L) (ht : tokQ T L p q = some q') : CV mdX11_next [vr 87] w (fun x => (∃ p', p < p' ∧ JT N T L R p' q' x) ∧ Nf w x) := by
  obtain ⟨h1, h2, h3, h4⟩ := h
  have hL := tx.2.1
  have hb := endT_bd (T := T) h1.1.1 hp hL.2
  have hp0 := h1.1.1
  refine (m_next w tx (e := endT T L p) (by rw [hw]; exact (h1.2.2.2.1 hp).2) ⟨by omega, hb.2⟩).mono ?_
  rintro x ⟨⟨p', g1, g2, g3⟩, g4⟩
  refine ⟨⟨p', by omega, g2, by rw [g4.2 15 (by decide), hw]; exact h2, ?_, ?_⟩, g4⟩
  · have ok := okQ_tok ⟨h1.1.1, hp⟩ hL.2 h3 ht
    exact ⟨ok.1, ok.2.1, ⟨ok.2.2.1.1, by have := ok.2.2.1.2; omega⟩, ok.2.2.2⟩
  · rw [← g3, ← run_step hL.2 h1.1.1 hp ht]; exact h4
theorem J_fault {N : Int} {T : Row} {L : Int} {R : Int × Int × Row} {p : Int} {q : QS} {u w : St} (h : JT N T L R p q u) (hw : w 87 = u 87) (hL : L ≤ 160) (hr : runT T L p q = (p, 0, zR)) : FT R (setS w 87 15 (w 87 12)) := by
  obtain ⟨h1, h2, h3, h4⟩ := id h
  rw [hr] at h4
  refine ⟨⟨by rw [setS_at, hw, h1.2.1, ← h4], by rw [← h4]; exact h1.1.1, by rw [← h4]; show p ≤ 160; have := h1.1.2; omega⟩, by rw [setS_at2 _ _ _ (by decide), hw]; exact h.tk.2⟩
theorem m_must_f (σ : St) (h : inI (σ 87 15)) (hf : σ 87 15 ≠ -9) (t : Int) : CVe mdX11_must [vr 87, vi t] σ σ := by
  refine CV_of (by decide +kernel) (Nat.le_of_ble_eq_true rfl) rfl (fun X hX => ?_)
  exact bX11_must_0 h (fun _ => bX11_must_28 hX rfl) (fun c => absurd c hf)
theorem m_must_0 (σ : St) (hf : σ 87 15 = -9) : CVe mdX11_must [vr 87, vi 0] σ (setS σ 87 15 (σ 87 12)) := by
  refine CV_of (by decide +kernel) (Nat.le_of_ble_eq_true rfl) rfl (fun X hX => ?_)
  refine bX11_must_0 (by rw [hf]; exact ⟨by decide, by decide⟩) (fun c => absurd hf c) (fun _ => bX11_must_9 ⟨by decide, by decide⟩ (fun _ => bX11_must_20 (bX11_must_28 hX ?_)) (fun c => absurd rfl c))
  rw [wr_setr]; rfl
theorem m_must_1 {P : St → Prop} (σ : St) (hf : σ 87 15 = -9) (h : CV mdX11_next [vr 87] σ P) : CV mdX11_must [vr 87, vi 1] σ P := by
  refine CV_of (by decide +kernel) (Nat.le_of_ble_eq_true rfl) rfl (fun X hX => ?_)
  refine bX11_must_0 (by rw [hf]; exact ⟨by decide, by decide⟩) (fun c => absurd hf c) (fun _ => bX11_must_9 ⟨by decide, by decide⟩ (fun c => absurd c (by decide)) (fun _ => bX11_must_13 h ?_))
  intro u hu
  exact bX11_must_17 (bX11_must_28 hX hu)
/-- how the reading of an item ends -/
def EndI (N : Int) (T : Row) (L : Int) (R : Int × Int × Row) (σ : St) (p n : Int) (u : St) : Prop := ((∃ p' q', p < p' ∧ q'.1 = 32 ∧ q'.2.2.1 = n + 1 ∧ JT N T L R p' q' u ∧ u 87 16 = q'.2.2.2.1 ∧ eqv q'.2.2.2.2.2 (dV u)) ∨ FT R u) ∧ Pf σ u
/-- a token that must be a semicolon, and an item that is whole -/
theorem J_end1 {N : Int} {T : Row} {L : Int} {R : Int × Int × Row} {p : Int} {q : QS} {u : St} (h : JT N T L R p q u) (tx : txM T L u) (g1 : tkN T L p = 59) (g2 : whQ q) : CV mdX11_must [vr 87, vi 1] u (fun x => (∃ p', p < p' ∧ JT N T L R p' (32, 0, q.2.2.1 + 1, q.2.2.2.1, q.2.2.2.2.1, if q.1 = 100 then appD q.2.2.2.2.2 q.2.2.2.2.1 else q.2.2.2.2.2) x) ∧ Nf u x) := by
  have es : semQ q = some (32, 0, q.2.2.1 + 1, q.2.2.2.1, q.2.2.2.2.1, if q.1 = 100 then appD q.2.2.2.2.2 q.2.2.2.2.1 else q.2.2.2.2.2) := by unfold semQ; rw [if_pos g2]
  exact m_must_1 u h.2.1 (J_next h rfl tx (tkN_c g1 (by decide)).1 ((tok_59 g1 q).trans es))
theorem J_end0 {N : Int} {T : Row} {L : Int} {R : Int × Int × Row} {p : Int} {q : QS} {u : St} (h : JT N T L R p q u) (tx : txM T L u) (hq : q.1 ≠ 32) (n1 : tkN T L p = 1 → numQ q (valT T p (endT T L p)) = none) (g1 : ¬ (tkN T L p = 59 ∧ whQ q)) : runT T L p q = (p, 0, zR) ∧ CV mdX11_must [vr 87, vi 0] u (fun x => FT R x ∧ Pf u x ∧ x 95 = u 95) := by
  have hr : runT T L p q = (p, 0, zR) := by
    have hp := h.1.1
    by_cases c : tkN T L p = 59
    · have c2 := tkN_c c (by decide)
      refine run_none c2.1 ?_
      rw [tok_59 c]
      unfold semQ
      rw [if_neg (fun g => g1 ⟨c, g⟩)]
    · by_cases c3 : tkN T L p = 1
      · refine run_none (tkN_1 c3).1 ?_
        rw [tok_1 c3]
        exact n1 c3
      · exact run_bad hp.2 (fun g => (h.1.2.2.2.1 g).1) hq c3 c
  refine ⟨hr, (m_must_0 u h.2.1).mono ?_⟩
  rintro x rfl
  exact ⟨J_fault h rfl tx.2.1.2 hr, Pf.fld (by decide), setS_ne _ _ _ (by decide)⟩
