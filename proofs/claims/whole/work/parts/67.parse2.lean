/-! how a text is read: what stays so -/
theorem okV_rowZ {N : Int} {V : Row} (h : okV N V) {r : Int} (hr : r = 0 ∨ r = 1) : okV N (rowZ V r) := by
  obtain ⟨g1, g2, g3, g4, g5, g6, g7, g8⟩ := id h
  have ne : ∀ j, 32 ≤ j → rowZ V r j = V j := fun j c => by unfold rowZ; rw [if_neg (by omega)]
  refine h.alt (fun i c d => ?_) (by rw [ne _ (by decide)]; exact g2) (by rw [ne _ (by decide)]; omega) (fun j c d => ne _ (by omega)) (by rw [ne _ (by decide)]; omega) (fun j c d => ne _ (by omega)) (by rw [ne _ (by decide)]; exact g7) (by rw [ne _ (by decide)]; exact g8)
  unfold rowZ
  by_cases q : r * 16 ≤ i ∧ i < r * 16 + 16
  · rw [if_pos q]; omega
  · rw [if_neg q]; exact g1 i c d
theorem eqv_rowZ {v w : Row} (h : eqv v w) {r : Int} (hr : r = 0 ∨ r = 1) : eqv (rowZ v r) (rowZ w r) := by
  obtain ⟨a1, a2, a3, a4, a5, a6⟩ := h
  have ne : ∀ (x : Row) j, 32 ≤ j → rowZ x r j = x j := fun x j c => by unfold rowZ; rw [if_neg (by omega)]
  refine ⟨fun j c d => ?_, fun j c d => by rw [ne _ 33 (by decide)] at d; rw [ne _ _ (by omega), ne _ _ (by omega)]; exact a2 j c d, by rw [ne _ _ (by decide), ne _ _ (by decide)]; exact a3, fun j c d => by rw [ne _ 64 (by decide)] at d; rw [ne _ _ (by omega), ne _ _ (by omega)]; exact a4 j c d, by rw [ne _ _ (by decide), ne _ _ (by decide)]; exact a5, by rw [ne _ _ (by decide), ne _ _ (by decide)]; exact a6⟩
  unfold rowZ
  by_cases q : r * 16 ≤ j ∧ j < r * 16 + 16
  · rw [if_pos q, if_pos q]
  · rw [if_neg q, if_neg q]; exact a1 j c d
/-- a whole step is a deed -/
theorem okQ_deed {N p : Int} {q : QS} (h : okQ N p q) (h1 : q.1 = 100) (h5 : q.2.1 = 5) : okD (q.2.2.2.2.1 0) (q.2.2.2.2.1 1) (q.2.2.2.2.1 2) (q.2.2.2.2.1 3) (q.2.2.2.2.1 4) := by
  have g := (h.2.2.2.2.1 h1).2.2
  refine posD.mp (posB_5.mp ?_)
  unfold posB
  rw [g 0 (by decide) (by omega), g 1 (by decide) (by omega), g 2 (by decide) (by omega), g 3 (by decide) (by omega), g 4 (by decide) (by omega)]
  rfl
theorem okQ_num {N p e v : Int} {q q' : QS} (h : okQ N p q) (he : p ≤ e) (hn : numQ q v = some q') : okQ N e q' := by
  obtain ⟨h1, h2, h3, h4, h5, h6⟩ := h
  unfold numQ at hn
  by_cases c0 : v < 0
  · rw [if_pos c0] at hn; exact absurd hn (by simp)
  rw [if_neg c0] at hn
  by_cases c1 : q.1 = 120
  · rw [if_pos c1] at hn
    by_cases c : q.2.1 < 16 ∧ v < 4
    · rw [if_pos c] at hn
      obtain rfl := Option.some.inj hn
      exact ⟨Or.inr (Or.inl rfl), ⟨by show 0 ≤ q.2.1 + 1; omega, by show q.2.1 + 1 ≤ 16; omega⟩, ⟨h3.1, by show q.2.2.1 ≤ e; omega⟩, h4, fun g => absurd g (show ¬ (120 : Int) = 100 by decide), h6.set (Or.inl ⟨h2.1, by omega, by omega, by omega⟩)⟩
    · rw [if_neg c] at hn; exact absurd hn (by simp)
  rw [if_neg c1] at hn
  by_cases c2 : q.1 = 121
  · rw [if_pos c2] at hn
    by_cases c : q.2.1 < 16 ∧ v < 4
    · rw [if_pos c] at hn
      obtain rfl := Option.some.inj hn
      exact ⟨Or.inr (Or.inr (Or.inl rfl)), ⟨by show 0 ≤ q.2.1 + 1; omega, by show q.2.1 + 1 ≤ 16; omega⟩, ⟨h3.1, by show q.2.2.1 ≤ e; omega⟩, h4, fun g => absurd g (show ¬ (121 : Int) = 100 by decide), h6.set (Or.inl ⟨by omega, by omega, by omega, by omega⟩)⟩
    · rw [if_neg c] at hn; exact absurd hn (by simp)
  rw [if_neg c2] at hn
  by_cases c3 : q.1 = 109
  · rw [if_pos c3] at hn
    by_cases c : v < 16 ∧ mk (q.2.2.2.2.2 32) v = false
    · rw [if_pos c] at hn
      obtain rfl := Option.some.inj hn
      exact ⟨Or.inr (Or.inr (Or.inr (Or.inl rfl))), h2, ⟨h3.1, by show q.2.2.1 ≤ e; omega⟩, h4, fun g => absurd g (show ¬ (109 : Int) = 100 by decide), h6.set (Or.inr ⟨rfl, mset_bd h6.2.1 ⟨by omega, c.1⟩ c.2⟩)⟩
    · rw [if_neg c] at hn; exact absurd hn (by simp)
  rw [if_neg c3] at hn
  by_cases c4 : q.1 = 100
  · rw [if_pos c4] at hn
    by_cases c : q.2.1 < 5 ∧ alw 106 q.2.2.2.2.1 q.2.1 v = true
    · rw [if_pos c] at hn
      obtain rfl := Option.some.inj hn
      obtain ⟨g1, g2, g3⟩ := h5 c4
      refine ⟨Or.inr (Or.inr (Or.inr (Or.inr rfl))), ⟨by show 0 ≤ q.2.1 + 1; omega, by show q.2.1 + 1 ≤ 16; omega⟩, ⟨h3.1, by show q.2.2.1 ≤ e; omega⟩, h4, fun _ => ⟨by show q.2.1 + 1 ≤ 5; omega, g2, fun j a b => ?_⟩, h6⟩
      have b' : j < q.2.1 + 1 := b
      show alw 106 (setV q.2.2.2.2.1 q.2.1 v) j (setV q.2.2.2.2.1 q.2.1 v j) = true
      rw [alw_told (g := q.2.2.2.2.1) (fun i x y => setV_ne _ _ (by omega)) a]
      by_cases e : j = q.2.1
      · rw [e, setV_at]; exact c.2
      · rw [setV_ne _ _ e]; exact g3 j a (by omega)
    · rw [if_neg c] at hn; exact absurd hn (by simp)
  · rw [if_neg c4] at hn; exact absurd hn (by simp)
theorem okQ_sem {N p : Int} {q q' : QS} (h : okQ N p q) (hn : semQ q = some q') : okQ N (p + 1) q' := by
  unfold semQ at hn
  by_cases c : whQ q
  · rw [if_pos c] at hn
    obtain rfl := Option.some.inj hn
    have hd := fun c1 c2 => okQ_deed h c1 c2
    obtain ⟨h1, h2, h3, h4, h5, h6⟩ := h
    refine ⟨Or.inl rfl, ⟨by show (0 : Int) ≤ 0; decide, by show (0 : Int) ≤ 16; decide⟩, ⟨by show 0 ≤ q.2.2.1 + 1; omega, by show q.2.2.1 + 1 ≤ p + 1; omega⟩, h4, fun g => absurd g (show ¬ (32 : Int) = 100 by decide), ?_⟩
    show okV N (if q.1 = 100 then appD q.2.2.2.2.2 q.2.2.2.2.1 else q.2.2.2.2.2)
    by_cases c1 : q.1 = 100
    · rw [if_pos c1]
      have h55 : q.2.1 = 5 := by
        rcases c with ⟨c, -⟩ | c | ⟨-, c⟩
        · omega
        · omega
        · exact c
      exact okV_appD h6 (h5 c1).2.1 (hd c1 h55)
    · rw [if_neg c1]; exact h6
  · rw [if_neg c] at hn; exact absurd hn (by simp)
theorem okQ_let {N p c : Int} {q q' : QS} (h : okQ N p q) (hn : letQ q c = some q') : okQ N (p + 1) q' := by
  obtain ⟨h1, h2, h3, h4, h5, h6⟩ := h
  have z1 : (0 : Int) ≤ 0 ∧ (0 : Int) ≤ 16 := ⟨by decide, by decide⟩
  unfold letQ at hn
  by_cases c0 : q.1 = 32
  · rw [if_pos c0] at hn
    by_cases c1 : c = 120
    · rw [if_pos c1] at hn
      obtain rfl := Option.some.inj hn
      exact ⟨Or.inr (Or.inl rfl), z1, ⟨h3.1, by show q.2.2.1 ≤ p + 1; omega⟩, h4, fun g => absurd g (show ¬ (120 : Int) = 100 by decide), okV_rowZ h6 (Or.inl rfl)⟩
    rw [if_neg c1] at hn
    by_cases c2 : c = 121
    · rw [if_pos c2] at hn
      obtain rfl := Option.some.inj hn
      exact ⟨Or.inr (Or.inr (Or.inl rfl)), z1, ⟨h3.1, by show q.2.2.1 ≤ p + 1; omega⟩, h4, fun g => absurd g (show ¬ (121 : Int) = 100 by decide), okV_rowZ h6 (Or.inr rfl)⟩
    rw [if_neg c2] at hn
    by_cases c3 : c = 109
    · rw [if_pos c3] at hn
      by_cases c5 : q.2.2.2.1 = 0
      · rw [if_pos c5] at hn
        obtain rfl := Option.some.inj hn
        exact ⟨Or.inr (Or.inr (Or.inr (Or.inl rfl))), z1, ⟨h3.1, by show q.2.2.1 ≤ p + 1; omega⟩, Or.inr rfl, fun g => absurd g (show ¬ (109 : Int) = 100 by decide), h6.set (Or.inr ⟨rfl, by decide, by decide⟩)⟩
      · rw [if_neg c5] at hn; exact absurd hn (by simp)
    rw [if_neg c3] at hn
    by_cases c4 : c = 100
    · rw [if_pos c4] at hn
      by_cases c5 : q.2.2.2.2.2 33 < 6
      · rw [if_pos c5] at hn
        obtain rfl := Option.some.inj hn
        exact ⟨Or.inr (Or.inr (Or.inr (Or.inr rfl))), z1, ⟨h3.1, by show q.2.2.1 ≤ p + 1; omega⟩, h4, fun _ => ⟨by show (0 : Int) ≤ 5; decide, c5, fun j a b => absurd b (by show ¬ j < 0; omega)⟩, h6⟩
      · rw [if_neg c5] at hn; exact absurd hn (by simp)
    · rw [if_neg c4] at hn; exact absurd hn (by simp)
  · rw [if_neg c0] at hn; exact absurd hn (by simp)
theorem okQ_tok {N L p : Int} {T : Row} {q q' : QS} (hp : 0 ≤ p ∧ p < L) (hL : L ≤ 160) (h : okQ N p q) (hn : tokQ T L p q = some q') : okQ N (endT T L p) q' := by
  have hb := endT_bd (T := T) hp.1 hp.2 hL
  unfold tokQ at hn
  by_cases c1 : T p = 32
  · rw [if_pos c1] at hn
    obtain rfl := Option.some.inj hn
    exact ⟨h.1, h.2.1, ⟨h.2.2.1.1, by have := h.2.2.1.2; omega⟩, h.2.2.2⟩
  rw [if_neg c1] at hn
  by_cases c2 : isDg (T p)
  · rw [if_pos c2] at hn
    exact okQ_num h (by omega) hn
  rw [if_neg c2] at hn
  rw [endT_1 c2]
  by_cases c3 : T p = 59
  · rw [if_pos c3] at hn; exact okQ_sem h hn
  · rw [if_neg c3] at hn; exact okQ_let h hn
/-- the draft before the first item -/
def startV (P : Row) : Row := fun j => if 0 ≤ j ∧ j < 32 then 0 else if j = 32 then 4369 else if j = 33 then 0 else P j
def startQ (P : Row) : QS := (32, 0, 0, 0, zR, startV P)
theorem okV_start {N : Int} {P : Row} (h : okV N P) : okV N (startV P) := by
  obtain ⟨g1, g2, g3, g4, g5, g6, g7, g8⟩ := id h
  have hi : ∀ j, 34 ≤ j → startV P j = P j := fun j c => by unfold startV; rw [if_neg (by omega), if_neg (by omega), if_neg (by omega)]
  have e33 : startV P 33 = 0 := rfl
  have e32 : startV P 32 = 4369 := rfl
  refine h.alt (fun i c d => by unfold startV; rw [if_pos ⟨c, d⟩]; decide) (by rw [e32]; decide) (by rw [e33]; omega) (fun j c d => hi j (by omega)) (by rw [hi _ (by decide)]; omega) (fun j c d => hi _ (by omega)) (by rw [hi _ (by decide)]; exact g7) (by rw [hi _ (by decide)]; exact g8)
theorem okQ_start {N : Int} {P : Row} (h : okV N P) : okQ N 0 (startQ P) := ⟨Or.inl rfl, ⟨by show (0 : Int) ≤ 0; decide, by show (0 : Int) ≤ 16; decide⟩, ⟨by show (0 : Int) ≤ 0; decide, by show (0 : Int) ≤ 0; decide⟩, Or.inl rfl, fun g => absurd g (show ¬ (32 : Int) = 100 by decide), okV_start h⟩
theorem eqv_start {v w : Row} (h : eqv v w) : eqv (startV v) (startV w) := by
  obtain ⟨a1, a2, a3, a4, a5, a6⟩ := h
  have hi : ∀ (x : Row) j, 34 ≤ j → startV x j = x j := fun x j c => by unfold startV; rw [if_neg (by omega), if_neg (by omega), if_neg (by omega)]
  have e33 : ∀ x, startV x 33 = 0 := fun _ => rfl
  refine ⟨fun j c d => ?_, fun j c d => by rw [e33] at d; omega, by rw [hi _ _ (by decide), hi _ _ (by decide)]; exact a3, fun j c d => by rw [hi _ 64 (by decide)] at d; rw [hi _ _ (by omega), hi _ _ (by omega)]; exact a4 j c d, by rw [hi _ _ (by decide), hi _ _ (by decide)]; exact a5, by rw [hi _ _ (by decide), hi _ _ (by decide)]; exact a6⟩
  unfold startV
  by_cases q : 0 ≤ j ∧ j < 32
  · rw [if_pos q, if_pos q]
  · rw [if_neg q, if_neg q]
    by_cases q2 : j = 32
    · rw [if_pos q2, if_pos q2]
    · rw [if_neg q2, if_neg q2, if_pos (by omega), if_pos (by omega)]
def resA (a : AS) : Int × Int × Row := runT a.2.2.2.1.2 a.2.2.2.1.1 0 (startQ a.1)
def blockA (a : AS) : Int × AS := if (resA a).1 = -9 then ((resA a).2.1, setTS (putP (noteA a) (resA a).2.2) (0, a.2.2.2.1.2) (0, a.2.2.2.2.2)) else (-10 - (resA a).1, a)
