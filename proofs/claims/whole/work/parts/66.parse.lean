/-! how a text is read -/
abbrev QS : Type := Int × Int × Int × Int × Row × Row
abbrev isDg (c : Int) : Prop := 48 ≤ c ∧ c ≤ 57
def numQ (q : QS) (v : Int) : Option QS :=
  if v < 0 then none
  else if q.1 = 120 then (if q.2.1 < 16 ∧ v < 4 then some (120, q.2.1 + 1, q.2.2.1, q.2.2.2.1, q.2.2.2.2.1, setV q.2.2.2.2.2 q.2.1 v) else none)
  else if q.1 = 121 then (if q.2.1 < 16 ∧ v < 4 then some (121, q.2.1 + 1, q.2.2.1, q.2.2.2.1, q.2.2.2.2.1, setV q.2.2.2.2.2 (16 + q.2.1) v) else none)
  else if q.1 = 109 then (if v < 16 ∧ mk (q.2.2.2.2.2 32) v = false then some (109, q.2.1, q.2.2.1, q.2.2.2.1, q.2.2.2.2.1, setV q.2.2.2.2.2 32 (mset (q.2.2.2.2.2 32) v)) else none)
  else if q.1 = 100 then (if q.2.1 < 5 ∧ alw 106 q.2.2.2.2.1 q.2.1 v = true then some (100, q.2.1 + 1, q.2.2.1, q.2.2.2.1, setV q.2.2.2.2.1 q.2.1 v, q.2.2.2.2.2) else none)
  else none
abbrev whQ (q : QS) : Prop := ((q.1 = 120 ∨ q.1 = 121) ∧ 0 < q.2.1) ∨ q.1 = 109 ∨ (q.1 = 100 ∧ q.2.1 = 5)
def semQ (q : QS) : Option QS := if whQ q then some (32, 0, q.2.2.1 + 1, q.2.2.2.1, q.2.2.2.2.1, if q.1 = 100 then appD q.2.2.2.2.2 q.2.2.2.2.1 else q.2.2.2.2.2) else none
def rowZ (V : Row) (r : Int) : Row := fun j => if r * 16 ≤ j ∧ j < r * 16 + 16 then 0 else V j
def letQ (q : QS) (c : Int) : Option QS :=
  if q.1 = 32 then
    (if c = 120 then some (120, 0, q.2.2.1, q.2.2.2.1, q.2.2.2.2.1, rowZ q.2.2.2.2.2 0)
    else if c = 121 then some (121, 0, q.2.2.1, q.2.2.2.1, q.2.2.2.2.1, rowZ q.2.2.2.2.2 1)
    else if c = 109 then (if q.2.2.2.1 = 0 then some (109, 0, q.2.2.1, 1, q.2.2.2.2.1, setV q.2.2.2.2.2 32 0) else none)
    else if c = 100 then (if q.2.2.2.2.2 33 < 6 then some (100, 0, q.2.2.1, q.2.2.2.1, q.2.2.2.2.1, q.2.2.2.2.2) else none)
    else none)
  else none
def dgE (T : Row) (L : Int) : Nat → Int → Int
  | 0, p => p
  | n + 1, p => if p < L ∧ isDg (T p) then dgE T L n (p + 1) else p
def endT (T : Row) (L p : Int) : Int := if isDg (T p) then dgE T L 160 (p + 1) else p + 1
def valT (T : Row) (p e : Int) : Int := if e - p = 1 then T p - 48 else if 2 < e - p ∨ T p = 48 then -1 else 10 * (T p - 48) + T (p + 1) - 48
def tokQ (T : Row) (L p : Int) (q : QS) : Option QS := if T p = 32 then some q else if isDg (T p) then numQ q (valT T p (endT T L p)) else if T p = 59 then semQ q else letQ q (T p)
def runQ (T : Row) (L : Int) : Nat → Int → QS → Int × Int × Row
  | 0, _, _ => (L, 0, zR)
  | n + 1, p, q => if p < L then (match tokQ T L p q with
      | none => (p, 0, zR)
      | some q' => runQ T L n (endT T L p) q') else if q.1 = 32 then (-9, q.2.2.1, q.2.2.2.2.2) else (L, 0, zR)
-- where a number ends
theorem dgE_ok (T : Row) (L : Int) : ∀ (n : Nat) (p : Int), p ≤ L → L - p ≤ n → p ≤ dgE T L n p ∧ dgE T L n p ≤ L ∧ (∀ j, p ≤ j → j < dgE T L n p → isDg (T j)) ∧ (dgE T L n p < L → ¬ isDg (T (dgE T L n p)))
  | 0, p, h1, h2 => by
    unfold dgE
    exact ⟨by omega, h1, fun j a b => by omega, fun g => by omega⟩
  | n + 1, p, h1, h2 => by
    unfold dgE
    by_cases q : p < L ∧ isDg (T p)
    · rw [if_pos q]
      have ih := dgE_ok T L n (p + 1) (by omega) (by omega)
      refine ⟨by omega, ih.2.1, fun j a b => ?_, ih.2.2.2⟩
      by_cases e : j = p
      · rw [e]; exact q.2
      · exact ih.2.2.1 j (by omega) b
    · rw [if_neg q]
      exact ⟨by omega, h1, fun j a b => by omega, fun g g2 => q ⟨g, g2⟩⟩
theorem dgE_uniq {T : Row} {L p e : Int} (h1 : p ≤ e) (h2 : e ≤ L) (h3 : ∀ j, p ≤ j → j < e → isDg (T j)) (h4 : e = L ∨ ¬ isDg (T e)) {n : Nat} (hn : L - p ≤ n) : dgE T L n p = e := by
  have h := dgE_ok T L n p (by omega) hn
  by_cases q : dgE T L n p < e
  · exact absurd (h3 _ h.1 q) (h.2.2.2 (by omega))
  · by_cases q2 : e < dgE T L n p
    · rcases h4 with h4 | h4
      · omega
      · exact absurd (h.2.2.1 e h1 q2) h4
    · omega
theorem endT_bd {T : Row} {L p : Int} (h0 : 0 ≤ p) (h : p < L) (hL : L ≤ 160) : p + 1 ≤ endT T L p ∧ endT T L p ≤ L := by
  unfold endT
  by_cases q : isDg (T p)
  · rw [if_pos q]
    have := dgE_ok T L 160 (p + 1) (by omega) (by omega)
    exact ⟨this.1, this.2.1⟩
  · rw [if_neg q]; omega
theorem endT_num {T : Row} {L p e : Int} (hp : 0 ≤ p) (hL : L ≤ 160) (h1 : p < e) (h2 : e ≤ L) (h3 : ∀ j, p ≤ j → j < e → isDg (T j)) (h4 : e = L ∨ ¬ isDg (T e)) : endT T L p = e := by
  unfold endT
  rw [if_pos (h3 p (by omega) h1)]
  exact dgE_uniq (by omega) h2 (fun j a b => h3 j (by omega) b) h4 (by omega)
-- a run
theorem runQ_fuel {T : Row} {L : Int} (hL : L ≤ 160) : ∀ (n m : Nat) (p : Int) (q : QS), 0 ≤ p → L - p < n → L - p < m → 0 < n → 0 < m → runQ T L n p q = runQ T L m p q
  | 0, _, p, q, _, _, _, h, _ => absurd h (by decide)
  | _, 0, p, q, _, _, _, _, h => absurd h (by decide)
  | n + 1, m + 1, p, q, h0, h1, h2, _, _ => by
    unfold runQ
    by_cases g : p < L
    · rw [if_pos g, if_pos g]
      have hb := endT_bd (T := T) h0 g hL
      cases tokQ T L p q with
      | none => rfl
      | some q' => exact runQ_fuel hL n m _ q' (by omega) (by omega) (by omega) (by omega) (by omega)
    · rw [if_neg g, if_neg g]
def runT (T : Row) (L p : Int) (q : QS) : Int × Int × Row := runQ T L 161 p q
theorem run_step {T : Row} {L p : Int} {q q' : QS} (hL : L ≤ 160) (h0 : 0 ≤ p) (h : p < L) (e : tokQ T L p q = some q') : runT T L p q = runT T L (endT T L p) q' := by
  have hb := endT_bd (T := T) h0 h hL
  have g := runQ_fuel (T := T) hL 160 161 (endT T L p) q' (by omega) (by omega) (by omega) (by decide) (by decide)
  unfold runT
  rw [← g]
  show (if p < L then _ else _) = _
  rw [if_pos h, e]
theorem run_none {T : Row} {L p : Int} {q : QS} (h : p < L) (e : tokQ T L p q = none) : runT T L p q = (p, 0, zR) := by
  show (if p < L then _ else _) = _
  rw [if_pos h, e]
theorem run_end {T : Row} {L p : Int} {q : QS} (h : L ≤ p) (e : q.1 = 32) : runT T L p q = (-9, q.2.2.1, q.2.2.2.2.2) := by
  show (if p < L then _ else _) = _
  rw [if_neg (by omega), if_pos e]
theorem run_cut {T : Row} {L p : Int} {q : QS} (h : L ≤ p) (e : q.1 ≠ 32) : runT T L p q = (L, 0, zR) := by
  show (if p < L then _ else _) = _
  rw [if_neg (by omega), if_neg e]
theorem endT_1 {T : Row} {L p : Int} (h : ¬ isDg (T p)) : endT T L p = p + 1 := if_neg h
theorem run_blank {T : Row} {L p : Int} {q : QS} (hL : L ≤ 160) (h0 : 0 ≤ p) (h : p < L) (e : T p = 32) : runT T L p q = runT T L (p + 1) q := by
  have g : tokQ T L p q = some q := by unfold tokQ; rw [if_pos e]
  rw [run_step hL h0 h g, endT_1 (by rw [e]; decide)]
/-- what is always so while it is read -/
def okQ (N : Int) (p : Int) (q : QS) : Prop := (q.1 = 32 ∨ q.1 = 120 ∨ q.1 = 121 ∨ q.1 = 109 ∨ q.1 = 100) ∧ (0 ≤ q.2.1 ∧ q.2.1 ≤ 16) ∧ (0 ≤ q.2.2.1 ∧ q.2.2.1 ≤ p) ∧ (q.2.2.2.1 = 0 ∨ q.2.2.2.1 = 1) ∧ (q.1 = 100 → q.2.1 ≤ 5 ∧ q.2.2.2.2.2 33 < 6 ∧ ∀ j, 0 ≤ j → j < q.2.1 → alw 106 q.2.2.2.2.1 j (q.2.2.2.2.1 j) = true) ∧ okV N q.2.2.2.2.2
theorem alw_told {o : Nat} {f g : Row} {i v : Int} (h : ∀ j, 0 ≤ j → j < i → f j = g j) (hi : 0 ≤ i) : alw o f i v = alw o g i v := by
  unfold alw
  by_cases q : i = 0
  · rw [if_pos q, if_pos q]
  · rw [if_neg q, if_neg q, h 0 (by decide) (by omega)]
    by_cases q4 : i = 4
    · rw [h 1 (by decide) (by omega), h 2 (by decide) (by omega), h 3 (by decide) (by omega)]
    · have e1 : ¬ (g 0 = 1 ∧ i = 4) := fun g => q4 g.2
      rw [if_neg e1, if_neg e1]
theorem alw_bd {f : Row} (h0 : 0 ≤ f 0 ∧ f 0 < 5) {i v : Int} (hi : 1 ≤ i ∧ i < 5) (h : alw 106 f i v = true) : 0 ≤ v ∧ v ≤ 96 := by
  unfold alw at h
  rw [if_neg (by omega)] at h
  by_cases q : rot 106 (8 * f 0 + 2 * (i - 1)) ≤ v ∧ v ≤ rot 106 (8 * f 0 + 2 * (i - 1) + 1)
  · have b1 := rot_bd (8 * f 0 + 2 * (i - 1)).toNat (by omega)
    have b2 := rot_bd (8 * f 0 + 2 * (i - 1) + 1).toNat (by omega)
    rw [Int.toNat_of_nonneg (by omega)] at b1 b2
    omega
  · rw [if_neg q] at h
    exact absurd h (by decide)
