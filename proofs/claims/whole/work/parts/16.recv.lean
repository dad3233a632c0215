/-! deeds, stages, what is received -/
def okT (a b c d : Int) : Prop := c97 a ∧ c97 b ∧ c97 c ∧ c97 d ∧ (a * d - b * c) % 97 ≠ 0
def okD (k a b c d : Int) : Prop := (k = 0 ∧ (1 ≤ a ∧ a ≤ 96) ∧ pw a 16 ≠ 1 ∧ b = 0 ∧ c = 0 ∧ d = 0) ∨ (k = 1 ∧ okT a b c d) ∨ (k = 2 ∧ (0 ≤ a ∧ a ≤ 15) ∧ (1 ≤ b ∧ b ≤ 3) ∧ c = 0 ∧ d = 0) ∨ (k = 3 ∧ (1 ≤ a ∧ a ≤ 15) ∧ b = 0 ∧ c = 0 ∧ d = 0) ∨ (k = 4 ∧ (0 ≤ a ∧ a ≤ 1) ∧ (0 ≤ b ∧ b ≤ 15) ∧ (1 ≤ c ∧ c ≤ 96) ∧ d = 0)
def okS (k a b c d : Int) : Prop := (k = 0 ∧ (1 ≤ a ∧ a ≤ 96) ∧ pw a 16 ≠ 1 ∧ b = 0 ∧ c = 0 ∧ d = 0) ∨ (k = 1 ∧ okT a b c d) ∨ (k = 2 ∧ (1 ≤ a ∧ a ≤ 15) ∧ b = 0 ∧ c = 0 ∧ d = 0) ∨ ((k = 3 ∨ k = 4) ∧ a = 0 ∧ b = 0 ∧ c = 0 ∧ d = 0)
theorem okD_bd {k a b c d : Int} (h : okD k a b c d) : (0 ≤ k ∧ k ≤ 4) ∧ c97 a ∧ c97 b ∧ c97 c ∧ c97 d := by
  unfold c97
  rcases h with ⟨h1, h2, h3, h4, h5, h6⟩ | ⟨h1, h2⟩ | ⟨h1, h2, h3, h4, h5⟩ | ⟨h1, h2, h3, h4, h5⟩ | ⟨h1, h2, h3, h4, h5⟩
  · omega
  · exact ⟨by omega, h2.1, h2.2.1, h2.2.2.1, h2.2.2.2.1⟩
  · omega
  · omega
  · omega
theorem okS_bd {k a b c d : Int} (h : okS k a b c d) : (0 ≤ k ∧ k ≤ 4) ∧ c97 a ∧ c97 b ∧ c97 c ∧ c97 d := by
  unfold c97
  rcases h with ⟨h1, h2, h3, h4, h5, h6⟩ | ⟨h1, h2⟩ | ⟨h1, h2, h3, h4, h5⟩ | ⟨h1, h2, h3, h4, h5⟩
  · omega
  · exact ⟨by omega, h2.1, h2.2.1, h2.2.2.1, h2.2.2.2.1⟩
  · omega
  · omega
def untwF (a b c d : Int) (f : Row) : Row := twistF ((inv97 ((a * d - b * c) % 97) * d) % 97) ((-inv97 ((a * d - b * c) % 97) * b) % 97) ((-inv97 ((a * d - b * c) % 97) * c) % 97) ((inv97 ((a * d - b * c) % 97) * a) % 97) f
def deedF (k a b c d : Int) (f : Row) : Row := if k = 0 then spreadF a f else if k = 1 then twistF a b c d f else if k = 2 then slipF a b f else if k = 3 then lateF a f else hitF (a * 16 + b) c f
def stageF (m : Int) (s : Row) (k a b c d : Int) (f : Row) : Row := if k = 0 then unspreadF a f else if k = 1 then untwF a b c d f else if k = 2 then lateF (16 - a) f else if k = 3 then mulF (bestG f) f else mendF m s f
def good (f : Row) : Prop := r97 32 f ∧ zo 32 f
theorem good_shine (s : Row) : good (shineF s) := ⟨r97_shine s, fun i h => by unfold shineF; rw [if_neg h]⟩
theorem good_twist {a b c d : Int} {f : Row} (h : good f) : good (twistF a b c d f) := ⟨r97_twist, fun i hi => by unfold twistF; rw [if_neg (by omega), if_neg (by omega)]; exact h.2 i hi⟩
theorem good_late {n : Int} {f : Row} (h : good f) : good (lateF n f) := ⟨r97_late h.1, fun i hi => by unfold lateF; rw [if_neg (by omega)]; exact h.2 i hi⟩
theorem good_unspread {a : Int} {f : Row} (h : good f) : good (unspreadF a f) := ⟨r97_unspread, fun i hi => by unfold unspreadF; rw [if_neg hi]; exact h.2 i hi⟩
theorem good_slip {a q : Int} {f : Row} (ha : 0 ≤ a) (h : good f) : good (slipF a q f) := ⟨r97_slip h.1, fun i hi => by unfold slipF; rw [if_neg (by omega)]; exact h.2 i hi⟩
theorem good_deed {k a b c d : Int} {f : Row} (ho : okD k a b c d) (h : good f) : good (deedF k a b c d f) := by
  unfold deedF
  split
  · exact ⟨r97_spread, fun i hi => by unfold spreadF; rw [if_neg hi]; exact h.2 i hi⟩
  · split
    · exact good_twist h
    · split
      · exact good_slip (okD_bd ho).2.1.1 h
      · split
        · exact good_late h
        · refine ⟨r97_hit h.1, fun i hi => ?_⟩
          unfold hitF
          rcases ho with ⟨h1, _⟩ | ⟨h1, _⟩ | ⟨h1, _⟩ | ⟨h1, _⟩ | ⟨h1, h2, h3, _⟩ <;> first | omega | skip
          rw [if_neg (by omega)]
          exact h.2 i hi
theorem good_stage {m : Int} {s : Row} {k a b c d : Int} {f : Row} (h : good f) : good (stageF m s k a b c d f) := by
  unfold stageF
  split
  · exact good_unspread h
  · split
    · exact good_twist h
    · split
      · exact good_late h
      · split
        · exact ⟨r97_mul, fun i hi => by unfold mulF; rw [if_neg hi]; exact h.2 i hi⟩
        · exact ⟨r97_mend h.1, fun i hi => by unfold mendF; rw [if_neg (by omega)]; exact h.2 i hi⟩
def dF (n : Row) (k : Int) (g : Row) : Row := deedF (n (k * 5)) (n (k * 5 + 1)) (n (k * 5 + 2)) (n (k * 5 + 3)) (n (k * 5 + 4)) g
def sF (m : Int) (s n : Row) (k : Int) (g : Row) : Row := stageF m s (n (k * 5)) (n (k * 5 + 1)) (n (k * 5 + 2)) (n (k * 5 + 3)) (n (k * 5 + 4)) g
def okA (n : Row) (k : Int) : Prop := okD (n (k * 5)) (n (k * 5 + 1)) (n (k * 5 + 2)) (n (k * 5 + 3)) (n (k * 5 + 4))
def okB (n : Row) (k : Int) : Prop := okS (n (k * 5)) (n (k * 5 + 1)) (n (k * 5 + 2)) (n (k * 5 + 3)) (n (k * 5 + 4))
def lineF (n : Row) : Nat → Row → Row
  | 0, g => g
  | k + 1, g => dF n k (lineF n k g)
def chainF (m : Int) (s n : Row) : Nat → Row → Row
  | 0, g => g
  | k + 1, g => sF m s n k (chainF m s n k g)
theorem lineF_step (n : Row) {k : Int} (h : 0 ≤ k) (g : Row) : lineF n (k + 1).toNat g = dF n k (lineF n k.toNat g) := by
  rw [show (k + 1).toNat = k.toNat + 1 by omega]
  show dF n (k.toNat : Int) _ = _
  rw [int_tn h]
theorem chainF_step (m : Int) (s n : Row) {k : Int} (h : 0 ≤ k) (g : Row) : chainF m s n (k + 1).toNat g = sF m s n k (chainF m s n k.toNat g) := by
  rw [show (k + 1).toNat = k.toNat + 1 by omega]
  show sF m s n (k.toNat : Int) _ = _
  rw [int_tn h]
theorem good_line {n : Row} {g : Row} (hg : good g) : ∀ k : Nat, (∀ j : Int, 0 ≤ j → j < k → okA n j) → good (lineF n k g)
  | 0, _ => hg
  | k + 1, h => good_deed (h k (by omega) (by omega)) (good_line hg k (fun j h1 h2 => h j h1 (by omega)))
theorem good_chain {m : Int} {s n : Row} {g : Row} (hg : good g) : ∀ k : Nat, good (chainF m s n k g)
  | 0 => hg
  | k + 1 => good_stage (good_chain hg k)
theorem okA_inI {n : Row} {c : Int} (h : ∀ k, 0 ≤ k → k < c → okA n k) : ∀ j, 0 ≤ j → j < c * 5 → inI (n j) := by
  intro j h1 h2
  obtain ⟨⟨a1, a2⟩, a3, a4, a5, a6⟩ := okD_bd (h (j / 5) (by omega) (by omega))
  unfold c97 at a3 a4 a5 a6
  have : j = j / 5 * 5 ∨ j = j / 5 * 5 + 1 ∨ j = j / 5 * 5 + 2 ∨ j = j / 5 * 5 + 3 ∨ j = j / 5 * 5 + 4 := by omega
  unfold inI
  rcases this with e | e | e | e | e <;> rw [e] <;> omega
theorem okB_inI {n : Row} {c : Int} (h : ∀ k, 0 ≤ k → k < c → okB n k) : ∀ j, 0 ≤ j → j < c * 5 → inI (n j) := by
  intro j h1 h2
  obtain ⟨⟨a1, a2⟩, a3, a4, a5, a6⟩ := okS_bd (h (j / 5) (by omega) (by omega))
  unfold c97 at a3 a4 a5 a6
  have : j = j / 5 * 5 ∨ j = j / 5 * 5 + 1 ∨ j = j / 5 * 5 + 2 ∨ j = j / 5 * 5 + 3 ∨ j = j / 5 * 5 + 4 := by omega
  unfold inI
  rcases this with e | e | e | e | e <;> rw [e] <;> omega
/-- a number of a step, of a list that has it -/
theorem c_num {q : Nat} (hq : isSp q) (σ : St) (h2 : 0 ≤ σ q 2 ∧ σ q 2 ≤ 6) (hi : ∀ j, 0 ≤ j → j < σ q 2 * 5 → inI (σ (q + 1) j)) {k : Int} (hk : 0 ≤ k ∧ k < σ q 2) {w : Int} (hw : 0 ≤ w ∧ w < 5) : CIe mdX8_numberOf [vr q, vi k, vi w] σ (σ (q + 1) (k * 5 + w)) σ := by
  have h := c_numberOf hq σ h2 (k := k) (w := w) ⟨by omega, by omega⟩ ⟨by omega, by omega⟩ hi
  rw [if_pos ⟨hk, hw⟩] at h
  exact h
theorem m97_row (a b c d : Int) (g : Row) (ha : c97 a) (hb : c97 b) (hc : c97 c) (hd : c97 d) : rowM (a % 97) (b % 97) (c % 97) (d % 97) g = rowM a b c d g := by
  unfold c97 at ha hb hc hd
  rw [show a % 97 = a by omega, show b % 97 = b by omega, show c % 97 = c by omega, show d % 97 = d by omega]
theorem rowM_0 (a b c d : Int) (g : Row) : rowM a b c d g 0 = a := rfl
theorem rowM_1 (a b c d : Int) (g : Row) : rowM a b c d g 1 = b := rfl
theorem rowM_2 (a b c d : Int) (g : Row) : rowM a b c d g 2 = c := rfl
theorem rowM_3 (a b c d : Int) (g : Row) : rowM a b c d g 3 = d := rfl
theorem c97_inI {x : Int} (h : c97 x) : inI x := by unfold c97 at h; exact ⟨by omega, by omega⟩
theorem c_passDeed {b q : Nat} (hb : isBk b) (hq : isSp q) (σ : St) (hg : good (σ (b + 1))) (h2 : 0 ≤ σ q 2 ∧ σ q 2 ≤ 6) {k : Int} (hk : 0 ≤ k ∧ k < σ q 2) (hok : ∀ j, 0 ≤ j → j < σ q 2 → okA (σ (q + 1)) j) : CV mdX1_passDeed [vr b, vr q, vi k] σ (fun u => u (b + 1) = dF (σ (q + 1)) k (σ (b + 1)) ∧ Bch b σ u) := by
  refine CV_of (by decide +kernel) (Nat.le_of_ble_eq_true rfl) rfl (fun X hX => ?_)
  have hi := okA_inI hok
  have ho := hok k hk.1 hk.2
  obtain ⟨bk, ba, bb, bc, bd⟩ := okD_bd ho
  refine bX1_passDeed_0 hb hq (c_num hq σ h2 hi hk (w := 1) (by decide)) ?_
  rintro z u hz ⟨rfl, rfl⟩
  refine bX1_passDeed_6 hb hq (c_num hq σ h2 hi hk (w := 2) (by decide)) ?_
  rintro z u hz ⟨rfl, rfl⟩
  refine bX1_passDeed_13 hb hq (c_num hq σ h2 hi hk (w := 3) (by decide)) ?_
  rintro z u hz ⟨rfl, rfl⟩
  refine bX1_passDeed_21 hb hq (c_num hq σ h2 hi hk (w := 0) (by decide)) ?_
  rintro z u hz ⟨rfl, rfl⟩
  rw [Int.add_zero]
  unfold okA at ho
  unfold dF at hX
  generalize hkd : σ (q + 1) (k * 5) = kd at *
  generalize hka : σ (q + 1) (k * 5 + 1) = a at *
  generalize hkb : σ (q + 1) (k * 5 + 2) = b2 at *
  generalize hkc : σ (q + 1) (k * 5 + 3) = c2 at *
  have endG : ∀ u : St, (u (b + 1) = deedF kd a b2 c2 (σ (q + 1) (k * 5 + 4)) (σ (b + 1)) ∧ Bch b σ u) → G mdX1_passDeed X 131 [] [] u := fun u h => bX1_passDeed_131 hX h
  rcases ho with ⟨h1, h3, h4, _⟩ | ⟨h1, h3⟩ | ⟨h1, h3, h4, _⟩ | ⟨h1, h3, _⟩ | ⟨h1, h3, h4, h5, _⟩
  · subst h1
    refine bX1_passDeed_29 hb hq (by decide) (fun _ => ?_) (fun e => absurd e (by decide)) (fun e => absurd e (by decide)) (fun e => absurd e (by decide)) (fun e => absurd e (by decide)) (fun e => absurd e (by decide))
    refine bX1_passDeed_64 hb (c_spread hb σ hg.1 ba) ?_
    rintro u rfl
    exact bX1_passDeed_69 (endG _ ⟨setr_at _ _ _, Bch.set (by omega)⟩)
  · subst h1
    refine bX1_passDeed_29 hb hq (by decide) (fun e => absurd e (by decide)) (fun _ => ?_) (fun e => absurd e (by decide)) (fun e => absurd e (by decide)) (fun e => absurd e (by decide)) (fun e => absurd e (by decide))
    refine bX1_passDeed_72 hb hq (c_num hq σ h2 hi hk (w := 4) (by decide)) ?_
    rintro z u hz ⟨rfl, rfl⟩
    refine bX1_passDeed_87 hb (c_put (mx_bk hb) (c97_inI ba) (c97_inI bb) (c97_inI bc) (c97_inI bd) σ) ?_
    rintro u rfl
    rw [m97_row _ _ _ _ _ ba bb bc bd]
    refine bX1_passDeed_90 hb (c_twist hb _ (by rw [setr_ne _ _ (by omega)]; exact hg.1) (by rw [setr_at]; exact ⟨ba, bb, bc, bd⟩)) ?_
    rintro u rfl
    refine bX1_passDeed_94 (endG _ ⟨?_, (Bch.set (by omega)).tr (Bch.set (by omega))⟩)
    rw [setr_at, setr_at, setr_ne _ _ (show b + 1 ≠ b + 4 by omega), rowM_0, rowM_1, rowM_2, rowM_3]
    rfl
  · subst h1
    refine bX1_passDeed_29 hb hq (by decide) (fun e => absurd e (by decide)) (fun e => absurd e (by decide)) (fun _ => ?_) (fun e => absurd e (by decide)) (fun e => absurd e (by decide)) (fun e => absurd e (by decide))
    refine bX1_passDeed_97 hb (c_slip hb σ hg.1 h3 (by omega)) ?_
    rintro u rfl
    exact bX1_passDeed_104 (endG _ ⟨setr_at _ _ _, Bch.set (by omega)⟩)
  · subst h1
    refine bX1_passDeed_29 hb hq (by decide) (fun e => absurd e (by decide)) (fun e => absurd e (by decide)) (fun e => absurd e (by decide)) (fun _ => ?_) (fun e => absurd e (by decide)) (fun e => absurd e (by decide))
    refine bX1_passDeed_107 hb (c_late hb σ (by omega)) ?_
    rintro u hu
    exact bX1_passDeed_112 (endG _ hu)
  · subst h1
    refine bX1_passDeed_29 hb hq (by decide) (fun e => absurd e (by decide)) (fun e => absurd e (by decide)) (fun e => absurd e (by decide)) (fun e => absurd e (by decide)) (fun _ => ?_) (fun e => absurd e (by decide))
    refine bX1_passDeed_115 hb (c_hit hb σ hg.1 (by omega) (by omega)) ?_
    rintro u rfl
    exact bX1_passDeed_128 (endG _ ⟨setr_at _ _ _, Bch.set (by omega)⟩)
theorem c_passStage {b o : Nat} (hb : isBk b) (ho : isSt o) (σ : St) (hg : good (σ (b + 1))) (hs : ∀ i, 0 ≤ i → i < 32 → 0 ≤ σ (o + 1) i ∧ σ (o + 1) i ≤ 3) (hm : 0 ≤ σ o 1 ∧ σ o 1 < 65536) (h2 : 0 ≤ σ (o + 4) 2 ∧ σ (o + 4) 2 ≤ 4) {k : Int} (hk : 0 ≤ k ∧ k < σ (o + 4) 2) (hok : ∀ j, 0 ≤ j → j < σ (o + 4) 2 → okB (σ (o + 5)) j) : CV mdX1_passStage [vr b, vr o, vi k] σ (fun u => u (b + 1) = sF (σ o 1) (σ (o + 1)) (σ (o + 5)) k (σ (b + 1)) ∧ Bch b σ u) := by
  refine CV_of (by decide +kernel) (Nat.le_of_ble_eq_true rfl) rfl (fun X hX => ?_)
  have hq := sp_chain ho
  have hi := okB_inI hok
  have hok2 := hok k hk.1 hk.2
  obtain ⟨bk, ba, bb, bc, bd⟩ := okS_bd hok2
  have hn : ∀ {w : Int}, 0 ≤ w ∧ w < 5 → CIe mdX8_numberOf [vr (o + 4), vi k, vi w] σ (σ (o + 5) (k * 5 + w)) σ := fun hw => c_num hq σ (by omega) hi hk hw
  refine bX1_passStage_0 hb ho (hn (w := 1) (by decide)) ?_
  rintro z u hz ⟨rfl, rfl⟩
  refine bX1_passStage_11 hb ho (hn (w := 0) (by decide)) ?_
  rintro z u hz ⟨rfl, rfl⟩
  rw [Int.add_zero]
  unfold okB at hok2
  unfold sF at hX
  generalize hkd : σ (o + 5) (k * 5) = kd at *
  generalize hka : σ (o + 5) (k * 5 + 1) = a at *
  generalize hkb : σ (o + 5) (k * 5 + 2) = b2 at *
  generalize hkc : σ (o + 5) (k * 5 + 3) = c2 at *
  generalize hkd2 : σ (o + 5) (k * 5 + 4) = d2 at *
  have endG : ∀ u : St, (u (b + 1) = stageF (σ o 1) (σ (o + 1)) kd a b2 c2 d2 (σ (b + 1)) ∧ Bch b σ u) → G mdX1_passStage X 133 [] [] u := fun u h => bX1_passStage_133 hX h
  rcases hok2 with ⟨h1, h3, h4, _⟩ | ⟨h1, h3⟩ | ⟨h1, h3, _⟩ | ⟨h1 | h1, _⟩
  · subst h1
    refine bX1_passStage_19 hb ho (by decide) (fun _ => ?_) (fun e => absurd e (by decide)) (fun e => absurd e (by decide)) (fun e => absurd e (by decide)) (fun e => absurd e (by decide)) (fun e => absurd e (by decide))
    refine bX1_passStage_52 hb (c_unspread hb σ hg.1 h3 h4) ?_
    rintro u rfl
    exact bX1_passStage_58 (endG _ ⟨setr_at _ _ _, Bch.set (by omega)⟩)
  · subst h1
    refine bX1_passStage_19 hb ho (by decide) (fun e => absurd e (by decide)) (fun _ => ?_) (fun e => absurd e (by decide)) (fun e => absurd e (by decide)) (fun e => absurd e (by decide)) (fun e => absurd e (by decide))
    refine bX1_passStage_61 hb ho (hn (w := 2) (by decide)) ?_
    rintro z u hz ⟨rfl, rfl⟩
    refine bX1_passStage_73 hb ho (hn (w := 3) (by decide)) ?_
    rintro z u hz ⟨rfl, rfl⟩
    refine bX1_passStage_79 hb ho (hn (w := 4) (by decide)) ?_
    rintro z u hz ⟨rfl, rfl⟩
    rw [hkb, hkc, hkd2]
    refine bX1_passStage_85 hb (c_put (mx_bk hb) (c97_inI ba) (c97_inI bb) (c97_inI bc) (c97_inI bd) σ) ?_
    rintro u rfl
    rw [m97_row _ _ _ _ _ ba bb bc bd]
    refine bX1_passStage_88 hb (c_invert (mx_bk hb) _ (by rw [setr_at]; exact ⟨ba, bb, bc, bd⟩)) ?_
    rintro u rfl
    rw [setr_at, setr_setr]
    refine bX1_passStage_95 hb (c_twist hb _ (by rw [setr_ne _ _ (by omega)]; exact hg.1) (by rw [setr_at]; exact m97_inv _ _)) ?_
    rintro u rfl
    refine bX1_passStage_99 (endG _ ⟨?_, (Bch.set (by omega)).tr (Bch.set (by omega))⟩)
    rw [setr_at, setr_at, setr_ne _ _ (show b + 1 ≠ b + 4 by omega)]
    rfl
  · subst h1
    refine bX1_passStage_19 hb ho (by decide) (fun e => absurd e (by decide)) (fun e => absurd e (by decide)) (fun _ => ?_) (fun e => absurd e (by decide)) (fun e => absurd e (by decide)) (fun e => absurd e (by decide))
    refine bX1_passStage_102 hb (c_late hb σ (by omega)) ?_
    rintro u hu
    exact bX1_passStage_111 (endG _ hu)
  · subst h1
    refine bX1_passStage_19 hb ho (by decide) (fun e => absurd e (by decide)) (fun e => absurd e (by decide)) (fun e => absurd e (by decide)) (fun _ => ?_) (fun e => absurd e (by decide)) (fun e => absurd e (by decide))
    refine bX1_passStage_114 hb (c_brightest hb σ hg.1) ?_
    rintro z u hz ⟨rfl, h5, h6⟩
    have hbg := bestG_bd (σ (b + 1))
    refine bX1_passStage_119 hb (c_multiply hb u (by rw [h5]; exact hg.1) (show c97 _ from ⟨by omega, by omega⟩)) ?_
    rintro u2 rfl
    refine bX1_passStage_122 (endG _ ⟨?_, h6.tr (Bch.set (by omega))⟩)
    rw [setr_at, h5]
    rfl
  · subst h1
    refine bX1_passStage_19 hb ho (by decide) (fun e => absurd e (by decide)) (fun e => absurd e (by decide)) (fun e => absurd e (by decide)) (fun e => absurd e (by decide)) (fun _ => ?_) (fun e => absurd e (by decide))
    refine bX1_passStage_125 hb ho (c_mend hb ho σ hg.1 hs hm) ?_
    rintro u rfl
    exact bX1_passStage_130 (endG _ ⟨setr_at _ _ _, Bch.set (by omega)⟩)
/-- a state as it must be -/
def StOK (σ : St) (o : Nat) : Prop := (∀ i, 0 ≤ i → i < 32 → 0 ≤ σ (o + 1) i ∧ σ (o + 1) i ≤ 3) ∧ (0 ≤ σ o 1 ∧ σ o 1 < 65536) ∧ (0 ≤ σ (o + 2) 2 ∧ σ (o + 2) 2 ≤ 6) ∧ (∀ j, 0 ≤ j → j < σ (o + 2) 2 → okA (σ (o + 3)) j) ∧ (0 ≤ σ (o + 4) 2 ∧ σ (o + 4) 2 ≤ 4) ∧ (∀ j, 0 ≤ j → j < σ (o + 4) 2 → okB (σ (o + 5)) j)
/-- the six ids of a state are as they were -/
def same6 (o : Nat) (σ τ : St) : Prop := τ o = σ o ∧ τ (o + 1) = σ (o + 1) ∧ τ (o + 2) = σ (o + 2) ∧ τ (o + 3) = σ (o + 3) ∧ τ (o + 4) = σ (o + 4) ∧ τ (o + 5) = σ (o + 5)
theorem StOK.same {σ τ : St} {o : Nat} (h : StOK σ o) (e : same6 o σ τ) : StOK τ o := by
  obtain ⟨e0, e1, e2, e3, e4, e5⟩ := e
  unfold StOK
  rw [e0, e1, e2, e3, e4, e5]
  exact h
theorem Bch.st {b o : Nat} {σ τ : St} (h : Bch b σ τ) (hb : isBk b) (ho : o < 60) : same6 o σ τ := by
  have : 71 ≤ b := by rcases hb with rfl | rfl <;> omega
  have h0 : o % 6 = 0 ∨ ¬ o % 6 = 0 := by omega
  exact ⟨h _ (by omega), h _ (by omega), h _ (by omega), h _ (by omega), h _ (by omega), h _ (by omega)⟩
def airF (σ : St) (o : Nat) : Row := lineF (σ (o + 3)) (σ (o + 2) 2).toNat (shineF (σ (o + 1)))
def rcvF (σ : St) (o : Nat) (n : Int) : Row := chainF (σ o 1) (σ (o + 1)) (σ (o + 5)) n.toNat (airF σ o)
theorem good_air {σ : St} {o : Nat} (h : StOK σ o) : good (airF σ o) := good_line (good_shine _) _ (fun j h1 h2 => h.2.2.2.1 j h1 (by omega))
theorem good_rcv {σ : St} {o : Nat} (h : StOK σ o) (n : Int) : good (rcvF σ o n) := good_chain (good_air h) _
theorem c_receive {b o : Nat} (hb : isBk b) (ho : isSt o) (σ : St) (hz : zo 32 (σ (b + 1))) (hst : StOK σ o) {n : Int} (hn : 0 ≤ n ∧ n ≤ σ (o + 4) 2) : CV mdX1_receive [vr b, vr o, vi n] σ (fun u => u (b + 1) = rcvF σ o n ∧ Bch b σ u) := by
  refine CV_of (by decide +kernel) (Nat.le_of_ble_eq_true rfl) rfl (fun X hX => ?_)
  have hb7 : 71 ≤ b := by rcases hb with rfl | rfl <;> omega
  have ho6 : o < 60 := ho.2
  have hmod := ho.1
  obtain ⟨hs, hm, hl, hla, hc, hca⟩ := id hst
  refine bX1_receive_0 hb ho (c_shine hb ho σ hz hs) ?_
  rintro u0 rfl
  refine bX1_receive_5 hb ho ?_
  -- the chain
  have chain : ∀ u : St, u (b + 1) = airF σ o → Bch b σ u → G mdX1_receive X 35 [(0, vr b), (1, vr o), (2, vi n), (3, vi 0)] [] u := by
    intro u0 h0 hB0
    have key : ∀ u : St, u (b + 1) = chainF (σ o 1) (σ (o + 1)) (σ (o + 5)) (0 : Int).toNat (airF σ o) → Bch b σ u → G mdX1_receive X 35 [(0, vr b), (1, vr o), (2, vi n), (3, vi 0)] [] u := by
      refine loopUp (Q := fun k => ∀ u : St, u (b + 1) = chainF (σ o 1) (σ (o + 1)) (σ (o + 5)) k.toNat (airF σ o) → Bch b σ u → G mdX1_receive X 35 [(0, vr b), (1, vr o), (2, vi n), (3, vi k)] [] u) (a := 0) (n := n) ?_ (fun k h1 h2 ih => ?_) hn.1
      · intro u hu hB
        exact bX1_receive_35 hb ho (by omega) (fun q => bX1_receive_52 hX ⟨hu, hB⟩) (fun q => by omega)
      · intro u hu hB
        have hs6 := hB.st hb ho6
        have hstu := hst.same hs6
        obtain ⟨e0, e1, e2, e3, e4, e5⟩ := hs6
        refine bX1_receive_35 hb ho (by omega) (fun q => by omega) (fun q => ?_)
        refine bX1_receive_40 hb ho (c_passStage hb ho u (by rw [hu]; exact good_chain (good_air hst) _) hstu.1 hstu.2.1 hstu.2.2.2.2.1 (by rw [e4]; omega) hstu.2.2.2.2.2) ?_
        rintro u2 ⟨h3, h4⟩
        refine bX1_receive_46 hb ho (ih u2 ?_ (hB.tr h4))
        rw [h3, chainF_step _ _ _ h1, hu, e0, e1, e5]
    exact key u0 h0 hB0
  -- the line
  have key : ∀ u : St, u (b + 1) = lineF (σ (o + 3)) (0 : Int).toNat (shineF (σ (o + 1))) → Bch b σ u → G mdX1_receive X 7 [(0, vr b), (1, vr o), (2, vi n), (3, vi 0)] [] u := by
    refine loopUp (Q := fun k => ∀ u : St, u (b + 1) = lineF (σ (o + 3)) k.toNat (shineF (σ (o + 1))) → Bch b σ u → G mdX1_receive X 7 [(0, vr b), (1, vr o), (2, vi n), (3, vi k)] [] u) (a := 0) (n := σ (o + 2) 2) ?_ (fun k h1 h2 ih => ?_) hl.1
    · intro u hu hB
      obtain ⟨e0, e1, e2, e3, e4, e5⟩ := hB.st hb ho6
      exact bX1_receive_7 hb ho (by rw [e2]; omega) (fun q => bX1_receive_33 hb ho (chain u hu hB)) (fun q => by rw [e2] at q; omega)
    · intro u hu hB
      have hs6 := hB.st hb ho6
      have hstu := hst.same hs6
      obtain ⟨e0, e1, e2, e3, e4, e5⟩ := hs6
      refine bX1_receive_7 hb ho (by rw [e2]; omega) (fun q => by rw [e2] at q; omega) (fun q => ?_)
      refine bX1_receive_18 hb ho (c_passDeed hb (sp_line ho) u (by rw [hu]; exact good_line (good_shine _) _ (fun j g1 g2 => hla j g1 (by omega))) hstu.2.2.1 (by rw [e2]; omega) hstu.2.2.2.1) ?_
      rintro u2 ⟨h3, h4⟩
      refine bX1_receive_27 hb ho (ih u2 ?_ (hB.tr h4))
      rw [h3, lineF_step _ h1, hu]
      show dF (u (o + 3)) _ _ = _
      rw [e3]
  exact key _ (setr_at _ _ _) (Bch.set (by omega))
