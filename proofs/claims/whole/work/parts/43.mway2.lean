/-! the model: late, unspread, errors -/
theorem m_late (σ : St) {n : Int} (hn : 0 ≤ n ∧ n ≤ 16) : CV mdX11_late [vr 87, vi n] σ (fun u => u 96 = lateF n (σ 96) ∧ Wf σ u) := by
  refine CV_of (by decide +kernel) (Nat.le_of_ble_eq_true rfl) rfl (fun X hX => ?_)
  refine bX11_late_0 ?_
  obtain ⟨part, hpart⟩ : ∃ part : Int → Row, part = fun k j => if 0 ≤ j ∧ j < 32 then (if 16 ≤ j ∧ (j - n) % 16 < k then σ 96 (16 + (j - n) % 16) else σ 96 j) else σ 97 j := ⟨_, rfl⟩
  have pv : ∀ k j, part k j = if 0 ≤ j ∧ j < 32 then (if 16 ≤ j ∧ (j - n) % 16 < k then σ 96 (16 + (j - n) % 16) else σ 96 j) else σ 97 j := fun k j => by rw [hpart]
  have second : G mdX11_late X 28 [(0, vr 87), (1, vi n), (2, vi 0)] [] (setr σ 97 (part 0)) := by
    refine loopUp (Q := fun i => G mdX11_late X 28 [(0, vr 87), (1, vi n), (2, vi i)] [] (setr σ 97 (part i))) (n := 16) ?_ (fun i h1 h2 ih => ?_) (by decide)
    · refine bX11_late_28 (by decide) (fun _ => bX11_late_63 (m_takeMade _) ?_) (fun q => by omega)
      rintro u rfl
      refine bX11_late_67 hX ⟨?_, Wf.s97.tr Wf.s96⟩
      rw [setr_at, setr_at, setr_ne _ _ (show (96 : Nat) ≠ 97 by decide)]
      funext j
      unfold win lateF
      rw [pv]
      by_cases q : 0 ≤ j ∧ j < 32
      · rw [if_pos q, if_pos q]
        by_cases q2 : 16 ≤ j
        · rw [if_pos ⟨q2, by omega⟩, if_pos ⟨q2, q.2⟩]
        · rw [if_neg (fun x => q2 x.1), if_neg (fun x => q2 x.1)]
      · rw [if_neg q, if_neg (by omega)]
    · refine bX11_late_28 ⟨by omega, by omega⟩ (fun q => by omega) (fun _ => ?_)
      refine bX11_late_34 ⟨⟨by omega, by omega⟩, ⟨by omega, by omega⟩, ⟨by omega, by omega⟩⟩ ?_
      rw [setr_ne _ _ (show (96 : Nat) ≠ 97 by decide), wr_wr]
      have ep : (fun j => if j = 16 + (i + n) % 16 then σ 96 (16 + i) else part i j) = part (i + 1) := by
        funext j
        rw [pv, pv]
        by_cases q1 : j = 16 + (i + n) % 16
        · have e : (j - n) % 16 = i := by omega
          rw [if_pos q1, if_pos (by omega), if_pos (by omega), e]
        · rw [if_neg q1]
          by_cases q : 0 ≤ j ∧ j < 32
          · rw [if_pos q, if_pos q]
            by_cases q2 : 16 ≤ j ∧ (j - n) % 16 < i
            · rw [if_pos q2, if_pos (by omega)]
            · rw [if_neg q2, if_neg (by omega)]
          · rw [if_neg q, if_neg q]
      rw [ep]
      exact ih
  have key : G mdX11_late X 2 [(0, vr 87), (1, vi n), (2, vi 0)] [] (setr σ 97 (win 0 (σ 96) (σ 97))) := by
    refine loopUp (Q := fun i => G mdX11_late X 2 [(0, vr 87), (1, vi n), (2, vi i)] [] (setr σ 97 (win i (σ 96) (σ 97)))) (n := 32) ?_ (fun i h1 h2 ih => ?_) (by decide)
    · refine bX11_late_2 (by decide) (fun _ => bX11_late_26 ?_) (fun q => by omega)
      have e0 : part 0 = win 32 (σ 96) (σ 97) := by
        funext j
        rw [pv]
        unfold win
        by_cases q : 0 ≤ j ∧ j < 32
        · rw [if_pos q, if_pos q, if_neg (by omega)]
        · rw [if_neg q, if_neg q]
      rw [e0] at second
      exact second
    · refine bX11_late_2 ⟨by omega, by omega⟩ (fun q => by omega) (fun _ => bX11_late_8 ⟨h1, h2⟩ ?_)
      rw [setr_ne _ _ (show (96 : Nat) ≠ 97 by decide), wr_win σ _ _ _ h1 rfl]
      exact ih
  rw [win_0, setr_id] at key
  exact key
theorem m_wrongNow (σ : St) (hr : r97 32 (σ 96)) (hs : ∀ i, 0 ≤ i → i < 32 → 0 ≤ σ 88 i ∧ σ 88 i ≤ 3) : CIe mdX11_wrongNow [vr 87] σ (errF (σ 96) (σ 88)) σ := by
  refine CI_of (by decide +kernel) (Nat.le_of_ble_eq_true rfl) rfl (fun X hX => ?_)
  refine bX11_wrongNow_0 ?_
  refine loopUp (Q := fun i => G mdX11_wrongNow X 4 [(0, vr 87), (1, vi (cnt (fun i => !(dec (σ 96 i) == σ 88 i)) i.toNat)), (2, vi i)] [] σ) (a := 0) (n := 32) ?_ (fun i h1 h2 ih => ?_) (by decide)
  · have hc := errF_bd (σ 96) (σ 88)
    exact bX11_wrongNow_4 (by decide) (fun _ => bX11_wrongNow_42 hX ⟨by show _ ≤ errF (σ 96) (σ 88); omega, by show errF (σ 96) (σ 88) < _; omega⟩ ⟨rfl, rfl⟩) (fun q => by omega)
  · have hd := dec_bd (σ 96 i)
    have h3 := hs i h1 h2
    rw [cnt_step _ h1] at ih
    refine bX11_wrongNow_4 ⟨by omega, by omega⟩ (fun q => by omega) (fun _ => ?_)
    refine bX11_wrongNow_10 (m_decided (hr i h1 h2) σ) ⟨h1, h2⟩ ?_
    rintro z u hz ⟨rfl, rfl⟩
    refine bX11_wrongNow_20 ⟨⟨h1, by omega⟩, hz, ⟨by omega, by omega⟩⟩ (fun q => ?_) (fun q => ?_)
    · have e : (!(dec (σ 96 i) == σ 88 i)) = true := by simp [q]
      rw [e] at ih
      exact bX11_wrongNow_33 (bX11_wrongNow_34 ih)
    · have e : (!(dec (σ 96 i) == σ 88 i)) = false := by simp [q]
      rw [e] at ih
      exact bX11_wrongNow_29 (bX11_wrongNow_34 ih)
theorem m_wrongAtMarks (σ : St) (hr : r97 32 (σ 96)) (hs : ∀ i, 0 ≤ i → i < 32 → 0 ≤ σ 88 i ∧ σ 88 i ≤ 3) (hm : 0 ≤ σ 88 32 ∧ σ 88 32 < 65536) : CIe mdX11_wrongAtMarks [vr 87] σ (errM (σ 88 32) (σ 96) (σ 88)) σ := by
  refine CI_of (by decide +kernel) (Nat.le_of_ble_eq_true rfl) rfl (fun X hX => ?_)
  refine bX11_wrongAtMarks_0 ?_
  refine loopUp (Q := fun i => G mdX11_wrongAtMarks X 4 [(0, vr 87), (1, vi (cnt (fun i => mk (σ 88 32) (i % 16) && !(dec (σ 96 i) == σ 88 i)) i.toNat)), (2, vi i)] [] σ) (a := 0) (n := 32) ?_ (fun i h1 h2 ih => ?_) (by decide)
  · have hc := errM_bd (σ 88 32) (σ 96) (σ 88)
    exact bX11_wrongAtMarks_4 (by decide) (fun _ => bX11_wrongAtMarks_59 hX ⟨by show _ ≤ errM (σ 88 32) (σ 96) (σ 88); omega, by show errM (σ 88 32) (σ 96) (σ 88) < _; omega⟩ ⟨rfl, rfl⟩) (fun q => by omega)
  · have hd := dec_bd (σ 96 i)
    have h3 := hs i h1 h2
    rw [cnt_step _ h1] at ih
    refine bX11_wrongAtMarks_4 ⟨by omega, by omega⟩ (fun q => by omega) (fun _ => ?_)
    refine bX11_wrongAtMarks_10 (m_has hm (by omega) σ) ⟨h1, by omega⟩ ?_
    rintro z u hz ⟨rfl, rfl⟩
    refine bX11_wrongAtMarks_25 hz (fun q => ?_) (fun q => ?_)
    · have e : (mk (σ 88 32) (i % 16) && !(dec (σ 96 i) == σ 88 i)) = false := by rw [bI_0.mp q, Bool.false_and]
      rw [e] at ih
      exact bX11_wrongAtMarks_50 (bX11_wrongAtMarks_51 ih)
    · have em := bI_1.mp q
      refine bX11_wrongAtMarks_28 (m_decided (hr i h1 h2) σ) ⟨h1, h2⟩ ?_
      rintro z u hz2 ⟨rfl, rfl⟩
      refine bX11_wrongAtMarks_37 ⟨⟨h1, by omega⟩, hz2, ⟨by omega, by omega⟩⟩ (fun q2 => ?_) (fun q2 => ?_)
      · have e : (mk (σ 88 32) (i % 16) && !(dec (σ 96 i) == σ 88 i)) = false := by simp [q2]
        rw [e] at ih
        exact bX11_wrongAtMarks_50 (bX11_wrongAtMarks_51 ih)
      · have e : (mk (σ 88 32) (i % 16) && !(dec (σ 96 i) == σ 88 i)) = true := by simp [q2, em]
        rw [e] at ih
        exact bX11_wrongAtMarks_46 (bX11_wrongAtMarks_51 ih)
theorem psum_m (m : Int) (y : Int → Int) (p : Int) (n : Nat) : (psum m y p n % 97 + pw m n * y (p - n)) % 97 = psum m y p (n + 1) % 97 := by
  have h1 : (m ^ n % 97 * y (p - n)) % 97 = (m ^ n * y (p - n)) % 97 := m97_mul (m97_id _) rfl
  show (psum m y p n % 97 + m ^ n % 97 * y (p - n)) % 97 = (psum m y p n + m ^ n * y (p - n)) % 97
  generalize m ^ n % 97 * y (p - n) = A at *
  generalize m ^ n * y (p - n) = B at *
  omega
theorem pw_next (m : Int) (n : Nat) : (pw m n * m) % 97 = pw m (n + 1) := by
  unfold pw
  rw [Int.pow_succ]
  exact m97_mul (m97_id _) rfl
theorem m_unspread (σ : St) (hr : r97 32 (σ 96)) {a : Int} (ha : 1 ≤ a ∧ a ≤ 96) : CV mdX11_unspread [vr 87, vi a] σ (fun u => u 96 = unspreadF a (σ 96) ∧ Wf σ u) := by
  refine CV_of (by decide +kernel) (Nat.le_of_ble_eq_true rfl) rfl (fun X hX => ?_)
  have hpb := pw_bd a 16
  refine bX11_unspread_0 (m_power (v := a) (by unfold c97; omega) (n := 16) (by decide) (by decide) σ) ?_
  rintro z u hz ⟨rfl, rfl⟩
  refine bX11_unspread_7 (m_left ⟨by omega, by omega⟩ _) ?_
  rintro z u hz ⟨rfl, rfl⟩
  refine bX11_unspread_11 (m_inverse (md97 _) _) ?_
  rintro z u hz ⟨rfl, rfl⟩
  refine bX11_unspread_14 (m_left ⟨by omega, by omega⟩ _) ?_
  rintro z u hz ⟨rfl, rfl⟩
  have em : -a % 97 = 97 - a := by omega
  rw [em]
  show G mdX11_unspread X 20 [(0, vr 87), (2, vi (unsW a))] [vi (97 - a)] σ
  have hW : 0 ≤ unsW a ∧ unsW a ≤ 96 := inv_bd _
  refine bX11_unspread_20 ?_
  have key : G mdX11_unspread X 24 [(0, vr 87), (2, vi (unsW a)), (3, vi (97 - a)), (4, vi 0)] [] (setr σ 97 (win 0 (unspreadF a (σ 96)) (σ 97))) := by
    refine loopUp (Q := fun i => G mdX11_unspread X 24 [(0, vr 87), (2, vi (unsW a)), (3, vi (97 - a)), (4, vi i)] [] (setr σ 97 (win i (unspreadF a (σ 96)) (σ 97)))) (n := 32) ?_ (fun i h1 h2 ih => ?_) (by decide)
    · refine bX11_unspread_24 (by decide) (fun _ => bX11_unspread_118 (m_takeMade _) ?_) (fun q => by omega)
      rintro u rfl
      refine bX11_unspread_122 hX ⟨?_, Wf.s97.tr Wf.s96⟩
      rw [setr_at, setr_at, setr_ne _ _ (show (96 : Nat) ≠ 97 by decide)]
      exact made_done (fun i hi => by unfold unspreadF; rw [if_neg hi])
    · have e96 : setr σ 97 (win i (unspreadF a (σ 96)) (σ 97)) 96 = σ 96 := setr_ne _ _ (by decide)
      refine bX11_unspread_24 ⟨by omega, by omega⟩ (fun q => by omega) (fun _ => bX11_unspread_31 ?_)
      have inner : ∀ (d n : Nat), n + d = 16 → G mdX11_unspread X 40 [(0, vr 87), (2, vi (unsW a)), (3, vi (97 - a)), (4, vi i), (5, vi (psum (97 - a) (yc (σ 96) (i / 16 * 16)) (i % 16) n % 97)), (6, vi (pw (97 - a) n)), (7, vi (n : Int))] [] (setr σ 97 (win i (unspreadF a (σ 96)) (σ 97))) := by
        intro d
        induction d with
        | zero =>
          intro n hn
          obtain rfl : n = 16 := by omega
          have hs := md97 (psum (97 - a) (yc (σ 96) (i / 16 * 16)) (i % 16) 16)
          have hm := mul_bd hs.1 hs.2 hW.1 hW.2
          refine bX11_unspread_40 (by decide) (fun _ => ?_) (fun q => absurd q (by decide))
          refine bX11_unspread_98 ⟨⟨hm.1, by omega⟩, ⟨h1, h2⟩⟩ ?_
          rw [wr_win σ _ _ _ h1 (by unfold unspreadF; rw [if_pos ⟨h1, h2⟩])]
          exact ih
        | succ d ihd =>
          intro n hn
          have hs := md97 (psum (97 - a) (yc (σ 96) (i / 16 * 16)) (i % 16) n)
          have hp := pw_bd (97 - a) n
          have hx : ((i + 16) - (n : Int)) % 16 = (i % 16 - n) % 16 := by omega
          have hv := hr (i / 16 * 16 + ((i % 16 - n) % 16)) (by omega) (by omega)
          have hm1 := mul_bd hp.1 hp.2 hv.1 hv.2
          have hm2 := mul_bd hp.1 hp.2 (show 0 ≤ 97 - a by omega) (show 97 - a ≤ 96 by omega)
          refine bX11_unspread_40 ⟨by omega, by omega⟩ (fun q => by omega) (fun _ => ?_)
          refine bX11_unspread_47 ⟨⟨h1, by omega⟩, ⟨by omega, by omega⟩, ⟨by omega, by omega⟩, by rw [e96, hx]; omega, ⟨hm2.1, by omega⟩⟩ ?_
          rw [e96, hx]
          have nx := ihd (n + 1) (by omega)
          rw [← psum_m, ← pw_next] at nx
          exact nx
      have g := inner 16 0 rfl
      have p0 : pw (97 - a) 0 = 1 := by
        unfold pw
        rw [Int.pow_zero]
        rfl
      rw [show psum (97 - a) (yc (σ 96) (i / 16 * 16)) (i % 16) 0 = 0 from rfl, p0] at g
      exact g
  rw [win_0, setr_id] at key
  exact key
