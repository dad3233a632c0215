/-! the model: what a block goes through -/
def Wf (σ u : St) : Prop := ∀ a, a ≠ 96 → a ≠ 97 → u a = σ a
theorem Wf.rf {σ : St} : Wf σ σ := fun _ _ _ => rfl
theorem Wf.tr {σ τ υ : St} (h1 : Wf σ τ) (h2 : Wf τ υ) : Wf σ υ := fun a h g => (h2 a h g).trans (h1 a h g)
theorem Wf.s96 {σ : St} {f : Row} : Wf σ (setr σ 96 f) := fun _ h _ => setr_ne σ f h
theorem Wf.s97 {σ : St} {f : Row} : Wf σ (setr σ 97 f) := fun _ _ h => setr_ne σ f h
theorem m_takeMade (σ : St) : CVe mdX11_takeMade [vr 87] σ (setr σ 96 (win 32 (σ 97) (σ 96))) := by
  refine CV_of (by decide +kernel) (Nat.le_of_ble_eq_true rfl) rfl (fun X hX => ?_)
  refine bX11_takeMade_0 ?_
  have key : G mdX11_takeMade X 2 [(0, vr 87), (1, vi 0)] [] (setr σ 96 (win 0 (σ 97) (σ 96))) := by
    refine loopUp (Q := fun i => G mdX11_takeMade X 2 [(0, vr 87), (1, vi i)] [] (setr σ 96 (win i (σ 97) (σ 96)))) (n := 32) ?_ (fun i h1 h2 ih => ?_) (by decide)
    · exact bX11_takeMade_2 (by decide) (fun _ => bX11_takeMade_26 hX rfl) (fun q => by omega)
    · refine bX11_takeMade_2 ⟨by omega, by omega⟩ (fun q => by omega) (fun _ => bX11_takeMade_8 ⟨h1, h2⟩ ?_)
      rw [setr_ne _ _ (show (97 : Nat) ≠ 96 by decide), wr_win σ _ _ _ h1 rfl]
      exact ih
  rw [win_0, setr_id] at key
  exact key
theorem made_done {F f g : Row} (h : ∀ i, ¬ (0 ≤ i ∧ i < 32) → F i = f i) : win 32 (win 32 F g) f = F := by
  funext i
  unfold win
  by_cases q : 0 ≤ i ∧ i < 32
  · rw [if_pos q, if_pos q]
  · rw [if_neg q, h i q]
theorem m_spread (σ : St) (hr : r97 32 (σ 96)) {a : Int} (ha : c97 a) : CV mdX11_spread [vr 87, vi a] σ (fun u => u 96 = spreadF a (σ 96) ∧ Wf σ u) := by
  refine CV_of (by decide +kernel) (Nat.le_of_ble_eq_true rfl) rfl (fun X hX => ?_)
  unfold c97 at ha
  refine bX11_spread_0 ?_
  have key : G mdX11_spread X 2 [(0, vr 87), (1, vi a), (2, vi 0)] [] (setr σ 97 (win 0 (spreadF a (σ 96)) (σ 97))) := by
    refine loopUp (Q := fun i => G mdX11_spread X 2 [(0, vr 87), (1, vi a), (2, vi i)] [] (setr σ 97 (win i (spreadF a (σ 96)) (σ 97)))) (n := 32) ?_ (fun i h1 h2 ih => ?_) (by decide)
    · refine bX11_spread_2 (by decide) (fun _ => bX11_spread_56 (m_takeMade _) ?_) (fun q => by omega)
      rintro u rfl
      refine bX11_spread_60 hX ⟨?_, Wf.s97.tr Wf.s96⟩
      rw [setr_at, setr_at, setr_ne _ _ (show (96 : Nat) ≠ 97 by decide)]
      exact made_done (fun i hi => by unfold spreadF; rw [if_neg hi])
    · have e96 : setr σ 97 (win i (spreadF a (σ 96)) (σ 97)) 96 = σ 96 := setr_ne _ _ (by decide)
      have hp : 0 ≤ prv i ∧ prv i < 32 := by unfold prv; split <;> omega
      have r1 := hr i h1 h2
      have r2 := hr (prv i) hp.1 hp.2
      have hm := mul_bd ha.1 ha.2 r2.1 r2.2
      have fin : G mdX11_spread X 25 [(0, vr 87), (1, vi a), (2, vi i)] [vi (prv i)] (setr σ 97 (win i (spreadF a (σ 96)) (σ 97))) := by
        refine bX11_spread_25 ⟨⟨h1, h2⟩, hp, by rw [e96]; omega⟩ ?_
        rw [e96, wr_win σ _ _ _ h1 (by unfold spreadF; rw [if_pos ⟨h1, h2⟩])]
        exact ih
      refine bX11_spread_2 ⟨by omega, by omega⟩ (fun q => by omega) (fun _ => ?_)
      refine bX11_spread_8 ⟨⟨h1, by omega⟩, ⟨by omega, by omega⟩⟩ (fun q => ?_) (fun q => ?_)
      · rw [show prv i = i - 1 by unfold prv; rw [if_neg q]] at fin
        exact bX11_spread_22 fin
      · rw [show prv i = i + 15 by unfold prv; rw [if_pos q]] at fin
        exact bX11_spread_15 fin
  rw [win_0, setr_id] at key
  exact key
theorem m_twist (σ : St) (hr : r97 32 (σ 96)) {a b c d : Int} (ha : c97 a) (hb : c97 b) (hc : c97 c) (hd : c97 d) : CV mdX11_twist [vr 87, vi a, vi b, vi c, vi d] σ (fun u => u 96 = twistF a b c d (σ 96) ∧ Wf σ u) := by
  refine CV_of (by decide +kernel) (Nat.le_of_ble_eq_true rfl) rfl (fun X hX => ?_)
  refine bX11_twist_0 ?_
  obtain ⟨part, hpart⟩ : ∃ part : Int → Row, part = fun k j => if 0 ≤ j ∧ j < k then (a * σ 96 j + b * σ 96 (16 + j)) % 97 else if 16 ≤ j ∧ j < 16 + k then (c * σ 96 (j - 16) + d * σ 96 j) % 97 else σ 96 j := ⟨_, rfl⟩
  have p0 : part 0 = σ 96 := by
    rw [hpart]
    funext j
    show (if 0 ≤ j ∧ j < 0 then _ else if 16 ≤ j ∧ j < 16 + 0 then _ else _) = _
    rw [if_neg (by omega), if_neg (by omega)]
  have p16 : part 16 = twistF a b c d (σ 96) := by rw [hpart]; rfl
  have key : G mdX11_twist X 3 [(0, vr 87), (1, vi a), (2, vi b), (3, vi c), (4, vi d), (5, vi 0)] [] (setr σ 96 (part 0)) := by
    refine loopUp (Q := fun i => G mdX11_twist X 3 [(0, vr 87), (1, vi a), (2, vi b), (3, vi c), (4, vi d), (5, vi i)] [] (setr σ 96 (part i))) (n := 16) ?_ (fun i h1 h2 ih => ?_) (by decide)
    · exact bX11_twist_3 (by decide) (fun _ => bX11_twist_79 hX ⟨by rw [setr_at, p16], Wf.s96⟩) (fun q => by omega)
    · have e1 : setr σ 96 (part i) 96 i = σ 96 i := by
        rw [setr_at, hpart]
        show (if 0 ≤ i ∧ i < i then _ else if 16 ≤ i ∧ i < 16 + i then _ else _) = _
        rw [if_neg (by omega), if_neg (by omega)]
      have e2 : setr σ 96 (part i) 96 (16 + i) = σ 96 (16 + i) := by
        rw [setr_at, hpart]
        show (if 0 ≤ 16 + i ∧ 16 + i < i then _ else if 16 ≤ 16 + i ∧ 16 + i < 16 + i then _ else _) = _
        rw [if_neg (by omega), if_neg (by omega)]
      have r1 := hr i h1 (by omega)
      have r2 := hr (16 + i) (by omega) (by omega)
      have m1 := m_bd ha r1
      have m2 := m_bd hb r2
      have m3 := m_bd hc r1
      have m4 := m_bd hd r2
      refine bX11_twist_3 ⟨by omega, by omega⟩ (fun q => by omega) (fun _ => ?_)
      refine bX11_twist_10 ⟨by omega, by omega, by rw [e1, e2]; omega, by rw [e1, e2]; omega⟩ ?_
      rw [e1, e2, wr_wr, wr_wr]
      have ep : (fun j => if j = 16 + i then (c * σ 96 i + d * σ 96 (16 + i)) % 97 else if j = i then (a * σ 96 i + b * σ 96 (16 + i)) % 97 else part i j) = part (i + 1) := by
        rw [hpart]
        funext j
        show (if j = 16 + i then _ else if j = i then _ else if 0 ≤ j ∧ j < i then _ else if 16 ≤ j ∧ j < 16 + i then _ else _) = (if 0 ≤ j ∧ j < i + 1 then _ else if 16 ≤ j ∧ j < 16 + (i + 1) then _ else _)
        by_cases q1 : j = 16 + i
        · subst q1
          rw [if_pos rfl, if_neg (by omega), if_pos (by omega), show 16 + i - 16 = i by omega]
        · rw [if_neg q1]
          by_cases q2 : j = i
          · subst q2
            rw [if_pos rfl, if_pos (by omega)]
          · rw [if_neg q2]
            by_cases q3 : 0 ≤ j ∧ j < i
            · rw [if_pos q3, if_pos (by omega)]
            · rw [if_neg q3, if_neg (show ¬ (0 ≤ j ∧ j < i + 1) by omega)]
              by_cases q4 : 16 ≤ j ∧ j < 16 + i
              · rw [if_pos q4, if_pos (by omega)]
              · rw [if_neg q4, if_neg (by omega)]
      rw [ep]
      exact ih
  rw [p0, setr_id] at key
  exact key
theorem m_untwist (σ : St) (hr : r97 32 (σ 96)) {a b c d : Int} (ha : c97 a) (hb : c97 b) (hc : c97 c) (hd : c97 d) : CV mdX11_untwist [vr 87, vi a, vi b, vi c, vi d] σ (fun u => u 96 = untwF a b c d (σ 96) ∧ Wf σ u) := by
  refine CV_of (by decide +kernel) (Nat.le_of_ble_eq_true rfl) rfl (fun X hX => ?_)
  have m1 := m_bd ha hd
  have m2 := m_bd hb hc
  refine bX11_untwist_0 (m_left (inI_sub m1 m2) σ) ?_
  rintro z u hz ⟨rfl, rfl⟩
  refine bX11_untwist_11 (m_inverse (md97 _) _) ?_
  rintro z u hz ⟨rfl, rfl⟩
  have hi := inv_bd ((a * d - b * c) % 97)
  obtain ⟨i, hiv⟩ : ∃ i, i = inv97 ((a * d - b * c) % 97) := ⟨_, rfl⟩
  rw [← hiv] at hi ⊢
  have n1 := m_bd hd hi
  have n2 := m_bd hb hi
  have n3 := m_bd hc hi
  have n4 := m_bd ha hi
  have e2 : -b * i = -(b * i) := Int.neg_mul _ _
  have e3 : -c * i = -(c * i) := Int.neg_mul _ _
  refine bX11_untwist_14 (m_left ⟨by omega, by omega⟩ _) ⟨n1.1, by omega⟩ ?_
  rintro z u hz2 ⟨rfl, rfl⟩
  refine bX11_untwist_33 (m_left ⟨by omega, by omega⟩ _) ?_
  rintro z u hz3 ⟨rfl, rfl⟩
  refine bX11_untwist_41 (m_twist _ hr (md97 _) (md97 _) (md97 _) (md97 _)) ⟨n4.1, by omega⟩ ?_
  rintro u ⟨h1, h2⟩
  refine bX11_untwist_51 hX ⟨?_, h2⟩
  rw [h1]
  unfold untwF
  rw [← hiv, Int.mul_comm d i, Int.mul_comm a i, show -b * i = -i * b by rw [Int.neg_mul, Int.neg_mul, Int.mul_comm], show -c * i = -i * c by rw [Int.neg_mul, Int.neg_mul, Int.mul_comm]]
theorem m_slip (σ : St) (hr : r97 32 (σ 96)) {a q : Int} (ha : 0 ≤ a ∧ a ≤ 15) (hq : 0 ≤ q ∧ q ≤ 3) : CV mdX11_slip [vr 87, vi a, vi q] σ (fun u => u 96 = slipF a q (σ 96) ∧ Wf σ u) := by
  refine CV_of (by decide +kernel) (Nat.le_of_ble_eq_true rfl) rfl (fun X hX => ?_)
  refine bX11_slip_0 ?_
  have hl := lgt97 q
  obtain ⟨part, hpart⟩ : ∃ part : Int → Row, part = fun k j => if (a ≤ j ∧ j < k) ∨ (16 + a ≤ j ∧ j < 16 + k) then (σ 96 j * lgt q) % 97 else σ 96 j := ⟨_, rfl⟩
  have p0 : part a = σ 96 := by
    rw [hpart]
    funext j
    show (if (a ≤ j ∧ j < a) ∨ (16 + a ≤ j ∧ j < 16 + a) then _ else _) = _
    rw [if_neg (by omega)]
  have p16 : part 16 = slipF a q (σ 96) := by rw [hpart]; rfl
  have key : G mdX11_slip X 2 [(0, vr 87), (2, vi q), (3, vi a)] [] (setr σ 96 (part a)) := by
    refine loopUp (Q := fun i => G mdX11_slip X 2 [(0, vr 87), (2, vi q), (3, vi i)] [] (setr σ 96 (part i))) (n := 16) ?_ (fun i h1 h2 ih => ?_) (by omega)
    · exact bX11_slip_2 (by decide) (fun _ => bX11_slip_60 hX ⟨by rw [setr_at, p16], Wf.s96⟩) (fun q => by omega)
    · have e1 : setr σ 96 (part i) 96 i = σ 96 i := by
        rw [setr_at, hpart]
        show (if (a ≤ i ∧ i < i) ∨ (16 + a ≤ i ∧ i < 16 + i) then _ else _) = _
        rw [if_neg (by omega)]
      have e2 : part i (16 + i) = σ 96 (16 + i) := by
        rw [hpart]
        show (if (a ≤ 16 + i ∧ 16 + i < i) ∨ (16 + a ≤ 16 + i ∧ 16 + i < 16 + i) then _ else _) = _
        rw [if_neg (by omega)]
      have r1 := hr i (by omega) (by omega)
      have r2 := hr (16 + i) (by omega) (by omega)
      have m1 := m_bd r1 hl
      have m2 := m_bd r2 hl
      refine bX11_slip_2 ⟨by omega, by omega⟩ (fun q => by omega) (fun _ => ?_)
      refine bX11_slip_8 (m_light ⟨by omega, by omega⟩ _) ⟨by omega, by omega⟩ ?_
      rintro z u hz ⟨rfl, rfl⟩
      rw [e1]
      refine bX11_slip_23 (m_light ⟨by omega, by omega⟩ _) ⟨⟨m1.1, by omega⟩, ⟨by omega, by omega⟩, ⟨by omega, by omega⟩⟩ ?_
      rintro z u hz ⟨rfl, rfl⟩
      have e3 : wr (setr σ 96 (part i)) 96 i ((σ 96 i * lgt q) % 97) 96 (16 + i) = σ 96 (16 + i) := by
        rw [wr_wr, setr_at]
        show (if 16 + i = i then _ else part i (16 + i)) = _
        rw [if_neg (by omega), e2]
      rw [e3]
      refine bX11_slip_49 ⟨⟨m2.1, by omega⟩, ⟨by omega, by omega⟩⟩ ?_
      rw [wr_wr, wr_wr]
      have ep : (fun j => if j = 16 + i then (σ 96 (16 + i) * lgt q) % 97 else if j = i then (σ 96 i * lgt q) % 97 else part i j) = part (i + 1) := by
        rw [hpart]
        funext j
        show (if j = 16 + i then _ else if j = i then _ else if (a ≤ j ∧ j < i) ∨ (16 + a ≤ j ∧ j < 16 + i) then _ else _) = (if (a ≤ j ∧ j < i + 1) ∨ (16 + a ≤ j ∧ j < 16 + (i + 1)) then _ else _)
        by_cases q1 : j = 16 + i
        · subst q1
          rw [if_pos rfl, if_pos (by omega)]
        · rw [if_neg q1]
          by_cases q2 : j = i
          · subst q2
            rw [if_pos rfl, if_pos (by omega)]
          · rw [if_neg q2]
            by_cases q3 : (a ≤ j ∧ j < i) ∨ (16 + a ≤ j ∧ j < 16 + i)
            · rw [if_pos q3, if_pos (by omega)]
            · rw [if_neg q3, if_neg (by omega)]
      rw [ep]
      exact ih
  rw [p0, setr_id] at key
  exact key
