/-! contracts: Matrix, the plain methods of Block and State -/
-- Matrix
def rowM (a b c d : Int) (g : Row) : Row := fun j => if j = 0 then a else if j = 1 then b else if j = 2 then c else if j = 3 then d else g j
theorem c_put {o : Nat} (h : isMx o) {a b c d : Int} (ha : inI a) (hb : inI b) (hc : inI c) (hd : inI d) (σ : St) : CVe mdX4_put [vr o, vi a, vi b, vi c, vi d] σ (setr σ o (rowM (a % 97) (b % 97) (c % 97) (d % 97) (σ o))) := by
  refine CV_of (by decide +kernel) (Nat.le_of_ble_eq_true rfl) rfl (fun X hX => ?_)
  refine bX4_put_0 h (c_floorMod ha σ) ?_
  rintro z u hz ⟨rfl, rfl⟩
  refine bX4_put_7 h (c_floorMod hb _) ?_
  rintro z u hz ⟨rfl, rfl⟩
  refine bX4_put_17 h (c_floorMod hc _) ?_
  rintro z u hz ⟨rfl, rfl⟩
  refine bX4_put_27 h (c_floorMod hd _) ?_
  rintro z u hz ⟨rfl, rfl⟩
  refine bX4_put_38 h hX ?_
  rw [wr_setr σ, wr_wr, wr_wr, wr_wr]
  congr 1
  funext j
  unfold rowM
  by_cases h0 : j = 0
  · subst h0; simp
  · by_cases h1 : j = 1
    · subst h1; simp
    · by_cases h2 : j = 2
      · subst h2; simp
      · by_cases h3 : j = 3
        · subst h3; simp
        · simp [h0, h1, h2, h3]
theorem c_entry {o : Nat} (h : isMx o) {w : Int} (hw : 0 ≤ w ∧ w ≤ 3) (σ : St) (hi : ∀ j, 0 ≤ j → j ≤ 3 → inI (σ o j)) : CIe mdX4_entry [vr o, vi w] σ (σ o w) σ := by
  refine CI_of (by decide +kernel) (Nat.le_of_ble_eq_true rfl) rfl (fun X hX => ?_)
  refine bX4_entry_0 h (by omega) (fun q => ?_) (fun q => ?_) (fun q => ?_) (fun q => ?_)
  · subst q; exact bX4_entry_28 h hX (hi 0 (by decide) (by decide)) ⟨rfl, rfl⟩
  · subst q; exact bX4_entry_33 h hX (hi 1 (by decide) (by decide)) ⟨rfl, rfl⟩
  · subst q; exact bX4_entry_38 h hX (hi 2 (by decide) (by decide)) ⟨rfl, rfl⟩
  · exact bX4_entry_43 h hX (hi 3 (by decide) (by decide)) ⟨by rw [show w = 3 by omega], rfl⟩
def m97 (f : Row) : Prop := c97 (f 0) ∧ c97 (f 1) ∧ c97 (f 2) ∧ c97 (f 3)
def detR (f : Row) : Int := (f 0 * f 3 - f 1 * f 2) % 97
theorem inI_sub {x y : Int} (h1 : 0 ≤ x ∧ x ≤ 1000000) (h2 : 0 ≤ y ∧ y ≤ 1000000) : inI (x - y) := ⟨by omega, by omega⟩
theorem c_det {o : Nat} (h : isMx o) (σ : St) (hm : m97 (σ o)) : CIe mdX4_determinant [vr o] σ (detR (σ o)) σ := by
  refine CI_of (by decide +kernel) (Nat.le_of_ble_eq_true rfl) rfl (fun X hX => ?_)
  obtain ⟨h0, h1, h2, h3⟩ := hm
  have m1 := mul_bd h0.1 h0.2 h3.1 h3.2
  have m2 := mul_bd h1.1 h1.2 h2.1 h2.2
  refine bX4_determinant_0 h (c_floorMod ⟨by omega, by omega⟩ σ) ?_
  rintro z u hz ⟨rfl, rfl⟩
  exact bX4_determinant_24 hX hz ⟨rfl, rfl⟩
def invR (f : Row) (g : Row) : Row := rowM ((inv97 (detR f) * f 3) % 97) ((-inv97 (detR f) * f 1) % 97) ((-inv97 (detR f) * f 2) % 97) ((inv97 (detR f) * f 0) % 97) g
theorem c_invert {o : Nat} (h : isMx o) (σ : St) (hm : m97 (σ o)) : CVe mdX4_invert [vr o] σ (setr σ o (invR (σ o) (σ o))) := by
  refine CV_of (by decide +kernel) (Nat.le_of_ble_eq_true rfl) rfl (fun X hX => ?_)
  have hd : c97 (detR (σ o)) := md97 _
  have hi := inv_bd (detR (σ o))
  refine bX4_invert_0 h (c_det h σ hm) ?_
  rintro z u hz ⟨rfl, rfl⟩
  refine bX4_invert_4 h (c_inverse hd _) ?_
  rintro z u hz2 ⟨rfl, rfl⟩
  obtain ⟨h0, h1, h2, h3⟩ := hm
  have m0 := mul_bd hi.1 hi.2 h0.1 h0.2
  have m1 := mul_bd hi.1 hi.2 h1.1 h1.2
  have m2 := mul_bd hi.1 hi.2 h2.1 h2.2
  have m3 := mul_bd hi.1 hi.2 h3.1 h3.2
  have n1 : -inv97 (detR (σ o)) * σ o 1 = -(inv97 (detR (σ o)) * σ o 1) := Int.neg_mul _ _
  have n2 : -inv97 (detR (σ o)) * σ o 2 = -(inv97 (detR (σ o)) * σ o 2) := Int.neg_mul _ _
  refine bX4_invert_7 h (c_put h ⟨by omega, by omega⟩ ⟨by omega, by omega⟩ ⟨by omega, by omega⟩ ⟨by omega, by omega⟩ _) ?_
  rintro u2 rfl
  exact bX4_invert_38 hX rfl
theorem m97_inv (f g : Row) : m97 (invR f g) := ⟨md97 _, md97 _, md97 _, md97 _⟩
theorem m97_rowM (a b c d : Int) (g : Row) : m97 (rowM (a % 97) (b % 97) (c % 97) (d % 97) g) := ⟨md97 _, md97 _, md97 _, md97 _⟩
def leftR (l f : Row) (g : Row) : Row := rowM ((l 0 * f 0 + l 1 * f 2) % 97) ((l 0 * f 1 + l 1 * f 3) % 97) ((l 2 * f 0 + l 3 * f 2) % 97) ((l 2 * f 1 + l 3 * f 3) % 97) g
theorem inI_add2 {x y : Int} (h1 : 0 ≤ x ∧ x ≤ 1000000) (h2 : 0 ≤ y ∧ y ≤ 1000000) : inI (x + y) := ⟨by omega, by omega⟩
theorem m_bd {x y : Int} (h1 : c97 x) (h2 : c97 y) : 0 ≤ x * y ∧ x * y ≤ 1000000 := by
  have := mul_bd h1.1 h1.2 h2.1 h2.2; omega
theorem c_left {o p : Nat} (h : isMx o) (h2 : isMx p) (σ : St) (hm : m97 (σ o)) (hp : m97 (σ p)) : CVe mdX4_multiplyFromLeft [vr o, vr p] σ (setr σ o (leftR (σ p) (σ o) (σ o))) := by
  refine CV_of (by decide +kernel) (Nat.le_of_ble_eq_true rfl) rfl (fun X hX => ?_)
  obtain ⟨a0, a1, a2, a3⟩ := hm
  obtain ⟨b0, b1, b2, b3⟩ := hp
  refine bX4_multiplyFromLeft_0 h h2 (c_put h (inI_add2 (m_bd b0 a0) (m_bd b1 a2)) (inI_add2 (m_bd b0 a1) (m_bd b1 a3)) (inI_add2 (m_bd b2 a0) (m_bd b3 a2)) (inI_add2 (m_bd b2 a1) (m_bd b3 a3)) σ) ?_
  rintro u rfl
  exact bX4_multiplyFromLeft_80 hX rfl
-- Block, the plain ones
theorem c_shine {b o : Nat} (hb : isBk b) (ho : isSt o) (σ : St) (hz : zo 32 (σ (b + 1))) (hs : ∀ i, 0 ≤ i → i < 32 → 0 ≤ σ (o + 1) i ∧ σ (o + 1) i ≤ 3) : CVe mdX1_shine [vr b, vr o] σ (setr σ (b + 1) (shineF (σ (o + 1)))) := by
  refine CV_of (by decide +kernel) (Nat.le_of_ble_eq_true rfl) rfl (fun X hX => ?_)
  have hne : o + 1 ≠ b + 1 := by obtain ⟨-, h⟩ := ho; rcases hb with rfl | rfl <;> omega
  refine bX1_shine_0 hb ho ?_
  have key : G mdX1_shine X 2 [(0, vr b), (1, vr o), (2, vi 0)] [] (setr σ (b + 1) (win 0 (fun i => lgt (σ (o + 1) i)) (σ (b + 1)))) := by
    refine loopUp (Q := fun i => G mdX1_shine X 2 [(0, vr b), (1, vr o), (2, vi i)] [] (setr σ (b + 1) (win i (fun i => lgt (σ (o + 1) i)) (σ (b + 1))))) (n := 32) ?_ (fun i h1 h2 ih => ?_) (by decide)
    · refine bX1_shine_2 hb ho (by decide) (fun q => bX1_shine_29 hX ?_) (fun q => by omega)
      congr 1
      funext j
      unfold win shineF
      split
      · rfl
      · next h => exact (hz j h).symm
    · refine bX1_shine_2 hb ho (by omega) (fun q => by omega) (fun q => ?_)
      have e : setr σ (b + 1) (win i (fun i => lgt (σ (o + 1) i)) (σ (b + 1))) (o + 1) = σ (o + 1) := setr_ne _ _ hne
      refine bX1_shine_8 hb ho (by rw [e]; exact c_light (hs i h1 h2) _) ⟨h1, h2⟩ ?_
      rintro z u hz ⟨rfl, rfl⟩
      refine bX1_shine_22 hb ho ⟨h1, h2⟩ ?_
      rw [wr_win σ _ _ _ h1 rfl]
      exact ih
  rw [win_0, setr_id] at key
  exact key
theorem c_hit {b : Nat} (hb : isBk b) (σ : St) (hr : r97 32 (σ (b + 1))) {p v : Int} (hp : 0 ≤ p ∧ p < 32) (hv : 0 ≤ v ∧ v ≤ 96) : CVe mdX1_hit [vr b, vi p, vi v] σ (setr σ (b + 1) (hitF p v (σ (b + 1)))) := by
  refine CV_of (by decide +kernel) (Nat.le_of_ble_eq_true rfl) rfl (fun X hX => ?_)
  have := hr p hp.1 hp.2
  refine bX1_hit_0 hb hX (by omega) ?_
  rw [wr_setr]
  congr 1
  funext j
  unfold hitF
  by_cases h : j = p
  · subst h; rfl
  · rw [if_neg h, if_neg h]
theorem c_multiply {b : Nat} (hb : isBk b) (σ : St) (hr : r97 32 (σ (b + 1))) {g : Int} (hg : c97 g) : CVe mdX1_multiply [vr b, vi g] σ (setr σ (b + 1) (mulF g (σ (b + 1)))) := by
  refine CV_of (by decide +kernel) (Nat.le_of_ble_eq_true rfl) rfl (fun X hX => ?_)
  refine bX1_multiply_0 hb ?_
  have key : G mdX1_multiply X 2 [(0, vr b), (1, vi g), (2, vi 0)] [] (setr σ (b + 1) (win 0 (fun i => (σ (b + 1) i * g) % 97) (σ (b + 1)))) := by
    refine loopUp (Q := fun i => G mdX1_multiply X 2 [(0, vr b), (1, vi g), (2, vi i)] [] (setr σ (b + 1) (win i (fun i => (σ (b + 1) i * g) % 97) (σ (b + 1))))) (n := 32) ?_ (fun i h1 h2 ih => ?_) (by decide)
    · exact bX1_multiply_2 hb (by decide) (fun q => bX1_multiply_31 hX rfl) (fun q => by omega)
    · refine bX1_multiply_2 hb (by omega) (fun q => by omega) (fun q => ?_)
      have e : setr σ (b + 1) (win i (fun i => (σ (b + 1) i * g) % 97) (σ (b + 1))) (b + 1) i = σ (b + 1) i := by rw [setr_at, win_out (by omega)]
      have hm := m_bd (hr i h1 h2) hg
      refine bX1_multiply_8 hb ⟨⟨h1, h2⟩, by rw [e]; omega⟩ ?_
      rw [e, wr_win σ _ _ _ h1 rfl]
      exact ih
  rw [win_0, setr_id] at key
  exact key
theorem c_turn {b : Nat} (hb : isBk b) (σ : St) (hr : r97 32 (σ (b + 1))) {p q : Int} (hp : 0 ≤ p ∧ p < 16) (hq : 0 ≤ q ∧ q ≤ 3) : CVe mdX1_turn [vr b, vi p, vi q] σ (setr σ (b + 1) (fun i => if i = p ∨ i = 16 + p then (σ (b + 1) i * lgt q) % 97 else σ (b + 1) i)) := by
  refine CV_of (by decide +kernel) (Nat.le_of_ble_eq_true rfl) rfl (fun X hX => ?_)
  refine bX1_turn_0 hb (c_turned (hr p hp.1 (by omega)) hq σ) (by omega) ?_
  rintro z u hz ⟨rfl, rfl⟩
  have e : ∀ w, wr σ (b + 1) p w (b + 1) (16 + p) = σ (b + 1) (16 + p) := by intro w; unfold wr; rw [if_neg (by omega)]
  refine bX1_turn_15 hb (by rw [e]; exact c_turned (hr (16 + p) (by omega) (by omega)) hq _) (by omega) ?_
  rintro z u2 hz2 ⟨rfl, rfl⟩
  refine bX1_turn_37 hb hX (by omega) ?_
  rw [wr_setr σ, wr_wr]
  congr 1
  funext j
  by_cases h1 : j = 16 + p
  · subst h1; simp
  · by_cases h2 : j = p
    · subst h2; simp [h1]
    · simp [h1, h2]
theorem c_slip {b : Nat} (hb : isBk b) (σ : St) (hr : r97 32 (σ (b + 1))) {a q : Int} (ha : 0 ≤ a ∧ a ≤ 15) (hq : 0 ≤ q ∧ q ≤ 3) : CVe mdX1_slip [vr b, vi a, vi q] σ (setr σ (b + 1) (slipF a q (σ (b + 1)))) := by
  refine CV_of (by decide +kernel) (Nat.le_of_ble_eq_true rfl) rfl (fun X hX => ?_)
  refine bX1_slip_0 hb ?_
  have key : G mdX1_slip X 2 [(0, vr b), (2, vi q), (3, vi a)] [] (setr σ (b + 1) (fun i => if (a ≤ i ∧ i < a) ∨ (16 + a ≤ i ∧ i < 16 + a) then (σ (b + 1) i * lgt q) % 97 else σ (b + 1) i)) := by
    refine loopUp (Q := fun k => G mdX1_slip X 2 [(0, vr b), (2, vi q), (3, vi k)] [] (setr σ (b + 1) (fun i => if (a ≤ i ∧ i < k) ∨ (16 + a ≤ i ∧ i < 16 + k) then (σ (b + 1) i * lgt q) % 97 else σ (b + 1) i))) (n := 16) ?_ (fun k h1 h2 ih => ?_) (by omega)
    · exact bX1_slip_2 hb (by decide) (fun q => bX1_slip_20 hX rfl) (fun q => by omega)
    · refine bX1_slip_2 hb (by omega) (fun q => by omega) (fun q2 => ?_)
      refine bX1_slip_8 hb (c_turn hb _ ?_ (by omega) hq) ?_
      · intro i g1 g2
        rw [setr_at]
        split
        · exact md97 _
        · exact hr i g1 g2
      · rintro u rfl
        refine bX1_slip_14 hb ?_
        rw [setr_at, setr_setr]
        have e : (fun i => if i = k ∨ i = 16 + k then ((if (a ≤ i ∧ i < k) ∨ (16 + a ≤ i ∧ i < 16 + k) then (σ (b + 1) i * lgt q) % 97 else σ (b + 1) i) * lgt q) % 97 else (if (a ≤ i ∧ i < k) ∨ (16 + a ≤ i ∧ i < 16 + k) then (σ (b + 1) i * lgt q) % 97 else σ (b + 1) i)) = (fun i => if (a ≤ i ∧ i < k + 1) ∨ (16 + a ≤ i ∧ i < 16 + (k + 1)) then (σ (b + 1) i * lgt q) % 97 else σ (b + 1) i) := by
          funext i
          by_cases c1 : i = k ∨ i = 16 + k
          · rw [if_pos c1, if_neg (by omega), if_pos (by omega)]
          · rw [if_neg c1]
            by_cases c2 : (a ≤ i ∧ i < k) ∨ (16 + a ≤ i ∧ i < 16 + k)
            · rw [if_pos c2, if_pos (by omega)]
            · rw [if_neg c2, if_neg (by omega)]
        rw [e]
        exact ih
  have e : (fun i => if (a ≤ i ∧ i < a) ∨ (16 + a ≤ i ∧ i < 16 + a) then (σ (b + 1) i * lgt q) % 97 else σ (b + 1) i) = σ (b + 1) := by
    funext i; rw [if_neg (by omega)]
  rw [e, setr_id] at key
  exact key
theorem c_bTake {b o : Nat} (hb : isBk b) (ho : isBk o) (σ : St) (h1 : zo 32 (σ (b + 1))) (h2 : zo 32 (σ (o + 1))) : CVe mdX1_takeFrom [vr b, vr o] σ (setr σ (b + 1) (σ (o + 1))) := by
  refine CV_of (by decide +kernel) (Nat.le_of_ble_eq_true rfl) rfl (fun X hX => ?_)
  refine bX1_takeFrom_0 hb ho hX ?_
  rw [cp_setr]
  congr 1
  funext j
  by_cases h : 0 ≤ j ∧ j < 0 + 32
  · rw [if_pos h]; congr 1; omega
  · rw [if_neg h, h1 j (by omega), h2 j (by omega)]
theorem c_late {b : Nat} (hb : isBk b) (σ : St) {n : Int} (hn : 0 ≤ n ∧ n ≤ 16) : CV mdX1_late [vr b, vi n] σ (fun u => u (b + 1) = lateF n (σ (b + 1)) ∧ Bch b σ u) := by
  refine CV_of (by decide +kernel) (Nat.le_of_ble_eq_true rfl) rfl (fun X hX => ?_)
  refine bX1_late_0 hb ?_
  have key : G mdX1_late X 2 [(0, vr b), (1, vi n), (2, vi 0)] [] (setr σ (b + 2) (fun j => if 0 ≤ j ∧ j < 16 ∧ (j - n) % 16 < 0 then σ (b + 1) (16 + (j - n) % 16) else σ (b + 2) j)) := by
    refine loopUp (Q := fun i => G mdX1_late X 2 [(0, vr b), (1, vi n), (2, vi i)] [] (setr σ (b + 2) (fun j => if 0 ≤ j ∧ j < 16 ∧ (j - n) % 16 < i then σ (b + 1) (16 + (j - n) % 16) else σ (b + 2) j))) (n := 16) ?_ (fun i h1 h2 ih => ?_) (by decide)
    · refine bX1_late_2 hb (by decide) (fun q => bX1_late_34 hb hX ?_) (fun q => by omega)
      rw [cp_setr, setr_at, setr_ne _ _ (show b + 1 ≠ b + 2 by omega)]
      refine ⟨?_, fun a ha => ?_⟩
      · rw [setr_at]
        funext j
        unfold lateF
        by_cases h : 16 ≤ j ∧ j < 32
        · rw [if_pos (by omega), if_pos h, if_pos (by omega)]
          congr 1
          omega
        · rw [if_neg (by omega), if_neg h]
      · rw [setr_ne _ _ (by omega), setr_ne _ _ (by omega)]
    · refine bX1_late_2 hb (by omega) (fun q => by omega) (fun q => ?_)
      refine bX1_late_8 hb (by omega) ?_
      rw [setr_ne _ _ (show b + 1 ≠ b + 2 by omega), wr_wr]
      have e : (fun j => if j = (i + n) % 16 then σ (b + 1) (16 + i) else (if 0 ≤ j ∧ j < 16 ∧ (j - n) % 16 < i then σ (b + 1) (16 + (j - n) % 16) else σ (b + 2) j)) = (fun j => if 0 ≤ j ∧ j < 16 ∧ (j - n) % 16 < i + 1 then σ (b + 1) (16 + (j - n) % 16) else σ (b + 2) j) := by
        funext j
        by_cases c1 : j = (i + n) % 16
        · rw [if_pos c1, if_pos (by omega)]
          congr 1
          omega
        · rw [if_neg c1]
          by_cases c2 : 0 ≤ j ∧ j < 16 ∧ (j - n) % 16 < i
          · rw [if_pos c2, if_pos (by omega)]
          · rw [if_neg c2, if_neg (by omega)]
      rw [e]
      exact ih
  have e : (fun j => if 0 ≤ j ∧ j < 16 ∧ (j - n) % 16 < 0 then σ (b + 1) (16 + (j - n) % 16) else σ (b + 2) j) = σ (b + 2) := by
    funext j; rw [if_neg (by omega)]
  rw [e, setr_id] at key
  exact key
