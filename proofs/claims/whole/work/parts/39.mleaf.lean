/-! the model: small methods -/
theorem m_in {v a b : Int} (hv : inI v) (ha : inI a) (hb : inI b) (σ : St) : CIe mdX11_in [vi v, vi a, vi b] σ (bI (decide (a ≤ v ∧ v ≤ b))) σ := by
  refine CI_of (by decide +kernel) (Nat.le_of_ble_eq_true rfl) rfl (fun X hX => ?_)
  refine bX11_in_0 ⟨hv, ha⟩ (fun q => ?_) (fun q => ?_)
  · exact bX11_in_14 (bX11_in_15 hX (Or.inl rfl) ⟨bJ_f (by omega), rfl⟩)
  · refine bX11_in_5 ⟨hv, hb⟩ (fun q2 => ?_) (fun q2 => ?_)
    · exact bX11_in_14 (bX11_in_15 hX (Or.inl rfl) ⟨bJ_f (by omega), rfl⟩)
    · exact bX11_in_10 (bX11_in_15 hX (Or.inr rfl) ⟨bJ_t ⟨q, q2⟩, rfl⟩)
theorem mk_eq (m p : Int) : mk m p = true ↔ m / 2 ^ p.toNat % 2 = 1 := by
  unfold mk
  exact beq_iff_eq
theorem m_has {m p : Int} (hm : 0 ≤ m ∧ m < 65536) (hp : 0 ≤ p ∧ p < 32) (σ : St) : CIe mdX11_has [vi m, vi p] σ (bI (mk m p)) σ := by
  refine CI_of (by decide +kernel) (Nat.le_of_ble_eq_true rfl) rfl (fun X hX => ?_)
  refine bX11_has_0 ⟨by omega, hp, by omega⟩ (fun q => ?_) (fun q => ?_)
  · have e : mk m p = false := Bool.eq_false_iff.mpr (fun g => q ((mk_eq m p).mp g))
    exact bX11_has_13 (bX11_has_14 hX (Or.inl rfl) ⟨by rw [e]; rfl, rfl⟩)
  · have e : mk m p = true := (mk_eq m p).mpr q
    exact bX11_has_9 (bX11_has_14 hX (Or.inr rfl) ⟨by rw [e]; rfl, rfl⟩)
theorem bX11_left_T {X : CT} {σ : St} {i0 : Int} {P : Int → St → Prop} (hX : RI X P) (hi : inI i0) (h2 : 0 ≤ (Int.tmod i0 97) + 97 ∧ (Int.tmod i0 97) + 97 < 2147483648) (h3 : inI (((Int.tmod i0 97) + 97) % 97)) (k : P (((Int.tmod i0 97) + 97) % 97) σ) : G mdX11_left X 0 [(0, vi i0)] [] σ := by
  refine G.iload_n (z := i0) dX11_left_0 rfl ?_
  refine G.bipush dX11_left_1 (by decide) ?_
  refine G.iremT dX11_left_3 hi ⟨by decide, by decide⟩ ?_
  refine G.bipush dX11_left_4 (by decide) ?_
  refine G.iadd dX11_left_6 ?_
  refine G.bipush dX11_left_7 (by decide) ?_
  refine G.irem dX11_left_9 h2 ⟨by decide, by decide⟩ ?_
  exact G.iret hX dX11_left_10 rfl h3 k
theorem m_left {v : Int} (hv : inI v) (σ : St) : CIe mdX11_left [vi v] σ (v % 97) σ := by
  refine CI_of (by decide +kernel) (Nat.le_of_ble_eq_true rfl) rfl (fun X hX => ?_)
  have ht := tmod97 (x := v)
  exact bX11_left_T hX hv (by omega) ⟨by omega, by omega⟩ ⟨by omega, rfl⟩
theorem m_power {v : Int} (h : c97 v) {n : Nat} (hn : n < 1000) (h0 : 1 ≤ n) (σ : St) : CIe mdX11_power [vi v, vi (n : Int)] σ (pw v n) σ := by
  refine CI_of (by decide +kernel) (Nat.le_of_ble_eq_true rfl) rfl (fun X hX => ?_)
  unfold c97 at h
  refine bX11_power_0 ?_
  have key : G mdX11_power X 4 [(0, vi v), (1, vi (n : Int)), (2, vi (pw v (0 : Int).toNat)), (3, vi 0)] [] σ := by
    refine loopUp (Q := fun k => G mdX11_power X 4 [(0, vi v), (1, vi (n : Int)), (2, vi (pw v k.toNat)), (3, vi k)] [] σ) (a := 0) (n := n) ?_ (fun k h1 h2 ih => ?_) (by omega)
    · rw [Int.toNat_natCast]
      have := pw_bd v n
      exact bX11_power_4 ⟨⟨by omega, by omega⟩, ⟨by omega, by omega⟩⟩ (fun _ => bX11_power_22 hX ⟨by omega, by omega⟩ ⟨rfl, rfl⟩) (fun q => by omega)
    · have hb := pw_bd v k.toNat
      have hm := mul_bd hb.1 hb.2 h.1 h.2
      refine bX11_power_4 ⟨⟨by omega, by omega⟩, ⟨by omega, by omega⟩⟩ (fun q => by omega) (fun _ => bX11_power_9 ⟨hm.1, by omega⟩ ?_)
      have e : (pw v k.toNat * v) % 97 = pw v (k + 1).toNat := by
        rw [show (k + 1).toNat = k.toNat + 1 by omega]
        unfold pw
        rw [Int.pow_succ]
        exact m97_mul (m97_id _) rfl
      rw [e]
      exact ih
  have e1 : pw v (0 : Int).toNat = 1 := by
    show v ^ 0 % 97 = 1
    rw [Int.pow_zero]; rfl
  rw [e1] at key
  exact key
theorem m_inverse {v : Int} (h : c97 v) (σ : St) : CIe mdX11_inverse [vi v] σ (inv97 v) σ := by
  refine CI_of (by decide +kernel) (Nat.le_of_ble_eq_true rfl) rfl (fun X hX => ?_)
  refine bX11_inverse_0 (m_power h (n := 95) (by decide) (by decide) σ) ?_
  rintro z u hz ⟨rfl, rfl⟩
  exact bX11_inverse_6 hX hz ⟨rfl, rfl⟩
theorem m_light {s : Int} (hs : inI s) (σ : St) : CIe mdX11_light [vi s] σ (lgt s) σ := by
  refine CI_of (by decide +kernel) (Nat.le_of_ble_eq_true rfl) rfl (fun X hX => ?_)
  refine bX11_light_0 hs (fun q => ?_) (fun q => ?_)
  · refine bX11_light_8 hs (fun q1 => ?_) (fun q1 => ?_)
    · refine bX11_light_18 hs (fun q2 => ?_) (fun q2 => ?_)
      · exact bX11_light_28 (bX11_light_30 hX ⟨by decide, by decide⟩ ⟨by unfold lgt; rw [if_neg q, if_neg q1, if_neg q2], rfl⟩)
      · exact bX11_light_23 (bX11_light_30 hX ⟨by decide, by decide⟩ ⟨by unfold lgt; rw [if_neg q, if_neg q1, if_pos q2], rfl⟩)
    · exact bX11_light_13 (bX11_light_30 hX ⟨by decide, by decide⟩ ⟨by unfold lgt; rw [if_neg q, if_pos q1], rfl⟩)
  · exact bX11_light_4 (bX11_light_30 hX ⟨by decide, by decide⟩ ⟨by unfold lgt; rw [if_pos q], rfl⟩)
def farV (v s : Int) : Int := if (v - lgt s) % 97 < (lgt s - v) % 97 then (v - lgt s) % 97 else (lgt s - v) % 97
def dcL (v : Int) : Nat → Int × Int
  | 0 => (0, 97)
  | n + 1 => (if farV v n < (dcL v n).2 then (n : Int) else (dcL v n).1, if farV v n < (dcL v n).2 then farV v n else (dcL v n).2)
theorem dcL_dec : ∀ v : Nat, v < 97 → (dcL v 4).1 = dec v := by decide +kernel
theorem dcL_bd : ∀ v : Nat, v < 97 → ∀ n : Nat, n < 5 → (0 ≤ (dcL v n).1 ∧ (dcL v n).1 ≤ 3) ∧ 0 ≤ (dcL v n).2 ∧ (dcL v n).2 ≤ 97 := by decide +kernel
theorem m_decided {v : Int} (h : c97 v) (σ : St) : CIe mdX11_decided [vi v] σ (dec v) σ := by
  refine CI_of (by decide +kernel) (Nat.le_of_ble_eq_true rfl) rfl (fun X hX => ?_)
  unfold c97 at h
  obtain ⟨w, rfl⟩ : ∃ w : Nat, v = w := ⟨v.toNat, by omega⟩
  have hb := dcL_bd w (by omega)
  refine bX11_decided_0 ?_
  have key : ∀ (d n : Nat), n + d = 4 → G mdX11_decided X 7 [(0, vi (w : Int)), (1, vi (dcL w n).1), (2, vi (dcL w n).2), (3, vi (n : Int))] [] σ := by
    intro d
    induction d with
    | zero =>
      intro n hn
      obtain rfl : n = 4 := by omega
      have b := hb 4 (by decide)
      refine bX11_decided_7 (by decide) (fun _ => ?_) (fun q => absurd q (by decide))
      rw [dcL_dec w (by omega)] at b ⊢
      exact bX11_decided_81 hX ⟨by omega, by omega⟩ ⟨rfl, rfl⟩
    | succ d ih =>
      intro n hn
      have b := hb n (by omega)
      have hl := lgt_bd (n : Int)
      refine bX11_decided_7 ⟨by omega, by omega⟩ (fun q => by omega) (fun _ => ?_)
      refine bX11_decided_12 (m_light ⟨by omega, by omega⟩ σ) ?_
      rintro z u hz ⟨rfl, rfl⟩
      refine bX11_decided_17 (m_left ⟨by omega, by omega⟩ σ) ?_
      rintro z u hz1 ⟨rfl, rfl⟩
      refine bX11_decided_21 (m_light ⟨by omega, by omega⟩ σ) ?_
      rintro z u hz2 ⟨rfl, rfl⟩
      refine bX11_decided_27 (m_left ⟨by omega, by omega⟩ σ) ?_
      rintro z u hz3 ⟨rfl, rfl⟩
      have bf : 0 ≤ farV w n ∧ farV w n ≤ 96 := by unfold farV; split <;> omega
      have nx := ih (n + 1) (by omega)
      have e1 : dcL w (n + 1) = (if farV w n < (dcL w n).2 then (n : Int) else (dcL w n).1, if farV w n < (dcL w n).2 then farV w n else (dcL w n).2) := rfl
      rw [e1] at nx
      push_cast at nx
      have at48 : G mdX11_decided X 48 [(0, vi (w : Int)), (1, vi (dcL w n).1), (2, vi (dcL w n).2), (3, vi (n : Int))] [vi (farV w n)] σ := by
        refine bX11_decided_48 ⟨⟨by omega, by omega⟩, ⟨by omega, by omega⟩⟩ (fun q => ?_) (fun q => ?_)
        · rw [if_neg (by omega), if_neg (by omega)] at nx
          refine bX11_decided_60 (bX11_decided_61 ⟨⟨by omega, by omega⟩, ⟨by omega, by omega⟩⟩ (fun _ => ?_) (fun q2 => by omega))
          exact bX11_decided_73 (bX11_decided_74 nx)
        · rw [if_pos q, if_pos q] at nx
          refine bX11_decided_56 (bX11_decided_61 ⟨⟨by omega, by omega⟩, ⟨by omega, by omega⟩⟩ (fun q2 => by omega) (fun _ => ?_))
          exact bX11_decided_68 (bX11_decided_74 nx)
      refine bX11_decided_32 ⟨⟨by omega, by omega⟩, ⟨by omega, by omega⟩⟩ (fun q => ?_) (fun q => ?_)
      · have ef : farV w n = (lgt n - w) % 97 := by unfold farV; rw [if_neg (by omega)]
        rw [ef] at at48
        exact bX11_decided_46 at48
      · have ef : farV w n = ((w : Int) - lgt n) % 97 := by unfold farV; rw [if_pos q]
        rw [ef] at at48
        exact bX11_decided_41 at48
  exact key 4 0 rfl
theorem m_marksMany (σ : St) (hm : 0 ≤ σ 88 32 ∧ σ 88 32 < 65536) : CIe mdX11_marksMany [vr 87] σ (cnt (mk (σ 88 32)) 16) σ := by
  refine CI_of (by decide +kernel) (Nat.le_of_ble_eq_true rfl) rfl (fun X hX => ?_)
  refine bX11_marksMany_0 ?_
  refine loopUp (Q := fun i => G mdX11_marksMany X 4 [(0, vr 87), (1, vi (cnt (mk (σ 88 32)) i.toNat)), (2, vi i)] [] σ) (a := 0) (n := 16) ?_ (fun i h1 h2 ih => ?_) (by decide)
  · have hc := cnt_bd (mk (σ 88 32)) 16
    exact bX11_marksMany_4 (by decide) (fun _ => bX11_marksMany_30 hX ⟨by show _ ≤ cnt _ 16; omega, by show cnt _ 16 < _; omega⟩ ⟨rfl, rfl⟩) (fun q => by omega)
  · refine bX11_marksMany_4 (by omega) (fun q => by omega) (fun _ => bX11_marksMany_10 ⟨by omega, by omega⟩ ?_)
    rw [mk_bit, ← cnt_step _ h1]
    exact ih
