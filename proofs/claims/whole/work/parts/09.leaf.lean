/-! contracts: the JDK's small methods, Field, Matrix -/
abbrev CIe (md : MD) (av : List AV) (σ : St) (z : Int) (τ : St) : Prop := CI md av σ (fun r u => r = z ∧ τ = u)
abbrev CVe (md : MD) (av : List AV) (σ : St) (τ : St) : Prop := CV md av σ (fun u => τ = u)
theorem tmod97 {x : Int} : (Int.tmod x 97 = x % 97 ∧ 0 ≤ x) ∨ (Int.tmod x 97 = x % 97 - 97 ∧ x < 0 ∧ ¬ x % 97 = 0) ∨ (Int.tmod x 97 = 0 ∧ x < 0 ∧ x % 97 = 0) := by
  rcases Int.lt_or_le x 0 with h | h
  · have e : Int.tmod x 97 = -((-x) % 97) := by
      rw [← Int.tmod_eq_emod_of_nonneg (show 0 ≤ -x by omega), Int.neg_tmod, Int.neg_neg]
    omega
  · left; exact ⟨Int.tmod_eq_emod_of_nonneg h, h⟩
theorem bXor_sign {x : Int} (h : inI x) : 0 ≤ bXor x 97 ↔ 0 ≤ x := by
  unfold bXor
  have key : ∀ b : BitVec 32, 0 ≤ (b ^^^ 97#32).toInt ↔ 0 ≤ b.toInt := by
    intro b
    have e : (b ^^^ 97#32).msb = b.msb := by rw [BitVec.msb_xor, show (97#32).msb = false from rfl, Bool.xor_false]
    constructor
    · intro h1
      rw [BitVec.toInt_eq_msb_cond] at h1 ⊢
      rw [e] at h1
      split at h1
      · have := (b ^^^ 97#32).isLt; omega
      · next hm => rw [if_neg hm]; omega
    · intro h1
      rw [BitVec.toInt_eq_msb_cond] at h1 ⊢
      rw [e]
      split at h1
      · have := b.isLt; omega
      · next hm => rw [if_neg hm]; omega
  have h2 := key (Int32.ofInt x).toBitVec
  show 0 ≤ ((Int32.ofInt x).toBitVec ^^^ 97#32).toInt ↔ _
  rw [h2]
  show 0 ≤ (Int32.ofInt x).toInt ↔ _
  rw [oi_to h]
theorem bXor_rng (x y : Int) : -2147483648 ≤ bXor x y ∧ bXor x y < 2147483648 := inI_of _
theorem c_floorMod {x : Int} (hx : inI x) (σ : St) : CIe mdJ9_floorMod_7cf53 [vi x, vi 97] σ (x % 97) σ := by
  refine CI_ofF (by decide +kernel) (Nat.le_of_ble_eq_true rfl) rfl (fun X hX => ?_)
  have hs := bXor_sign hx
  have hr := bXor_rng x 97
  have hx2 := hx
  unfold inI at hx2
  have ht := tmod97 (x := x)
  refine bJ9_floorMod_7cf53_0 ⟨hx, by decide, hr⟩ (fun q => ?_) (fun q => ?_)
  · exact bJ9_floorMod_7cf53_18 hX (by omega) ⟨by omega, rfl⟩
  · refine bJ9_floorMod_7cf53_10 (by omega) (fun q => ?_) (fun q => ?_)
    · exact bJ9_floorMod_7cf53_18 hX (by omega) ⟨by omega, rfl⟩
    · exact bJ9_floorMod_7cf53_14 hX (by omega) ⟨by omega, rfl⟩
theorem c_min {x y : Int} (hx : inI x) (hy : inI y) (σ : St) : CIe mdJ9_min_7cf53 [vi x, vi y] σ (if x ≤ y then x else y) σ := by
  refine CI_ofF (by decide +kernel) (Nat.le_of_ble_eq_true rfl) rfl (fun X hX => ?_)
  refine bJ9_min_7cf53_0 ⟨hx, hy⟩ (fun q => ?_) (fun q => ?_)
  · exact bJ9_min_7cf53_9 (bJ9_min_7cf53_10 hX hy ⟨by rw [if_neg (by omega)], rfl⟩)
  · exact bJ9_min_7cf53_5 (bJ9_min_7cf53_10 hX hx ⟨by rw [if_pos q], rfl⟩)
theorem c_max {x y : Int} (hx : inI x) (hy : inI y) (σ : St) : CIe mdJ9_max_7cf53 [vi x, vi y] σ (if y ≤ x then x else y) σ := by
  refine CI_ofF (by decide +kernel) (Nat.le_of_ble_eq_true rfl) rfl (fun X hX => ?_)
  refine bJ9_max_7cf53_0 ⟨hx, hy⟩ (fun q => ?_) (fun q => ?_)
  · exact bJ9_max_7cf53_9 (bJ9_max_7cf53_10 hX hy ⟨by rw [if_neg (by omega)], rfl⟩)
  · exact bJ9_max_7cf53_5 (bJ9_max_7cf53_10 hX hx ⟨by rw [if_pos q], rfl⟩)
theorem c_fill {o n : Nat} (h : shp o = (1, n, [])) {v : Int} (σ : St) : CVe mdJ7_fill_53178 [vr o, vi v] σ (setr σ o (win n (fun _ => v) (σ o))) := by
  refine CV_of (by decide +kernel) (Nat.le_of_ble_eq_true rfl) rfl (fun X hX => ?_)
  have hn : n < 1000 := by have := shp_len o; rw [h] at this; exact this
  refine bJ7_fill_53178_0 h ?_
  have e : setr σ o (win 0 (fun _ => v) (σ o)) = σ := by rw [win_0, setr_id]
  have key : G mdJ7_fill_53178 X 5 [(0, vr o), (1, vi v), (2, vi 0), (3, vi (n : Int))] [] (setr σ o (win 0 (fun _ => v) (σ o))) := by
    refine loopUp (Q := fun i => G mdJ7_fill_53178 X 5 [(0, vr o), (1, vi v), (2, vi i), (3, vi (n : Int))] [] (setr σ o (win i (fun _ => v) (σ o)))) (n := n) ?_ (fun i h1 h2 ih => ?_) (by omega)
    · exact bJ7_fill_53178_5 h (by omega) (fun q => bJ7_fill_53178_20 hX rfl) (fun q => by omega)
    · refine bJ7_fill_53178_5 h (by omega) (fun q => by omega) (fun q => bJ7_fill_53178_10 h (by omega) ?_)
      rw [wr_win σ o _ _ h1 rfl]
      exact ih
  rw [e] at key
  exact key
-- Field
theorem c_light {s : Int} (h : 0 ≤ s ∧ s ≤ 3) (σ : St) : CIe mdX2_light [vi s] σ (lgt s) σ := by
  refine CI_of (by decide +kernel) (Nat.le_of_ble_eq_true rfl) rfl (fun X hX => ?_)
  have e : rot 105 (s % 4) = lgt s := by rw [show s % 4 = s by omega]; exact rot105 h
  have hb := lgt_bd s
  refine bX2_light_0 hX ⟨by show _ ∧ _ < ((4 : Nat) : Int); omega, by rw [e]; omega⟩ ⟨e, rfl⟩
theorem c_decided {v : Int} (h : c97 v) (σ : St) : CIe mdX2_decided [vi v] σ (dec v) σ := by
  refine CI_of (by decide +kernel) (Nat.le_of_ble_eq_true rfl) rfl (fun X hX => ?_)
  unfold c97 at h
  refine bX2_decided_0 (by omega) (fun q => ?_) (fun q => ?_)
  · refine bX2_decided_8 (by omega) (fun q => ?_) (fun q => ?_)
    · refine bX2_decided_16 (by omega) (fun q => ?_) (fun q => ?_)
      · exact bX2_decided_26 (bX2_decided_27 hX (by omega) ⟨by unfold dec; rw [if_neg (by omega), if_neg (by omega), if_neg (by omega)], rfl⟩)
      · exact bX2_decided_22 (bX2_decided_27 hX (by omega) ⟨by unfold dec; rw [if_neg (by omega), if_neg (by omega), if_pos (by omega)], rfl⟩)
    · exact bX2_decided_14 hX ⟨by unfold dec; rw [if_neg (by omega), if_pos (by omega)], rfl⟩
  · exact bX2_decided_6 hX ⟨by unfold dec; rw [if_pos (by omega)], rfl⟩
theorem c_turned {v q : Int} (h : c97 v) (hq : 0 ≤ q ∧ q ≤ 3) (σ : St) : CIe mdX2_turned [vi v, vi q] σ ((v * lgt q) % 97) σ := by
  refine CI_of (by decide +kernel) (Nat.le_of_ble_eq_true rfl) rfl (fun X hX => ?_)
  have e : rot 105 (q % 4) = lgt q := by rw [show q % 4 = q by omega]; exact rot105 hq
  have hb := lgt_bd q
  have hm := mul_bd h.1 h.2 (show 0 ≤ lgt q by omega) hb.2
  refine bX2_turned_0 hX ⟨by show _ ∧ _ < ((4 : Nat) : Int); omega, by rw [e]; omega, by omega⟩ ⟨by rw [e], rfl⟩
theorem pw_half {sq : Int} {r : Nat} {res : Int} : (if r % 2 = 1 then (res * sq) % 97 else res) * (((sq * sq) % 97) ^ (r / 2)) % 97 = (res * sq ^ r) % 97 := by
  have h1 : ((sq * sq) % 97) ^ (r / 2) % 97 = sq ^ (2 * (r / 2)) % 97 := by
    rw [m97_pow (m97_id _), Int.pow_mul]
    rw [show sq ^ 2 = sq * sq from by rw [Int.pow_succ, Int.pow_succ, Int.pow_zero, Int.one_mul]]
  split
  · next h =>
    rw [m97_mul (m97_id _) h1, Int.mul_assoc, show r = 2 * (r / 2) + 1 by omega, Int.pow_succ]
    congr 2
    rw [show (2 * (r / 2) + 1) / 2 = r / 2 by omega, Int.mul_comm]
  · next h =>
    rw [m97_mul rfl h1, show 2 * (r / 2) = r by omega]
theorem c_power {v : Int} (h : c97 v) {n : Nat} (hn : n < 1000) (σ : St) : CIe mdX2_power [vi v, vi (n : Int)] σ (pw v n) σ := by
  refine CI_of (by decide +kernel) (Nat.le_of_ble_eq_true rfl) rfl (fun X hX => ?_)
  refine bX2_power_0 ?_
  have key : ∀ (r : Nat) (res sq : Int), r < 1000 → c97 res → c97 sq → (res * sq ^ r) % 97 = pw v n → G mdX2_power X 7 [(2, vi res), (3, vi sq), (4, vi (r : Int))] [] σ := by
    intro r
    induction r using Nat.strongRecOn with
    | ind r ih =>
      intro res sq hr h1 h2 he
      have m1 := mul_bd h1.1 h1.2 h2.1 h2.2
      have m2 := mul_bd h2.1 h2.2 h2.1 h2.2
      unfold c97 at h1 h2
      refine bX2_power_7 (by omega) (fun q => ?_) (fun q => ?_)
      · refine bX2_power_43 hX (by omega) ⟨?_, rfl⟩
        rw [show r = 0 by omega, Int.pow_zero, Int.mul_one] at he
        omega
      · refine bX2_power_12 (by omega) (fun q2 => ?_) (fun q2 => ?_)
        · refine bX2_power_27 (by omega) ?_
          rw [show ((r : Nat) : Int) / 2 = ((r / 2 : Nat) : Int) by omega]
          refine ih (r / 2) (by omega) res _ (by omega) h1 (md97 _) ?_
          rw [← he, ← pw_half (r := r), if_neg (by omega)]
        · refine bX2_power_20 (by omega) (bX2_power_27 (by omega) ?_)
          rw [show ((r : Nat) : Int) / 2 = ((r / 2 : Nat) : Int) by omega]
          refine ih (r / 2) (by omega) _ _ (by omega) (md97 _) (md97 _) ?_
          rw [← he, ← pw_half (r := r), if_pos (by omega)]
  exact key n 1 v hn ⟨by decide, by decide⟩ h (by rw [Int.one_mul]; rfl)
theorem c_inverse {v : Int} (h : c97 v) (σ : St) : CIe mdX2_inverse [vi v] σ (inv97 v) σ := by
  refine CI_of (by decide +kernel) (Nat.le_of_ble_eq_true rfl) rfl (fun X hX => ?_)
  refine bX2_inverse_0 (c_power h (n := 95) (by decide) σ) ?_
  rintro z u hz ⟨rfl, rfl⟩
  exact bX2_inverse_6 hX hz ⟨rfl, rfl⟩
