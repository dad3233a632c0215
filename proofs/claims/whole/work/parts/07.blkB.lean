/-! basic blocks of the reference -/
theorem bX11_in_0 {X : CT} {σ : St} {i0 i1 i2 : Int}  (s : (-2147483648 ≤ i0 ∧ i0 < 2147483648) ∧ (-2147483648 ≤ i1 ∧ i1 < 2147483648))
    (kt : i0 < i1 → G mdX11_in X 14 [] [] σ)
    (kf : i1 ≤ i0 → G mdX11_in X 5 [(0, vi i0), (2, vi i2)] [] σ) :
    G mdX11_in X 0 [(0, vi i0), (1, vi i1), (2, vi i2)] [] σ := by
  refine G.iload_n (z := i0) dX11_in_0 rfl ?_
  refine G.iload_n (z := i1) dX11_in_1 rfl ?_
  exact G.icmp_lt (tgt := 14) dX11_in_2 (by decide) s.1 s.2 (fun q => G.pick [] (kt q)) (fun q => G.pick [0, 2] (kf q))
theorem bX11_in_5 {X : CT} {σ : St} {i0 i2 : Int}  (s : (-2147483648 ≤ i0 ∧ i0 < 2147483648) ∧ (-2147483648 ≤ i2 ∧ i2 < 2147483648))
    (kt : i2 < i0 → G mdX11_in X 14 [] [] σ)
    (kf : i0 ≤ i2 → G mdX11_in X 10 [] [] σ) :
    G mdX11_in X 5 [(0, vi i0), (2, vi i2)] [] σ := by
  refine G.iload_n (z := i0) dX11_in_5 rfl ?_
  refine G.iload_n (z := i2) dX11_in_6 rfl ?_
  exact G.icmp_gt (tgt := 14) dX11_in_7 (by decide) s.1 s.2 (fun q => G.pick [] (kt q)) (fun q => G.pick [] (kf q))
theorem bX11_in_10 {X : CT} {σ : St} 
    (k : G mdX11_in X 15 [] [vi 1] σ) :
    G mdX11_in X 10 [] [] σ := by
  refine G.iconst dX11_in_10 ?_
  refine G.goto (tgt := 15) dX11_in_11 (by decide) ?_
  exact G.pick [] k
theorem bX11_in_14 {X : CT} {σ : St} 
    (k : G mdX11_in X 15 [] [vi 0] σ) :
    G mdX11_in X 14 [] [] σ := by
  refine G.iconst dX11_in_14 ?_
  exact G.pick [] k
theorem bX11_in_15 {X : CT} {σ : St} {t0 : Int}  {P : Int → St → Prop} (hX : RI X P) (s : (t0 = 0 ∨ t0 = 1))
    (k : P t0 σ) :
    G mdX11_in X 15 [] [vi t0] σ := by
  exact G.zret hX dX11_in_15 rfl s k
theorem bX11_has_0 {X : CT} {σ : St} {i0 i1 : Int}  (s : (0 ≤ i0 ∧ i0 < 2147483648) ∧ (0 ≤ i1 ∧ i1 < 32) ∧ (-2147483648 ≤ (i0 / 2 ^ (i1).toNat) % 2 ∧ (i0 / 2 ^ (i1).toNat) % 2 < 2147483648))
    (kt : ¬ (i0 / 2 ^ (i1).toNat) % 2 = 1 → G mdX11_has X 13 [] [] σ)
    (kf : (i0 / 2 ^ (i1).toNat) % 2 = 1 → G mdX11_has X 9 [] [] σ) :
    G mdX11_has X 0 [(0, vi i0), (1, vi i1)] [] σ := by
  refine G.iload_n (z := i0) dX11_has_0 rfl ?_
  refine G.iload_n (z := i1) dX11_has_1 rfl ?_
  refine G.ishr dX11_has_2 s.1 s.2.1 ?_
  refine G.iconst dX11_has_3 ?_
  refine G.iand1 dX11_has_4 ?_
  refine G.iconst dX11_has_5 ?_
  exact G.icmp_ne (tgt := 13) dX11_has_6 (by decide) s.2.2 ⟨by decide, by decide⟩ (fun q => G.pick [] (kt q)) (fun q => G.pick [] (kf q))
theorem bX11_has_9 {X : CT} {σ : St} 
    (k : G mdX11_has X 14 [] [vi 1] σ) :
    G mdX11_has X 9 [] [] σ := by
  refine G.iconst dX11_has_9 ?_
  refine G.goto (tgt := 14) dX11_has_10 (by decide) ?_
  exact G.pick [] k
theorem bX11_has_13 {X : CT} {σ : St} 
    (k : G mdX11_has X 14 [] [vi 0] σ) :
    G mdX11_has X 13 [] [] σ := by
  refine G.iconst dX11_has_13 ?_
  exact G.pick [] k
theorem bX11_has_14 {X : CT} {σ : St} {t0 : Int}  {P : Int → St → Prop} (hX : RI X P) (s : (t0 = 0 ∨ t0 = 1))
    (k : P t0 σ) :
    G mdX11_has X 14 [] [vi t0] σ := by
  exact G.zret hX dX11_has_14 rfl s k
theorem bX11_left_0 {X : CT} {σ : St} {i0 : Int}  {P : Int → St → Prop} (hX : RI X P) (s : (0 ≤ i0 ∧ i0 < 2147483648) ∧ (0 ≤ (i0 % 97) + 97 ∧ (i0 % 97) + 97 < 2147483648) ∧ (-2147483648 ≤ ((i0 % 97) + 97) % 97 ∧ ((i0 % 97) + 97) % 97 < 2147483648))
    (k : P (((i0 % 97) + 97) % 97) σ) :
    G mdX11_left X 0 [(0, vi i0)] [] σ := by
  refine G.iload_n (z := i0) dX11_left_0 rfl ?_
  refine G.bipush dX11_left_1 (by decide) ?_
  refine G.irem dX11_left_3 s.1 ⟨by decide, by decide⟩ ?_
  refine G.bipush dX11_left_4 (by decide) ?_
  refine G.iadd dX11_left_6 ?_
  refine G.bipush dX11_left_7 (by decide) ?_
  refine G.irem dX11_left_9 s.2.1 ⟨by decide, by decide⟩ ?_
  exact G.iret hX dX11_left_10 rfl s.2.2 k
theorem bX11_power_0 {X : CT} {σ : St} {i0 i1 : Int} 
    (k : G mdX11_power X 4 [(0, vi i0), (1, vi i1), (2, vi 1), (3, vi 0)] [] σ) :
    G mdX11_power X 0 [(0, vi i0), (1, vi i1)] [] σ := by
  refine G.iconst dX11_power_0 ?_
  refine G.istore_n dX11_power_1 (by decide) rfl ?_
  refine G.iconst dX11_power_2 ?_
  refine G.istore_n dX11_power_3 (by decide) rfl ?_
  exact G.pick [0, 1, 2, 3] k
theorem bX11_power_4 {X : CT} {σ : St} {i0 i1 i2 i3 : Int}  (s : (-2147483648 ≤ i3 ∧ i3 < 2147483648) ∧ (-2147483648 ≤ i1 ∧ i1 < 2147483648))
    (kt : i1 ≤ i3 → G mdX11_power X 22 [(2, vi i2)] [] σ)
    (kf : i3 < i1 → G mdX11_power X 9 [(0, vi i0), (1, vi i1), (2, vi i2), (3, vi i3)] [] σ) :
    G mdX11_power X 4 [(0, vi i0), (1, vi i1), (2, vi i2), (3, vi i3)] [] σ := by
  refine G.iload_n (z := i3) dX11_power_4 rfl ?_
  refine G.iload_n (z := i1) dX11_power_5 rfl ?_
  exact G.icmp_ge (tgt := 22) dX11_power_6 (by decide) s.1 s.2 (fun q => G.pick [2] (kt q)) (fun q => G.pick [0, 1, 2, 3] (kf q))
theorem bX11_power_9 {X : CT} {σ : St} {i0 i1 i2 i3 : Int}  (s : (0 ≤ i2 * i0 ∧ i2 * i0 < 2147483648))
    (k : G mdX11_power X 4 [(0, vi i0), (1, vi i1), (2, vi ((i2 * i0) % 97)), (3, vi (i3 + 1))] [] σ) :
    G mdX11_power X 9 [(0, vi i0), (1, vi i1), (2, vi i2), (3, vi i3)] [] σ := by
  refine G.iload_n (z := i2) dX11_power_9 rfl ?_
  refine G.iload_n (z := i0) dX11_power_10 rfl ?_
  refine G.imul dX11_power_11 ?_
  refine G.bipush dX11_power_12 (by decide) ?_
  refine G.irem dX11_power_14 s ⟨by decide, by decide⟩ ?_
  refine G.istore_n dX11_power_15 (by decide) rfl ?_
  refine G.iinc (z := i3) dX11_power_16 rfl (by decide) rfl ?_
  refine G.goto (tgt := 4) dX11_power_19 (by decide) ?_
  exact G.pick [0, 1, 2, 3] k
theorem bX11_power_22 {X : CT} {σ : St} {i2 : Int}  {P : Int → St → Prop} (hX : RI X P) (s : (-2147483648 ≤ i2 ∧ i2 < 2147483648))
    (k : P i2 σ) :
    G mdX11_power X 22 [(2, vi i2)] [] σ := by
  refine G.iload_n (z := i2) dX11_power_22 rfl ?_
  exact G.iret hX dX11_power_23 rfl s k
theorem bX11_inverse_0 {X : CT} {σ : St} {i0 : Int}  {P : Int → St → Prop} (hM : CI mdX11_power [vi i0, vi 95] σ P)
    (k : ∀ z σ', inI z → P z σ' → G mdX11_inverse X 6 [] [vi z] (σ')) :
    G mdX11_inverse X 0 [(0, vi i0)] [] σ := by
  refine G.iload_n (z := i0) dX11_inverse_0 rfl ?_
  refine G.bipush dX11_inverse_1 (by decide) ?_
  exact G.callSI (as := [vi i0, vi 95]) (rest := []) dX11_inverse_3 rfl vX11_63 (by decide) (Nat.le_of_ble_eq_true rfl) hM (fun z σ' hz q => G.pick [] (k z σ' hz q))
theorem bX11_inverse_6 {X : CT} {σ : St} {t0 : Int}  {P : Int → St → Prop} (hX : RI X P) (s : (-2147483648 ≤ t0 ∧ t0 < 2147483648))
    (k : P t0 σ) :
    G mdX11_inverse X 6 [] [vi t0] σ := by
  exact G.iret hX dX11_inverse_6 rfl s k
theorem bX11_light_0 {X : CT} {σ : St} {i0 : Int}  (s : (-2147483648 ≤ i0 ∧ i0 < 2147483648))
    (kt : ¬ i0 = 0 → G mdX11_light X 8 [(0, vi i0)] [] σ)
    (kf : i0 = 0 → G mdX11_light X 4 [] [] σ) :
    G mdX11_light X 0 [(0, vi i0)] [] σ := by
  refine G.iload_n (z := i0) dX11_light_0 rfl ?_
  exact G.if_ne (tgt := 8) dX11_light_1 (by decide) s (fun q => G.pick [0] (kt q)) (fun q => G.pick [] (kf q))
theorem bX11_light_4 {X : CT} {σ : St} 
    (k : G mdX11_light X 30 [] [vi 1] σ) :
    G mdX11_light X 4 [] [] σ := by
  refine G.iconst dX11_light_4 ?_
  refine G.goto (tgt := 30) dX11_light_5 (by decide) ?_
  exact G.pick [] k
theorem bX11_light_8 {X : CT} {σ : St} {i0 : Int}  (s : (-2147483648 ≤ i0 ∧ i0 < 2147483648))
    (kt : ¬ i0 = 1 → G mdX11_light X 18 [(0, vi i0)] [] σ)
    (kf : i0 = 1 → G mdX11_light X 13 [] [] σ) :
    G mdX11_light X 8 [(0, vi i0)] [] σ := by
  refine G.iload_n (z := i0) dX11_light_8 rfl ?_
  refine G.iconst dX11_light_9 ?_
  exact G.icmp_ne (tgt := 18) dX11_light_10 (by decide) s ⟨by decide, by decide⟩ (fun q => G.pick [0] (kt q)) (fun q => G.pick [] (kf q))
theorem bX11_light_13 {X : CT} {σ : St} 
    (k : G mdX11_light X 30 [] [vi 22] σ) :
    G mdX11_light X 13 [] [] σ := by
  refine G.bipush dX11_light_13 (by decide) ?_
  refine G.goto (tgt := 30) dX11_light_15 (by decide) ?_
  exact G.pick [] k
theorem bX11_light_18 {X : CT} {σ : St} {i0 : Int}  (s : (-2147483648 ≤ i0 ∧ i0 < 2147483648))
    (kt : ¬ i0 = 2 → G mdX11_light X 28 [] [] σ)
    (kf : i0 = 2 → G mdX11_light X 23 [] [] σ) :
    G mdX11_light X 18 [(0, vi i0)] [] σ := by
  refine G.iload_n (z := i0) dX11_light_18 rfl ?_
  refine G.iconst dX11_light_19 ?_
  exact G.icmp_ne (tgt := 28) dX11_light_20 (by decide) s ⟨by decide, by decide⟩ (fun q => G.pick [] (kt q)) (fun q => G.pick [] (kf q))
theorem bX11_light_23 {X : CT} {σ : St} 
    (k : G mdX11_light X 30 [] [vi 96] σ) :
    G mdX11_light X 23 [] [] σ := by
  refine G.bipush dX11_light_23 (by decide) ?_
  refine G.goto (tgt := 30) dX11_light_25 (by decide) ?_
  exact G.pick [] k
theorem bX11_light_28 {X : CT} {σ : St} 
    (k : G mdX11_light X 30 [] [vi 75] σ) :
    G mdX11_light X 28 [] [] σ := by
  refine G.bipush dX11_light_28 (by decide) ?_
  exact G.pick [] k
theorem bX11_light_30 {X : CT} {σ : St} {t0 : Int}  {P : Int → St → Prop} (hX : RI X P) (s : (-2147483648 ≤ t0 ∧ t0 < 2147483648))
    (k : P t0 σ) :
    G mdX11_light X 30 [] [vi t0] σ := by
  exact G.iret hX dX11_light_30 rfl s k
theorem bX11_decided_0 {X : CT} {σ : St} {i0 : Int} 
    (k : G mdX11_decided X 7 [(0, vi i0), (1, vi 0), (2, vi 97), (3, vi 0)] [] σ) :
    G mdX11_decided X 0 [(0, vi i0)] [] σ := by
  refine G.iconst dX11_decided_0 ?_
  refine G.istore_n dX11_decided_1 (by decide) rfl ?_
  refine G.bipush dX11_decided_2 (by decide) ?_
  refine G.istore_n dX11_decided_4 (by decide) rfl ?_
  refine G.iconst dX11_decided_5 ?_
  refine G.istore_n dX11_decided_6 (by decide) rfl ?_
  exact G.pick [0, 1, 2, 3] k
theorem bX11_decided_7 {X : CT} {σ : St} {i0 i1 i2 i3 : Int}  (s : (-2147483648 ≤ i3 ∧ i3 < 2147483648))
    (kt : 4 ≤ i3 → G mdX11_decided X 81 [(1, vi i1)] [] σ)
    (kf : i3 < 4 → G mdX11_decided X 12 [(0, vi i0), (1, vi i1), (2, vi i2), (3, vi i3)] [] σ) :
    G mdX11_decided X 7 [(0, vi i0), (1, vi i1), (2, vi i2), (3, vi i3)] [] σ := by
  refine G.iload_n (z := i3) dX11_decided_7 rfl ?_
  refine G.iconst dX11_decided_8 ?_
  exact G.icmp_ge (tgt := 81) dX11_decided_9 (by decide) s ⟨by decide, by decide⟩ (fun q => G.pick [1] (kt q)) (fun q => G.pick [0, 1, 2, 3] (kf q))
theorem bX11_decided_12 {X : CT} {σ : St} {i0 i1 i2 i3 : Int}  {P : Int → St → Prop} (hM : CI mdX11_light [vi i3] σ P)
    (k : ∀ z σ', inI z → P z σ' → G mdX11_decided X 17 [(0, vi i0), (1, vi i1), (2, vi i2), (3, vi i3)] [vi z, vi i0] (σ')) :
    G mdX11_decided X 12 [(0, vi i0), (1, vi i1), (2, vi i2), (3, vi i3)] [] σ := by
  refine G.iload_n (z := i0) dX11_decided_12 rfl ?_
  refine G.iload_n (z := i3) dX11_decided_13 rfl ?_
  exact G.callSI (as := [vi i3]) (rest := [vi i0]) dX11_decided_14 rfl vX11_67 (by decide) (Nat.le_of_ble_eq_true rfl) hM (fun z σ' hz q => G.pick [0, 1, 2, 3] (k z σ' hz q))
theorem bX11_decided_17 {X : CT} {σ : St} {i0 i1 i2 i3 t0 t1 : Int}  {P : Int → St → Prop} (hM : CI mdX11_left [vi (t0 - t1)] σ P)
    (k : ∀ z σ', inI z → P z σ' → G mdX11_decided X 21 [(0, vi i0), (1, vi i1), (2, vi i2), (3, vi i3)] [vi z] (σ')) :
    G mdX11_decided X 17 [(0, vi i0), (1, vi i1), (2, vi i2), (3, vi i3)] [vi t1, vi t0] σ := by
  refine G.isub dX11_decided_17 ?_
  exact G.callSI (as := [vi (t0 - t1)]) (rest := []) dX11_decided_18 rfl vX11_71 (by decide) (Nat.le_of_ble_eq_true rfl) hM (fun z σ' hz q => G.pick [0, 1, 2, 3] (k z σ' hz q))
theorem bX11_decided_21 {X : CT} {σ : St} {i0 i1 i2 i3 t0 : Int}  {P : Int → St → Prop} (hM : CI mdX11_light [vi i3] σ P)
    (k : ∀ z σ', inI z → P z σ' → G mdX11_decided X 27 [(0, vi i0), (1, vi i1), (2, vi i2), (3, vi i3), (4, vi t0)] [vi z] (σ')) :
    G mdX11_decided X 21 [(0, vi i0), (1, vi i1), (2, vi i2), (3, vi i3)] [vi t0] σ := by
  refine G.istore dX11_decided_21 (by decide) rfl ?_
  refine G.iload_n (z := i3) dX11_decided_23 rfl ?_
  exact G.callSI (as := [vi i3]) (rest := []) dX11_decided_24 rfl vX11_67 (by decide) (Nat.le_of_ble_eq_true rfl) hM (fun z σ' hz q => G.pick [0, 1, 2, 3, 4] (k z σ' hz q))
theorem bX11_decided_27 {X : CT} {σ : St} {i0 i1 i2 i3 i4 t0 : Int}  {P : Int → St → Prop} (hM : CI mdX11_left [vi (t0 - i0)] σ P)
    (k : ∀ z σ', inI z → P z σ' → G mdX11_decided X 32 [(0, vi i0), (1, vi i1), (2, vi i2), (3, vi i3), (4, vi i4)] [vi z] (σ')) :
    G mdX11_decided X 27 [(0, vi i0), (1, vi i1), (2, vi i2), (3, vi i3), (4, vi i4)] [vi t0] σ := by
  refine G.iload_n (z := i0) dX11_decided_27 rfl ?_
  refine G.isub dX11_decided_28 ?_
  exact G.callSI (as := [vi (t0 - i0)]) (rest := []) dX11_decided_29 rfl vX11_71 (by decide) (Nat.le_of_ble_eq_true rfl) hM (fun z σ' hz q => G.pick [0, 1, 2, 3, 4] (k z σ' hz q))
theorem bX11_decided_32 {X : CT} {σ : St} {i0 i1 i2 i3 i4 t0 : Int}  (s : (-2147483648 ≤ i4 ∧ i4 < 2147483648) ∧ (-2147483648 ≤ t0 ∧ t0 < 2147483648))
    (kt : t0 ≤ i4 → G mdX11_decided X 46 [(0, vi i0), (1, vi i1), (2, vi i2), (3, vi i3), (5, vi t0)] [] σ)
    (kf : i4 < t0 → G mdX11_decided X 41 [(0, vi i0), (1, vi i1), (2, vi i2), (3, vi i3), (4, vi i4)] [] σ) :
    G mdX11_decided X 32 [(0, vi i0), (1, vi i1), (2, vi i2), (3, vi i3), (4, vi i4)] [vi t0] σ := by
  refine G.istore dX11_decided_32 (by decide) rfl ?_
  refine G.iload (z := i4) dX11_decided_34 rfl ?_
  refine G.iload (z := t0) dX11_decided_36 rfl ?_
  exact G.icmp_ge (tgt := 46) dX11_decided_38 (by decide) s.1 s.2 (fun q => G.pick [0, 1, 2, 3, 5] (kt q)) (fun q => G.pick [0, 1, 2, 3, 4] (kf q))
theorem bX11_decided_41 {X : CT} {σ : St} {i0 i1 i2 i3 i4 : Int} 
    (k : G mdX11_decided X 48 [(0, vi i0), (1, vi i1), (2, vi i2), (3, vi i3)] [vi i4] σ) :
    G mdX11_decided X 41 [(0, vi i0), (1, vi i1), (2, vi i2), (3, vi i3), (4, vi i4)] [] σ := by
  refine G.iload (z := i4) dX11_decided_41 rfl ?_
  refine G.goto (tgt := 48) dX11_decided_43 (by decide) ?_
  exact G.pick [0, 1, 2, 3] k
theorem bX11_decided_46 {X : CT} {σ : St} {i0 i1 i2 i3 i5 : Int} 
    (k : G mdX11_decided X 48 [(0, vi i0), (1, vi i1), (2, vi i2), (3, vi i3)] [vi i5] σ) :
    G mdX11_decided X 46 [(0, vi i0), (1, vi i1), (2, vi i2), (3, vi i3), (5, vi i5)] [] σ := by
  refine G.iload (z := i5) dX11_decided_46 rfl ?_
  exact G.pick [0, 1, 2, 3] k
theorem bX11_decided_48 {X : CT} {σ : St} {i0 i1 i2 i3 t0 : Int}  (s : (-2147483648 ≤ t0 ∧ t0 < 2147483648) ∧ (-2147483648 ≤ i2 ∧ i2 < 2147483648))
    (kt : i2 ≤ t0 → G mdX11_decided X 60 [(0, vi i0), (1, vi i1), (2, vi i2), (3, vi i3), (6, vi t0)] [] σ)
    (kf : t0 < i2 → G mdX11_decided X 56 [(0, vi i0), (2, vi i2), (3, vi i3), (6, vi t0)] [] σ) :
    G mdX11_decided X 48 [(0, vi i0), (1, vi i1), (2, vi i2), (3, vi i3)] [vi t0] σ := by
  refine G.istore dX11_decided_48 (by decide) rfl ?_
  refine G.iload (z := t0) dX11_decided_50 rfl ?_
  refine G.iload_n (z := i2) dX11_decided_52 rfl ?_
  exact G.icmp_ge (tgt := 60) dX11_decided_53 (by decide) s.1 s.2 (fun q => G.pick [0, 1, 2, 3, 6] (kt q)) (fun q => G.pick [0, 2, 3, 6] (kf q))
theorem bX11_decided_56 {X : CT} {σ : St} {i0 i2 i3 i6 : Int} 
    (k : G mdX11_decided X 61 [(0, vi i0), (2, vi i2), (3, vi i3), (6, vi i6)] [vi i3] σ) :
    G mdX11_decided X 56 [(0, vi i0), (2, vi i2), (3, vi i3), (6, vi i6)] [] σ := by
  refine G.iload_n (z := i3) dX11_decided_56 rfl ?_
  refine G.goto (tgt := 61) dX11_decided_57 (by decide) ?_
  exact G.pick [0, 2, 3, 6] k
theorem bX11_decided_60 {X : CT} {σ : St} {i0 i1 i2 i3 i6 : Int} 
    (k : G mdX11_decided X 61 [(0, vi i0), (2, vi i2), (3, vi i3), (6, vi i6)] [vi i1] σ) :
    G mdX11_decided X 60 [(0, vi i0), (1, vi i1), (2, vi i2), (3, vi i3), (6, vi i6)] [] σ := by
  refine G.iload_n (z := i1) dX11_decided_60 rfl ?_
  exact G.pick [0, 2, 3, 6] k
theorem bX11_decided_61 {X : CT} {σ : St} {i0 i2 i3 i6 t0 : Int}  (s : (-2147483648 ≤ i6 ∧ i6 < 2147483648) ∧ (-2147483648 ≤ i2 ∧ i2 < 2147483648))
    (kt : i2 ≤ i6 → G mdX11_decided X 73 [(0, vi i0), (1, vi t0), (2, vi i2), (3, vi i3)] [] σ)
    (kf : i6 < i2 → G mdX11_decided X 68 [(0, vi i0), (1, vi t0), (3, vi i3), (6, vi i6)] [] σ) :
    G mdX11_decided X 61 [(0, vi i0), (2, vi i2), (3, vi i3), (6, vi i6)] [vi t0] σ := by
  refine G.istore_n dX11_decided_61 (by decide) rfl ?_
  refine G.iload (z := i6) dX11_decided_62 rfl ?_
  refine G.iload_n (z := i2) dX11_decided_64 rfl ?_
  exact G.icmp_ge (tgt := 73) dX11_decided_65 (by decide) s.1 s.2 (fun q => G.pick [0, 1, 2, 3] (kt q)) (fun q => G.pick [0, 1, 3, 6] (kf q))
theorem bX11_decided_68 {X : CT} {σ : St} {i0 i1 i3 i6 : Int} 
    (k : G mdX11_decided X 74 [(0, vi i0), (1, vi i1), (3, vi i3)] [vi i6] σ) :
    G mdX11_decided X 68 [(0, vi i0), (1, vi i1), (3, vi i3), (6, vi i6)] [] σ := by
  refine G.iload (z := i6) dX11_decided_68 rfl ?_
  refine G.goto (tgt := 74) dX11_decided_70 (by decide) ?_
  exact G.pick [0, 1, 3] k
theorem bX11_decided_73 {X : CT} {σ : St} {i0 i1 i2 i3 : Int} 
    (k : G mdX11_decided X 74 [(0, vi i0), (1, vi i1), (3, vi i3)] [vi i2] σ) :
    G mdX11_decided X 73 [(0, vi i0), (1, vi i1), (2, vi i2), (3, vi i3)] [] σ := by
  refine G.iload_n (z := i2) dX11_decided_73 rfl ?_
  exact G.pick [0, 1, 3] k
theorem bX11_decided_74 {X : CT} {σ : St} {i0 i1 i3 t0 : Int} 
    (k : G mdX11_decided X 7 [(0, vi i0), (1, vi i1), (2, vi t0), (3, vi (i3 + 1))] [] σ) :
    G mdX11_decided X 74 [(0, vi i0), (1, vi i1), (3, vi i3)] [vi t0] σ := by
  refine G.istore_n dX11_decided_74 (by decide) rfl ?_
  refine G.iinc (z := i3) dX11_decided_75 rfl (by decide) rfl ?_
  refine G.goto (tgt := 7) dX11_decided_78 (by decide) ?_
  exact G.pick [0, 1, 2, 3] k
theorem bX11_decided_81 {X : CT} {σ : St} {i1 : Int}  {P : Int → St → Prop} (hX : RI X P) (s : (-2147483648 ≤ i1 ∧ i1 < 2147483648))
    (k : P i1 σ) :
    G mdX11_decided X 81 [(1, vi i1)] [] σ := by
  refine G.iload_n (z := i1) dX11_decided_81 rfl ?_
  exact G.iret hX dX11_decided_82 rfl s k
theorem bX11_note_0 {X : CT} {σ : St}  (s : (-2147483648 ≤ σ 87 4 ∧ σ 87 4 < 2147483648))
    (kt : ¬ σ 87 4 = 6 → G mdX11_note X 76 [(0, vr 87)] [] σ)
    (kf : σ 87 4 = 6 → G mdX11_note X 9 [(0, vr 87)] [] σ) :
    G mdX11_note X 0 [(0, vr 87)] [] σ := by
  refine G.aload_n (o := 87) dX11_note_0 rfl ?_
  refine G.getI (j := 4) dX11_note_1 fX11_74 sh87 rfl rfl rfl ?_
  refine G.bipush dX11_note_4 (by decide) ?_
  exact G.icmp_ne (tgt := 76) dX11_note_6 (by decide) s ⟨by decide, by decide⟩ (fun q => G.pick [0] (kt q)) (fun q => G.pick [0] (kf q))
theorem bX11_note_9 {X : CT} {σ : St} 
    (k : G mdX11_note X 11 [(0, vr 87), (1, vi 0)] [] σ) :
    G mdX11_note X 9 [(0, vr 87)] [] σ := by
  refine G.iconst dX11_note_9 ?_
  refine G.istore_n dX11_note_10 (by decide) rfl ?_
  exact G.pick [0, 1] k
theorem bX11_note_11 {X : CT} {σ : St} {i1 : Int}  (s : (-2147483648 ≤ i1 ∧ i1 < 2147483648))
    (kt : 430 ≤ i1 → G mdX11_note X 39 [(0, vr 87)] [] σ)
    (kf : i1 < 430 → G mdX11_note X 18 [(0, vr 87), (1, vi i1)] [] σ) :
    G mdX11_note X 11 [(0, vr 87), (1, vi i1)] [] σ := by
  refine G.iload_n (z := i1) dX11_note_11 rfl ?_
  refine G.sipush dX11_note_12 (by decide) ?_
  exact G.icmp_ge (tgt := 39) dX11_note_15 (by decide) s ⟨by decide, by decide⟩ (fun q => G.pick [0] (kt q)) (fun q => G.pick [0, 1] (kf q))
theorem bX11_note_18 {X : CT} {σ : St} {i1 : Int}  (s : (0 ≤ i1 + 86 ∧ i1 + 86 < 516) ∧ (0 ≤ i1 ∧ i1 < 516))
    (k : G mdX11_note X 11 [(0, vr 87), (1, vi (i1 + 1))] [] (wr σ 89 i1 (σ 89 (i1 + 86)))) :
    G mdX11_note X 18 [(0, vr 87), (1, vi i1)] [] σ := by
  refine G.aload_n (o := 87) dX11_note_18 rfl ?_
  refine G.getR (o' := 89) dX11_note_19 fX11_13 sh87 rfl ?_
  refine G.iload_n (z := i1) dX11_note_22 rfl ?_
  refine G.aload_n (o := 87) dX11_note_23 rfl ?_
  refine G.getR (o' := 89) dX11_note_24 fX11_13 sh87 rfl ?_
  refine G.iload_n (z := i1) dX11_note_27 rfl ?_
  refine G.bipush dX11_note_28 (by decide) ?_
  refine G.iadd dX11_note_30 ?_
  refine G.iald dX11_note_31 sh89 s.1 ?_
  refine G.iast dX11_note_32 sh89 s.2 ?_
  refine G.iinc (z := i1) dX11_note_33 rfl (by decide) rfl ?_
  refine G.goto (tgt := 11) dX11_note_36 (by decide) ?_
  exact G.pick [0, 1] k
theorem bX11_note_39 {X : CT} {σ : St} 
    (k : G mdX11_note X 41 [(0, vr 87), (1, vi 0)] [] σ) :
    G mdX11_note X 39 [(0, vr 87)] [] σ := by
  refine G.iconst dX11_note_39 ?_
  refine G.istore_n dX11_note_40 (by decide) rfl ?_
  exact G.pick [0, 1] k
theorem bX11_note_41 {X : CT} {σ : St} {i1 : Int}  (s : (-2147483648 ≤ i1 ∧ i1 < 2147483648))
    (kt : 5 ≤ i1 → G mdX11_note X 66 [(0, vr 87)] [] σ)
    (kf : i1 < 5 → G mdX11_note X 46 [(0, vr 87), (1, vi i1)] [] σ) :
    G mdX11_note X 41 [(0, vr 87), (1, vi i1)] [] σ := by
  refine G.iload_n (z := i1) dX11_note_41 rfl ?_
  refine G.iconst dX11_note_42 ?_
  exact G.icmp_ge (tgt := 66) dX11_note_43 (by decide) s ⟨by decide, by decide⟩ (fun q => G.pick [0] (kt q)) (fun q => G.pick [0, 1] (kf q))
theorem bX11_note_46 {X : CT} {σ : St} {i1 : Int}  (s : (0 ≤ i1 + 1 ∧ i1 + 1 < 6) ∧ (0 ≤ i1 ∧ i1 < 6))
    (k : G mdX11_note X 41 [(0, vr 87), (1, vi (i1 + 1))] [] (wr σ 90 i1 (fl (σ 90 (i1 + 1))).toNat)) :
    G mdX11_note X 46 [(0, vr 87), (1, vi i1)] [] σ := by
  refine G.aload_n (o := 87) dX11_note_46 rfl ?_
  refine G.getR (o' := 90) dX11_note_47 fX11_16 sh87 rfl ?_
  refine G.iload_n (z := i1) dX11_note_50 rfl ?_
  refine G.aload_n (o := 87) dX11_note_51 rfl ?_
  refine G.getR (o' := 90) dX11_note_52 fX11_16 sh87 rfl ?_
  refine G.iload_n (z := i1) dX11_note_55 rfl ?_
  refine G.iconst dX11_note_56 ?_
  refine G.iadd dX11_note_57 ?_
  refine G.fald dX11_note_58 sh90 s.1 ?_
  refine G.fast dX11_note_59 sh90 s.2 ?_
  refine G.iinc (z := i1) dX11_note_60 rfl (by decide) rfl ?_
  refine G.goto (tgt := 41) dX11_note_63 (by decide) ?_
  exact G.pick [0, 1] k
theorem bX11_note_66 {X : CT} {σ : St} 
    (k : G mdX11_note X 76 [(0, vr 87)] [] (wr σ 87 4 ((σ 87 4) - 1))) :
    G mdX11_note X 66 [(0, vr 87)] [] σ := by
  refine G.aload_n (o := 87) dX11_note_66 rfl ?_
  refine G.dup dX11_note_67 ?_
  refine G.getI (j := 4) dX11_note_68 fX11_74 sh87 rfl rfl rfl ?_
  refine G.iconst dX11_note_71 ?_
  refine G.isub dX11_note_72 ?_
  refine G.putI (j := 4) dX11_note_73 fX11_74 sh87 rfl rfl rfl rfl rfl ?_
  exact G.pick [0] k
theorem bX11_note_76 {X : CT} {σ : St} 
    (k : G mdX11_note X 78 [(0, vr 87), (1, vi 0)] [] σ) :
    G mdX11_note X 76 [(0, vr 87)] [] σ := by
  refine G.iconst dX11_note_76 ?_
  refine G.istore_n dX11_note_77 (by decide) rfl ?_
  exact G.pick [0, 1] k
theorem bX11_note_78 {X : CT} {σ : St} {i1 : Int}  (s : (-2147483648 ≤ i1 ∧ i1 < 2147483648))
    (kt : 86 ≤ i1 → G mdX11_note X 110 [(0, vr 87)] [] σ)
    (kf : i1 < 86 → G mdX11_note X 84 [(0, vr 87), (1, vi i1)] [] σ) :
    G mdX11_note X 78 [(0, vr 87), (1, vi i1)] [] σ := by
  refine G.iload_n (z := i1) dX11_note_78 rfl ?_
  refine G.bipush dX11_note_79 (by decide) ?_
  exact G.icmp_ge (tgt := 110) dX11_note_81 (by decide) s ⟨by decide, by decide⟩ (fun q => G.pick [0] (kt q)) (fun q => G.pick [0, 1] (kf q))
theorem bX11_note_84 {X : CT} {σ : St} {i1 : Int}  (s : (0 ≤ i1 ∧ i1 < 86) ∧ (0 ≤ (86 * (σ 87 4)) + i1 ∧ (86 * (σ 87 4)) + i1 < 516))
    (k : G mdX11_note X 78 [(0, vr 87), (1, vi (i1 + 1))] [] (wr σ 89 ((86 * (σ 87 4)) + i1) (σ 88 i1))) :
    G mdX11_note X 84 [(0, vr 87), (1, vi i1)] [] σ := by
  refine G.aload_n (o := 87) dX11_note_84 rfl ?_
  refine G.getR (o' := 89) dX11_note_85 fX11_13 sh87 rfl ?_
  refine G.bipush dX11_note_88 (by decide) ?_
  refine G.aload_n (o := 87) dX11_note_90 rfl ?_
  refine G.getI (j := 4) dX11_note_91 fX11_74 sh87 rfl rfl rfl ?_
  refine G.imul dX11_note_94 ?_
  refine G.iload_n (z := i1) dX11_note_95 rfl ?_
  refine G.iadd dX11_note_96 ?_
  refine G.aload_n (o := 87) dX11_note_97 rfl ?_
  refine G.getR (o' := 88) dX11_note_98 fX11_7 sh87 rfl ?_
  refine G.iload_n (z := i1) dX11_note_101 rfl ?_
  refine G.iald dX11_note_102 sh88 s.1 ?_
  refine G.iast dX11_note_103 sh89 s.2 ?_
  refine G.iinc (z := i1) dX11_note_104 rfl (by decide) rfl ?_
  refine G.goto (tgt := 78) dX11_note_107 (by decide) ?_
  exact G.pick [0, 1] k
theorem bX11_note_110 {X : CT} {σ : St}  {P : St → Prop} (hX : RV X P) (s : (0 ≤ σ 87 4 ∧ σ 87 4 < 6))
    (k : P (wr (wr σ 90 (σ 87 4) (fl (σ 87 1)).toNat) 87 4 (((wr σ 90 (σ 87 4) (fl (σ 87 1)).toNat) 87 4) + 1))) :
    G mdX11_note X 110 [(0, vr 87)] [] σ := by
  refine G.aload_n (o := 87) dX11_note_110 rfl ?_
  refine G.getR (o' := 90) dX11_note_111 fX11_16 sh87 rfl ?_
  refine G.aload_n (o := 87) dX11_note_114 rfl ?_
  refine G.getI (j := 4) dX11_note_115 fX11_74 sh87 rfl rfl rfl ?_
  refine G.aload_n (o := 87) dX11_note_118 rfl ?_
  refine G.getF (j := 1) dX11_note_119 fX11_78 sh87 rfl rfl ?_
  refine G.fast dX11_note_122 sh90 s ?_
  refine G.aload_n (o := 87) dX11_note_123 rfl ?_
  refine G.dup dX11_note_124 ?_
  refine G.getI (j := 4) dX11_note_125 fX11_74 sh87 rfl rfl rfl ?_
  refine G.iconst dX11_note_128 ?_
  refine G.iadd dX11_note_129 ?_
  refine G.putI (j := 4) dX11_note_130 fX11_74 sh87 rfl rfl rfl rfl rfl ?_
  exact G.vret hX dX11_note_133 rfl k
theorem bX11_undo_0 {X : CT} {σ : St}  (s : (-2147483648 ≤ σ 87 4 ∧ σ 87 4 < 2147483648))
    (kt : ¬ σ 87 4 = 0 → G mdX11_undo X 10 [(0, vr 87)] [] σ)
    (kf : σ 87 4 = 0 → G mdX11_undo X 7 [] [] σ) :
    G mdX11_undo X 0 [(0, vr 87)] [] σ := by
  refine G.aload_n (o := 87) dX11_undo_0 rfl ?_
  refine G.getI (j := 4) dX11_undo_1 fX11_74 sh87 rfl rfl rfl ?_
  exact G.if_ne (tgt := 10) dX11_undo_4 (by decide) s (fun q => G.pick [0] (kt q)) (fun q => G.pick [] (kf q))
theorem bX11_undo_7 {X : CT} {σ : St}  {P : Int → St → Prop} (hX : RI X P)
    (k : P (-2) σ) :
    G mdX11_undo X 7 [] [] σ := by
  refine G.bipush dX11_undo_7 (by decide) ?_
  exact G.iret hX dX11_undo_9 rfl ⟨by decide, by decide⟩ k
theorem bX11_undo_10 {X : CT} {σ : St} 
    (k : G mdX11_undo X 22 [(0, vr 87), (1, vi 0)] [] (wr σ 87 4 ((σ 87 4) - 1))) :
    G mdX11_undo X 10 [(0, vr 87)] [] σ := by
  refine G.aload_n (o := 87) dX11_undo_10 rfl ?_
  refine G.dup dX11_undo_11 ?_
  refine G.getI (j := 4) dX11_undo_12 fX11_74 sh87 rfl rfl rfl ?_
  refine G.iconst dX11_undo_15 ?_
  refine G.isub dX11_undo_16 ?_
  refine G.putI (j := 4) dX11_undo_17 fX11_74 sh87 rfl rfl rfl rfl rfl ?_
  refine G.iconst dX11_undo_20 ?_
  refine G.istore_n dX11_undo_21 (by decide) rfl ?_
  exact G.pick [0, 1] k
theorem bX11_undo_22 {X : CT} {σ : St} {i1 : Int}  (s : (-2147483648 ≤ i1 ∧ i1 < 2147483648))
    (kt : 86 ≤ i1 → G mdX11_undo X 54 [(0, vr 87)] [] σ)
    (kf : i1 < 86 → G mdX11_undo X 28 [(0, vr 87), (1, vi i1)] [] σ) :
    G mdX11_undo X 22 [(0, vr 87), (1, vi i1)] [] σ := by
  refine G.iload_n (z := i1) dX11_undo_22 rfl ?_
  refine G.bipush dX11_undo_23 (by decide) ?_
  exact G.icmp_ge (tgt := 54) dX11_undo_25 (by decide) s ⟨by decide, by decide⟩ (fun q => G.pick [0] (kt q)) (fun q => G.pick [0, 1] (kf q))
theorem bX11_undo_28 {X : CT} {σ : St} {i1 : Int}  (s : (0 ≤ (86 * (σ 87 4)) + i1 ∧ (86 * (σ 87 4)) + i1 < 516) ∧ (0 ≤ i1 ∧ i1 < 86))
    (k : G mdX11_undo X 22 [(0, vr 87), (1, vi (i1 + 1))] [] (wr σ 88 i1 (σ 89 ((86 * (σ 87 4)) + i1)))) :
    G mdX11_undo X 28 [(0, vr 87), (1, vi i1)] [] σ := by
  refine G.aload_n (o := 87) dX11_undo_28 rfl ?_
  refine G.getR (o' := 88) dX11_undo_29 fX11_7 sh87 rfl ?_
  refine G.iload_n (z := i1) dX11_undo_32 rfl ?_
  refine G.aload_n (o := 87) dX11_undo_33 rfl ?_
  refine G.getR (o' := 89) dX11_undo_34 fX11_13 sh87 rfl ?_
  refine G.bipush dX11_undo_37 (by decide) ?_
  refine G.aload_n (o := 87) dX11_undo_39 rfl ?_
  refine G.getI (j := 4) dX11_undo_40 fX11_74 sh87 rfl rfl rfl ?_
  refine G.imul dX11_undo_43 ?_
  refine G.iload_n (z := i1) dX11_undo_44 rfl ?_
  refine G.iadd dX11_undo_45 ?_
  refine G.iald dX11_undo_46 sh89 s.1 ?_
  refine G.iast dX11_undo_47 sh88 s.2 ?_
  refine G.iinc (z := i1) dX11_undo_48 rfl (by decide) rfl ?_
  refine G.goto (tgt := 22) dX11_undo_51 (by decide) ?_
  exact G.pick [0, 1] k
theorem bX11_undo_54 {X : CT} {σ : St}  {P : Int → St → Prop} (hX : RI X P) (s : (0 ≤ σ 87 4 ∧ σ 87 4 < 6) ∧ (-2147483648 ≤ (wr σ 87 1 (fl (σ 90 (σ 87 4))).toNat) 87 4 ∧ (wr σ 87 1 (fl (σ 90 (σ 87 4))).toNat) 87 4 < 2147483648))
    (k : P ((wr σ 87 1 (fl (σ 90 (σ 87 4))).toNat) 87 4) (wr σ 87 1 (fl (σ 90 (σ 87 4))).toNat)) :
    G mdX11_undo X 54 [(0, vr 87)] [] σ := by
  refine G.aload_n (o := 87) dX11_undo_54 rfl ?_
  refine G.aload_n (o := 87) dX11_undo_55 rfl ?_
  refine G.getR (o' := 90) dX11_undo_56 fX11_16 sh87 rfl ?_
  refine G.aload_n (o := 87) dX11_undo_59 rfl ?_
  refine G.getI (j := 4) dX11_undo_60 fX11_74 sh87 rfl rfl rfl ?_
  refine G.fald dX11_undo_63 sh90 s.1 ?_
  refine G.putF (j := 1) dX11_undo_64 fX11_78 sh87 rfl rfl rfl rfl rfl ?_
  refine G.aload_n (o := 87) dX11_undo_67 rfl ?_
  refine G.getI (j := 4) dX11_undo_68 fX11_74 sh87 rfl rfl rfl ?_
  exact G.iret hX dX11_undo_71 rfl s.2 k
theorem bX11_mayBe_0 {X : CT} {σ : St} {i0 i1 i2 i3 i4 i5 : Int}  (s : (-2147483648 ≤ i0 ∧ i0 < 2147483648))
    (k0 : i0 = 0 → G mdX11_mayBe X 32 [(1, vi i1), (2, vi i2)] [] σ)
    (k1 : i0 = 1 → G mdX11_mayBe X 75 [(1, vi i1), (2, vi i2), (3, vi i3), (4, vi i4), (5, vi i5)] [] σ)
    (k2 : i0 = 2 → G mdX11_mayBe X 111 [(1, vi i1), (2, vi i2)] [] σ)
    (k3 : i0 = 3 → G mdX11_mayBe X 150 [(1, vi i1), (2, vi i2)] [] σ)
    (kd : i0 < 0 ∨ 3 < i0 → G mdX11_mayBe X 175 [(1, vi i1), (2, vi i2)] [] σ) :
    G mdX11_mayBe X 0 [(0, vi i0), (1, vi i1), (2, vi i2), (3, vi i3), (4, vi i4), (5, vi i5)] [] σ := by
  refine G.iload_n (z := i0) dX11_mayBe_0 rfl ?_
  have hsw : i0 = 0 ∨ i0 = 1 ∨ i0 = 2 ∨ i0 = 3 ∨ (i0 < 0 ∨ 3 < i0) := by omega
  rcases hsw with q | q | q | q | q
  · exact G.tswIn (v := 0) (tgt := 32) dX11_mayBe_1 s q ⟨by decide, by decide⟩ (off := 31) rfl (by decide) (G.pick [1, 2] (k0 q))
  · exact G.tswIn (v := 1) (tgt := 75) dX11_mayBe_1 s q ⟨by decide, by decide⟩ (off := 74) rfl (by decide) (G.pick [1, 2, 3, 4, 5] (k1 q))
  · exact G.tswIn (v := 2) (tgt := 111) dX11_mayBe_1 s q ⟨by decide, by decide⟩ (off := 110) rfl (by decide) (G.pick [1, 2] (k2 q))
  · exact G.tswIn (v := 3) (tgt := 150) dX11_mayBe_1 s q ⟨by decide, by decide⟩ (off := 149) rfl (by decide) (G.pick [1, 2] (k3 q))
  · exact G.tswOut (tgt := 175) dX11_mayBe_1 s q (by decide) (G.pick [1, 2] (kd q))
theorem bX11_mayBe_32 {X : CT} {σ : St} {i1 i2 : Int}  (s : (-2147483648 ≤ i1 ∧ i1 < 2147483648))
    (kt : ¬ i1 = 1 → G mdX11_mayBe X 65 [(2, vi i2)] [] σ)
    (kf : i1 = 1 → G mdX11_mayBe X 37 [(2, vi i2)] [] σ) :
    G mdX11_mayBe X 32 [(1, vi i1), (2, vi i2)] [] σ := by
  refine G.iload_n (z := i1) dX11_mayBe_32 rfl ?_
  refine G.iconst dX11_mayBe_33 ?_
  exact G.icmp_ne (tgt := 65) dX11_mayBe_34 (by decide) s ⟨by decide, by decide⟩ (fun q => G.pick [2] (kt q)) (fun q => G.pick [2] (kf q))
theorem bX11_mayBe_37 {X : CT} {σ : St} {i2 : Int}  {P : Int → St → Prop} (hM : CI mdX11_in [vi i2, vi 1, vi 96] σ P)
    (k : ∀ z σ', inI z → P z σ' → G mdX11_mayBe X 44 [(2, vi i2)] [vi z] (σ')) :
    G mdX11_mayBe X 37 [(2, vi i2)] [] σ := by
  refine G.iload_n (z := i2) dX11_mayBe_37 rfl ?_
  refine G.iconst dX11_mayBe_38 ?_
  refine G.bipush dX11_mayBe_39 (by decide) ?_
  exact G.callSI (as := [vi i2, vi 1, vi 96]) (rest := []) dX11_mayBe_41 rfl vX11_82 (by decide) (Nat.le_of_ble_eq_true rfl) hM (fun z σ' hz q => G.pick [2] (k z σ' hz q))
theorem bX11_mayBe_44 {X : CT} {σ : St} {i2 t0 : Int}  (s : (-2147483648 ≤ t0 ∧ t0 < 2147483648))
    (kt : t0 = 0 → G mdX11_mayBe X 61 [] [] σ)
    (kf : ¬ t0 = 0 → G mdX11_mayBe X 47 [(2, vi i2)] [] σ) :
    G mdX11_mayBe X 44 [(2, vi i2)] [vi t0] σ := by
  exact G.if_eq (tgt := 61) dX11_mayBe_44 (by decide) s (fun q => G.pick [] (kt q)) (fun q => G.pick [2] (kf q))
theorem bX11_mayBe_47 {X : CT} {σ : St} {i2 : Int}  {P : Int → St → Prop} (hM : CI mdX11_power [vi i2, vi 16] σ P)
    (k : ∀ z σ', inI z → P z σ' → G mdX11_mayBe X 53 [] [vi z] (σ')) :
    G mdX11_mayBe X 47 [(2, vi i2)] [] σ := by
  refine G.iload_n (z := i2) dX11_mayBe_47 rfl ?_
  refine G.bipush dX11_mayBe_48 (by decide) ?_
  exact G.callSI (as := [vi i2, vi 16]) (rest := []) dX11_mayBe_50 rfl vX11_63 (by decide) (Nat.le_of_ble_eq_true rfl) hM (fun z σ' hz q => G.pick [] (k z σ' hz q))
theorem bX11_mayBe_53 {X : CT} {σ : St} {t0 : Int}  (s : (-2147483648 ≤ t0 ∧ t0 < 2147483648))
    (kt : t0 = 1 → G mdX11_mayBe X 61 [] [] σ)
    (kf : ¬ t0 = 1 → G mdX11_mayBe X 57 [] [] σ) :
    G mdX11_mayBe X 53 [] [vi t0] σ := by
  refine G.iconst dX11_mayBe_53 ?_
  exact G.icmp_eq (tgt := 61) dX11_mayBe_54 (by decide) s ⟨by decide, by decide⟩ (fun q => G.pick [] (kt q)) (fun q => G.pick [] (kf q))
theorem bX11_mayBe_57 {X : CT} {σ : St} 
    (k : G mdX11_mayBe X 74 [] [vi 1] σ) :
    G mdX11_mayBe X 57 [] [] σ := by
  refine G.iconst dX11_mayBe_57 ?_
  refine G.goto (tgt := 74) dX11_mayBe_58 (by decide) ?_
  exact G.pick [] k
theorem bX11_mayBe_61 {X : CT} {σ : St} 
    (k : G mdX11_mayBe X 74 [] [vi 0] σ) :
    G mdX11_mayBe X 61 [] [] σ := by
  refine G.iconst dX11_mayBe_61 ?_
  refine G.goto (tgt := 74) dX11_mayBe_62 (by decide) ?_
  exact G.pick [] k
theorem bX11_mayBe_65 {X : CT} {σ : St} {i2 : Int}  (s : (-2147483648 ≤ i2 ∧ i2 < 2147483648))
    (kt : ¬ i2 = 0 → G mdX11_mayBe X 73 [] [] σ)
    (kf : i2 = 0 → G mdX11_mayBe X 69 [] [] σ) :
    G mdX11_mayBe X 65 [(2, vi i2)] [] σ := by
  refine G.iload_n (z := i2) dX11_mayBe_65 rfl ?_
  exact G.if_ne (tgt := 73) dX11_mayBe_66 (by decide) s (fun q => G.pick [] (kt q)) (fun q => G.pick [] (kf q))
theorem bX11_mayBe_69 {X : CT} {σ : St} 
    (k : G mdX11_mayBe X 74 [] [vi 1] σ) :
    G mdX11_mayBe X 69 [] [] σ := by
  refine G.iconst dX11_mayBe_69 ?_
  refine G.goto (tgt := 74) dX11_mayBe_70 (by decide) ?_
  exact G.pick [] k
theorem bX11_mayBe_73 {X : CT} {σ : St} 
    (k : G mdX11_mayBe X 74 [] [vi 0] σ) :
    G mdX11_mayBe X 73 [] [] σ := by
  refine G.iconst dX11_mayBe_73 ?_
  exact G.pick [] k
theorem bX11_mayBe_74 {X : CT} {σ : St} {t0 : Int}  {P : Int → St → Prop} (hX : RI X P) (s : (t0 = 0 ∨ t0 = 1))
    (k : P t0 σ) :
    G mdX11_mayBe X 74 [] [vi t0] σ := by
  exact G.zret hX dX11_mayBe_74 rfl s k
theorem bX11_mayBe_75 {X : CT} {σ : St} {i1 i2 i3 i4 i5 : Int}  {P : Int → St → Prop} (hM : CI mdX11_in [vi i2, vi 0, vi 96] σ P)
    (k : ∀ z σ', inI z → P z σ' → G mdX11_mayBe X 82 [(1, vi i1), (2, vi i2), (3, vi i3), (4, vi i4), (5, vi i5)] [vi z] (σ')) :
    G mdX11_mayBe X 75 [(1, vi i1), (2, vi i2), (3, vi i3), (4, vi i4), (5, vi i5)] [] σ := by
  refine G.iload_n (z := i2) dX11_mayBe_75 rfl ?_
  refine G.iconst dX11_mayBe_76 ?_
  refine G.bipush dX11_mayBe_77 (by decide) ?_
  exact G.callSI (as := [vi i2, vi 0, vi 96]) (rest := []) dX11_mayBe_79 rfl vX11_82 (by decide) (Nat.le_of_ble_eq_true rfl) hM (fun z σ' hz q => G.pick [1, 2, 3, 4, 5] (k z σ' hz q))
theorem bX11_mayBe_82 {X : CT} {σ : St} {i1 i2 i3 i4 i5 t0 : Int}  (s : (-2147483648 ≤ t0 ∧ t0 < 2147483648))
    (kt : t0 = 0 → G mdX11_mayBe X 109 [] [] σ)
    (kf : ¬ t0 = 0 → G mdX11_mayBe X 85 [(1, vi i1), (2, vi i2), (3, vi i3), (4, vi i4), (5, vi i5)] [] σ) :
    G mdX11_mayBe X 82 [(1, vi i1), (2, vi i2), (3, vi i3), (4, vi i4), (5, vi i5)] [vi t0] σ := by
  exact G.if_eq (tgt := 109) dX11_mayBe_82 (by decide) s (fun q => G.pick [] (kt q)) (fun q => G.pick [1, 2, 3, 4, 5] (kf q))
theorem bX11_mayBe_85 {X : CT} {σ : St} {i1 i2 i3 i4 i5 : Int}  (s : (-2147483648 ≤ i1 ∧ i1 < 2147483648))
    (kt : i1 < 4 → G mdX11_mayBe X 105 [] [] σ)
    (kf : 4 ≤ i1 → G mdX11_mayBe X 90 [(2, vi i2), (3, vi i3), (4, vi i4), (5, vi i5)] [] σ) :
    G mdX11_mayBe X 85 [(1, vi i1), (2, vi i2), (3, vi i3), (4, vi i4), (5, vi i5)] [] σ := by
  refine G.iload_n (z := i1) dX11_mayBe_85 rfl ?_
  refine G.iconst dX11_mayBe_86 ?_
  exact G.icmp_lt (tgt := 105) dX11_mayBe_87 (by decide) s ⟨by decide, by decide⟩ (fun q => G.pick [] (kt q)) (fun q => G.pick [2, 3, 4, 5] (kf q))
theorem bX11_mayBe_90 {X : CT} {σ : St} {i2 i3 i4 i5 : Int}  {P : Int → St → Prop} (hM : CI mdX11_left [vi ((i3 * i2) - (i4 * i5))] σ P)
    (k : ∀ z σ', inI z → P z σ' → G mdX11_mayBe X 102 [] [vi z] (σ')) :
    G mdX11_mayBe X 90 [(2, vi i2), (3, vi i3), (4, vi i4), (5, vi i5)] [] σ := by
  refine G.iload_n (z := i3) dX11_mayBe_90 rfl ?_
  refine G.iload_n (z := i2) dX11_mayBe_91 rfl ?_
  refine G.imul dX11_mayBe_92 ?_
  refine G.iload (z := i4) dX11_mayBe_93 rfl ?_
  refine G.iload (z := i5) dX11_mayBe_95 rfl ?_
  refine G.imul dX11_mayBe_97 ?_
  refine G.isub dX11_mayBe_98 ?_
  exact G.callSI (as := [vi ((i3 * i2) - (i4 * i5))]) (rest := []) dX11_mayBe_99 rfl vX11_71 (by decide) (Nat.le_of_ble_eq_true rfl) hM (fun z σ' hz q => G.pick [] (k z σ' hz q))
theorem bX11_mayBe_102 {X : CT} {σ : St} {t0 : Int}  (s : (-2147483648 ≤ t0 ∧ t0 < 2147483648))
    (kt : t0 = 0 → G mdX11_mayBe X 109 [] [] σ)
    (kf : ¬ t0 = 0 → G mdX11_mayBe X 105 [] [] σ) :
    G mdX11_mayBe X 102 [] [vi t0] σ := by
  exact G.if_eq (tgt := 109) dX11_mayBe_102 (by decide) s (fun q => G.pick [] (kt q)) (fun q => G.pick [] (kf q))
theorem bX11_mayBe_105 {X : CT} {σ : St} 
    (k : G mdX11_mayBe X 110 [] [vi 1] σ) :
    G mdX11_mayBe X 105 [] [] σ := by
  refine G.iconst dX11_mayBe_105 ?_
  refine G.goto (tgt := 110) dX11_mayBe_106 (by decide) ?_
  exact G.pick [] k
theorem bX11_mayBe_109 {X : CT} {σ : St} 
    (k : G mdX11_mayBe X 110 [] [vi 0] σ) :
    G mdX11_mayBe X 109 [] [] σ := by
  refine G.iconst dX11_mayBe_109 ?_
  exact G.pick [] k
theorem bX11_mayBe_110 {X : CT} {σ : St} {t0 : Int}  {P : Int → St → Prop} (hX : RI X P) (s : (t0 = 0 ∨ t0 = 1))
    (k : P t0 σ) :
    G mdX11_mayBe X 110 [] [vi t0] σ := by
  exact G.zret hX dX11_mayBe_110 rfl s k
theorem bX11_mayBe_111 {X : CT} {σ : St} {i1 i2 : Int}  (s : (-2147483648 ≤ i1 ∧ i1 < 2147483648))
    (kt : ¬ i1 = 1 → G mdX11_mayBe X 126 [(1, vi i1), (2, vi i2)] [] σ)
    (kf : i1 = 1 → G mdX11_mayBe X 116 [(2, vi i2)] [] σ) :
    G mdX11_mayBe X 111 [(1, vi i1), (2, vi i2)] [] σ := by
  refine G.iload_n (z := i1) dX11_mayBe_111 rfl ?_
  refine G.iconst dX11_mayBe_112 ?_
  exact G.icmp_ne (tgt := 126) dX11_mayBe_113 (by decide) s ⟨by decide, by decide⟩ (fun q => G.pick [1, 2] (kt q)) (fun q => G.pick [2] (kf q))
theorem bX11_mayBe_116 {X : CT} {σ : St} {i2 : Int}  {P : Int → St → Prop} (hM : CI mdX11_in [vi i2, vi 0, vi 15] σ P)
    (k : ∀ z σ', inI z → P z σ' → G mdX11_mayBe X 123 [] [vi z] (σ')) :
    G mdX11_mayBe X 116 [(2, vi i2)] [] σ := by
  refine G.iload_n (z := i2) dX11_mayBe_116 rfl ?_
  refine G.iconst dX11_mayBe_117 ?_
  refine G.bipush dX11_mayBe_118 (by decide) ?_
  exact G.callSI (as := [vi i2, vi 0, vi 15]) (rest := []) dX11_mayBe_120 rfl vX11_82 (by decide) (Nat.le_of_ble_eq_true rfl) hM (fun z σ' hz q => G.pick [] (k z σ' hz q))
theorem bX11_mayBe_123 {X : CT} {σ : St} {t0 : Int} 
    (k : G mdX11_mayBe X 149 [] [vi t0] σ) :
    G mdX11_mayBe X 123 [] [vi t0] σ := by
  refine G.goto (tgt := 149) dX11_mayBe_123 (by decide) ?_
  exact G.pick [] k
theorem bX11_mayBe_126 {X : CT} {σ : St} {i1 i2 : Int}  (s : (-2147483648 ≤ i1 ∧ i1 < 2147483648))
    (kt : ¬ i1 = 2 → G mdX11_mayBe X 140 [(2, vi i2)] [] σ)
    (kf : i1 = 2 → G mdX11_mayBe X 131 [(2, vi i2)] [] σ) :
    G mdX11_mayBe X 126 [(1, vi i1), (2, vi i2)] [] σ := by
  refine G.iload_n (z := i1) dX11_mayBe_126 rfl ?_
  refine G.iconst dX11_mayBe_127 ?_
  exact G.icmp_ne (tgt := 140) dX11_mayBe_128 (by decide) s ⟨by decide, by decide⟩ (fun q => G.pick [2] (kt q)) (fun q => G.pick [2] (kf q))
theorem bX11_mayBe_131 {X : CT} {σ : St} {i2 : Int}  {P : Int → St → Prop} (hM : CI mdX11_in [vi i2, vi 1, vi 3] σ P)
    (k : ∀ z σ', inI z → P z σ' → G mdX11_mayBe X 137 [] [vi z] (σ')) :
    G mdX11_mayBe X 131 [(2, vi i2)] [] σ := by
  refine G.iload_n (z := i2) dX11_mayBe_131 rfl ?_
  refine G.iconst dX11_mayBe_132 ?_
  refine G.iconst dX11_mayBe_133 ?_
  exact G.callSI (as := [vi i2, vi 1, vi 3]) (rest := []) dX11_mayBe_134 rfl vX11_82 (by decide) (Nat.le_of_ble_eq_true rfl) hM (fun z σ' hz q => G.pick [] (k z σ' hz q))
theorem bX11_mayBe_137 {X : CT} {σ : St} {t0 : Int} 
    (k : G mdX11_mayBe X 149 [] [vi t0] σ) :
    G mdX11_mayBe X 137 [] [vi t0] σ := by
  refine G.goto (tgt := 149) dX11_mayBe_137 (by decide) ?_
  exact G.pick [] k
theorem bX11_mayBe_140 {X : CT} {σ : St} {i2 : Int}  (s : (-2147483648 ≤ i2 ∧ i2 < 2147483648))
    (kt : ¬ i2 = 0 → G mdX11_mayBe X 148 [] [] σ)
    (kf : i2 = 0 → G mdX11_mayBe X 144 [] [] σ) :
    G mdX11_mayBe X 140 [(2, vi i2)] [] σ := by
  refine G.iload_n (z := i2) dX11_mayBe_140 rfl ?_
  exact G.if_ne (tgt := 148) dX11_mayBe_141 (by decide) s (fun q => G.pick [] (kt q)) (fun q => G.pick [] (kf q))
theorem bX11_mayBe_144 {X : CT} {σ : St} 
    (k : G mdX11_mayBe X 149 [] [vi 1] σ) :
    G mdX11_mayBe X 144 [] [] σ := by
  refine G.iconst dX11_mayBe_144 ?_
  refine G.goto (tgt := 149) dX11_mayBe_145 (by decide) ?_
  exact G.pick [] k
theorem bX11_mayBe_148 {X : CT} {σ : St} 
    (k : G mdX11_mayBe X 149 [] [vi 0] σ) :
    G mdX11_mayBe X 148 [] [] σ := by
  refine G.iconst dX11_mayBe_148 ?_
  exact G.pick [] k
theorem bX11_mayBe_149 {X : CT} {σ : St} {t0 : Int}  {P : Int → St → Prop} (hX : RI X P) (s : (t0 = 0 ∨ t0 = 1))
    (k : P t0 σ) :
    G mdX11_mayBe X 149 [] [vi t0] σ := by
  exact G.zret hX dX11_mayBe_149 rfl s k
theorem bX11_mayBe_150 {X : CT} {σ : St} {i1 i2 : Int}  (s : (-2147483648 ≤ i1 ∧ i1 < 2147483648))
    (kt : ¬ i1 = 1 → G mdX11_mayBe X 165 [(2, vi i2)] [] σ)
    (kf : i1 = 1 → G mdX11_mayBe X 155 [(2, vi i2)] [] σ) :
    G mdX11_mayBe X 150 [(1, vi i1), (2, vi i2)] [] σ := by
  refine G.iload_n (z := i1) dX11_mayBe_150 rfl ?_
  refine G.iconst dX11_mayBe_151 ?_
  exact G.icmp_ne (tgt := 165) dX11_mayBe_152 (by decide) s ⟨by decide, by decide⟩ (fun q => G.pick [2] (kt q)) (fun q => G.pick [2] (kf q))
theorem bX11_mayBe_155 {X : CT} {σ : St} {i2 : Int}  {P : Int → St → Prop} (hM : CI mdX11_in [vi i2, vi 1, vi 15] σ P)
    (k : ∀ z σ', inI z → P z σ' → G mdX11_mayBe X 162 [] [vi z] (σ')) :
    G mdX11_mayBe X 155 [(2, vi i2)] [] σ := by
  refine G.iload_n (z := i2) dX11_mayBe_155 rfl ?_
  refine G.iconst dX11_mayBe_156 ?_
  refine G.bipush dX11_mayBe_157 (by decide) ?_
  exact G.callSI (as := [vi i2, vi 1, vi 15]) (rest := []) dX11_mayBe_159 rfl vX11_82 (by decide) (Nat.le_of_ble_eq_true rfl) hM (fun z σ' hz q => G.pick [] (k z σ' hz q))
theorem bX11_mayBe_162 {X : CT} {σ : St} {t0 : Int} 
    (k : G mdX11_mayBe X 174 [] [vi t0] σ) :
    G mdX11_mayBe X 162 [] [vi t0] σ := by
  refine G.goto (tgt := 174) dX11_mayBe_162 (by decide) ?_
  exact G.pick [] k
theorem bX11_mayBe_165 {X : CT} {σ : St} {i2 : Int}  (s : (-2147483648 ≤ i2 ∧ i2 < 2147483648))
    (kt : ¬ i2 = 0 → G mdX11_mayBe X 173 [] [] σ)
    (kf : i2 = 0 → G mdX11_mayBe X 169 [] [] σ) :
    G mdX11_mayBe X 165 [(2, vi i2)] [] σ := by
  refine G.iload_n (z := i2) dX11_mayBe_165 rfl ?_
  exact G.if_ne (tgt := 173) dX11_mayBe_166 (by decide) s (fun q => G.pick [] (kt q)) (fun q => G.pick [] (kf q))
theorem bX11_mayBe_169 {X : CT} {σ : St} 
    (k : G mdX11_mayBe X 174 [] [vi 1] σ) :
    G mdX11_mayBe X 169 [] [] σ := by
  refine G.iconst dX11_mayBe_169 ?_
  refine G.goto (tgt := 174) dX11_mayBe_170 (by decide) ?_
  exact G.pick [] k
theorem bX11_mayBe_173 {X : CT} {σ : St} 
    (k : G mdX11_mayBe X 174 [] [vi 0] σ) :
    G mdX11_mayBe X 173 [] [] σ := by
  refine G.iconst dX11_mayBe_173 ?_
  exact G.pick [] k
theorem bX11_mayBe_174 {X : CT} {σ : St} {t0 : Int}  {P : Int → St → Prop} (hX : RI X P) (s : (t0 = 0 ∨ t0 = 1))
    (k : P t0 σ) :
    G mdX11_mayBe X 174 [] [vi t0] σ := by
  exact G.zret hX dX11_mayBe_174 rfl s k
theorem bX11_mayBe_175 {X : CT} {σ : St} {i1 i2 : Int}  (s : (-2147483648 ≤ i1 ∧ i1 < 2147483648))
    (kt : ¬ i1 = 1 → G mdX11_mayBe X 189 [(1, vi i1), (2, vi i2)] [] σ)
    (kf : i1 = 1 → G mdX11_mayBe X 180 [(2, vi i2)] [] σ) :
    G mdX11_mayBe X 175 [(1, vi i1), (2, vi i2)] [] σ := by
  refine G.iload_n (z := i1) dX11_mayBe_175 rfl ?_
  refine G.iconst dX11_mayBe_176 ?_
  exact G.icmp_ne (tgt := 189) dX11_mayBe_177 (by decide) s ⟨by decide, by decide⟩ (fun q => G.pick [1, 2] (kt q)) (fun q => G.pick [2] (kf q))
theorem bX11_mayBe_180 {X : CT} {σ : St} {i2 : Int}  {P : Int → St → Prop} (hM : CI mdX11_in [vi i2, vi 0, vi 1] σ P)
    (k : ∀ z σ', inI z → P z σ' → G mdX11_mayBe X 186 [] [vi z] (σ')) :
    G mdX11_mayBe X 180 [(2, vi i2)] [] σ := by
  refine G.iload_n (z := i2) dX11_mayBe_180 rfl ?_
  refine G.iconst dX11_mayBe_181 ?_
  refine G.iconst dX11_mayBe_182 ?_
  exact G.callSI (as := [vi i2, vi 0, vi 1]) (rest := []) dX11_mayBe_183 rfl vX11_82 (by decide) (Nat.le_of_ble_eq_true rfl) hM (fun z σ' hz q => G.pick [] (k z σ' hz q))
theorem bX11_mayBe_186 {X : CT} {σ : St} {t0 : Int} 
    (k : G mdX11_mayBe X 228 [] [vi t0] σ) :
    G mdX11_mayBe X 186 [] [vi t0] σ := by
  refine G.goto (tgt := 228) dX11_mayBe_186 (by decide) ?_
  exact G.pick [] k
theorem bX11_mayBe_189 {X : CT} {σ : St} {i1 i2 : Int}  (s : (-2147483648 ≤ i1 ∧ i1 < 2147483648))
    (kt : ¬ i1 = 2 → G mdX11_mayBe X 204 [(1, vi i1), (2, vi i2)] [] σ)
    (kf : i1 = 2 → G mdX11_mayBe X 194 [(2, vi i2)] [] σ) :
    G mdX11_mayBe X 189 [(1, vi i1), (2, vi i2)] [] σ := by
  refine G.iload_n (z := i1) dX11_mayBe_189 rfl ?_
  refine G.iconst dX11_mayBe_190 ?_
  exact G.icmp_ne (tgt := 204) dX11_mayBe_191 (by decide) s ⟨by decide, by decide⟩ (fun q => G.pick [1, 2] (kt q)) (fun q => G.pick [2] (kf q))
theorem bX11_mayBe_194 {X : CT} {σ : St} {i2 : Int}  {P : Int → St → Prop} (hM : CI mdX11_in [vi i2, vi 0, vi 15] σ P)
    (k : ∀ z σ', inI z → P z σ' → G mdX11_mayBe X 201 [] [vi z] (σ')) :
    G mdX11_mayBe X 194 [(2, vi i2)] [] σ := by
  refine G.iload_n (z := i2) dX11_mayBe_194 rfl ?_
  refine G.iconst dX11_mayBe_195 ?_
  refine G.bipush dX11_mayBe_196 (by decide) ?_
  exact G.callSI (as := [vi i2, vi 0, vi 15]) (rest := []) dX11_mayBe_198 rfl vX11_82 (by decide) (Nat.le_of_ble_eq_true rfl) hM (fun z σ' hz q => G.pick [] (k z σ' hz q))
theorem bX11_mayBe_201 {X : CT} {σ : St} {t0 : Int} 
    (k : G mdX11_mayBe X 228 [] [vi t0] σ) :
    G mdX11_mayBe X 201 [] [vi t0] σ := by
  refine G.goto (tgt := 228) dX11_mayBe_201 (by decide) ?_
  exact G.pick [] k
theorem bX11_mayBe_204 {X : CT} {σ : St} {i1 i2 : Int}  (s : (-2147483648 ≤ i1 ∧ i1 < 2147483648))
    (kt : ¬ i1 = 3 → G mdX11_mayBe X 219 [(2, vi i2)] [] σ)
    (kf : i1 = 3 → G mdX11_mayBe X 209 [(2, vi i2)] [] σ) :
    G mdX11_mayBe X 204 [(1, vi i1), (2, vi i2)] [] σ := by
  refine G.iload_n (z := i1) dX11_mayBe_204 rfl ?_
  refine G.iconst dX11_mayBe_205 ?_
  exact G.icmp_ne (tgt := 219) dX11_mayBe_206 (by decide) s ⟨by decide, by decide⟩ (fun q => G.pick [2] (kt q)) (fun q => G.pick [2] (kf q))
theorem bX11_mayBe_209 {X : CT} {σ : St} {i2 : Int}  {P : Int → St → Prop} (hM : CI mdX11_in [vi i2, vi 1, vi 96] σ P)
    (k : ∀ z σ', inI z → P z σ' → G mdX11_mayBe X 216 [] [vi z] (σ')) :
    G mdX11_mayBe X 209 [(2, vi i2)] [] σ := by
  refine G.iload_n (z := i2) dX11_mayBe_209 rfl ?_
  refine G.iconst dX11_mayBe_210 ?_
  refine G.bipush dX11_mayBe_211 (by decide) ?_
  exact G.callSI (as := [vi i2, vi 1, vi 96]) (rest := []) dX11_mayBe_213 rfl vX11_82 (by decide) (Nat.le_of_ble_eq_true rfl) hM (fun z σ' hz q => G.pick [] (k z σ' hz q))
theorem bX11_mayBe_216 {X : CT} {σ : St} {t0 : Int} 
    (k : G mdX11_mayBe X 228 [] [vi t0] σ) :
    G mdX11_mayBe X 216 [] [vi t0] σ := by
  refine G.goto (tgt := 228) dX11_mayBe_216 (by decide) ?_
  exact G.pick [] k
theorem bX11_mayBe_219 {X : CT} {σ : St} {i2 : Int}  (s : (-2147483648 ≤ i2 ∧ i2 < 2147483648))
    (kt : ¬ i2 = 0 → G mdX11_mayBe X 227 [] [] σ)
    (kf : i2 = 0 → G mdX11_mayBe X 223 [] [] σ) :
    G mdX11_mayBe X 219 [(2, vi i2)] [] σ := by
  refine G.iload_n (z := i2) dX11_mayBe_219 rfl ?_
  exact G.if_ne (tgt := 227) dX11_mayBe_220 (by decide) s (fun q => G.pick [] (kt q)) (fun q => G.pick [] (kf q))
theorem bX11_mayBe_223 {X : CT} {σ : St} 
    (k : G mdX11_mayBe X 228 [] [vi 1] σ) :
    G mdX11_mayBe X 223 [] [] σ := by
  refine G.iconst dX11_mayBe_223 ?_
  refine G.goto (tgt := 228) dX11_mayBe_224 (by decide) ?_
  exact G.pick [] k
theorem bX11_mayBe_227 {X : CT} {σ : St} 
    (k : G mdX11_mayBe X 228 [] [vi 0] σ) :
    G mdX11_mayBe X 227 [] [] σ := by
  refine G.iconst dX11_mayBe_227 ?_
  exact G.pick [] k
theorem bX11_mayBe_228 {X : CT} {σ : St} {t0 : Int}  {P : Int → St → Prop} (hX : RI X P) (s : (t0 = 0 ∨ t0 = 1))
    (k : P t0 σ) :
    G mdX11_mayBe X 228 [] [vi t0] σ := by
  exact G.zret hX dX11_mayBe_228 rfl s k
theorem bX11_isDeed_0 {X : CT} {σ : St} {i0 i1 i2 i3 i4 : Int}  {P : Int → St → Prop} (hM : CI mdX11_in [vi i0, vi 0, vi 4] σ P)
    (k : ∀ z σ', inI z → P z σ' → G mdX11_isDeed X 6 [(0, vi i0), (1, vi i1), (2, vi i2), (3, vi i3), (4, vi i4)] [vi z] (σ')) :
    G mdX11_isDeed X 0 [(0, vi i0), (1, vi i1), (2, vi i2), (3, vi i3), (4, vi i4)] [] σ := by
  refine G.iload_n (z := i0) dX11_isDeed_0 rfl ?_
  refine G.iconst dX11_isDeed_1 ?_
  refine G.iconst dX11_isDeed_2 ?_
  exact G.callSI (as := [vi i0, vi 0, vi 4]) (rest := []) dX11_isDeed_3 rfl vX11_82 (by decide) (Nat.le_of_ble_eq_true rfl) hM (fun z σ' hz q => G.pick [0, 1, 2, 3, 4] (k z σ' hz q))
theorem bX11_isDeed_6 {X : CT} {σ : St} {i0 i1 i2 i3 i4 t0 : Int}  (s : (-2147483648 ≤ t0 ∧ t0 < 2147483648))
    (kt : t0 = 0 → G mdX11_isDeed X 62 [] [] σ)
    (kf : ¬ t0 = 0 → G mdX11_isDeed X 9 [(0, vi i0), (1, vi i1), (2, vi i2), (3, vi i3), (4, vi i4)] [] σ) :
    G mdX11_isDeed X 6 [(0, vi i0), (1, vi i1), (2, vi i2), (3, vi i3), (4, vi i4)] [vi t0] σ := by
  exact G.if_eq (tgt := 62) dX11_isDeed_6 (by decide) s (fun q => G.pick [] (kt q)) (fun q => G.pick [0, 1, 2, 3, 4] (kf q))
theorem bX11_isDeed_9 {X : CT} {σ : St} {i0 i1 i2 i3 i4 : Int}  {P : Int → St → Prop} (hM : CI mdX11_mayBe [vi i0, vi 1, vi i1, vi 0, vi 0, vi 0] σ P)
    (k : ∀ z σ', inI z → P z σ' → G mdX11_isDeed X 18 [(0, vi i0), (1, vi i1), (2, vi i2), (3, vi i3), (4, vi i4)] [vi z] (σ')) :
    G mdX11_isDeed X 9 [(0, vi i0), (1, vi i1), (2, vi i2), (3, vi i3), (4, vi i4)] [] σ := by
  refine G.iload_n (z := i0) dX11_isDeed_9 rfl ?_
  refine G.iconst dX11_isDeed_10 ?_
  refine G.iload_n (z := i1) dX11_isDeed_11 rfl ?_
  refine G.iconst dX11_isDeed_12 ?_
  refine G.iconst dX11_isDeed_13 ?_
  refine G.iconst dX11_isDeed_14 ?_
  exact G.callSI (as := [vi i0, vi 1, vi i1, vi 0, vi 0, vi 0]) (rest := []) dX11_isDeed_15 rfl vX11_86 (by decide) (Nat.le_of_ble_eq_true rfl) hM (fun z σ' hz q => G.pick [0, 1, 2, 3, 4] (k z σ' hz q))
theorem bX11_isDeed_18 {X : CT} {σ : St} {i0 i1 i2 i3 i4 t0 : Int}  (s : (-2147483648 ≤ t0 ∧ t0 < 2147483648))
    (kt : t0 = 0 → G mdX11_isDeed X 62 [] [] σ)
    (kf : ¬ t0 = 0 → G mdX11_isDeed X 21 [(0, vi i0), (1, vi i1), (2, vi i2), (3, vi i3), (4, vi i4)] [] σ) :
    G mdX11_isDeed X 18 [(0, vi i0), (1, vi i1), (2, vi i2), (3, vi i3), (4, vi i4)] [vi t0] σ := by
  exact G.if_eq (tgt := 62) dX11_isDeed_18 (by decide) s (fun q => G.pick [] (kt q)) (fun q => G.pick [0, 1, 2, 3, 4] (kf q))
theorem bX11_isDeed_21 {X : CT} {σ : St} {i0 i1 i2 i3 i4 : Int}  {P : Int → St → Prop} (hM : CI mdX11_mayBe [vi i0, vi 2, vi i2, vi i1, vi 0, vi 0] σ P)
    (k : ∀ z σ', inI z → P z σ' → G mdX11_isDeed X 30 [(0, vi i0), (1, vi i1), (2, vi i2), (3, vi i3), (4, vi i4)] [vi z] (σ')) :
    G mdX11_isDeed X 21 [(0, vi i0), (1, vi i1), (2, vi i2), (3, vi i3), (4, vi i4)] [] σ := by
  refine G.iload_n (z := i0) dX11_isDeed_21 rfl ?_
  refine G.iconst dX11_isDeed_22 ?_
  refine G.iload_n (z := i2) dX11_isDeed_23 rfl ?_
  refine G.iload_n (z := i1) dX11_isDeed_24 rfl ?_
  refine G.iconst dX11_isDeed_25 ?_
  refine G.iconst dX11_isDeed_26 ?_
  exact G.callSI (as := [vi i0, vi 2, vi i2, vi i1, vi 0, vi 0]) (rest := []) dX11_isDeed_27 rfl vX11_86 (by decide) (Nat.le_of_ble_eq_true rfl) hM (fun z σ' hz q => G.pick [0, 1, 2, 3, 4] (k z σ' hz q))
theorem bX11_isDeed_30 {X : CT} {σ : St} {i0 i1 i2 i3 i4 t0 : Int}  (s : (-2147483648 ≤ t0 ∧ t0 < 2147483648))
    (kt : t0 = 0 → G mdX11_isDeed X 62 [] [] σ)
    (kf : ¬ t0 = 0 → G mdX11_isDeed X 33 [(0, vi i0), (1, vi i1), (2, vi i2), (3, vi i3), (4, vi i4)] [] σ) :
    G mdX11_isDeed X 30 [(0, vi i0), (1, vi i1), (2, vi i2), (3, vi i3), (4, vi i4)] [vi t0] σ := by
  exact G.if_eq (tgt := 62) dX11_isDeed_30 (by decide) s (fun q => G.pick [] (kt q)) (fun q => G.pick [0, 1, 2, 3, 4] (kf q))
theorem bX11_isDeed_33 {X : CT} {σ : St} {i0 i1 i2 i3 i4 : Int}  {P : Int → St → Prop} (hM : CI mdX11_mayBe [vi i0, vi 3, vi i3, vi i1, vi i2, vi 0] σ P)
    (k : ∀ z σ', inI z → P z σ' → G mdX11_isDeed X 42 [(0, vi i0), (1, vi i1), (2, vi i2), (3, vi i3), (4, vi i4)] [vi z] (σ')) :
    G mdX11_isDeed X 33 [(0, vi i0), (1, vi i1), (2, vi i2), (3, vi i3), (4, vi i4)] [] σ := by
  refine G.iload_n (z := i0) dX11_isDeed_33 rfl ?_
  refine G.iconst dX11_isDeed_34 ?_
  refine G.iload_n (z := i3) dX11_isDeed_35 rfl ?_
  refine G.iload_n (z := i1) dX11_isDeed_36 rfl ?_
  refine G.iload_n (z := i2) dX11_isDeed_37 rfl ?_
  refine G.iconst dX11_isDeed_38 ?_
  exact G.callSI (as := [vi i0, vi 3, vi i3, vi i1, vi i2, vi 0]) (rest := []) dX11_isDeed_39 rfl vX11_86 (by decide) (Nat.le_of_ble_eq_true rfl) hM (fun z σ' hz q => G.pick [0, 1, 2, 3, 4] (k z σ' hz q))
theorem bX11_isDeed_42 {X : CT} {σ : St} {i0 i1 i2 i3 i4 t0 : Int}  (s : (-2147483648 ≤ t0 ∧ t0 < 2147483648))
    (kt : t0 = 0 → G mdX11_isDeed X 62 [] [] σ)
    (kf : ¬ t0 = 0 → G mdX11_isDeed X 45 [(0, vi i0), (1, vi i1), (2, vi i2), (3, vi i3), (4, vi i4)] [] σ) :
    G mdX11_isDeed X 42 [(0, vi i0), (1, vi i1), (2, vi i2), (3, vi i3), (4, vi i4)] [vi t0] σ := by
  exact G.if_eq (tgt := 62) dX11_isDeed_42 (by decide) s (fun q => G.pick [] (kt q)) (fun q => G.pick [0, 1, 2, 3, 4] (kf q))
theorem bX11_isDeed_45 {X : CT} {σ : St} {i0 i1 i2 i3 i4 : Int}  {P : Int → St → Prop} (hM : CI mdX11_mayBe [vi i0, vi 4, vi i4, vi i1, vi i2, vi i3] σ P)
    (k : ∀ z σ', inI z → P z σ' → G mdX11_isDeed X 55 [] [vi z] (σ')) :
    G mdX11_isDeed X 45 [(0, vi i0), (1, vi i1), (2, vi i2), (3, vi i3), (4, vi i4)] [] σ := by
  refine G.iload_n (z := i0) dX11_isDeed_45 rfl ?_
  refine G.iconst dX11_isDeed_46 ?_
  refine G.iload (z := i4) dX11_isDeed_47 rfl ?_
  refine G.iload_n (z := i1) dX11_isDeed_49 rfl ?_
  refine G.iload_n (z := i2) dX11_isDeed_50 rfl ?_
  refine G.iload_n (z := i3) dX11_isDeed_51 rfl ?_
  exact G.callSI (as := [vi i0, vi 4, vi i4, vi i1, vi i2, vi i3]) (rest := []) dX11_isDeed_52 rfl vX11_86 (by decide) (Nat.le_of_ble_eq_true rfl) hM (fun z σ' hz q => G.pick [] (k z σ' hz q))
theorem bX11_isDeed_55 {X : CT} {σ : St} {t0 : Int}  (s : (-2147483648 ≤ t0 ∧ t0 < 2147483648))
    (kt : t0 = 0 → G mdX11_isDeed X 62 [] [] σ)
    (kf : ¬ t0 = 0 → G mdX11_isDeed X 58 [] [] σ) :
    G mdX11_isDeed X 55 [] [vi t0] σ := by
  exact G.if_eq (tgt := 62) dX11_isDeed_55 (by decide) s (fun q => G.pick [] (kt q)) (fun q => G.pick [] (kf q))
theorem bX11_isDeed_58 {X : CT} {σ : St} 
    (k : G mdX11_isDeed X 63 [] [vi 1] σ) :
    G mdX11_isDeed X 58 [] [] σ := by
  refine G.iconst dX11_isDeed_58 ?_
  refine G.goto (tgt := 63) dX11_isDeed_59 (by decide) ?_
  exact G.pick [] k
theorem bX11_isDeed_62 {X : CT} {σ : St} 
    (k : G mdX11_isDeed X 63 [] [vi 0] σ) :
    G mdX11_isDeed X 62 [] [] σ := by
  refine G.iconst dX11_isDeed_62 ?_
  exact G.pick [] k
theorem bX11_isDeed_63 {X : CT} {σ : St} {t0 : Int}  {P : Int → St → Prop} (hX : RI X P) (s : (t0 = 0 ∨ t0 = 1))
    (k : P t0 σ) :
    G mdX11_isDeed X 63 [] [vi t0] σ := by
  exact G.zret hX dX11_isDeed_63 rfl s k
theorem bX11_isStage_0 {X : CT} {σ : St} {i0 i1 i2 i3 i4 : Int}  (s : (-2147483648 ≤ i0 ∧ i0 < 2147483648))
    (kt : i0 = 3 → G mdX11_isStage X 10 [(1, vi i1), (2, vi i2), (3, vi i3), (4, vi i4)] [] σ)
    (kf : ¬ i0 = 3 → G mdX11_isStage X 5 [(0, vi i0), (1, vi i1), (2, vi i2), (3, vi i3), (4, vi i4)] [] σ) :
    G mdX11_isStage X 0 [(0, vi i0), (1, vi i1), (2, vi i2), (3, vi i3), (4, vi i4)] [] σ := by
  refine G.iload_n (z := i0) dX11_isStage_0 rfl ?_
  refine G.iconst dX11_isStage_1 ?_
  exact G.icmp_eq (tgt := 10) dX11_isStage_2 (by decide) s ⟨by decide, by decide⟩ (fun q => G.pick [1, 2, 3, 4] (kt q)) (fun q => G.pick [0, 1, 2, 3, 4] (kf q))
theorem bX11_isStage_5 {X : CT} {σ : St} {i0 i1 i2 i3 i4 : Int}  (s : (-2147483648 ≤ i0 ∧ i0 < 2147483648))
    (kt : ¬ i0 = 4 → G mdX11_isStage X 33 [(0, vi i0), (1, vi i1), (2, vi i2), (3, vi i3), (4, vi i4)] [] σ)
    (kf : i0 = 4 → G mdX11_isStage X 10 [(1, vi i1), (2, vi i2), (3, vi i3), (4, vi i4)] [] σ) :
    G mdX11_isStage X 5 [(0, vi i0), (1, vi i1), (2, vi i2), (3, vi i3), (4, vi i4)] [] σ := by
  refine G.iload_n (z := i0) dX11_isStage_5 rfl ?_
  refine G.iconst dX11_isStage_6 ?_
  exact G.icmp_ne (tgt := 33) dX11_isStage_7 (by decide) s ⟨by decide, by decide⟩ (fun q => G.pick [0, 1, 2, 3, 4] (kt q)) (fun q => G.pick [1, 2, 3, 4] (kf q))
theorem bX11_isStage_10 {X : CT} {σ : St} {i1 i2 i3 i4 : Int}  (s : (-2147483648 ≤ i1 ∧ i1 < 2147483648))
    (kt : ¬ i1 = 0 → G mdX11_isStage X 31 [] [] σ)
    (kf : i1 = 0 → G mdX11_isStage X 14 [(2, vi i2), (3, vi i3), (4, vi i4)] [] σ) :
    G mdX11_isStage X 10 [(1, vi i1), (2, vi i2), (3, vi i3), (4, vi i4)] [] σ := by
  refine G.iload_n (z := i1) dX11_isStage_10 rfl ?_
  exact G.if_ne (tgt := 31) dX11_isStage_11 (by decide) s (fun q => G.pick [] (kt q)) (fun q => G.pick [2, 3, 4] (kf q))
theorem bX11_isStage_14 {X : CT} {σ : St} {i2 i3 i4 : Int}  (s : (-2147483648 ≤ i2 ∧ i2 < 2147483648))
    (kt : ¬ i2 = 0 → G mdX11_isStage X 31 [] [] σ)
    (kf : i2 = 0 → G mdX11_isStage X 18 [(3, vi i3), (4, vi i4)] [] σ) :
    G mdX11_isStage X 14 [(2, vi i2), (3, vi i3), (4, vi i4)] [] σ := by
  refine G.iload_n (z := i2) dX11_isStage_14 rfl ?_
  exact G.if_ne (tgt := 31) dX11_isStage_15 (by decide) s (fun q => G.pick [] (kt q)) (fun q => G.pick [3, 4] (kf q))
theorem bX11_isStage_18 {X : CT} {σ : St} {i3 i4 : Int}  (s : (-2147483648 ≤ i3 ∧ i3 < 2147483648))
    (kt : ¬ i3 = 0 → G mdX11_isStage X 31 [] [] σ)
    (kf : i3 = 0 → G mdX11_isStage X 22 [(4, vi i4)] [] σ) :
    G mdX11_isStage X 18 [(3, vi i3), (4, vi i4)] [] σ := by
  refine G.iload_n (z := i3) dX11_isStage_18 rfl ?_
  exact G.if_ne (tgt := 31) dX11_isStage_19 (by decide) s (fun q => G.pick [] (kt q)) (fun q => G.pick [4] (kf q))
theorem bX11_isStage_22 {X : CT} {σ : St} {i4 : Int}  (s : (-2147483648 ≤ i4 ∧ i4 < 2147483648))
    (kt : ¬ i4 = 0 → G mdX11_isStage X 31 [] [] σ)
    (kf : i4 = 0 → G mdX11_isStage X 27 [] [] σ) :
    G mdX11_isStage X 22 [(4, vi i4)] [] σ := by
  refine G.iload (z := i4) dX11_isStage_22 rfl ?_
  exact G.if_ne (tgt := 31) dX11_isStage_24 (by decide) s (fun q => G.pick [] (kt q)) (fun q => G.pick [] (kf q))
theorem bX11_isStage_27 {X : CT} {σ : St} 
    (k : G mdX11_isStage X 32 [] [vi 1] σ) :
    G mdX11_isStage X 27 [] [] σ := by
  refine G.iconst dX11_isStage_27 ?_
  refine G.goto (tgt := 32) dX11_isStage_28 (by decide) ?_
  exact G.pick [] k
theorem bX11_isStage_31 {X : CT} {σ : St} 
    (k : G mdX11_isStage X 32 [] [vi 0] σ) :
    G mdX11_isStage X 31 [] [] σ := by
  refine G.iconst dX11_isStage_31 ?_
  exact G.pick [] k
theorem bX11_isStage_32 {X : CT} {σ : St} {t0 : Int}  {P : Int → St → Prop} (hX : RI X P) (s : (t0 = 0 ∨ t0 = 1))
    (k : P t0 σ) :
    G mdX11_isStage X 32 [] [vi t0] σ := by
  exact G.zret hX dX11_isStage_32 rfl s k
theorem bX11_isStage_33 {X : CT} {σ : St} {i0 i1 i2 i3 i4 : Int}  {P : Int → St → Prop} (hM : CI mdX11_in [vi i0, vi 0, vi 2] σ P)
    (k : ∀ z σ', inI z → P z σ' → G mdX11_isStage X 39 [(0, vi i0), (1, vi i1), (2, vi i2), (3, vi i3), (4, vi i4)] [vi z] (σ')) :
    G mdX11_isStage X 33 [(0, vi i0), (1, vi i1), (2, vi i2), (3, vi i3), (4, vi i4)] [] σ := by
  refine G.iload_n (z := i0) dX11_isStage_33 rfl ?_
  refine G.iconst dX11_isStage_34 ?_
  refine G.iconst dX11_isStage_35 ?_
  exact G.callSI (as := [vi i0, vi 0, vi 2]) (rest := []) dX11_isStage_36 rfl vX11_82 (by decide) (Nat.le_of_ble_eq_true rfl) hM (fun z σ' hz q => G.pick [0, 1, 2, 3, 4] (k z σ' hz q))
theorem bX11_isStage_39 {X : CT} {σ : St} {i0 i1 i2 i3 i4 t0 : Int}  (s : (-2147483648 ≤ t0 ∧ t0 < 2147483648))
    (kt : t0 = 0 → G mdX11_isStage X 67 [] [] σ)
    (kf : ¬ t0 = 0 → G mdX11_isStage X 42 [(0, vi i0), (1, vi i1), (2, vi i2), (3, vi i3), (4, vi i4)] [] σ) :
    G mdX11_isStage X 39 [(0, vi i0), (1, vi i1), (2, vi i2), (3, vi i3), (4, vi i4)] [vi t0] σ := by
  exact G.if_eq (tgt := 67) dX11_isStage_39 (by decide) s (fun q => G.pick [] (kt q)) (fun q => G.pick [0, 1, 2, 3, 4] (kf q))
theorem bX11_isStage_42 {X : CT} {σ : St} {i0 i1 i2 i3 i4 : Int}  (s : (-2147483648 ≤ i0 ∧ i0 < 2147483648))
    (kt : ¬ i0 = 2 → G mdX11_isStage X 51 [(0, vi i0), (1, vi i1), (2, vi i2), (3, vi i3), (4, vi i4)] [] σ)
    (kf : i0 = 2 → G mdX11_isStage X 47 [(1, vi i1), (2, vi i2), (3, vi i3), (4, vi i4)] [] σ) :
    G mdX11_isStage X 42 [(0, vi i0), (1, vi i1), (2, vi i2), (3, vi i3), (4, vi i4)] [] σ := by
  refine G.iload_n (z := i0) dX11_isStage_42 rfl ?_
  refine G.iconst dX11_isStage_43 ?_
  exact G.icmp_ne (tgt := 51) dX11_isStage_44 (by decide) s ⟨by decide, by decide⟩ (fun q => G.pick [0, 1, 2, 3, 4] (kt q)) (fun q => G.pick [1, 2, 3, 4] (kf q))
theorem bX11_isStage_47 {X : CT} {σ : St} {i1 i2 i3 i4 : Int} 
    (k : G mdX11_isStage X 52 [(1, vi i1), (2, vi i2), (3, vi i3), (4, vi i4)] [vi 3] σ) :
    G mdX11_isStage X 47 [(1, vi i1), (2, vi i2), (3, vi i3), (4, vi i4)] [] σ := by
  refine G.iconst dX11_isStage_47 ?_
  refine G.goto (tgt := 52) dX11_isStage_48 (by decide) ?_
  exact G.pick [1, 2, 3, 4] k
theorem bX11_isStage_51 {X : CT} {σ : St} {i0 i1 i2 i3 i4 : Int} 
    (k : G mdX11_isStage X 52 [(1, vi i1), (2, vi i2), (3, vi i3), (4, vi i4)] [vi i0] σ) :
    G mdX11_isStage X 51 [(0, vi i0), (1, vi i1), (2, vi i2), (3, vi i3), (4, vi i4)] [] σ := by
  refine G.iload_n (z := i0) dX11_isStage_51 rfl ?_
  exact G.pick [1, 2, 3, 4] k
theorem bX11_isStage_52 {X : CT} {σ : St} {i1 i2 i3 i4 t0 : Int}  {P : Int → St → Prop} (hM : CI mdX11_isDeed [vi t0, vi i1, vi i2, vi i3, vi i4] σ P)
    (k : ∀ z σ', inI z → P z σ' → G mdX11_isStage X 60 [] [vi z] (σ')) :
    G mdX11_isStage X 52 [(1, vi i1), (2, vi i2), (3, vi i3), (4, vi i4)] [vi t0] σ := by
  refine G.iload_n (z := i1) dX11_isStage_52 rfl ?_
  refine G.iload_n (z := i2) dX11_isStage_53 rfl ?_
  refine G.iload_n (z := i3) dX11_isStage_54 rfl ?_
  refine G.iload (z := i4) dX11_isStage_55 rfl ?_
  exact G.callSI (as := [vi t0, vi i1, vi i2, vi i3, vi i4]) (rest := []) dX11_isStage_57 rfl vX11_90 (by decide) (Nat.le_of_ble_eq_true rfl) hM (fun z σ' hz q => G.pick [] (k z σ' hz q))
theorem bX11_isStage_60 {X : CT} {σ : St} {t0 : Int}  (s : (-2147483648 ≤ t0 ∧ t0 < 2147483648))
    (kt : t0 = 0 → G mdX11_isStage X 67 [] [] σ)
    (kf : ¬ t0 = 0 → G mdX11_isStage X 63 [] [] σ) :
    G mdX11_isStage X 60 [] [vi t0] σ := by
  exact G.if_eq (tgt := 67) dX11_isStage_60 (by decide) s (fun q => G.pick [] (kt q)) (fun q => G.pick [] (kf q))
theorem bX11_isStage_63 {X : CT} {σ : St} 
    (k : G mdX11_isStage X 68 [] [vi 1] σ) :
    G mdX11_isStage X 63 [] [] σ := by
  refine G.iconst dX11_isStage_63 ?_
  refine G.goto (tgt := 68) dX11_isStage_64 (by decide) ?_
  exact G.pick [] k
theorem bX11_isStage_67 {X : CT} {σ : St} 
    (k : G mdX11_isStage X 68 [] [vi 0] σ) :
    G mdX11_isStage X 67 [] [] σ := by
  refine G.iconst dX11_isStage_67 ?_
  exact G.pick [] k
theorem bX11_isStage_68 {X : CT} {σ : St} {t0 : Int}  {P : Int → St → Prop} (hX : RI X P) (s : (t0 = 0 ∨ t0 = 1))
    (k : P t0 σ) :
    G mdX11_isStage X 68 [] [vi t0] σ := by
  exact G.zret hX dX11_isStage_68 rfl s k
theorem bX11_type_0 {X : CT} {σ : St} {i1 : Int}  {P : Int → St → Prop} (hM : CI mdX11_in [vi i1, vi 0, vi 255] σ P)
    (k : ∀ z σ', inI z → P z σ' → G mdX11_type X 8 [(0, vr 87), (1, vi i1)] [vi z] (σ')) :
    G mdX11_type X 0 [(0, vr 87), (1, vi i1)] [] σ := by
  refine G.iload_n (z := i1) dX11_type_0 rfl ?_
  refine G.iconst dX11_type_1 ?_
  refine G.sipush dX11_type_2 (by decide) ?_
  exact G.callSI (as := [vi i1, vi 0, vi 255]) (rest := []) dX11_type_5 rfl vX11_82 (by decide) (Nat.le_of_ble_eq_true rfl) hM (fun z σ' hz q => G.pick [0, 1] (k z σ' hz q))
theorem bX11_type_8 {X : CT} {σ : St} {i1 t0 : Int}  (s : (-2147483648 ≤ t0 ∧ t0 < 2147483648))
    (kt : ¬ t0 = 0 → G mdX11_type X 13 [(0, vr 87), (1, vi i1)] [] σ)
    (kf : t0 = 0 → G mdX11_type X 11 [] [] σ) :
    G mdX11_type X 8 [(0, vr 87), (1, vi i1)] [vi t0] σ := by
  exact G.if_ne (tgt := 13) dX11_type_8 (by decide) s (fun q => G.pick [0, 1] (kt q)) (fun q => G.pick [] (kf q))
theorem bX11_type_11 {X : CT} {σ : St}  {P : Int → St → Prop} (hX : RI X P)
    (k : P (-1) σ) :
    G mdX11_type X 11 [] [] σ := by
  refine G.iconst dX11_type_11 ?_
  exact G.iret hX dX11_type_12 rfl ⟨by decide, by decide⟩ k
theorem bX11_type_13 {X : CT} {σ : St} {i1 : Int}  (s : (-2147483648 ≤ σ 87 9 ∧ σ 87 9 < 2147483648))
    (kt : ¬ σ 87 9 = 160 → G mdX11_type X 26 [(0, vr 87), (1, vi i1)] [] σ)
    (kf : σ 87 9 = 160 → G mdX11_type X 23 [] [] σ) :
    G mdX11_type X 13 [(0, vr 87), (1, vi i1)] [] σ := by
  refine G.aload_n (o := 87) dX11_type_13 rfl ?_
  refine G.getI (j := 9) dX11_type_14 fX11_94 sh87 rfl rfl rfl ?_
  refine G.sipush dX11_type_17 (by decide) ?_
  exact G.icmp_ne (tgt := 26) dX11_type_20 (by decide) s ⟨by decide, by decide⟩ (fun q => G.pick [0, 1] (kt q)) (fun q => G.pick [] (kf q))
theorem bX11_type_23 {X : CT} {σ : St}  {P : Int → St → Prop} (hX : RI X P)
    (k : P (-3) σ) :
    G mdX11_type X 23 [] [] σ := by
  refine G.bipush dX11_type_23 (by decide) ?_
  exact G.iret hX dX11_type_25 rfl ⟨by decide, by decide⟩ k
theorem bX11_type_26 {X : CT} {σ : St} {i1 : Int}  {P : Int → St → Prop} (hX : RI X P) (s : (0 ≤ σ 87 9 ∧ σ 87 9 < 160) ∧ (-2147483648 ≤ (wr (wr σ 94 (σ 87 9) i1) 87 9 (((wr σ 94 (σ 87 9) i1) 87 9) + 1)) 87 9 ∧ (wr (wr σ 94 (σ 87 9) i1) 87 9 (((wr σ 94 (σ 87 9) i1) 87 9) + 1)) 87 9 < 2147483648))
    (k : P ((wr (wr σ 94 (σ 87 9) i1) 87 9 (((wr σ 94 (σ 87 9) i1) 87 9) + 1)) 87 9) (wr (wr σ 94 (σ 87 9) i1) 87 9 (((wr σ 94 (σ 87 9) i1) 87 9) + 1))) :
    G mdX11_type X 26 [(0, vr 87), (1, vi i1)] [] σ := by
  refine G.aload_n (o := 87) dX11_type_26 rfl ?_
  refine G.getR (o' := 94) dX11_type_27 fX11_30 sh87 rfl ?_
  refine G.aload_n (o := 87) dX11_type_30 rfl ?_
  refine G.getI (j := 9) dX11_type_31 fX11_94 sh87 rfl rfl rfl ?_
  refine G.iload_n (z := i1) dX11_type_34 rfl ?_
  refine G.iast dX11_type_35 sh94 s.1 ?_
  refine G.aload_n (o := 87) dX11_type_36 rfl ?_
  refine G.dup dX11_type_37 ?_
  refine G.getI (j := 9) dX11_type_38 fX11_94 sh87 rfl rfl rfl ?_
  refine G.iconst dX11_type_41 ?_
  refine G.iadd dX11_type_42 ?_
  refine G.putI (j := 9) dX11_type_43 fX11_94 sh87 rfl rfl rfl rfl rfl ?_
  refine G.aload_n (o := 87) dX11_type_46 rfl ?_
  refine G.getI (j := 9) dX11_type_47 fX11_94 sh87 rfl rfl rfl ?_
  exact G.iret hX dX11_type_50 rfl s.2 k
theorem bX11_clear_0 {X : CT} {σ : St}  {P : Int → St → Prop} (hX : RI X P) (s : (-2147483648 ≤ σ 87 9 ∧ σ 87 9 < 2147483648))
    (k : P (σ 87 9) (wr σ 87 9 0)) :
    G mdX11_clear X 0 [(0, vr 87)] [] σ := by
  refine G.aload_n (o := 87) dX11_clear_0 rfl ?_
  refine G.getI (j := 9) dX11_clear_1 fX11_94 sh87 rfl rfl rfl ?_
  refine G.istore_n dX11_clear_4 (by decide) rfl ?_
  refine G.aload_n (o := 87) dX11_clear_5 rfl ?_
  refine G.iconst dX11_clear_6 ?_
  refine G.putI (j := 9) dX11_clear_7 fX11_94 sh87 rfl rfl rfl rfl rfl ?_
  refine G.iload_n (z := σ 87 9) dX11_clear_10 rfl ?_
  exact G.iret hX dX11_clear_11 rfl s k
theorem bX11_next_0 {X : CT} {σ : St}  (s : (-2147483648 ≤ σ 87 11 ∧ σ 87 11 < 2147483648) ∧ (-2147483648 ≤ σ 87 9 ∧ σ 87 9 < 2147483648))
    (kt : σ 87 9 ≤ σ 87 11 → G mdX11_next X 38 [(0, vr 87)] [] σ)
    (kf : σ 87 11 < σ 87 9 → G mdX11_next X 11 [(0, vr 87)] [] σ) :
    G mdX11_next X 0 [(0, vr 87)] [] σ := by
  refine G.aload_n (o := 87) dX11_next_0 rfl ?_
  refine G.getI (j := 11) dX11_next_1 fX11_97 sh87 rfl rfl rfl ?_
  refine G.aload_n (o := 87) dX11_next_4 rfl ?_
  refine G.getI (j := 9) dX11_next_5 fX11_94 sh87 rfl rfl rfl ?_
  exact G.icmp_ge (tgt := 38) dX11_next_8 (by decide) s.1 s.2 (fun q => G.pick [0] (kt q)) (fun q => G.pick [0] (kf q))
theorem bX11_next_11 {X : CT} {σ : St}  (s : (0 ≤ σ 87 11 ∧ σ 87 11 < 160) ∧ (-2147483648 ≤ σ 94 (σ 87 11) ∧ σ 94 (σ 87 11) < 2147483648))
    (kt : ¬ σ 94 (σ 87 11) = 32 → G mdX11_next X 38 [(0, vr 87)] [] σ)
    (kf : σ 94 (σ 87 11) = 32 → G mdX11_next X 25 [(0, vr 87)] [] σ) :
    G mdX11_next X 11 [(0, vr 87)] [] σ := by
  refine G.aload_n (o := 87) dX11_next_11 rfl ?_
  refine G.getR (o' := 94) dX11_next_12 fX11_30 sh87 rfl ?_
  refine G.aload_n (o := 87) dX11_next_15 rfl ?_
  refine G.getI (j := 11) dX11_next_16 fX11_97 sh87 rfl rfl rfl ?_
  refine G.iald dX11_next_19 sh94 s.1 ?_
  refine G.bipush dX11_next_20 (by decide) ?_
  exact G.icmp_ne (tgt := 38) dX11_next_22 (by decide) s.2 ⟨by decide, by decide⟩ (fun q => G.pick [0] (kt q)) (fun q => G.pick [0] (kf q))
theorem bX11_next_25 {X : CT} {σ : St} 
    (k : G mdX11_next X 0 [(0, vr 87)] [] (wr σ 87 11 ((σ 87 11) + 1))) :
    G mdX11_next X 25 [(0, vr 87)] [] σ := by
  refine G.aload_n (o := 87) dX11_next_25 rfl ?_
  refine G.dup dX11_next_26 ?_
  refine G.getI (j := 11) dX11_next_27 fX11_97 sh87 rfl rfl rfl ?_
  refine G.iconst dX11_next_30 ?_
  refine G.iadd dX11_next_31 ?_
  refine G.putI (j := 11) dX11_next_32 fX11_97 sh87 rfl rfl rfl rfl rfl ?_
  refine G.goto (tgt := 0) dX11_next_35 (by decide) ?_
  exact G.pick [0] k
theorem bX11_next_38 {X : CT} {σ : St}  (s : (-2147483648 ≤ (wr (wr σ 87 12 (σ 87 11)) 87 14 0) 87 11 ∧ (wr (wr σ 87 12 (σ 87 11)) 87 14 0) 87 11 < 2147483648) ∧ (-2147483648 ≤ (wr (wr σ 87 12 (σ 87 11)) 87 14 0) 87 9 ∧ (wr (wr σ 87 12 (σ 87 11)) 87 14 0) 87 9 < 2147483648))
    (kt : ¬ (wr (wr σ 87 12 (σ 87 11)) 87 14 0) 87 11 = (wr (wr σ 87 12 (σ 87 11)) 87 14 0) 87 9 → G mdX11_next X 70 [(0, vr 87)] [] (wr (wr σ 87 12 (σ 87 11)) 87 14 0))
    (kf : (wr (wr σ 87 12 (σ 87 11)) 87 14 0) 87 11 = (wr (wr σ 87 12 (σ 87 11)) 87 14 0) 87 9 → G mdX11_next X 62 [(0, vr 87)] [] (wr (wr σ 87 12 (σ 87 11)) 87 14 0)) :
    G mdX11_next X 38 [(0, vr 87)] [] σ := by
  refine G.aload_n (o := 87) dX11_next_38 rfl ?_
  refine G.aload_n (o := 87) dX11_next_39 rfl ?_
  refine G.getI (j := 11) dX11_next_40 fX11_97 sh87 rfl rfl rfl ?_
  refine G.putI (j := 12) dX11_next_43 fX11_100 sh87 rfl rfl rfl rfl rfl ?_
  refine G.aload_n (o := 87) dX11_next_46 rfl ?_
  refine G.iconst dX11_next_47 ?_
  refine G.putI (j := 14) dX11_next_48 fX11_103 sh87 rfl rfl rfl rfl rfl ?_
  refine G.aload_n (o := 87) dX11_next_51 rfl ?_
  refine G.getI (j := 11) dX11_next_52 fX11_97 sh87 rfl rfl rfl ?_
  refine G.aload_n (o := 87) dX11_next_55 rfl ?_
  refine G.getI (j := 9) dX11_next_56 fX11_94 sh87 rfl rfl rfl ?_
  exact G.icmp_ne (tgt := 70) dX11_next_59 (by decide) s.1 s.2 (fun q => G.pick [0] (kt q)) (fun q => G.pick [0] (kf q))
theorem bX11_next_62 {X : CT} {σ : St} 
    (k : G mdX11_next X 279 [] [] (wr σ 87 13 0)) :
    G mdX11_next X 62 [(0, vr 87)] [] σ := by
  refine G.aload_n (o := 87) dX11_next_62 rfl ?_
  refine G.iconst dX11_next_63 ?_
  refine G.putI (j := 13) dX11_next_64 fX11_106 sh87 rfl rfl rfl rfl rfl ?_
  refine G.goto (tgt := 279) dX11_next_67 (by decide) ?_
  exact G.pick [] k
theorem bX11_next_70 {X : CT} {σ : St}  {P : Int → St → Prop} (hM : CI mdX11_in [vi (σ 94 (σ 87 11)), vi 48, vi 57] σ P) (s : (0 ≤ σ 87 11 ∧ σ 87 11 < 160))
    (k : ∀ z σ', inI z → P z σ' → G mdX11_next X 86 [(0, vr 87)] [vi z] (σ')) :
    G mdX11_next X 70 [(0, vr 87)] [] σ := by
  refine G.aload_n (o := 87) dX11_next_70 rfl ?_
  refine G.getR (o' := 94) dX11_next_71 fX11_30 sh87 rfl ?_
  refine G.aload_n (o := 87) dX11_next_74 rfl ?_
  refine G.getI (j := 11) dX11_next_75 fX11_97 sh87 rfl rfl rfl ?_
  refine G.iald dX11_next_78 sh94 s ?_
  refine G.bipush dX11_next_79 (by decide) ?_
  refine G.bipush dX11_next_81 (by decide) ?_
  exact G.callSI (as := [vi (σ 94 (σ 87 11)), vi 48, vi 57]) (rest := []) dX11_next_83 rfl vX11_82 (by decide) (Nat.le_of_ble_eq_true rfl) hM (fun z σ' hz q => G.pick [0] (k z σ' hz q))
theorem bX11_next_86 {X : CT} {σ : St} {t0 : Int}  (s : (-2147483648 ≤ t0 ∧ t0 < 2147483648))
    (kt : t0 = 0 → G mdX11_next X 220 [(0, vr 87)] [] σ)
    (kf : ¬ t0 = 0 → G mdX11_next X 89 [(0, vr 87)] [] σ) :
    G mdX11_next X 86 [(0, vr 87)] [vi t0] σ := by
  exact G.if_eq (tgt := 220) dX11_next_86 (by decide) s (fun q => G.pick [0] (kt q)) (fun q => G.pick [0] (kf q))
theorem bX11_next_89 {X : CT} {σ : St}  (s : (-2147483648 ≤ σ 87 11 ∧ σ 87 11 < 2147483648) ∧ (-2147483648 ≤ σ 87 9 ∧ σ 87 9 < 2147483648))
    (kt : σ 87 9 ≤ σ 87 11 → G mdX11_next X 172 [(0, vr 87)] [] σ)
    (kf : σ 87 11 < σ 87 9 → G mdX11_next X 100 [(0, vr 87)] [] σ) :
    G mdX11_next X 89 [(0, vr 87)] [] σ := by
  refine G.aload_n (o := 87) dX11_next_89 rfl ?_
  refine G.getI (j := 11) dX11_next_90 fX11_97 sh87 rfl rfl rfl ?_
  refine G.aload_n (o := 87) dX11_next_93 rfl ?_
  refine G.getI (j := 9) dX11_next_94 fX11_94 sh87 rfl rfl rfl ?_
  exact G.icmp_ge (tgt := 172) dX11_next_97 (by decide) s.1 s.2 (fun q => G.pick [0] (kt q)) (fun q => G.pick [0] (kf q))
theorem bX11_next_100 {X : CT} {σ : St}  {P : Int → St → Prop} (hM : CI mdX11_in [vi (σ 94 (σ 87 11)), vi 48, vi 57] σ P) (s : (0 ≤ σ 87 11 ∧ σ 87 11 < 160))
    (k : ∀ z σ', inI z → P z σ' → G mdX11_next X 116 [(0, vr 87)] [vi z] (σ')) :
    G mdX11_next X 100 [(0, vr 87)] [] σ := by
  refine G.aload_n (o := 87) dX11_next_100 rfl ?_
  refine G.getR (o' := 94) dX11_next_101 fX11_30 sh87 rfl ?_
  refine G.aload_n (o := 87) dX11_next_104 rfl ?_
  refine G.getI (j := 11) dX11_next_105 fX11_97 sh87 rfl rfl rfl ?_
  refine G.iald dX11_next_108 sh94 s ?_
  refine G.bipush dX11_next_109 (by decide) ?_
  refine G.bipush dX11_next_111 (by decide) ?_
  exact G.callSI (as := [vi (σ 94 (σ 87 11)), vi 48, vi 57]) (rest := []) dX11_next_113 rfl vX11_82 (by decide) (Nat.le_of_ble_eq_true rfl) hM (fun z σ' hz q => G.pick [0] (k z σ' hz q))
theorem bX11_next_116 {X : CT} {σ : St} {t0 : Int}  (s : (-2147483648 ≤ t0 ∧ t0 < 2147483648))
    (kt : t0 = 0 → G mdX11_next X 172 [(0, vr 87)] [] σ)
    (kf : ¬ t0 = 0 → G mdX11_next X 119 [(0, vr 87)] [] σ) :
    G mdX11_next X 116 [(0, vr 87)] [vi t0] σ := by
  exact G.if_eq (tgt := 172) dX11_next_116 (by decide) s (fun q => G.pick [0] (kt q)) (fun q => G.pick [0] (kf q))
theorem bX11_next_119 {X : CT} {σ : St}  (s : (-2147483648 ≤ σ 87 14 ∧ σ 87 14 < 2147483648))
    (kt : σ 87 14 ≤ 99 → G mdX11_next X 136 [(0, vr 87)] [vr 87] σ)
    (kf : 99 < σ 87 14 → G mdX11_next X 129 [(0, vr 87)] [vr 87] σ) :
    G mdX11_next X 119 [(0, vr 87)] [] σ := by
  refine G.aload_n (o := 87) dX11_next_119 rfl ?_
  refine G.aload_n (o := 87) dX11_next_120 rfl ?_
  refine G.getI (j := 14) dX11_next_121 fX11_103 sh87 rfl rfl rfl ?_
  refine G.bipush dX11_next_124 (by decide) ?_
  exact G.icmp_le (tgt := 136) dX11_next_126 (by decide) s ⟨by decide, by decide⟩ (fun q => G.pick [0] (kt q)) (fun q => G.pick [0] (kf q))
theorem bX11_next_129 {X : CT} {σ : St} 
    (k : G mdX11_next X 156 [(0, vr 87)] [vi (σ 87 14), vr 87] σ) :
    G mdX11_next X 129 [(0, vr 87)] [vr 87] σ := by
  refine G.aload_n (o := 87) dX11_next_129 rfl ?_
  refine G.getI (j := 14) dX11_next_130 fX11_103 sh87 rfl rfl rfl ?_
  refine G.goto (tgt := 156) dX11_next_133 (by decide) ?_
  exact G.pick [0] k
theorem bX11_next_136 {X : CT} {σ : St}  (s : (0 ≤ σ 87 11 ∧ σ 87 11 < 160))
    (k : G mdX11_next X 156 [(0, vr 87)] [vi (((10 * (σ 87 14)) + (σ 94 (σ 87 11))) - 48), vr 87] σ) :
    G mdX11_next X 136 [(0, vr 87)] [vr 87] σ := by
  refine G.bipush dX11_next_136 (by decide) ?_
  refine G.aload_n (o := 87) dX11_next_138 rfl ?_
  refine G.getI (j := 14) dX11_next_139 fX11_103 sh87 rfl rfl rfl ?_
  refine G.imul dX11_next_142 ?_
  refine G.aload_n (o := 87) dX11_next_143 rfl ?_
  refine G.getR (o' := 94) dX11_next_144 fX11_30 sh87 rfl ?_
  refine G.aload_n (o := 87) dX11_next_147 rfl ?_
  refine G.getI (j := 11) dX11_next_148 fX11_97 sh87 rfl rfl rfl ?_
  refine G.iald dX11_next_151 sh94 s ?_
  refine G.iadd dX11_next_152 ?_
  refine G.bipush dX11_next_153 (by decide) ?_
  refine G.isub dX11_next_155 ?_
  exact G.pick [0] k
theorem bX11_next_156 {X : CT} {σ : St} {t1 : Int} 
    (k : G mdX11_next X 89 [(0, vr 87)] [] (wr (wr σ 87 14 t1) 87 11 (((wr σ 87 14 t1) 87 11) + 1))) :
    G mdX11_next X 156 [(0, vr 87)] [vi t1, vr 87] σ := by
  refine G.putI (j := 14) dX11_next_156 fX11_103 sh87 rfl rfl rfl rfl rfl ?_
  refine G.aload_n (o := 87) dX11_next_159 rfl ?_
  refine G.dup dX11_next_160 ?_
  refine G.getI (j := 11) dX11_next_161 fX11_97 sh87 rfl rfl rfl ?_
  refine G.iconst dX11_next_164 ?_
  refine G.iadd dX11_next_165 ?_
  refine G.putI (j := 11) dX11_next_166 fX11_97 sh87 rfl rfl rfl rfl rfl ?_
  refine G.goto (tgt := 89) dX11_next_169 (by decide) ?_
  exact G.pick [0] k
theorem bX11_next_172 {X : CT} {σ : St}  (s : (-2147483648 ≤ σ 87 14 ∧ σ 87 14 < 2147483648))
    (kt : 99 < σ 87 14 → G mdX11_next X 209 [] [vr 87] σ)
    (kf : σ 87 14 ≤ 99 → G mdX11_next X 182 [(0, vr 87)] [vr 87] σ) :
    G mdX11_next X 172 [(0, vr 87)] [] σ := by
  refine G.aload_n (o := 87) dX11_next_172 rfl ?_
  refine G.aload_n (o := 87) dX11_next_173 rfl ?_
  refine G.getI (j := 14) dX11_next_174 fX11_103 sh87 rfl rfl rfl ?_
  refine G.bipush dX11_next_177 (by decide) ?_
  exact G.icmp_gt (tgt := 209) dX11_next_179 (by decide) s ⟨by decide, by decide⟩ (fun q => G.pick [] (kt q)) (fun q => G.pick [0] (kf q))
theorem bX11_next_182 {X : CT} {σ : St}  (s : (0 ≤ σ 87 12 ∧ σ 87 12 < 160) ∧ (-2147483648 ≤ σ 94 (σ 87 12) ∧ σ 94 (σ 87 12) < 2147483648))
    (kt : ¬ σ 94 (σ 87 12) = 48 → G mdX11_next X 213 [] [vr 87] σ)
    (kf : σ 94 (σ 87 12) = 48 → G mdX11_next X 196 [(0, vr 87)] [vr 87] σ) :
    G mdX11_next X 182 [(0, vr 87)] [vr 87] σ := by
  refine G.aload_n (o := 87) dX11_next_182 rfl ?_
  refine G.getR (o' := 94) dX11_next_183 fX11_30 sh87 rfl ?_
  refine G.aload_n (o := 87) dX11_next_186 rfl ?_
  refine G.getI (j := 12) dX11_next_187 fX11_100 sh87 rfl rfl rfl ?_
  refine G.iald dX11_next_190 sh94 s.1 ?_
  refine G.bipush dX11_next_191 (by decide) ?_
  exact G.icmp_ne (tgt := 213) dX11_next_193 (by decide) s.2 ⟨by decide, by decide⟩ (fun q => G.pick [] (kt q)) (fun q => G.pick [0] (kf q))
theorem bX11_next_196 {X : CT} {σ : St}  (s : (-2147483648 ≤ (σ 87 11) - (σ 87 12) ∧ (σ 87 11) - (σ 87 12) < 2147483648))
    (kt : (σ 87 11) - (σ 87 12) ≤ 1 → G mdX11_next X 213 [] [vr 87] σ)
    (kf : 1 < (σ 87 11) - (σ 87 12) → G mdX11_next X 209 [] [vr 87] σ) :
    G mdX11_next X 196 [(0, vr 87)] [vr 87] σ := by
  refine G.aload_n (o := 87) dX11_next_196 rfl ?_
  refine G.getI (j := 11) dX11_next_197 fX11_97 sh87 rfl rfl rfl ?_
  refine G.aload_n (o := 87) dX11_next_200 rfl ?_
  refine G.getI (j := 12) dX11_next_201 fX11_100 sh87 rfl rfl rfl ?_
  refine G.isub dX11_next_204 ?_
  refine G.iconst dX11_next_205 ?_
  exact G.icmp_le (tgt := 213) dX11_next_206 (by decide) s ⟨by decide, by decide⟩ (fun q => G.pick [] (kt q)) (fun q => G.pick [] (kf q))
theorem bX11_next_209 {X : CT} {σ : St} 
    (k : G mdX11_next X 214 [] [vi 2, vr 87] σ) :
    G mdX11_next X 209 [] [vr 87] σ := by
  refine G.iconst dX11_next_209 ?_
  refine G.goto (tgt := 214) dX11_next_210 (by decide) ?_
  exact G.pick [] k
theorem bX11_next_213 {X : CT} {σ : St} 
    (k : G mdX11_next X 214 [] [vi 1, vr 87] σ) :
    G mdX11_next X 213 [] [vr 87] σ := by
  refine G.iconst dX11_next_213 ?_
  exact G.pick [] k
theorem bX11_next_214 {X : CT} {σ : St} {t1 : Int} 
    (k : G mdX11_next X 279 [] [] (wr σ 87 13 t1)) :
    G mdX11_next X 214 [] [vi t1, vr 87] σ := by
  refine G.putI (j := 13) dX11_next_214 fX11_106 sh87 rfl rfl rfl rfl rfl ?_
  refine G.goto (tgt := 279) dX11_next_217 (by decide) ?_
  exact G.pick [] k
theorem bX11_next_220 {X : CT} {σ : St}  (s : (0 ≤ σ 87 11 ∧ σ 87 11 < 160) ∧ (-2147483648 ≤ σ 94 (σ 87 11) ∧ σ 94 (σ 87 11) < 2147483648))
    (kt : σ 94 (σ 87 11) = 120 → G mdX11_next X 261 [(0, vr 87), (1, vi (σ 94 (σ 87 11)))] [vr 87] σ)
    (kf : ¬ σ 94 (σ 87 11) = 120 → G mdX11_next X 237 [(0, vr 87), (1, vi (σ 94 (σ 87 11)))] [vr 87] σ) :
    G mdX11_next X 220 [(0, vr 87)] [] σ := by
  refine G.aload_n (o := 87) dX11_next_220 rfl ?_
  refine G.getR (o' := 94) dX11_next_221 fX11_30 sh87 rfl ?_
  refine G.aload_n (o := 87) dX11_next_224 rfl ?_
  refine G.getI (j := 11) dX11_next_225 fX11_97 sh87 rfl rfl rfl ?_
  refine G.iald dX11_next_228 sh94 s.1 ?_
  refine G.istore_n dX11_next_229 (by decide) rfl ?_
  refine G.aload_n (o := 87) dX11_next_230 rfl ?_
  refine G.iload_n (z := σ 94 (σ 87 11)) dX11_next_231 rfl ?_
  refine G.bipush dX11_next_232 (by decide) ?_
  exact G.icmp_eq (tgt := 261) dX11_next_234 (by decide) s.2 ⟨by decide, by decide⟩ (fun q => G.pick [0, 1] (kt q)) (fun q => G.pick [0, 1] (kf q))
theorem bX11_next_237 {X : CT} {σ : St} {i1 : Int}  (s : (-2147483648 ≤ i1 ∧ i1 < 2147483648))
    (kt : i1 = 121 → G mdX11_next X 261 [(0, vr 87), (1, vi i1)] [vr 87] σ)
    (kf : ¬ i1 = 121 → G mdX11_next X 243 [(0, vr 87), (1, vi i1)] [vr 87] σ) :
    G mdX11_next X 237 [(0, vr 87), (1, vi i1)] [vr 87] σ := by
  refine G.iload_n (z := i1) dX11_next_237 rfl ?_
  refine G.bipush dX11_next_238 (by decide) ?_
  exact G.icmp_eq (tgt := 261) dX11_next_240 (by decide) s ⟨by decide, by decide⟩ (fun q => G.pick [0, 1] (kt q)) (fun q => G.pick [0, 1] (kf q))
theorem bX11_next_243 {X : CT} {σ : St} {i1 : Int}  (s : (-2147483648 ≤ i1 ∧ i1 < 2147483648))
    (kt : i1 = 109 → G mdX11_next X 261 [(0, vr 87), (1, vi i1)] [vr 87] σ)
    (kf : ¬ i1 = 109 → G mdX11_next X 249 [(0, vr 87), (1, vi i1)] [vr 87] σ) :
    G mdX11_next X 243 [(0, vr 87), (1, vi i1)] [vr 87] σ := by
  refine G.iload_n (z := i1) dX11_next_243 rfl ?_
  refine G.bipush dX11_next_244 (by decide) ?_
  exact G.icmp_eq (tgt := 261) dX11_next_246 (by decide) s ⟨by decide, by decide⟩ (fun q => G.pick [0, 1] (kt q)) (fun q => G.pick [0, 1] (kf q))
theorem bX11_next_249 {X : CT} {σ : St} {i1 : Int}  (s : (-2147483648 ≤ i1 ∧ i1 < 2147483648))
    (kt : i1 = 100 → G mdX11_next X 261 [(0, vr 87), (1, vi i1)] [vr 87] σ)
    (kf : ¬ i1 = 100 → G mdX11_next X 255 [(0, vr 87), (1, vi i1)] [vr 87] σ) :
    G mdX11_next X 249 [(0, vr 87), (1, vi i1)] [vr 87] σ := by
  refine G.iload_n (z := i1) dX11_next_249 rfl ?_
  refine G.bipush dX11_next_250 (by decide) ?_
  exact G.icmp_eq (tgt := 261) dX11_next_252 (by decide) s ⟨by decide, by decide⟩ (fun q => G.pick [0, 1] (kt q)) (fun q => G.pick [0, 1] (kf q))
theorem bX11_next_255 {X : CT} {σ : St} {i1 : Int}  (s : (-2147483648 ≤ i1 ∧ i1 < 2147483648))
    (kt : ¬ i1 = 59 → G mdX11_next X 265 [(0, vr 87)] [vr 87] σ)
    (kf : i1 = 59 → G mdX11_next X 261 [(0, vr 87), (1, vi i1)] [vr 87] σ) :
    G mdX11_next X 255 [(0, vr 87), (1, vi i1)] [vr 87] σ := by
  refine G.iload_n (z := i1) dX11_next_255 rfl ?_
  refine G.bipush dX11_next_256 (by decide) ?_
  exact G.icmp_ne (tgt := 265) dX11_next_258 (by decide) s ⟨by decide, by decide⟩ (fun q => G.pick [0] (kt q)) (fun q => G.pick [0, 1] (kf q))
theorem bX11_next_261 {X : CT} {σ : St} {i1 : Int} 
    (k : G mdX11_next X 266 [(0, vr 87)] [vi i1, vr 87] σ) :
    G mdX11_next X 261 [(0, vr 87), (1, vi i1)] [vr 87] σ := by
  refine G.iload_n (z := i1) dX11_next_261 rfl ?_
  refine G.goto (tgt := 266) dX11_next_262 (by decide) ?_
  exact G.pick [0] k
theorem bX11_next_265 {X : CT} {σ : St} 
    (k : G mdX11_next X 266 [(0, vr 87)] [vi 2, vr 87] σ) :
    G mdX11_next X 265 [(0, vr 87)] [vr 87] σ := by
  refine G.iconst dX11_next_265 ?_
  exact G.pick [0] k
theorem bX11_next_266 {X : CT} {σ : St} {t1 : Int} 
    (k : G mdX11_next X 279 [] [] (wr (wr σ 87 13 t1) 87 11 (((wr σ 87 13 t1) 87 11) + 1))) :
    G mdX11_next X 266 [(0, vr 87)] [vi t1, vr 87] σ := by
  refine G.putI (j := 13) dX11_next_266 fX11_106 sh87 rfl rfl rfl rfl rfl ?_
  refine G.aload_n (o := 87) dX11_next_269 rfl ?_
  refine G.dup dX11_next_270 ?_
  refine G.getI (j := 11) dX11_next_271 fX11_97 sh87 rfl rfl rfl ?_
  refine G.iconst dX11_next_274 ?_
  refine G.iadd dX11_next_275 ?_
  refine G.putI (j := 11) dX11_next_276 fX11_97 sh87 rfl rfl rfl rfl rfl ?_
  exact G.pick [] k
theorem bX11_next_279 {X : CT} {σ : St}  {P : St → Prop} (hX : RV X P)
    (k : P σ) :
    G mdX11_next X 279 [] [] σ := by
  exact G.vret hX dX11_next_279 rfl k
theorem bX11_must_0 {X : CT} {σ : St} {i1 : Int}  (s : (-2147483648 ≤ σ 87 15 ∧ σ 87 15 < 2147483648))
    (kt : ¬ σ 87 15 = (-9) → G mdX11_must X 28 [] [] σ)
    (kf : σ 87 15 = (-9) → G mdX11_must X 9 [(0, vr 87), (1, vi i1)] [] σ) :
    G mdX11_must X 0 [(0, vr 87), (1, vi i1)] [] σ := by
  refine G.aload_n (o := 87) dX11_must_0 rfl ?_
  refine G.getI (j := 15) dX11_must_1 fX11_109 sh87 rfl rfl rfl ?_
  refine G.bipush dX11_must_4 (by decide) ?_
  exact G.icmp_ne (tgt := 28) dX11_must_6 (by decide) s ⟨by decide, by decide⟩ (fun q => G.pick [] (kt q)) (fun q => G.pick [0, 1] (kf q))
theorem bX11_must_9 {X : CT} {σ : St} {i1 : Int}  (s : (-2147483648 ≤ i1 ∧ i1 < 2147483648))
    (kt : i1 = 0 → G mdX11_must X 20 [(0, vr 87)] [] σ)
    (kf : ¬ i1 = 0 → G mdX11_must X 13 [(0, vr 87)] [] σ) :
    G mdX11_must X 9 [(0, vr 87), (1, vi i1)] [] σ := by
  refine G.iload_n (z := i1) dX11_must_9 rfl ?_
  exact G.if_eq (tgt := 20) dX11_must_10 (by decide) s (fun q => G.pick [0] (kt q)) (fun q => G.pick [0] (kf q))
theorem bX11_must_13 {X : CT} {σ : St}  {P : St → Prop} (hM : CV mdX11_next [vr 87] σ P)
    (k : ∀ σ', P σ' → G mdX11_must X 17 [] [] (σ')) :
    G mdX11_must X 13 [(0, vr 87)] [] σ := by
  refine G.aload_n (o := 87) dX11_must_13 rfl ?_
  exact G.callVV (as := []) (rest := []) dX11_must_14 rfl vX11_112 (by decide) sh87 rfl (by decide) (Nat.le_of_ble_eq_true rfl) hM (fun σ' q => G.pick [] (k σ' q))
theorem bX11_must_17 {X : CT} {σ : St} 
    (k : G mdX11_must X 28 [] [] σ) :
    G mdX11_must X 17 [] [] σ := by
  refine G.goto (tgt := 28) dX11_must_17 (by decide) ?_
  exact G.pick [] k
theorem bX11_must_20 {X : CT} {σ : St} 
    (k : G mdX11_must X 28 [] [] (wr σ 87 15 (σ 87 12))) :
    G mdX11_must X 20 [(0, vr 87)] [] σ := by
  refine G.aload_n (o := 87) dX11_must_20 rfl ?_
  refine G.aload_n (o := 87) dX11_must_21 rfl ?_
  refine G.getI (j := 12) dX11_must_22 fX11_100 sh87 rfl rfl rfl ?_
  refine G.putI (j := 15) dX11_must_25 fX11_109 sh87 rfl rfl rfl rfl rfl ?_
  exact G.pick [] k
theorem bX11_must_28 {X : CT} {σ : St}  {P : St → Prop} (hX : RV X P)
    (k : P σ) :
    G mdX11_must X 28 [] [] σ := by
  exact G.vret hX dX11_must_28 rfl k
theorem bX11_readRow_0 {X : CT} {σ : St} {i1 : Int} 
    (k : G mdX11_readRow X 2 [(0, vr 87), (1, vi i1), (2, vi 0)] [] σ) :
    G mdX11_readRow X 0 [(0, vr 87), (1, vi i1)] [] σ := by
  refine G.iconst dX11_readRow_0 ?_
  refine G.istore_n dX11_readRow_1 (by decide) rfl ?_
  exact G.pick [0, 1, 2] k
theorem bX11_readRow_2 {X : CT} {σ : St} {i1 i2 : Int}  (s : (-2147483648 ≤ i2 ∧ i2 < 2147483648))
    (kt : 16 ≤ i2 → G mdX11_readRow X 26 [(0, vr 87), (1, vi i1)] [] σ)
    (kf : i2 < 16 → G mdX11_readRow X 8 [(0, vr 87), (1, vi i1), (2, vi i2)] [] σ) :
    G mdX11_readRow X 2 [(0, vr 87), (1, vi i1), (2, vi i2)] [] σ := by
  refine G.iload_n (z := i2) dX11_readRow_2 rfl ?_
  refine G.bipush dX11_readRow_3 (by decide) ?_
  exact G.icmp_ge (tgt := 26) dX11_readRow_5 (by decide) s ⟨by decide, by decide⟩ (fun q => G.pick [0, 1] (kt q)) (fun q => G.pick [0, 1, 2] (kf q))
theorem bX11_readRow_8 {X : CT} {σ : St} {i1 i2 : Int}  (s : (0 ≤ (16 * i1) + i2 ∧ (16 * i1) + i2 < 86))
    (k : G mdX11_readRow X 2 [(0, vr 87), (1, vi i1), (2, vi (i2 + 1))] [] (wr σ 95 ((16 * i1) + i2) 0)) :
    G mdX11_readRow X 8 [(0, vr 87), (1, vi i1), (2, vi i2)] [] σ := by
  refine G.aload_n (o := 87) dX11_readRow_8 rfl ?_
  refine G.getR (o' := 95) dX11_readRow_9 fX11_33 sh87 rfl ?_
  refine G.bipush dX11_readRow_12 (by decide) ?_
  refine G.iload_n (z := i1) dX11_readRow_14 rfl ?_
  refine G.imul dX11_readRow_15 ?_
  refine G.iload_n (z := i2) dX11_readRow_16 rfl ?_
  refine G.iadd dX11_readRow_17 ?_
  refine G.iconst dX11_readRow_18 ?_
  refine G.iast dX11_readRow_19 sh95 s ?_
  refine G.iinc (z := i2) dX11_readRow_20 rfl (by decide) rfl ?_
  refine G.goto (tgt := 2) dX11_readRow_23 (by decide) ?_
  exact G.pick [0, 1, 2] k
theorem bX11_readRow_26 {X : CT} {σ : St} {i1 : Int} 
    (k : G mdX11_readRow X 28 [(0, vr 87), (1, vi i1), (2, vi 0)] [] σ) :
    G mdX11_readRow X 26 [(0, vr 87), (1, vi i1)] [] σ := by
  refine G.iconst dX11_readRow_26 ?_
  refine G.istore_n dX11_readRow_27 (by decide) rfl ?_
  exact G.pick [0, 1, 2] k
theorem bX11_readRow_28 {X : CT} {σ : St} {i1 i2 : Int}  (s : (-2147483648 ≤ σ 87 15 ∧ σ 87 15 < 2147483648))
    (kt : ¬ σ 87 15 = (-9) → G mdX11_readRow X 95 [(0, vr 87), (2, vi i2)] [] σ)
    (kf : σ 87 15 = (-9) → G mdX11_readRow X 37 [(0, vr 87), (1, vi i1), (2, vi i2)] [] σ) :
    G mdX11_readRow X 28 [(0, vr 87), (1, vi i1), (2, vi i2)] [] σ := by
  refine G.aload_n (o := 87) dX11_readRow_28 rfl ?_
  refine G.getI (j := 15) dX11_readRow_29 fX11_109 sh87 rfl rfl rfl ?_
  refine G.bipush dX11_readRow_32 (by decide) ?_
  exact G.icmp_ne (tgt := 95) dX11_readRow_34 (by decide) s ⟨by decide, by decide⟩ (fun q => G.pick [0, 2] (kt q)) (fun q => G.pick [0, 1, 2] (kf q))
theorem bX11_readRow_37 {X : CT} {σ : St} {i1 i2 : Int}  (s : (-2147483648 ≤ σ 87 13 ∧ σ 87 13 < 2147483648))
    (kt : ¬ σ 87 13 = 1 → G mdX11_readRow X 95 [(0, vr 87), (2, vi i2)] [] σ)
    (kf : σ 87 13 = 1 → G mdX11_readRow X 45 [(0, vr 87), (1, vi i1), (2, vi i2)] [] σ) :
    G mdX11_readRow X 37 [(0, vr 87), (1, vi i1), (2, vi i2)] [] σ := by
  refine G.aload_n (o := 87) dX11_readRow_37 rfl ?_
  refine G.getI (j := 13) dX11_readRow_38 fX11_106 sh87 rfl rfl rfl ?_
  refine G.iconst dX11_readRow_41 ?_
  exact G.icmp_ne (tgt := 95) dX11_readRow_42 (by decide) s ⟨by decide, by decide⟩ (fun q => G.pick [0, 2] (kt q)) (fun q => G.pick [0, 1, 2] (kf q))
theorem bX11_readRow_45 {X : CT} {σ : St} {i1 i2 : Int}  (s : (-2147483648 ≤ i2 ∧ i2 < 2147483648))
    (kt : 16 ≤ i2 → G mdX11_readRow X 84 [(0, vr 87), (1, vi i1), (2, vi i2)] [] σ)
    (kf : i2 < 16 → G mdX11_readRow X 51 [(0, vr 87), (1, vi i1), (2, vi i2)] [] σ) :
    G mdX11_readRow X 45 [(0, vr 87), (1, vi i1), (2, vi i2)] [] σ := by
  refine G.iload_n (z := i2) dX11_readRow_45 rfl ?_
  refine G.bipush dX11_readRow_46 (by decide) ?_
  exact G.icmp_ge (tgt := 84) dX11_readRow_48 (by decide) s ⟨by decide, by decide⟩ (fun q => G.pick [0, 1, 2] (kt q)) (fun q => G.pick [0, 1, 2] (kf q))
theorem bX11_readRow_51 {X : CT} {σ : St} {i1 i2 : Int}  (s : (-2147483648 ≤ σ 87 14 ∧ σ 87 14 < 2147483648))
    (kt : 4 ≤ σ 87 14 → G mdX11_readRow X 84 [(0, vr 87), (1, vi i1), (2, vi i2)] [] σ)
    (kf : σ 87 14 < 4 → G mdX11_readRow X 59 [(0, vr 87), (1, vi i1), (2, vi i2)] [] σ) :
    G mdX11_readRow X 51 [(0, vr 87), (1, vi i1), (2, vi i2)] [] σ := by
  refine G.aload_n (o := 87) dX11_readRow_51 rfl ?_
  refine G.getI (j := 14) dX11_readRow_52 fX11_103 sh87 rfl rfl rfl ?_
  refine G.iconst dX11_readRow_55 ?_
  exact G.icmp_ge (tgt := 84) dX11_readRow_56 (by decide) s ⟨by decide, by decide⟩ (fun q => G.pick [0, 1, 2] (kt q)) (fun q => G.pick [0, 1, 2] (kf q))
theorem bX11_readRow_59 {X : CT} {σ : St} {i1 i2 : Int}  {P : St → Prop} (hM : CV mdX11_next [vr 87] (wr σ 95 ((16 * i1) + i2) (σ 87 14)) P) (s : (0 ≤ (16 * i1) + i2 ∧ (16 * i1) + i2 < 86))
    (k : ∀ σ', P σ' → G mdX11_readRow X 81 [(0, vr 87), (1, vi i1), (2, vi (i2 + 1))] [] (σ')) :
    G mdX11_readRow X 59 [(0, vr 87), (1, vi i1), (2, vi i2)] [] σ := by
  refine G.aload_n (o := 87) dX11_readRow_59 rfl ?_
  refine G.getR (o' := 95) dX11_readRow_60 fX11_33 sh87 rfl ?_
  refine G.bipush dX11_readRow_63 (by decide) ?_
  refine G.iload_n (z := i1) dX11_readRow_65 rfl ?_
  refine G.imul dX11_readRow_66 ?_
  refine G.iload_n (z := i2) dX11_readRow_67 rfl ?_
  refine G.iadd dX11_readRow_68 ?_
  refine G.aload_n (o := 87) dX11_readRow_69 rfl ?_
  refine G.getI (j := 14) dX11_readRow_70 fX11_103 sh87 rfl rfl rfl ?_
  refine G.iast dX11_readRow_73 sh95 s ?_
  refine G.iinc (z := i2) dX11_readRow_74 rfl (by decide) rfl ?_
  refine G.aload_n (o := 87) dX11_readRow_77 rfl ?_
  exact G.callVV (as := []) (rest := []) dX11_readRow_78 rfl vX11_112 (by decide) sh87 rfl (by decide) (Nat.le_of_ble_eq_true rfl) hM (fun σ' q => G.pick [0, 1, 2] (k σ' q))
theorem bX11_readRow_81 {X : CT} {σ : St} {i1 i2 : Int} 
    (k : G mdX11_readRow X 28 [(0, vr 87), (1, vi i1), (2, vi i2)] [] σ) :
    G mdX11_readRow X 81 [(0, vr 87), (1, vi i1), (2, vi i2)] [] σ := by
  refine G.goto (tgt := 28) dX11_readRow_81 (by decide) ?_
  exact G.pick [0, 1, 2] k
theorem bX11_readRow_84 {X : CT} {σ : St} {i1 i2 : Int} 
    (k : G mdX11_readRow X 28 [(0, vr 87), (1, vi i1), (2, vi i2)] [] (wr σ 87 15 (σ 87 12))) :
    G mdX11_readRow X 84 [(0, vr 87), (1, vi i1), (2, vi i2)] [] σ := by
  refine G.aload_n (o := 87) dX11_readRow_84 rfl ?_
  refine G.aload_n (o := 87) dX11_readRow_85 rfl ?_
  refine G.getI (j := 12) dX11_readRow_86 fX11_100 sh87 rfl rfl rfl ?_
  refine G.putI (j := 15) dX11_readRow_89 fX11_109 sh87 rfl rfl rfl rfl rfl ?_
  refine G.goto (tgt := 28) dX11_readRow_92 (by decide) ?_
  exact G.pick [0, 1, 2] k
theorem bX11_readRow_95 {X : CT} {σ : St} {i2 : Int}  (s : (-2147483648 ≤ i2 ∧ i2 < 2147483648))
    (kt : i2 ≤ 0 → G mdX11_readRow X 113 [] [vr 87] σ)
    (kf : 0 < i2 → G mdX11_readRow X 100 [(0, vr 87)] [vr 87] σ) :
    G mdX11_readRow X 95 [(0, vr 87), (2, vi i2)] [] σ := by
  refine G.aload_n (o := 87) dX11_readRow_95 rfl ?_
  refine G.iload_n (z := i2) dX11_readRow_96 rfl ?_
  exact G.if_le (tgt := 113) dX11_readRow_97 (by decide) s (fun q => G.pick [] (kt q)) (fun q => G.pick [0] (kf q))
theorem bX11_readRow_100 {X : CT} {σ : St}  (s : (-2147483648 ≤ σ 87 13 ∧ σ 87 13 < 2147483648))
    (kt : ¬ σ 87 13 = 59 → G mdX11_readRow X 113 [] [vr 87] σ)
    (kf : σ 87 13 = 59 → G mdX11_readRow X 109 [] [vr 87] σ) :
    G mdX11_readRow X 100 [(0, vr 87)] [vr 87] σ := by
  refine G.aload_n (o := 87) dX11_readRow_100 rfl ?_
  refine G.getI (j := 13) dX11_readRow_101 fX11_106 sh87 rfl rfl rfl ?_
  refine G.bipush dX11_readRow_104 (by decide) ?_
  exact G.icmp_ne (tgt := 113) dX11_readRow_106 (by decide) s ⟨by decide, by decide⟩ (fun q => G.pick [] (kt q)) (fun q => G.pick [] (kf q))
theorem bX11_readRow_109 {X : CT} {σ : St} 
    (k : G mdX11_readRow X 114 [] [vi 1, vr 87] σ) :
    G mdX11_readRow X 109 [] [vr 87] σ := by
  refine G.iconst dX11_readRow_109 ?_
  refine G.goto (tgt := 114) dX11_readRow_110 (by decide) ?_
  exact G.pick [] k
theorem bX11_readRow_113 {X : CT} {σ : St} 
    (k : G mdX11_readRow X 114 [] [vi 0, vr 87] σ) :
    G mdX11_readRow X 113 [] [vr 87] σ := by
  refine G.iconst dX11_readRow_113 ?_
  exact G.pick [] k
theorem bX11_readRow_114 {X : CT} {σ : St} {t1 : Int}  {P : St → Prop} (hM : CV mdX11_must [vr 87, vi t1] σ P)
    (k : ∀ σ', P σ' → G mdX11_readRow X 117 [] [] (σ')) :
    G mdX11_readRow X 114 [] [vi t1, vr 87] σ := by
  exact G.callVV (as := [vi t1]) (rest := []) dX11_readRow_114 rfl vX11_115 (by decide) sh87 rfl (by decide) (Nat.le_of_ble_eq_true rfl) hM (fun σ' q => G.pick [] (k σ' q))
theorem bX11_readRow_117 {X : CT} {σ : St}  {P : St → Prop} (hX : RV X P)
    (k : P σ) :
    G mdX11_readRow X 117 [] [] σ := by
  exact G.vret hX dX11_readRow_117 rfl k
theorem bX11_readMarks_0 {X : CT} {σ : St} 
    (k : G mdX11_readMarks X 13 [(0, vr 87)] [] (wr (wr σ 95 32 0) 87 16 1)) :
    G mdX11_readMarks X 0 [(0, vr 87)] [] σ := by
  refine G.aload_n (o := 87) dX11_readMarks_0 rfl ?_
  refine G.getR (o' := 95) dX11_readMarks_1 fX11_33 sh87 rfl ?_
  refine G.bipush dX11_readMarks_4 (by decide) ?_
  refine G.iconst dX11_readMarks_6 ?_
  refine G.iast dX11_readMarks_7 sh95 ⟨by decide, by decide⟩ ?_
  refine G.aload_n (o := 87) dX11_readMarks_8 rfl ?_
  refine G.iconst dX11_readMarks_9 ?_
  refine G.putZ (j := 16) dX11_readMarks_10 fX11_119 sh87 rfl rfl rfl rfl rfl (Or.inr rfl) ?_
  exact G.pick [0] k
theorem bX11_readMarks_13 {X : CT} {σ : St}  (s : (-2147483648 ≤ σ 87 15 ∧ σ 87 15 < 2147483648))
    (kt : ¬ σ 87 15 = (-9) → G mdX11_readMarks X 90 [(0, vr 87)] [] σ)
    (kf : σ 87 15 = (-9) → G mdX11_readMarks X 22 [(0, vr 87)] [] σ) :
    G mdX11_readMarks X 13 [(0, vr 87)] [] σ := by
  refine G.aload_n (o := 87) dX11_readMarks_13 rfl ?_
  refine G.getI (j := 15) dX11_readMarks_14 fX11_109 sh87 rfl rfl rfl ?_
  refine G.bipush dX11_readMarks_17 (by decide) ?_
  exact G.icmp_ne (tgt := 90) dX11_readMarks_19 (by decide) s ⟨by decide, by decide⟩ (fun q => G.pick [0] (kt q)) (fun q => G.pick [0] (kf q))
theorem bX11_readMarks_22 {X : CT} {σ : St}  (s : (-2147483648 ≤ σ 87 13 ∧ σ 87 13 < 2147483648))
    (kt : ¬ σ 87 13 = 1 → G mdX11_readMarks X 90 [(0, vr 87)] [] σ)
    (kf : σ 87 13 = 1 → G mdX11_readMarks X 30 [(0, vr 87)] [] σ) :
    G mdX11_readMarks X 22 [(0, vr 87)] [] σ := by
  refine G.aload_n (o := 87) dX11_readMarks_22 rfl ?_
  refine G.getI (j := 13) dX11_readMarks_23 fX11_106 sh87 rfl rfl rfl ?_
  refine G.iconst dX11_readMarks_26 ?_
  exact G.icmp_ne (tgt := 90) dX11_readMarks_27 (by decide) s ⟨by decide, by decide⟩ (fun q => G.pick [0] (kt q)) (fun q => G.pick [0] (kf q))
theorem bX11_readMarks_30 {X : CT} {σ : St}  (s : (-2147483648 ≤ σ 87 14 ∧ σ 87 14 < 2147483648))
    (kt : 16 ≤ σ 87 14 → G mdX11_readMarks X 79 [(0, vr 87)] [] σ)
    (kf : σ 87 14 < 16 → G mdX11_readMarks X 39 [(0, vr 87)] [] σ) :
    G mdX11_readMarks X 30 [(0, vr 87)] [] σ := by
  refine G.aload_n (o := 87) dX11_readMarks_30 rfl ?_
  refine G.getI (j := 14) dX11_readMarks_31 fX11_103 sh87 rfl rfl rfl ?_
  refine G.bipush dX11_readMarks_34 (by decide) ?_
  exact G.icmp_ge (tgt := 79) dX11_readMarks_36 (by decide) s ⟨by decide, by decide⟩ (fun q => G.pick [0] (kt q)) (fun q => G.pick [0] (kf q))
theorem bX11_readMarks_39 {X : CT} {σ : St}  {P : Int → St → Prop} (hM : CI mdX11_has [vi (σ 95 32), vi (σ 87 14)] σ P)
    (k : ∀ z σ', inI z → P z σ' → G mdX11_readMarks X 53 [(0, vr 87)] [vi z] (σ')) :
    G mdX11_readMarks X 39 [(0, vr 87)] [] σ := by
  refine G.aload_n (o := 87) dX11_readMarks_39 rfl ?_
  refine G.getR (o' := 95) dX11_readMarks_40 fX11_33 sh87 rfl ?_
  refine G.bipush dX11_readMarks_43 (by decide) ?_
  refine G.iald dX11_readMarks_45 sh95 ⟨by decide, by decide⟩ ?_
  refine G.aload_n (o := 87) dX11_readMarks_46 rfl ?_
  refine G.getI (j := 14) dX11_readMarks_47 fX11_103 sh87 rfl rfl rfl ?_
  exact G.callSI (as := [vi (σ 95 32), vi (σ 87 14)]) (rest := []) dX11_readMarks_50 rfl vX11_123 (by decide) (Nat.le_of_ble_eq_true rfl) hM (fun z σ' hz q => G.pick [0] (k z σ' hz q))
theorem bX11_readMarks_53 {X : CT} {σ : St} {t0 : Int}  (s : (-2147483648 ≤ t0 ∧ t0 < 2147483648))
    (kt : ¬ t0 = 0 → G mdX11_readMarks X 79 [(0, vr 87)] [] σ)
    (kf : t0 = 0 → G mdX11_readMarks X 56 [(0, vr 87)] [] σ) :
    G mdX11_readMarks X 53 [(0, vr 87)] [vi t0] σ := by
  exact G.if_ne (tgt := 79) dX11_readMarks_53 (by decide) s (fun q => G.pick [0] (kt q)) (fun q => G.pick [0] (kf q))
theorem bX11_readMarks_56 {X : CT} {σ : St}  {P : St → Prop} (hM : CV mdX11_next [vr 87] (wr σ 95 32 (bOr (σ 95 32) (bShl 1 (σ 87 14)))) P)
    (k : ∀ σ', P σ' → G mdX11_readMarks X 76 [(0, vr 87)] [] (σ')) :
    G mdX11_readMarks X 56 [(0, vr 87)] [] σ := by
  refine G.aload_n (o := 87) dX11_readMarks_56 rfl ?_
  refine G.getR (o' := 95) dX11_readMarks_57 fX11_33 sh87 rfl ?_
  refine G.bipush dX11_readMarks_60 (by decide) ?_
  refine G.dup2 dX11_readMarks_62 ?_
  refine G.iald dX11_readMarks_63 sh95 ⟨by decide, by decide⟩ ?_
  refine G.iconst dX11_readMarks_64 ?_
  refine G.aload_n (o := 87) dX11_readMarks_65 rfl ?_
  refine G.getI (j := 14) dX11_readMarks_66 fX11_103 sh87 rfl rfl rfl ?_
  refine G.ishl dX11_readMarks_69 ?_
  refine G.ior dX11_readMarks_70 ?_
  refine G.iast dX11_readMarks_71 sh95 ⟨by decide, by decide⟩ ?_
  refine G.aload_n (o := 87) dX11_readMarks_72 rfl ?_
  exact G.callVV (as := []) (rest := []) dX11_readMarks_73 rfl vX11_112 (by decide) sh87 rfl (by decide) (Nat.le_of_ble_eq_true rfl) hM (fun σ' q => G.pick [0] (k σ' q))
theorem bX11_readMarks_76 {X : CT} {σ : St} 
    (k : G mdX11_readMarks X 13 [(0, vr 87)] [] σ) :
    G mdX11_readMarks X 76 [(0, vr 87)] [] σ := by
  refine G.goto (tgt := 13) dX11_readMarks_76 (by decide) ?_
  exact G.pick [0] k
theorem bX11_readMarks_79 {X : CT} {σ : St} 
    (k : G mdX11_readMarks X 13 [(0, vr 87)] [] (wr σ 87 15 (σ 87 12))) :
    G mdX11_readMarks X 79 [(0, vr 87)] [] σ := by
  refine G.aload_n (o := 87) dX11_readMarks_79 rfl ?_
  refine G.aload_n (o := 87) dX11_readMarks_80 rfl ?_
  refine G.getI (j := 12) dX11_readMarks_81 fX11_100 sh87 rfl rfl rfl ?_
  refine G.putI (j := 15) dX11_readMarks_84 fX11_109 sh87 rfl rfl rfl rfl rfl ?_
  refine G.goto (tgt := 13) dX11_readMarks_87 (by decide) ?_
  exact G.pick [0] k
theorem bX11_readMarks_90 {X : CT} {σ : St}  (s : (-2147483648 ≤ σ 87 13 ∧ σ 87 13 < 2147483648))
    (kt : ¬ σ 87 13 = 59 → G mdX11_readMarks X 104 [] [vr 87] σ)
    (kf : σ 87 13 = 59 → G mdX11_readMarks X 100 [] [vr 87] σ) :
    G mdX11_readMarks X 90 [(0, vr 87)] [] σ := by
  refine G.aload_n (o := 87) dX11_readMarks_90 rfl ?_
  refine G.aload_n (o := 87) dX11_readMarks_91 rfl ?_
  refine G.getI (j := 13) dX11_readMarks_92 fX11_106 sh87 rfl rfl rfl ?_
  refine G.bipush dX11_readMarks_95 (by decide) ?_
  exact G.icmp_ne (tgt := 104) dX11_readMarks_97 (by decide) s ⟨by decide, by decide⟩ (fun q => G.pick [] (kt q)) (fun q => G.pick [] (kf q))
theorem bX11_readMarks_100 {X : CT} {σ : St} 
    (k : G mdX11_readMarks X 105 [] [vi 1, vr 87] σ) :
    G mdX11_readMarks X 100 [] [vr 87] σ := by
  refine G.iconst dX11_readMarks_100 ?_
  refine G.goto (tgt := 105) dX11_readMarks_101 (by decide) ?_
  exact G.pick [] k
theorem bX11_readMarks_104 {X : CT} {σ : St} 
    (k : G mdX11_readMarks X 105 [] [vi 0, vr 87] σ) :
    G mdX11_readMarks X 104 [] [vr 87] σ := by
  refine G.iconst dX11_readMarks_104 ?_
  exact G.pick [] k
theorem bX11_readMarks_105 {X : CT} {σ : St} {t1 : Int}  {P : St → Prop} (hM : CV mdX11_must [vr 87, vi t1] σ P)
    (k : ∀ σ', P σ' → G mdX11_readMarks X 108 [] [] (σ')) :
    G mdX11_readMarks X 105 [] [vi t1, vr 87] σ := by
  exact G.callVV (as := [vi t1]) (rest := []) dX11_readMarks_105 rfl vX11_115 (by decide) sh87 rfl (by decide) (Nat.le_of_ble_eq_true rfl) hM (fun σ' q => G.pick [] (k σ' q))
theorem bX11_readMarks_108 {X : CT} {σ : St}  {P : St → Prop} (hX : RV X P)
    (k : P σ) :
    G mdX11_readMarks X 108 [] [] σ := by
  exact G.vret hX dX11_readMarks_108 rfl k
theorem bX11_readDeed_0 {X : CT} {σ : St}  (s : (0 ≤ 34 + (5 * (σ 95 33)) ∧ 34 + (5 * (σ 95 33)) < 86) ∧ (-2147483648 ≤ (wr σ 95 (34 + (5 * (σ 95 33))) (σ 87 14)) 87 13 ∧ (wr σ 95 (34 + (5 * (σ 95 33))) (σ 87 14)) 87 13 < 2147483648))
    (kt : ¬ (wr σ 95 (34 + (5 * (σ 95 33))) (σ 87 14)) 87 13 = 1 → G mdX11_readDeed X 44 [(0, vr 87), (1, vi (34 + (5 * (σ 95 33))))] [vr 87] (wr σ 95 (34 + (5 * (σ 95 33))) (σ 87 14)))
    (kf : (wr σ 95 (34 + (5 * (σ 95 33))) (σ 87 14)) 87 13 = 1 → G mdX11_readDeed X 32 [(0, vr 87), (1, vi (34 + (5 * (σ 95 33))))] [vr 87] (wr σ 95 (34 + (5 * (σ 95 33))) (σ 87 14))) :
    G mdX11_readDeed X 0 [(0, vr 87)] [] σ := by
  refine G.bipush dX11_readDeed_0 (by decide) ?_
  refine G.iconst dX11_readDeed_2 ?_
  refine G.aload_n (o := 87) dX11_readDeed_3 rfl ?_
  refine G.getR (o' := 95) dX11_readDeed_4 fX11_33 sh87 rfl ?_
  refine G.bipush dX11_readDeed_7 (by decide) ?_
  refine G.iald dX11_readDeed_9 sh95 ⟨by decide, by decide⟩ ?_
  refine G.imul dX11_readDeed_10 ?_
  refine G.iadd dX11_readDeed_11 ?_
  refine G.istore_n dX11_readDeed_12 (by decide) rfl ?_
  refine G.aload_n (o := 87) dX11_readDeed_13 rfl ?_
  refine G.getR (o' := 95) dX11_readDeed_14 fX11_33 sh87 rfl ?_
  refine G.iload_n (z := 34 + (5 * (σ 95 33))) dX11_readDeed_17 rfl ?_
  refine G.aload_n (o := 87) dX11_readDeed_18 rfl ?_
  refine G.getI (j := 14) dX11_readDeed_19 fX11_103 sh87 rfl rfl rfl ?_
  refine G.iast dX11_readDeed_22 sh95 s.1 ?_
  refine G.aload_n (o := 87) dX11_readDeed_23 rfl ?_
  refine G.aload_n (o := 87) dX11_readDeed_24 rfl ?_
  refine G.getI (j := 13) dX11_readDeed_25 fX11_106 sh87 rfl rfl rfl ?_
  refine G.iconst dX11_readDeed_28 ?_
  exact G.icmp_ne (tgt := 44) dX11_readDeed_29 (by decide) s.2 ⟨by decide, by decide⟩ (fun q => G.pick [0, 1] (kt q)) (fun q => G.pick [0, 1] (kf q))
theorem bX11_readDeed_32 {X : CT} {σ : St} {i1 : Int}  (s : (-2147483648 ≤ σ 87 14 ∧ σ 87 14 < 2147483648))
    (kt : 5 ≤ σ 87 14 → G mdX11_readDeed X 44 [(0, vr 87), (1, vi i1)] [vr 87] σ)
    (kf : σ 87 14 < 5 → G mdX11_readDeed X 40 [(0, vr 87), (1, vi i1)] [vr 87] σ) :
    G mdX11_readDeed X 32 [(0, vr 87), (1, vi i1)] [vr 87] σ := by
  refine G.aload_n (o := 87) dX11_readDeed_32 rfl ?_
  refine G.getI (j := 14) dX11_readDeed_33 fX11_103 sh87 rfl rfl rfl ?_
  refine G.iconst dX11_readDeed_36 ?_
  exact G.icmp_ge (tgt := 44) dX11_readDeed_37 (by decide) s ⟨by decide, by decide⟩ (fun q => G.pick [0, 1] (kt q)) (fun q => G.pick [0, 1] (kf q))
theorem bX11_readDeed_40 {X : CT} {σ : St} {i1 : Int} 
    (k : G mdX11_readDeed X 45 [(0, vr 87), (1, vi i1)] [vi 1, vr 87] σ) :
    G mdX11_readDeed X 40 [(0, vr 87), (1, vi i1)] [vr 87] σ := by
  refine G.iconst dX11_readDeed_40 ?_
  refine G.goto (tgt := 45) dX11_readDeed_41 (by decide) ?_
  exact G.pick [0, 1] k
theorem bX11_readDeed_44 {X : CT} {σ : St} {i1 : Int} 
    (k : G mdX11_readDeed X 45 [(0, vr 87), (1, vi i1)] [vi 0, vr 87] σ) :
    G mdX11_readDeed X 44 [(0, vr 87), (1, vi i1)] [vr 87] σ := by
  refine G.iconst dX11_readDeed_44 ?_
  exact G.pick [0, 1] k
theorem bX11_readDeed_45 {X : CT} {σ : St} {i1 t1 : Int}  {P : St → Prop} (hM : CV mdX11_must [vr 87, vi t1] σ P)
    (k : ∀ σ', P σ' → G mdX11_readDeed X 48 [(0, vr 87), (1, vi i1)] [] (σ')) :
    G mdX11_readDeed X 45 [(0, vr 87), (1, vi i1)] [vi t1, vr 87] σ := by
  exact G.callVV (as := [vi t1]) (rest := []) dX11_readDeed_45 rfl vX11_115 (by decide) sh87 rfl (by decide) (Nat.le_of_ble_eq_true rfl) hM (fun σ' q => G.pick [0, 1] (k σ' q))
theorem bX11_readDeed_48 {X : CT} {σ : St} {i1 : Int} 
    (k : G mdX11_readDeed X 50 [(0, vr 87), (1, vi i1), (2, vi 1)] [] σ) :
    G mdX11_readDeed X 48 [(0, vr 87), (1, vi i1)] [] σ := by
  refine G.iconst dX11_readDeed_48 ?_
  refine G.istore_n dX11_readDeed_49 (by decide) rfl ?_
  exact G.pick [0, 1, 2] k
theorem bX11_readDeed_50 {X : CT} {σ : St} {i1 i2 : Int}  (s : (-2147483648 ≤ i2 ∧ i2 < 2147483648))
    (kt : 5 ≤ i2 → G mdX11_readDeed X 140 [(0, vr 87)] [] σ)
    (kf : i2 < 5 → G mdX11_readDeed X 55 [(0, vr 87), (1, vi i1), (2, vi i2)] [] σ) :
    G mdX11_readDeed X 50 [(0, vr 87), (1, vi i1), (2, vi i2)] [] σ := by
  refine G.iload_n (z := i2) dX11_readDeed_50 rfl ?_
  refine G.iconst dX11_readDeed_51 ?_
  exact G.icmp_ge (tgt := 140) dX11_readDeed_52 (by decide) s ⟨by decide, by decide⟩ (fun q => G.pick [0] (kt q)) (fun q => G.pick [0, 1, 2] (kf q))
theorem bX11_readDeed_55 {X : CT} {σ : St} {i1 i2 : Int}  (s : (-2147483648 ≤ σ 87 15 ∧ σ 87 15 < 2147483648))
    (kt : ¬ σ 87 15 = (-9) → G mdX11_readDeed X 140 [(0, vr 87)] [] σ)
    (kf : σ 87 15 = (-9) → G mdX11_readDeed X 64 [(0, vr 87), (1, vi i1), (2, vi i2)] [] σ) :
    G mdX11_readDeed X 55 [(0, vr 87), (1, vi i1), (2, vi i2)] [] σ := by
  refine G.aload_n (o := 87) dX11_readDeed_55 rfl ?_
  refine G.getI (j := 15) dX11_readDeed_56 fX11_109 sh87 rfl rfl rfl ?_
  refine G.bipush dX11_readDeed_59 (by decide) ?_
  exact G.icmp_ne (tgt := 140) dX11_readDeed_61 (by decide) s ⟨by decide, by decide⟩ (fun q => G.pick [0] (kt q)) (fun q => G.pick [0, 1, 2] (kf q))
theorem bX11_readDeed_64 {X : CT} {σ : St} {i1 i2 : Int}  (s : (0 ≤ i1 + i2 ∧ i1 + i2 < 86) ∧ (-2147483648 ≤ (wr σ 95 (i1 + i2) (σ 87 14)) 87 13 ∧ (wr σ 95 (i1 + i2) (σ 87 14)) 87 13 < 2147483648))
    (kt : ¬ (wr σ 95 (i1 + i2) (σ 87 14)) 87 13 = 1 → G mdX11_readDeed X 130 [(0, vr 87), (1, vi i1), (2, vi i2)] [vr 87] (wr σ 95 (i1 + i2) (σ 87 14)))
    (kf : (wr σ 95 (i1 + i2) (σ 87 14)) 87 13 = 1 → G mdX11_readDeed X 85 [(0, vr 87), (1, vi i1), (2, vi i2)] [vr 87] (wr σ 95 (i1 + i2) (σ 87 14))) :
    G mdX11_readDeed X 64 [(0, vr 87), (1, vi i1), (2, vi i2)] [] σ := by
  refine G.aload_n (o := 87) dX11_readDeed_64 rfl ?_
  refine G.getR (o' := 95) dX11_readDeed_65 fX11_33 sh87 rfl ?_
  refine G.iload_n (z := i1) dX11_readDeed_68 rfl ?_
  refine G.iload_n (z := i2) dX11_readDeed_69 rfl ?_
  refine G.iadd dX11_readDeed_70 ?_
  refine G.aload_n (o := 87) dX11_readDeed_71 rfl ?_
  refine G.getI (j := 14) dX11_readDeed_72 fX11_103 sh87 rfl rfl rfl ?_
  refine G.iast dX11_readDeed_75 sh95 s.1 ?_
  refine G.aload_n (o := 87) dX11_readDeed_76 rfl ?_
  refine G.aload_n (o := 87) dX11_readDeed_77 rfl ?_
  refine G.getI (j := 13) dX11_readDeed_78 fX11_106 sh87 rfl rfl rfl ?_
  refine G.iconst dX11_readDeed_81 ?_
  exact G.icmp_ne (tgt := 130) dX11_readDeed_82 (by decide) s.2 ⟨by decide, by decide⟩ (fun q => G.pick [0, 1, 2] (kt q)) (fun q => G.pick [0, 1, 2] (kf q))
theorem bX11_readDeed_85 {X : CT} {σ : St} {i1 i2 : Int}  {P : Int → St → Prop} (hM : CI mdX11_mayBe [vi (σ 95 i1), vi i2, vi (σ 87 14), vi (σ 95 (i1 + 1)), vi (σ 95 (i1 + 2)), vi (σ 95 (i1 + 3))] σ P) (s : (0 ≤ i1 ∧ i1 < 86) ∧ (0 ≤ i1 + 1 ∧ i1 + 1 < 86) ∧ (0 ≤ i1 + 2 ∧ i1 + 2 < 86) ∧ (0 ≤ i1 + 3 ∧ i1 + 3 < 86))
    (k : ∀ z σ', inI z → P z σ' → G mdX11_readDeed X 123 [(0, vr 87), (1, vi i1), (2, vi i2)] [vi z, vr 87] (σ')) :
    G mdX11_readDeed X 85 [(0, vr 87), (1, vi i1), (2, vi i2)] [vr 87] σ := by
  refine G.aload_n (o := 87) dX11_readDeed_85 rfl ?_
  refine G.getR (o' := 95) dX11_readDeed_86 fX11_33 sh87 rfl ?_
  refine G.iload_n (z := i1) dX11_readDeed_89 rfl ?_
  refine G.iald dX11_readDeed_90 sh95 s.1 ?_
  refine G.iload_n (z := i2) dX11_readDeed_91 rfl ?_
  refine G.aload_n (o := 87) dX11_readDeed_92 rfl ?_
  refine G.getI (j := 14) dX11_readDeed_93 fX11_103 sh87 rfl rfl rfl ?_
  refine G.aload_n (o := 87) dX11_readDeed_96 rfl ?_
  refine G.getR (o' := 95) dX11_readDeed_97 fX11_33 sh87 rfl ?_
  refine G.iload_n (z := i1) dX11_readDeed_100 rfl ?_
  refine G.iconst dX11_readDeed_101 ?_
  refine G.iadd dX11_readDeed_102 ?_
  refine G.iald dX11_readDeed_103 sh95 s.2.1 ?_
  refine G.aload_n (o := 87) dX11_readDeed_104 rfl ?_
  refine G.getR (o' := 95) dX11_readDeed_105 fX11_33 sh87 rfl ?_
  refine G.iload_n (z := i1) dX11_readDeed_108 rfl ?_
  refine G.iconst dX11_readDeed_109 ?_
  refine G.iadd dX11_readDeed_110 ?_
  refine G.iald dX11_readDeed_111 sh95 s.2.2.1 ?_
  refine G.aload_n (o := 87) dX11_readDeed_112 rfl ?_
  refine G.getR (o' := 95) dX11_readDeed_113 fX11_33 sh87 rfl ?_
  refine G.iload_n (z := i1) dX11_readDeed_116 rfl ?_
  refine G.iconst dX11_readDeed_117 ?_
  refine G.iadd dX11_readDeed_118 ?_
  refine G.iald dX11_readDeed_119 sh95 s.2.2.2 ?_
  exact G.callSI (as := [vi (σ 95 i1), vi i2, vi (σ 87 14), vi (σ 95 (i1 + 1)), vi (σ 95 (i1 + 2)), vi (σ 95 (i1 + 3))]) (rest := [vr 87]) dX11_readDeed_120 rfl vX11_86 (by decide) (Nat.le_of_ble_eq_true rfl) hM (fun z σ' hz q => G.pick [0, 1, 2] (k z σ' hz q))
theorem bX11_readDeed_123 {X : CT} {σ : St} {i1 i2 t1 : Int}  (s : (-2147483648 ≤ t1 ∧ t1 < 2147483648))
    (kt : t1 = 0 → G mdX11_readDeed X 130 [(0, vr 87), (1, vi i1), (2, vi i2)] [vr 87] σ)
    (kf : ¬ t1 = 0 → G mdX11_readDeed X 126 [(0, vr 87), (1, vi i1), (2, vi i2)] [vr 87] σ) :
    G mdX11_readDeed X 123 [(0, vr 87), (1, vi i1), (2, vi i2)] [vi t1, vr 87] σ := by
  exact G.if_eq (tgt := 130) dX11_readDeed_123 (by decide) s (fun q => G.pick [0, 1, 2] (kt q)) (fun q => G.pick [0, 1, 2] (kf q))
theorem bX11_readDeed_126 {X : CT} {σ : St} {i1 i2 : Int} 
    (k : G mdX11_readDeed X 131 [(0, vr 87), (1, vi i1), (2, vi i2)] [vi 1, vr 87] σ) :
    G mdX11_readDeed X 126 [(0, vr 87), (1, vi i1), (2, vi i2)] [vr 87] σ := by
  refine G.iconst dX11_readDeed_126 ?_
  refine G.goto (tgt := 131) dX11_readDeed_127 (by decide) ?_
  exact G.pick [0, 1, 2] k
theorem bX11_readDeed_130 {X : CT} {σ : St} {i1 i2 : Int} 
    (k : G mdX11_readDeed X 131 [(0, vr 87), (1, vi i1), (2, vi i2)] [vi 0, vr 87] σ) :
    G mdX11_readDeed X 130 [(0, vr 87), (1, vi i1), (2, vi i2)] [vr 87] σ := by
  refine G.iconst dX11_readDeed_130 ?_
  exact G.pick [0, 1, 2] k
theorem bX11_readDeed_131 {X : CT} {σ : St} {i1 i2 t1 : Int}  {P : St → Prop} (hM : CV mdX11_must [vr 87, vi t1] σ P)
    (k : ∀ σ', P σ' → G mdX11_readDeed X 134 [(0, vr 87), (1, vi i1), (2, vi i2)] [] (σ')) :
    G mdX11_readDeed X 131 [(0, vr 87), (1, vi i1), (2, vi i2)] [vi t1, vr 87] σ := by
  exact G.callVV (as := [vi t1]) (rest := []) dX11_readDeed_131 rfl vX11_115 (by decide) sh87 rfl (by decide) (Nat.le_of_ble_eq_true rfl) hM (fun σ' q => G.pick [0, 1, 2] (k σ' q))
theorem bX11_readDeed_134 {X : CT} {σ : St} {i1 i2 : Int} 
    (k : G mdX11_readDeed X 50 [(0, vr 87), (1, vi i1), (2, vi (i2 + 1))] [] σ) :
    G mdX11_readDeed X 134 [(0, vr 87), (1, vi i1), (2, vi i2)] [] σ := by
  refine G.iinc (z := i2) dX11_readDeed_134 rfl (by decide) rfl ?_
  refine G.goto (tgt := 50) dX11_readDeed_137 (by decide) ?_
  exact G.pick [0, 1, 2] k
theorem bX11_readDeed_140 {X : CT} {σ : St}  (s : (-2147483648 ≤ σ 87 13 ∧ σ 87 13 < 2147483648))
    (kt : ¬ σ 87 13 = 59 → G mdX11_readDeed X 154 [(0, vr 87)] [vr 87] σ)
    (kf : σ 87 13 = 59 → G mdX11_readDeed X 150 [(0, vr 87)] [vr 87] σ) :
    G mdX11_readDeed X 140 [(0, vr 87)] [] σ := by
  refine G.aload_n (o := 87) dX11_readDeed_140 rfl ?_
  refine G.aload_n (o := 87) dX11_readDeed_141 rfl ?_
  refine G.getI (j := 13) dX11_readDeed_142 fX11_106 sh87 rfl rfl rfl ?_
  refine G.bipush dX11_readDeed_145 (by decide) ?_
  exact G.icmp_ne (tgt := 154) dX11_readDeed_147 (by decide) s ⟨by decide, by decide⟩ (fun q => G.pick [0] (kt q)) (fun q => G.pick [0] (kf q))
theorem bX11_readDeed_150 {X : CT} {σ : St} 
    (k : G mdX11_readDeed X 155 [(0, vr 87)] [vi 1, vr 87] σ) :
    G mdX11_readDeed X 150 [(0, vr 87)] [vr 87] σ := by
  refine G.iconst dX11_readDeed_150 ?_
  refine G.goto (tgt := 155) dX11_readDeed_151 (by decide) ?_
  exact G.pick [0] k
theorem bX11_readDeed_154 {X : CT} {σ : St} 
    (k : G mdX11_readDeed X 155 [(0, vr 87)] [vi 0, vr 87] σ) :
    G mdX11_readDeed X 154 [(0, vr 87)] [vr 87] σ := by
  refine G.iconst dX11_readDeed_154 ?_
  exact G.pick [0] k
theorem bX11_readDeed_155 {X : CT} {σ : St} {t1 : Int}  {P : St → Prop} (hM : CV mdX11_must [vr 87, vi t1] σ P)
    (k : ∀ σ', P σ' → G mdX11_readDeed X 158 [(0, vr 87)] [] (σ')) :
    G mdX11_readDeed X 155 [(0, vr 87)] [vi t1, vr 87] σ := by
  exact G.callVV (as := [vi t1]) (rest := []) dX11_readDeed_155 rfl vX11_115 (by decide) sh87 rfl (by decide) (Nat.le_of_ble_eq_true rfl) hM (fun σ' q => G.pick [0] (k σ' q))
theorem bX11_readDeed_158 {X : CT} {σ : St}  {P : St → Prop} (hX : RV X P)
    (k : P (wr σ 95 33 ((σ 95 33) + 1))) :
    G mdX11_readDeed X 158 [(0, vr 87)] [] σ := by
  refine G.aload_n (o := 87) dX11_readDeed_158 rfl ?_
  refine G.getR (o' := 95) dX11_readDeed_159 fX11_33 sh87 rfl ?_
  refine G.bipush dX11_readDeed_162 (by decide) ?_
  refine G.dup2 dX11_readDeed_164 ?_
  refine G.iald dX11_readDeed_165 sh95 ⟨by decide, by decide⟩ ?_
  refine G.iconst dX11_readDeed_166 ?_
  refine G.iadd dX11_readDeed_167 ?_
  refine G.iast dX11_readDeed_168 sh95 ⟨by decide, by decide⟩ ?_
  exact G.vret hX dX11_readDeed_169 rfl k
theorem bX11_readItem_0 {X : CT} {σ : St}  (s : (-2147483648 ≤ σ 87 13 ∧ σ 87 13 < 2147483648))
    (kt : σ 87 13 = 120 → G mdX11_readItem X 48 [(0, vr 87), (1, vi (σ 87 13))] [] σ)
    (kf : ¬ σ 87 13 = 120 → G mdX11_readItem X 11 [(0, vr 87), (1, vi (σ 87 13))] [] σ) :
    G mdX11_readItem X 0 [(0, vr 87)] [] σ := by
  refine G.aload_n (o := 87) dX11_readItem_0 rfl ?_
  refine G.getI (j := 13) dX11_readItem_1 fX11_106 sh87 rfl rfl rfl ?_
  refine G.istore_n dX11_readItem_4 (by decide) rfl ?_
  refine G.iload_n (z := σ 87 13) dX11_readItem_5 rfl ?_
  refine G.bipush dX11_readItem_6 (by decide) ?_
  exact G.icmp_eq (tgt := 48) dX11_readItem_8 (by decide) s ⟨by decide, by decide⟩ (fun q => G.pick [0, 1] (kt q)) (fun q => G.pick [0, 1] (kf q))
theorem bX11_readItem_11 {X : CT} {σ : St} {i1 : Int}  (s : (-2147483648 ≤ i1 ∧ i1 < 2147483648))
    (kt : i1 = 121 → G mdX11_readItem X 48 [(0, vr 87), (1, vi i1)] [] σ)
    (kf : ¬ i1 = 121 → G mdX11_readItem X 17 [(0, vr 87), (1, vi i1)] [] σ) :
    G mdX11_readItem X 11 [(0, vr 87), (1, vi i1)] [] σ := by
  refine G.iload_n (z := i1) dX11_readItem_11 rfl ?_
  refine G.bipush dX11_readItem_12 (by decide) ?_
  exact G.icmp_eq (tgt := 48) dX11_readItem_14 (by decide) s ⟨by decide, by decide⟩ (fun q => G.pick [0, 1] (kt q)) (fun q => G.pick [0, 1] (kf q))
theorem bX11_readItem_17 {X : CT} {σ : St} {i1 : Int}  (s : (-2147483648 ≤ i1 ∧ i1 < 2147483648))
    (kt : ¬ i1 = 109 → G mdX11_readItem X 30 [(0, vr 87), (1, vi i1)] [] σ)
    (kf : i1 = 109 → G mdX11_readItem X 23 [(0, vr 87), (1, vi i1)] [] σ) :
    G mdX11_readItem X 17 [(0, vr 87), (1, vi i1)] [] σ := by
  refine G.iload_n (z := i1) dX11_readItem_17 rfl ?_
  refine G.bipush dX11_readItem_18 (by decide) ?_
  exact G.icmp_ne (tgt := 30) dX11_readItem_20 (by decide) s ⟨by decide, by decide⟩ (fun q => G.pick [0, 1] (kt q)) (fun q => G.pick [0, 1] (kf q))
theorem bX11_readItem_23 {X : CT} {σ : St} {i1 : Int}  (s : (-2147483648 ≤ σ 87 16 ∧ σ 87 16 < 2147483648))
    (kt : σ 87 16 = 0 → G mdX11_readItem X 48 [(0, vr 87), (1, vi i1)] [] σ)
    (kf : ¬ σ 87 16 = 0 → G mdX11_readItem X 30 [(0, vr 87), (1, vi i1)] [] σ) :
    G mdX11_readItem X 23 [(0, vr 87), (1, vi i1)] [] σ := by
  refine G.aload_n (o := 87) dX11_readItem_23 rfl ?_
  refine G.getI (j := 16) dX11_readItem_24 fX11_119 sh87 rfl rfl rfl ?_
  exact G.if_eq (tgt := 48) dX11_readItem_27 (by decide) s (fun q => G.pick [0, 1] (kt q)) (fun q => G.pick [0, 1] (kf q))
theorem bX11_readItem_30 {X : CT} {σ : St} {i1 : Int}  (s : (-2147483648 ≤ i1 ∧ i1 < 2147483648))
    (kt : ¬ i1 = 100 → G mdX11_readItem X 52 [(0, vr 87), (1, vi i1)] [] σ)
    (kf : i1 = 100 → G mdX11_readItem X 36 [(0, vr 87), (1, vi i1)] [] σ) :
    G mdX11_readItem X 30 [(0, vr 87), (1, vi i1)] [] σ := by
  refine G.iload_n (z := i1) dX11_readItem_30 rfl ?_
  refine G.bipush dX11_readItem_31 (by decide) ?_
  exact G.icmp_ne (tgt := 52) dX11_readItem_33 (by decide) s ⟨by decide, by decide⟩ (fun q => G.pick [0, 1] (kt q)) (fun q => G.pick [0, 1] (kf q))
theorem bX11_readItem_36 {X : CT} {σ : St} {i1 : Int}  (s : (-2147483648 ≤ σ 95 33 ∧ σ 95 33 < 2147483648))
    (kt : 6 ≤ σ 95 33 → G mdX11_readItem X 52 [(0, vr 87), (1, vi i1)] [] σ)
    (kf : σ 95 33 < 6 → G mdX11_readItem X 48 [(0, vr 87), (1, vi i1)] [] σ) :
    G mdX11_readItem X 36 [(0, vr 87), (1, vi i1)] [] σ := by
  refine G.aload_n (o := 87) dX11_readItem_36 rfl ?_
  refine G.getR (o' := 95) dX11_readItem_37 fX11_33 sh87 rfl ?_
  refine G.bipush dX11_readItem_40 (by decide) ?_
  refine G.iald dX11_readItem_42 sh95 ⟨by decide, by decide⟩ ?_
  refine G.bipush dX11_readItem_43 (by decide) ?_
  exact G.icmp_ge (tgt := 52) dX11_readItem_45 (by decide) s ⟨by decide, by decide⟩ (fun q => G.pick [0, 1] (kt q)) (fun q => G.pick [0, 1] (kf q))
theorem bX11_readItem_48 {X : CT} {σ : St} {i1 : Int} 
    (k : G mdX11_readItem X 53 [(0, vr 87), (1, vi i1)] [vi 1] σ) :
    G mdX11_readItem X 48 [(0, vr 87), (1, vi i1)] [] σ := by
  refine G.iconst dX11_readItem_48 ?_
  refine G.goto (tgt := 53) dX11_readItem_49 (by decide) ?_
  exact G.pick [0, 1] k
theorem bX11_readItem_52 {X : CT} {σ : St} {i1 : Int} 
    (k : G mdX11_readItem X 53 [(0, vr 87), (1, vi i1)] [vi 0] σ) :
    G mdX11_readItem X 52 [(0, vr 87), (1, vi i1)] [] σ := by
  refine G.iconst dX11_readItem_52 ?_
  exact G.pick [0, 1] k
theorem bX11_readItem_53 {X : CT} {σ : St} {i1 t0 : Int}  {P : St → Prop} (hM : CV mdX11_must [vr 87, vi t0] σ P)
    (k : ∀ σ', P σ' → G mdX11_readItem X 59 [(0, vr 87), (1, vi i1), (2, vi t0)] [] (σ')) :
    G mdX11_readItem X 53 [(0, vr 87), (1, vi i1)] [vi t0] σ := by
  refine G.istore_n dX11_readItem_53 (by decide) rfl ?_
  refine G.aload_n (o := 87) dX11_readItem_54 rfl ?_
  refine G.iload_n (z := t0) dX11_readItem_55 rfl ?_
  exact G.callVV (as := [vi t0]) (rest := []) dX11_readItem_56 rfl vX11_115 (by decide) sh87 rfl (by decide) (Nat.le_of_ble_eq_true rfl) hM (fun σ' q => G.pick [0, 1, 2] (k σ' q))
theorem bX11_readItem_59 {X : CT} {σ : St} {i1 i2 : Int}  (s : (-2147483648 ≤ i2 ∧ i2 < 2147483648))
    (kt : ¬ i2 = 0 → G mdX11_readItem X 64 [(0, vr 87), (1, vi i1)] [] σ)
    (kf : i2 = 0 → G mdX11_readItem X 63 [] [] σ) :
    G mdX11_readItem X 59 [(0, vr 87), (1, vi i1), (2, vi i2)] [] σ := by
  refine G.iload_n (z := i2) dX11_readItem_59 rfl ?_
  exact G.if_ne (tgt := 64) dX11_readItem_60 (by decide) s (fun q => G.pick [0, 1] (kt q)) (fun q => G.pick [] (kf q))
theorem bX11_readItem_63 {X : CT} {σ : St}  {P : St → Prop} (hX : RV X P)
    (k : P σ) :
    G mdX11_readItem X 63 [] [] σ := by
  exact G.vret hX dX11_readItem_63 rfl k
theorem bX11_readItem_64 {X : CT} {σ : St} {i1 : Int}  (s : (-2147483648 ≤ i1 ∧ i1 < 2147483648))
    (kt : ¬ i1 = 109 → G mdX11_readItem X 77 [(0, vr 87), (1, vi i1)] [] σ)
    (kf : i1 = 109 → G mdX11_readItem X 70 [(0, vr 87)] [] σ) :
    G mdX11_readItem X 64 [(0, vr 87), (1, vi i1)] [] σ := by
  refine G.iload_n (z := i1) dX11_readItem_64 rfl ?_
  refine G.bipush dX11_readItem_65 (by decide) ?_
  exact G.icmp_ne (tgt := 77) dX11_readItem_67 (by decide) s ⟨by decide, by decide⟩ (fun q => G.pick [0, 1] (kt q)) (fun q => G.pick [0] (kf q))
theorem bX11_readItem_70 {X : CT} {σ : St}  {P : St → Prop} (hM : CV mdX11_readMarks [vr 87] σ P)
    (k : ∀ σ', P σ' → G mdX11_readItem X 74 [] [] (σ')) :
    G mdX11_readItem X 70 [(0, vr 87)] [] σ := by
  refine G.aload_n (o := 87) dX11_readItem_70 rfl ?_
  exact G.callVV (as := []) (rest := []) dX11_readItem_71 rfl vX11_127 (by decide) sh87 rfl (by decide) (Nat.le_of_ble_eq_true rfl) hM (fun σ' q => G.pick [] (k σ' q))
theorem bX11_readItem_74 {X : CT} {σ : St} 
    (k : G mdX11_readItem X 98 [] [] σ) :
    G mdX11_readItem X 74 [] [] σ := by
  refine G.goto (tgt := 98) dX11_readItem_74 (by decide) ?_
  exact G.pick [] k
theorem bX11_readItem_77 {X : CT} {σ : St} {i1 : Int}  (s : (-2147483648 ≤ i1 ∧ i1 < 2147483648))
    (kt : ¬ i1 = 100 → G mdX11_readItem X 90 [(0, vr 87), (1, vi i1)] [] σ)
    (kf : i1 = 100 → G mdX11_readItem X 83 [(0, vr 87)] [] σ) :
    G mdX11_readItem X 77 [(0, vr 87), (1, vi i1)] [] σ := by
  refine G.iload_n (z := i1) dX11_readItem_77 rfl ?_
  refine G.bipush dX11_readItem_78 (by decide) ?_
  exact G.icmp_ne (tgt := 90) dX11_readItem_80 (by decide) s ⟨by decide, by decide⟩ (fun q => G.pick [0, 1] (kt q)) (fun q => G.pick [0] (kf q))
theorem bX11_readItem_83 {X : CT} {σ : St}  {P : St → Prop} (hM : CV mdX11_readDeed [vr 87] σ P)
    (k : ∀ σ', P σ' → G mdX11_readItem X 87 [] [] (σ')) :
    G mdX11_readItem X 83 [(0, vr 87)] [] σ := by
  refine G.aload_n (o := 87) dX11_readItem_83 rfl ?_
  exact G.callVV (as := []) (rest := []) dX11_readItem_84 rfl vX11_130 (by decide) sh87 rfl (by decide) (Nat.le_of_ble_eq_true rfl) hM (fun σ' q => G.pick [] (k σ' q))
theorem bX11_readItem_87 {X : CT} {σ : St} 
    (k : G mdX11_readItem X 98 [] [] σ) :
    G mdX11_readItem X 87 [] [] σ := by
  refine G.goto (tgt := 98) dX11_readItem_87 (by decide) ?_
  exact G.pick [] k
theorem bX11_readItem_90 {X : CT} {σ : St} {i1 : Int}  {P : St → Prop} (hM : CV mdX11_readRow [vr 87, vi (i1 - 120)] σ P)
    (k : ∀ σ', P σ' → G mdX11_readItem X 98 [] [] (σ')) :
    G mdX11_readItem X 90 [(0, vr 87), (1, vi i1)] [] σ := by
  refine G.aload_n (o := 87) dX11_readItem_90 rfl ?_
  refine G.iload_n (z := i1) dX11_readItem_91 rfl ?_
  refine G.bipush dX11_readItem_92 (by decide) ?_
  refine G.isub dX11_readItem_94 ?_
  exact G.callVV (as := [vi (i1 - 120)]) (rest := []) dX11_readItem_95 rfl vX11_133 (by decide) sh87 rfl (by decide) (Nat.le_of_ble_eq_true rfl) hM (fun σ' q => G.pick [] (k σ' q))
theorem bX11_readItem_98 {X : CT} {σ : St}  {P : St → Prop} (hX : RV X P)
    (k : P σ) :
    G mdX11_readItem X 98 [] [] σ := by
  exact G.vret hX dX11_readItem_98 rfl k
theorem bX11_block_0 {X : CT} {σ : St} 
    (k : G mdX11_block X 2 [(0, vr 87), (1, vi 0)] [] σ) :
    G mdX11_block X 0 [(0, vr 87)] [] σ := by
  refine G.iconst dX11_block_0 ?_
  refine G.istore_n dX11_block_1 (by decide) rfl ?_
  exact G.pick [0, 1] k
theorem bX11_block_2 {X : CT} {σ : St} {i1 : Int}  (s : (-2147483648 ≤ i1 ∧ i1 < 2147483648))
    (kt : 86 ≤ i1 → G mdX11_block X 36 [(0, vr 87)] [] σ)
    (kf : i1 < 86 → G mdX11_block X 8 [(0, vr 87), (1, vi i1)] [] σ) :
    G mdX11_block X 2 [(0, vr 87), (1, vi i1)] [] σ := by
  refine G.iload_n (z := i1) dX11_block_2 rfl ?_
  refine G.bipush dX11_block_3 (by decide) ?_
  exact G.icmp_ge (tgt := 36) dX11_block_5 (by decide) s ⟨by decide, by decide⟩ (fun q => G.pick [0] (kt q)) (fun q => G.pick [0, 1] (kf q))
theorem bX11_block_8 {X : CT} {σ : St} {i1 : Int}  (s : (-2147483648 ≤ i1 ∧ i1 < 2147483648))
    (kt : 32 ≤ i1 → G mdX11_block X 23 [(0, vr 87), (1, vi i1)] [vi i1, vr 95] σ)
    (kf : i1 < 32 → G mdX11_block X 19 [(0, vr 87), (1, vi i1)] [vi i1, vr 95] σ) :
    G mdX11_block X 8 [(0, vr 87), (1, vi i1)] [] σ := by
  refine G.aload_n (o := 87) dX11_block_8 rfl ?_
  refine G.getR (o' := 95) dX11_block_9 fX11_33 sh87 rfl ?_
  refine G.iload_n (z := i1) dX11_block_12 rfl ?_
  refine G.iload_n (z := i1) dX11_block_13 rfl ?_
  refine G.bipush dX11_block_14 (by decide) ?_
  exact G.icmp_ge (tgt := 23) dX11_block_16 (by decide) s ⟨by decide, by decide⟩ (fun q => G.pick [0, 1] (kt q)) (fun q => G.pick [0, 1] (kf q))
theorem bX11_block_19 {X : CT} {σ : St} {i1 t1 : Int} 
    (k : G mdX11_block X 29 [(0, vr 87), (1, vi i1)] [vi 0, vi t1, vr 95] σ) :
    G mdX11_block X 19 [(0, vr 87), (1, vi i1)] [vi t1, vr 95] σ := by
  refine G.iconst dX11_block_19 ?_
  refine G.goto (tgt := 29) dX11_block_20 (by decide) ?_
  exact G.pick [0, 1] k
theorem bX11_block_23 {X : CT} {σ : St} {i1 t1 : Int}  (s : (0 ≤ i1 ∧ i1 < 86))
    (k : G mdX11_block X 29 [(0, vr 87), (1, vi i1)] [vi (σ 88 i1), vi t1, vr 95] σ) :
    G mdX11_block X 23 [(0, vr 87), (1, vi i1)] [vi t1, vr 95] σ := by
  refine G.aload_n (o := 87) dX11_block_23 rfl ?_
  refine G.getR (o' := 88) dX11_block_24 fX11_7 sh87 rfl ?_
  refine G.iload_n (z := i1) dX11_block_27 rfl ?_
  refine G.iald dX11_block_28 sh88 s ?_
  exact G.pick [0, 1] k
theorem bX11_block_29 {X : CT} {σ : St} {i1 t1 t2 : Int}  (s : (0 ≤ t1 ∧ t1 < 86))
    (k : G mdX11_block X 2 [(0, vr 87), (1, vi (i1 + 1))] [] (wr σ 95 t1 t2)) :
    G mdX11_block X 29 [(0, vr 87), (1, vi i1)] [vi t2, vi t1, vr 95] σ := by
  refine G.iast dX11_block_29 sh95 s ?_
  refine G.iinc (z := i1) dX11_block_30 rfl (by decide) rfl ?_
  refine G.goto (tgt := 2) dX11_block_33 (by decide) ?_
  exact G.pick [0, 1] k
theorem bX11_block_36 {X : CT} {σ : St}  {P : St → Prop} (hM : CV mdX11_next [vr 87] (wr (wr (wr (wr (wr σ 95 32 4369) 95 33 0) 87 16 0) 87 11 0) 87 15 (-9)) P)
    (k : ∀ σ', P σ' → G mdX11_block X 76 [(0, vr 87), (1, vi 0)] [] (σ')) :
    G mdX11_block X 36 [(0, vr 87)] [] σ := by
  refine G.aload_n (o := 87) dX11_block_36 rfl ?_
  refine G.getR (o' := 95) dX11_block_37 fX11_33 sh87 rfl ?_
  refine G.bipush dX11_block_40 (by decide) ?_
  refine G.sipush dX11_block_42 (by decide) ?_
  refine G.iast dX11_block_45 sh95 ⟨by decide, by decide⟩ ?_
  refine G.aload_n (o := 87) dX11_block_46 rfl ?_
  refine G.getR (o' := 95) dX11_block_47 fX11_33 sh87 rfl ?_
  refine G.bipush dX11_block_50 (by decide) ?_
  refine G.iconst dX11_block_52 ?_
  refine G.iast dX11_block_53 sh95 ⟨by decide, by decide⟩ ?_
  refine G.aload_n (o := 87) dX11_block_54 rfl ?_
  refine G.iconst dX11_block_55 ?_
  refine G.putZ (j := 16) dX11_block_56 fX11_119 sh87 rfl rfl rfl rfl rfl (Or.inl rfl) ?_
  refine G.aload_n (o := 87) dX11_block_59 rfl ?_
  refine G.iconst dX11_block_60 ?_
  refine G.putI (j := 11) dX11_block_61 fX11_97 sh87 rfl rfl rfl rfl rfl ?_
  refine G.aload_n (o := 87) dX11_block_64 rfl ?_
  refine G.bipush dX11_block_65 (by decide) ?_
  refine G.putI (j := 15) dX11_block_67 fX11_109 sh87 rfl rfl rfl rfl rfl ?_
  refine G.iconst dX11_block_70 ?_
  refine G.istore_n dX11_block_71 (by decide) rfl ?_
  refine G.aload_n (o := 87) dX11_block_72 rfl ?_
  exact G.callVV (as := []) (rest := []) dX11_block_73 rfl vX11_112 (by decide) sh87 rfl (by decide) (Nat.le_of_ble_eq_true rfl) hM (fun σ' q => G.pick [0, 1] (k σ' q))
theorem bX11_block_76 {X : CT} {σ : St} {i1 : Int}  (s : (-2147483648 ≤ σ 87 15 ∧ σ 87 15 < 2147483648))
    (kt : ¬ σ 87 15 = (-9) → G mdX11_block X 102 [(0, vr 87), (1, vi i1)] [] σ)
    (kf : σ 87 15 = (-9) → G mdX11_block X 85 [(0, vr 87), (1, vi i1)] [] σ) :
    G mdX11_block X 76 [(0, vr 87), (1, vi i1)] [] σ := by
  refine G.aload_n (o := 87) dX11_block_76 rfl ?_
  refine G.getI (j := 15) dX11_block_77 fX11_109 sh87 rfl rfl rfl ?_
  refine G.bipush dX11_block_80 (by decide) ?_
  exact G.icmp_ne (tgt := 102) dX11_block_82 (by decide) s ⟨by decide, by decide⟩ (fun q => G.pick [0, 1] (kt q)) (fun q => G.pick [0, 1] (kf q))
theorem bX11_block_85 {X : CT} {σ : St} {i1 : Int}  (s : (-2147483648 ≤ σ 87 13 ∧ σ 87 13 < 2147483648))
    (kt : σ 87 13 = 0 → G mdX11_block X 102 [(0, vr 87), (1, vi i1)] [] σ)
    (kf : ¬ σ 87 13 = 0 → G mdX11_block X 92 [(0, vr 87), (1, vi i1)] [] σ) :
    G mdX11_block X 85 [(0, vr 87), (1, vi i1)] [] σ := by
  refine G.aload_n (o := 87) dX11_block_85 rfl ?_
  refine G.getI (j := 13) dX11_block_86 fX11_106 sh87 rfl rfl rfl ?_
  exact G.if_eq (tgt := 102) dX11_block_89 (by decide) s (fun q => G.pick [0, 1] (kt q)) (fun q => G.pick [0, 1] (kf q))
theorem bX11_block_92 {X : CT} {σ : St} {i1 : Int}  {P : St → Prop} (hM : CV mdX11_readItem [vr 87] σ P)
    (k : ∀ σ', P σ' → G mdX11_block X 96 [(0, vr 87), (1, vi i1)] [] (σ')) :
    G mdX11_block X 92 [(0, vr 87), (1, vi i1)] [] σ := by
  refine G.aload_n (o := 87) dX11_block_92 rfl ?_
  exact G.callVV (as := []) (rest := []) dX11_block_93 rfl vX11_137 (by decide) sh87 rfl (by decide) (Nat.le_of_ble_eq_true rfl) hM (fun σ' q => G.pick [0, 1] (k σ' q))
theorem bX11_block_96 {X : CT} {σ : St} {i1 : Int} 
    (k : G mdX11_block X 76 [(0, vr 87), (1, vi (i1 + 1))] [] σ) :
    G mdX11_block X 96 [(0, vr 87), (1, vi i1)] [] σ := by
  refine G.iinc (z := i1) dX11_block_96 rfl (by decide) rfl ?_
  refine G.goto (tgt := 76) dX11_block_99 (by decide) ?_
  exact G.pick [0, 1] k
theorem bX11_block_102 {X : CT} {σ : St} {i1 : Int}  (s : (-2147483648 ≤ σ 87 15 ∧ σ 87 15 < 2147483648))
    (kt : σ 87 15 = (-9) → G mdX11_block X 119 [(0, vr 87), (1, vi i1)] [] σ)
    (kf : ¬ σ 87 15 = (-9) → G mdX11_block X 111 [(0, vr 87)] [] σ) :
    G mdX11_block X 102 [(0, vr 87), (1, vi i1)] [] σ := by
  refine G.aload_n (o := 87) dX11_block_102 rfl ?_
  refine G.getI (j := 15) dX11_block_103 fX11_109 sh87 rfl rfl rfl ?_
  refine G.bipush dX11_block_106 (by decide) ?_
  exact G.icmp_eq (tgt := 119) dX11_block_108 (by decide) s ⟨by decide, by decide⟩ (fun q => G.pick [0, 1] (kt q)) (fun q => G.pick [0] (kf q))
theorem bX11_block_111 {X : CT} {σ : St}  {P : Int → St → Prop} (hX : RI X P) (s : (-2147483648 ≤ (-10) - (σ 87 15) ∧ (-10) - (σ 87 15) < 2147483648))
    (k : P ((-10) - (σ 87 15)) σ) :
    G mdX11_block X 111 [(0, vr 87)] [] σ := by
  refine G.bipush dX11_block_111 (by decide) ?_
  refine G.aload_n (o := 87) dX11_block_113 rfl ?_
  refine G.getI (j := 15) dX11_block_114 fX11_109 sh87 rfl rfl rfl ?_
  refine G.isub dX11_block_117 ?_
  exact G.iret hX dX11_block_118 rfl s k
theorem bX11_block_119 {X : CT} {σ : St} {i1 : Int}  {P : St → Prop} (hM : CV mdX11_note [vr 87] σ P)
    (k : ∀ σ', P σ' → G mdX11_block X 123 [(0, vr 87), (1, vi i1)] [] (σ')) :
    G mdX11_block X 119 [(0, vr 87), (1, vi i1)] [] σ := by
  refine G.aload_n (o := 87) dX11_block_119 rfl ?_
  exact G.callVV (as := []) (rest := []) dX11_block_120 rfl vX11_140 (by decide) sh87 rfl (by decide) (Nat.le_of_ble_eq_true rfl) hM (fun σ' q => G.pick [0, 1] (k σ' q))
theorem bX11_block_123 {X : CT} {σ : St} {i1 : Int} 
    (k : G mdX11_block X 125 [(0, vr 87), (1, vi i1), (2, vi 0)] [] σ) :
    G mdX11_block X 123 [(0, vr 87), (1, vi i1)] [] σ := by
  refine G.iconst dX11_block_123 ?_
  refine G.istore_n dX11_block_124 (by decide) rfl ?_
  exact G.pick [0, 1, 2] k
theorem bX11_block_125 {X : CT} {σ : St} {i1 i2 : Int}  (s : (-2147483648 ≤ i2 ∧ i2 < 2147483648))
    (kt : 86 ≤ i2 → G mdX11_block X 149 [(0, vr 87), (1, vi i1)] [] σ)
    (kf : i2 < 86 → G mdX11_block X 131 [(0, vr 87), (1, vi i1), (2, vi i2)] [] σ) :
    G mdX11_block X 125 [(0, vr 87), (1, vi i1), (2, vi i2)] [] σ := by
  refine G.iload_n (z := i2) dX11_block_125 rfl ?_
  refine G.bipush dX11_block_126 (by decide) ?_
  exact G.icmp_ge (tgt := 149) dX11_block_128 (by decide) s ⟨by decide, by decide⟩ (fun q => G.pick [0, 1] (kt q)) (fun q => G.pick [0, 1, 2] (kf q))
theorem bX11_block_131 {X : CT} {σ : St} {i1 i2 : Int}  (s : (0 ≤ i2 ∧ i2 < 86))
    (k : G mdX11_block X 125 [(0, vr 87), (1, vi i1), (2, vi (i2 + 1))] [] (wr σ 88 i2 (σ 95 i2))) :
    G mdX11_block X 131 [(0, vr 87), (1, vi i1), (2, vi i2)] [] σ := by
  refine G.aload_n (o := 87) dX11_block_131 rfl ?_
  refine G.getR (o' := 88) dX11_block_132 fX11_7 sh87 rfl ?_
  refine G.iload_n (z := i2) dX11_block_135 rfl ?_
  refine G.aload_n (o := 87) dX11_block_136 rfl ?_
  refine G.getR (o' := 95) dX11_block_137 fX11_33 sh87 rfl ?_
  refine G.iload_n (z := i2) dX11_block_140 rfl ?_
  refine G.iald dX11_block_141 sh95 s ?_
  refine G.iast dX11_block_142 sh88 s ?_
  refine G.iinc (z := i2) dX11_block_143 rfl (by decide) rfl ?_
  refine G.goto (tgt := 125) dX11_block_146 (by decide) ?_
  exact G.pick [0, 1, 2] k
theorem bX11_block_149 {X : CT} {σ : St} {i1 : Int}  {P : Int → St → Prop} (hX : RI X P) (s : (-2147483648 ≤ i1 ∧ i1 < 2147483648))
    (k : P i1 (wr (wr σ 87 9 0) 87 27 0)) :
    G mdX11_block X 149 [(0, vr 87), (1, vi i1)] [] σ := by
  refine G.aload_n (o := 87) dX11_block_149 rfl ?_
  refine G.iconst dX11_block_150 ?_
  refine G.putI (j := 9) dX11_block_151 fX11_94 sh87 rfl rfl rfl rfl rfl ?_
  refine G.aload_n (o := 87) dX11_block_154 rfl ?_
  refine G.iconst dX11_block_155 ?_
  refine G.putI (j := 27) dX11_block_156 fX11_143 sh87 rfl rfl rfl rfl rfl ?_
  refine G.iload_n (z := i1) dX11_block_159 rfl ?_
  exact G.iret hX dX11_block_160 rfl s k
theorem bX11_sends_0 {X : CT} {σ : St} {i1 i2 i3 : Int}  {P : Int → St → Prop} (hM : CI mdX11_in [vi i1, vi 0, vi 1] σ P)
    (k : ∀ z σ', inI z → P z σ' → G mdX11_sends X 6 [(0, vr 87), (1, vi i1), (2, vi i2), (3, vi i3)] [vi z] (σ')) :
    G mdX11_sends X 0 [(0, vr 87), (1, vi i1), (2, vi i2), (3, vi i3)] [] σ := by
  refine G.iload_n (z := i1) dX11_sends_0 rfl ?_
  refine G.iconst dX11_sends_1 ?_
  refine G.iconst dX11_sends_2 ?_
  exact G.callSI (as := [vi i1, vi 0, vi 1]) (rest := []) dX11_sends_3 rfl vX11_82 (by decide) (Nat.le_of_ble_eq_true rfl) hM (fun z σ' hz q => G.pick [0, 1, 2, 3] (k z σ' hz q))
theorem bX11_sends_6 {X : CT} {σ : St} {i1 i2 i3 t0 : Int}  (s : (-2147483648 ≤ t0 ∧ t0 < 2147483648))
    (kt : t0 = 0 → G mdX11_sends X 28 [] [] σ)
    (kf : ¬ t0 = 0 → G mdX11_sends X 9 [(0, vr 87), (1, vi i1), (2, vi i2), (3, vi i3)] [] σ) :
    G mdX11_sends X 6 [(0, vr 87), (1, vi i1), (2, vi i2), (3, vi i3)] [vi t0] σ := by
  exact G.if_eq (tgt := 28) dX11_sends_6 (by decide) s (fun q => G.pick [] (kt q)) (fun q => G.pick [0, 1, 2, 3] (kf q))
theorem bX11_sends_9 {X : CT} {σ : St} {i1 i2 i3 : Int}  {P : Int → St → Prop} (hM : CI mdX11_in [vi i2, vi 0, vi 15] σ P)
    (k : ∀ z σ', inI z → P z σ' → G mdX11_sends X 16 [(0, vr 87), (1, vi i1), (2, vi i2), (3, vi i3)] [vi z] (σ')) :
    G mdX11_sends X 9 [(0, vr 87), (1, vi i1), (2, vi i2), (3, vi i3)] [] σ := by
  refine G.iload_n (z := i2) dX11_sends_9 rfl ?_
  refine G.iconst dX11_sends_10 ?_
  refine G.bipush dX11_sends_11 (by decide) ?_
  exact G.callSI (as := [vi i2, vi 0, vi 15]) (rest := []) dX11_sends_13 rfl vX11_82 (by decide) (Nat.le_of_ble_eq_true rfl) hM (fun z σ' hz q => G.pick [0, 1, 2, 3] (k z σ' hz q))
theorem bX11_sends_16 {X : CT} {σ : St} {i1 i2 i3 t0 : Int}  (s : (-2147483648 ≤ t0 ∧ t0 < 2147483648))
    (kt : t0 = 0 → G mdX11_sends X 28 [] [] σ)
    (kf : ¬ t0 = 0 → G mdX11_sends X 19 [(0, vr 87), (1, vi i1), (2, vi i2), (3, vi i3)] [] σ) :
    G mdX11_sends X 16 [(0, vr 87), (1, vi i1), (2, vi i2), (3, vi i3)] [vi t0] σ := by
  exact G.if_eq (tgt := 28) dX11_sends_16 (by decide) s (fun q => G.pick [] (kt q)) (fun q => G.pick [0, 1, 2, 3] (kf q))
theorem bX11_sends_19 {X : CT} {σ : St} {i1 i2 i3 : Int}  {P : Int → St → Prop} (hM : CI mdX11_in [vi i3, vi 0, vi 3] σ P)
    (k : ∀ z σ', inI z → P z σ' → G mdX11_sends X 25 [(0, vr 87), (1, vi i1), (2, vi i2), (3, vi i3)] [vi z] (σ')) :
    G mdX11_sends X 19 [(0, vr 87), (1, vi i1), (2, vi i2), (3, vi i3)] [] σ := by
  refine G.iload_n (z := i3) dX11_sends_19 rfl ?_
  refine G.iconst dX11_sends_20 ?_
  refine G.iconst dX11_sends_21 ?_
  exact G.callSI (as := [vi i3, vi 0, vi 3]) (rest := []) dX11_sends_22 rfl vX11_82 (by decide) (Nat.le_of_ble_eq_true rfl) hM (fun z σ' hz q => G.pick [0, 1, 2, 3] (k z σ' hz q))
theorem bX11_sends_25 {X : CT} {σ : St} {i1 i2 i3 t0 : Int}  (s : (-2147483648 ≤ t0 ∧ t0 < 2147483648))
    (kt : ¬ t0 = 0 → G mdX11_sends X 30 [(0, vr 87), (1, vi i1), (2, vi i2), (3, vi i3)] [] σ)
    (kf : t0 = 0 → G mdX11_sends X 28 [] [] σ) :
    G mdX11_sends X 25 [(0, vr 87), (1, vi i1), (2, vi i2), (3, vi i3)] [vi t0] σ := by
  exact G.if_ne (tgt := 30) dX11_sends_25 (by decide) s (fun q => G.pick [0, 1, 2, 3] (kt q)) (fun q => G.pick [] (kf q))
theorem bX11_sends_28 {X : CT} {σ : St}  {P : Int → St → Prop} (hX : RI X P)
    (k : P (-1) σ) :
    G mdX11_sends X 28 [] [] σ := by
  refine G.iconst dX11_sends_28 ?_
  exact G.iret hX dX11_sends_29 rfl ⟨by decide, by decide⟩ k
theorem bX11_sends_30 {X : CT} {σ : St} {i1 i2 i3 : Int}  (s : (0 ≤ (16 * i1) + i2 ∧ (16 * i1) + i2 < 86) ∧ (-2147483648 ≤ σ 88 ((16 * i1) + i2) ∧ σ 88 ((16 * i1) + i2) < 2147483648) ∧ (-2147483648 ≤ i3 ∧ i3 < 2147483648))
    (kt : ¬ σ 88 ((16 * i1) + i2) = i3 → G mdX11_sends X 52 [(0, vr 87), (1, vi i1), (2, vi i2), (3, vi i3), (4, vi (σ 88 ((16 * i1) + i2)))] [] σ)
    (kf : σ 88 ((16 * i1) + i2) = i3 → G mdX11_sends X 49 [] [] σ) :
    G mdX11_sends X 30 [(0, vr 87), (1, vi i1), (2, vi i2), (3, vi i3)] [] σ := by
  refine G.aload_n (o := 87) dX11_sends_30 rfl ?_
  refine G.getR (o' := 88) dX11_sends_31 fX11_7 sh87 rfl ?_
  refine G.bipush dX11_sends_34 (by decide) ?_
  refine G.iload_n (z := i1) dX11_sends_36 rfl ?_
  refine G.imul dX11_sends_37 ?_
  refine G.iload_n (z := i2) dX11_sends_38 rfl ?_
  refine G.iadd dX11_sends_39 ?_
  refine G.iald dX11_sends_40 sh88 s.1 ?_
  refine G.istore dX11_sends_41 (by decide) rfl ?_
  refine G.iload (z := σ 88 ((16 * i1) + i2)) dX11_sends_43 rfl ?_
  refine G.iload_n (z := i3) dX11_sends_45 rfl ?_
  exact G.icmp_ne (tgt := 52) dX11_sends_46 (by decide) s.2.1 s.2.2 (fun q => G.pick [0, 1, 2, 3, 4] (kt q)) (fun q => G.pick [] (kf q))
theorem bX11_sends_49 {X : CT} {σ : St}  {P : Int → St → Prop} (hX : RI X P)
    (k : P (-2) σ) :
    G mdX11_sends X 49 [] [] σ := by
  refine G.bipush dX11_sends_49 (by decide) ?_
  exact G.iret hX dX11_sends_51 rfl ⟨by decide, by decide⟩ k
theorem bX11_sends_52 {X : CT} {σ : St} {i1 i2 i3 i4 : Int}  {P : St → Prop} (hM : CV mdX11_note [vr 87] σ P)
    (k : ∀ σ', P σ' → G mdX11_sends X 56 [(0, vr 87), (1, vi i1), (2, vi i2), (3, vi i3), (4, vi i4)] [] (σ')) :
    G mdX11_sends X 52 [(0, vr 87), (1, vi i1), (2, vi i2), (3, vi i3), (4, vi i4)] [] σ := by
  refine G.aload_n (o := 87) dX11_sends_52 rfl ?_
  exact G.callVV (as := []) (rest := []) dX11_sends_53 rfl vX11_140 (by decide) sh87 rfl (by decide) (Nat.le_of_ble_eq_true rfl) hM (fun σ' q => G.pick [0, 1, 2, 3, 4] (k σ' q))
theorem bX11_sends_56 {X : CT} {σ : St} {i1 i2 i3 i4 : Int}  {P : Int → St → Prop} (hX : RI X P) (s : (0 ≤ (16 * i1) + i2 ∧ (16 * i1) + i2 < 86) ∧ (-2147483648 ≤ i4 ∧ i4 < 2147483648))
    (k : P i4 (wr σ 88 ((16 * i1) + i2) i3)) :
    G mdX11_sends X 56 [(0, vr 87), (1, vi i1), (2, vi i2), (3, vi i3), (4, vi i4)] [] σ := by
  refine G.aload_n (o := 87) dX11_sends_56 rfl ?_
  refine G.getR (o' := 88) dX11_sends_57 fX11_7 sh87 rfl ?_
  refine G.bipush dX11_sends_60 (by decide) ?_
  refine G.iload_n (z := i1) dX11_sends_62 rfl ?_
  refine G.imul dX11_sends_63 ?_
  refine G.iload_n (z := i2) dX11_sends_64 rfl ?_
  refine G.iadd dX11_sends_65 ?_
  refine G.iload_n (z := i3) dX11_sends_66 rfl ?_
  refine G.iast dX11_sends_67 sh88 s.1 ?_
  refine G.iload (z := i4) dX11_sends_68 rfl ?_
  exact G.iret hX dX11_sends_70 rfl s.2 k
theorem bX11_marksMany_0 {X : CT} {σ : St} 
    (k : G mdX11_marksMany X 4 [(0, vr 87), (1, vi 0), (2, vi 0)] [] σ) :
    G mdX11_marksMany X 0 [(0, vr 87)] [] σ := by
  refine G.iconst dX11_marksMany_0 ?_
  refine G.istore_n dX11_marksMany_1 (by decide) rfl ?_
  refine G.iconst dX11_marksMany_2 ?_
  refine G.istore_n dX11_marksMany_3 (by decide) rfl ?_
  exact G.pick [0, 1, 2] k
theorem bX11_marksMany_4 {X : CT} {σ : St} {i1 i2 : Int}  (s : (-2147483648 ≤ i2 ∧ i2 < 2147483648))
    (kt : 16 ≤ i2 → G mdX11_marksMany X 30 [(1, vi i1)] [] σ)
    (kf : i2 < 16 → G mdX11_marksMany X 10 [(0, vr 87), (1, vi i1), (2, vi i2)] [] σ) :
    G mdX11_marksMany X 4 [(0, vr 87), (1, vi i1), (2, vi i2)] [] σ := by
  refine G.iload_n (z := i2) dX11_marksMany_4 rfl ?_
  refine G.bipush dX11_marksMany_5 (by decide) ?_
  exact G.icmp_ge (tgt := 30) dX11_marksMany_7 (by decide) s ⟨by decide, by decide⟩ (fun q => G.pick [1] (kt q)) (fun q => G.pick [0, 1, 2] (kf q))
theorem bX11_marksMany_10 {X : CT} {σ : St} {i1 i2 : Int}  (s : (0 ≤ σ 88 32 ∧ σ 88 32 < 2147483648) ∧ (0 ≤ i2 ∧ i2 < 32))
    (k : G mdX11_marksMany X 4 [(0, vr 87), (1, vi (i1 + (((σ 88 32) / 2 ^ (i2).toNat) % 2))), (2, vi (i2 + 1))] [] σ) :
    G mdX11_marksMany X 10 [(0, vr 87), (1, vi i1), (2, vi i2)] [] σ := by
  refine G.iload_n (z := i1) dX11_marksMany_10 rfl ?_
  refine G.aload_n (o := 87) dX11_marksMany_11 rfl ?_
  refine G.getR (o' := 88) dX11_marksMany_12 fX11_7 sh87 rfl ?_
  refine G.bipush dX11_marksMany_15 (by decide) ?_
  refine G.iald dX11_marksMany_17 sh88 ⟨by decide, by decide⟩ ?_
  refine G.iload_n (z := i2) dX11_marksMany_18 rfl ?_
  refine G.ishr dX11_marksMany_19 s.1 s.2 ?_
  refine G.iconst dX11_marksMany_20 ?_
  refine G.iand1 dX11_marksMany_21 ?_
  refine G.iadd dX11_marksMany_22 ?_
  refine G.istore_n dX11_marksMany_23 (by decide) rfl ?_
  refine G.iinc (z := i2) dX11_marksMany_24 rfl (by decide) rfl ?_
  refine G.goto (tgt := 4) dX11_marksMany_27 (by decide) ?_
  exact G.pick [0, 1, 2] k
theorem bX11_marksMany_30 {X : CT} {σ : St} {i1 : Int}  {P : Int → St → Prop} (hX : RI X P) (s : (-2147483648 ≤ i1 ∧ i1 < 2147483648))
    (k : P i1 σ) :
    G mdX11_marksMany X 30 [(1, vi i1)] [] σ := by
  refine G.iload_n (z := i1) dX11_marksMany_30 rfl ?_
  exact G.iret hX dX11_marksMany_31 rfl s k
theorem bX11_marks_0 {X : CT} {σ : St} {i1 i2 : Int}  {P : Int → St → Prop} (hM : CI mdX11_in [vi i1, vi 0, vi 15] σ P)
    (k : ∀ z σ', inI z → P z σ' → G mdX11_marks X 7 [(0, vr 87), (1, vi i1), (2, vi i2)] [vi z] (σ')) :
    G mdX11_marks X 0 [(0, vr 87), (1, vi i1), (2, vi i2)] [] σ := by
  refine G.iload_n (z := i1) dX11_marks_0 rfl ?_
  refine G.iconst dX11_marks_1 ?_
  refine G.bipush dX11_marks_2 (by decide) ?_
  exact G.callSI (as := [vi i1, vi 0, vi 15]) (rest := []) dX11_marks_4 rfl vX11_82 (by decide) (Nat.le_of_ble_eq_true rfl) hM (fun z σ' hz q => G.pick [0, 1, 2] (k z σ' hz q))
theorem bX11_marks_7 {X : CT} {σ : St} {i1 i2 t0 : Int}  (s : (-2147483648 ≤ t0 ∧ t0 < 2147483648))
    (kt : t0 = 0 → G mdX11_marks X 19 [] [] σ)
    (kf : ¬ t0 = 0 → G mdX11_marks X 10 [(0, vr 87), (1, vi i1), (2, vi i2)] [] σ) :
    G mdX11_marks X 7 [(0, vr 87), (1, vi i1), (2, vi i2)] [vi t0] σ := by
  exact G.if_eq (tgt := 19) dX11_marks_7 (by decide) s (fun q => G.pick [] (kt q)) (fun q => G.pick [0, 1, 2] (kf q))
theorem bX11_marks_10 {X : CT} {σ : St} {i1 i2 : Int}  {P : Int → St → Prop} (hM : CI mdX11_in [vi i2, vi 0, vi 1] σ P)
    (k : ∀ z σ', inI z → P z σ' → G mdX11_marks X 16 [(0, vr 87), (1, vi i1), (2, vi i2)] [vi z] (σ')) :
    G mdX11_marks X 10 [(0, vr 87), (1, vi i1), (2, vi i2)] [] σ := by
  refine G.iload_n (z := i2) dX11_marks_10 rfl ?_
  refine G.iconst dX11_marks_11 ?_
  refine G.iconst dX11_marks_12 ?_
  exact G.callSI (as := [vi i2, vi 0, vi 1]) (rest := []) dX11_marks_13 rfl vX11_82 (by decide) (Nat.le_of_ble_eq_true rfl) hM (fun z σ' hz q => G.pick [0, 1, 2] (k z σ' hz q))
theorem bX11_marks_16 {X : CT} {σ : St} {i1 i2 t0 : Int}  (s : (-2147483648 ≤ t0 ∧ t0 < 2147483648))
    (kt : ¬ t0 = 0 → G mdX11_marks X 21 [(0, vr 87), (1, vi i1), (2, vi i2)] [] σ)
    (kf : t0 = 0 → G mdX11_marks X 19 [] [] σ) :
    G mdX11_marks X 16 [(0, vr 87), (1, vi i1), (2, vi i2)] [vi t0] σ := by
  exact G.if_ne (tgt := 21) dX11_marks_16 (by decide) s (fun q => G.pick [0, 1, 2] (kt q)) (fun q => G.pick [] (kf q))
theorem bX11_marks_19 {X : CT} {σ : St}  {P : Int → St → Prop} (hX : RI X P)
    (k : P (-1) σ) :
    G mdX11_marks X 19 [] [] σ := by
  refine G.iconst dX11_marks_19 ?_
  exact G.iret hX dX11_marks_20 rfl ⟨by decide, by decide⟩ k
theorem bX11_marks_21 {X : CT} {σ : St} {i1 i2 : Int}  (s : (0 ≤ σ 88 32 ∧ σ 88 32 < 2147483648) ∧ (0 ≤ i1 ∧ i1 < 32) ∧ (-2147483648 ≤ ((σ 88 32) / 2 ^ (i1).toNat) % 2 ∧ ((σ 88 32) / 2 ^ (i1).toNat) % 2 < 2147483648) ∧ (-2147483648 ≤ i2 ∧ i2 < 2147483648))
    (kt : ¬ ((σ 88 32) / 2 ^ (i1).toNat) % 2 = i2 → G mdX11_marks X 39 [(0, vr 87), (1, vi i1)] [] σ)
    (kf : ((σ 88 32) / 2 ^ (i1).toNat) % 2 = i2 → G mdX11_marks X 36 [] [] σ) :
    G mdX11_marks X 21 [(0, vr 87), (1, vi i1), (2, vi i2)] [] σ := by
  refine G.aload_n (o := 87) dX11_marks_21 rfl ?_
  refine G.getR (o' := 88) dX11_marks_22 fX11_7 sh87 rfl ?_
  refine G.bipush dX11_marks_25 (by decide) ?_
  refine G.iald dX11_marks_27 sh88 ⟨by decide, by decide⟩ ?_
  refine G.iload_n (z := i1) dX11_marks_28 rfl ?_
  refine G.ishr dX11_marks_29 s.1 s.2.1 ?_
  refine G.iconst dX11_marks_30 ?_
  refine G.iand1 dX11_marks_31 ?_
  refine G.iload_n (z := i2) dX11_marks_32 rfl ?_
  exact G.icmp_ne (tgt := 39) dX11_marks_33 (by decide) s.2.2.1 s.2.2.2 (fun q => G.pick [0, 1] (kt q)) (fun q => G.pick [] (kf q))
theorem bX11_marks_36 {X : CT} {σ : St}  {P : Int → St → Prop} (hX : RI X P)
    (k : P (-2) σ) :
    G mdX11_marks X 36 [] [] σ := by
  refine G.bipush dX11_marks_36 (by decide) ?_
  exact G.iret hX dX11_marks_38 rfl ⟨by decide, by decide⟩ k
theorem bX11_marks_39 {X : CT} {σ : St} {i1 : Int}  {P : St → Prop} (hM : CV mdX11_note [vr 87] σ P)
    (k : ∀ σ', P σ' → G mdX11_marks X 43 [(0, vr 87), (1, vi i1)] [] (σ')) :
    G mdX11_marks X 39 [(0, vr 87), (1, vi i1)] [] σ := by
  refine G.aload_n (o := 87) dX11_marks_39 rfl ?_
  exact G.callVV (as := []) (rest := []) dX11_marks_40 rfl vX11_140 (by decide) sh87 rfl (by decide) (Nat.le_of_ble_eq_true rfl) hM (fun σ' q => G.pick [0, 1] (k σ' q))
theorem bX11_marks_43 {X : CT} {σ : St} {i1 : Int}  {P : Int → St → Prop} (hM : CI mdX11_marksMany [vr 87] (wr σ 88 32 (bXor (σ 88 32) (bShl 1 i1))) P)
    (k : ∀ z σ', inI z → P z σ' → G mdX11_marks X 60 [] [vi z] (σ')) :
    G mdX11_marks X 43 [(0, vr 87), (1, vi i1)] [] σ := by
  refine G.aload_n (o := 87) dX11_marks_43 rfl ?_
  refine G.getR (o' := 88) dX11_marks_44 fX11_7 sh87 rfl ?_
  refine G.bipush dX11_marks_47 (by decide) ?_
  refine G.dup2 dX11_marks_49 ?_
  refine G.iald dX11_marks_50 sh88 ⟨by decide, by decide⟩ ?_
  refine G.iconst dX11_marks_51 ?_
  refine G.iload_n (z := i1) dX11_marks_52 rfl ?_
  refine G.ishl dX11_marks_53 ?_
  refine G.ixor dX11_marks_54 ?_
  refine G.iast dX11_marks_55 sh88 ⟨by decide, by decide⟩ ?_
  refine G.aload_n (o := 87) dX11_marks_56 rfl ?_
  exact G.callVI (as := []) (rest := []) dX11_marks_57 rfl vX11_146 (by decide) sh87 rfl (by decide) (Nat.le_of_ble_eq_true rfl) hM (fun z σ' hz q => G.pick [] (k z σ' hz q))
theorem bX11_marks_60 {X : CT} {σ : St} {t0 : Int}  {P : Int → St → Prop} (hX : RI X P) (s : (-2147483648 ≤ t0 ∧ t0 < 2147483648))
    (k : P t0 σ) :
    G mdX11_marks X 60 [] [vi t0] σ := by
  exact G.iret hX dX11_marks_60 rfl s k
theorem bX11_lay_0 {X : CT} {σ : St} {i1 i2 i3 i4 i5 i6 : Int}  {P : St → Prop} (hX : RV X P) (s : (0 ≤ i1 ∧ i1 < 86) ∧ (0 ≤ i1 + 1 ∧ i1 + 1 < 86) ∧ (0 ≤ i1 + 2 ∧ i1 + 2 < 86) ∧ (0 ≤ i1 + 3 ∧ i1 + 3 < 86) ∧ (0 ≤ i1 + 4 ∧ i1 + 4 < 86))
    (k : P (wr (wr (wr (wr (wr σ 88 i1 i2) 88 (i1 + 1) i3) 88 (i1 + 2) i4) 88 (i1 + 3) i5) 88 (i1 + 4) i6)) :
    G mdX11_lay X 0 [(0, vr 87), (1, vi i1), (2, vi i2), (3, vi i3), (4, vi i4), (5, vi i5), (6, vi i6)] [] σ := by
  refine G.aload_n (o := 87) dX11_lay_0 rfl ?_
  refine G.getR (o' := 88) dX11_lay_1 fX11_7 sh87 rfl ?_
  refine G.iload_n (z := i1) dX11_lay_4 rfl ?_
  refine G.iload_n (z := i2) dX11_lay_5 rfl ?_
  refine G.iast dX11_lay_6 sh88 s.1 ?_
  refine G.aload_n (o := 87) dX11_lay_7 rfl ?_
  refine G.getR (o' := 88) dX11_lay_8 fX11_7 sh87 rfl ?_
  refine G.iload_n (z := i1) dX11_lay_11 rfl ?_
  refine G.iconst dX11_lay_12 ?_
  refine G.iadd dX11_lay_13 ?_
  refine G.iload_n (z := i3) dX11_lay_14 rfl ?_
  refine G.iast dX11_lay_15 sh88 s.2.1 ?_
  refine G.aload_n (o := 87) dX11_lay_16 rfl ?_
  refine G.getR (o' := 88) dX11_lay_17 fX11_7 sh87 rfl ?_
  refine G.iload_n (z := i1) dX11_lay_20 rfl ?_
  refine G.iconst dX11_lay_21 ?_
  refine G.iadd dX11_lay_22 ?_
  refine G.iload (z := i4) dX11_lay_23 rfl ?_
  refine G.iast dX11_lay_25 sh88 s.2.2.1 ?_
  refine G.aload_n (o := 87) dX11_lay_26 rfl ?_
  refine G.getR (o' := 88) dX11_lay_27 fX11_7 sh87 rfl ?_
  refine G.iload_n (z := i1) dX11_lay_30 rfl ?_
  refine G.iconst dX11_lay_31 ?_
  refine G.iadd dX11_lay_32 ?_
  refine G.iload (z := i5) dX11_lay_33 rfl ?_
  refine G.iast dX11_lay_35 sh88 s.2.2.2.1 ?_
  refine G.aload_n (o := 87) dX11_lay_36 rfl ?_
  refine G.getR (o' := 88) dX11_lay_37 fX11_7 sh87 rfl ?_
  refine G.iload_n (z := i1) dX11_lay_40 rfl ?_
  refine G.iconst dX11_lay_41 ?_
  refine G.iadd dX11_lay_42 ?_
  refine G.iload (z := i6) dX11_lay_43 rfl ?_
  refine G.iast dX11_lay_45 sh88 s.2.2.2.2 ?_
  exact G.vret hX dX11_lay_46 rfl k
theorem bX11_adds_0 {X : CT} {σ : St} {i1 i2 i3 i4 i5 : Int}  {P : Int → St → Prop} (hM : CI mdX11_isDeed [vi i1, vi i2, vi i3, vi i4, vi i5] σ P)
    (k : ∀ z σ', inI z → P z σ' → G mdX11_adds X 10 [(0, vr 87), (1, vi i1), (2, vi i2), (3, vi i3), (4, vi i4), (5, vi i5)] [vi z] (σ')) :
    G mdX11_adds X 0 [(0, vr 87), (1, vi i1), (2, vi i2), (3, vi i3), (4, vi i4), (5, vi i5)] [] σ := by
  refine G.iload_n (z := i1) dX11_adds_0 rfl ?_
  refine G.iload_n (z := i2) dX11_adds_1 rfl ?_
  refine G.iload_n (z := i3) dX11_adds_2 rfl ?_
  refine G.iload (z := i4) dX11_adds_3 rfl ?_
  refine G.iload (z := i5) dX11_adds_5 rfl ?_
  exact G.callSI (as := [vi i1, vi i2, vi i3, vi i4, vi i5]) (rest := []) dX11_adds_7 rfl vX11_90 (by decide) (Nat.le_of_ble_eq_true rfl) hM (fun z σ' hz q => G.pick [0, 1, 2, 3, 4, 5] (k z σ' hz q))
theorem bX11_adds_10 {X : CT} {σ : St} {i1 i2 i3 i4 i5 t0 : Int}  (s : (-2147483648 ≤ t0 ∧ t0 < 2147483648))
    (kt : ¬ t0 = 0 → G mdX11_adds X 15 [(0, vr 87), (1, vi i1), (2, vi i2), (3, vi i3), (4, vi i4), (5, vi i5)] [] σ)
    (kf : t0 = 0 → G mdX11_adds X 13 [] [] σ) :
    G mdX11_adds X 10 [(0, vr 87), (1, vi i1), (2, vi i2), (3, vi i3), (4, vi i4), (5, vi i5)] [vi t0] σ := by
  exact G.if_ne (tgt := 15) dX11_adds_10 (by decide) s (fun q => G.pick [0, 1, 2, 3, 4, 5] (kt q)) (fun q => G.pick [] (kf q))
theorem bX11_adds_13 {X : CT} {σ : St}  {P : Int → St → Prop} (hX : RI X P)
    (k : P (-1) σ) :
    G mdX11_adds X 13 [] [] σ := by
  refine G.iconst dX11_adds_13 ?_
  exact G.iret hX dX11_adds_14 rfl ⟨by decide, by decide⟩ k
theorem bX11_adds_15 {X : CT} {σ : St} {i1 i2 i3 i4 i5 : Int}  (s : (-2147483648 ≤ σ 88 33 ∧ σ 88 33 < 2147483648))
    (kt : ¬ σ 88 33 = 6 → G mdX11_adds X 30 [(0, vr 87), (1, vi i1), (2, vi i2), (3, vi i3), (4, vi i4), (5, vi i5)] [] σ)
    (kf : σ 88 33 = 6 → G mdX11_adds X 27 [] [] σ) :
    G mdX11_adds X 15 [(0, vr 87), (1, vi i1), (2, vi i2), (3, vi i3), (4, vi i4), (5, vi i5)] [] σ := by
  refine G.aload_n (o := 87) dX11_adds_15 rfl ?_
  refine G.getR (o' := 88) dX11_adds_16 fX11_7 sh87 rfl ?_
  refine G.bipush dX11_adds_19 (by decide) ?_
  refine G.iald dX11_adds_21 sh88 ⟨by decide, by decide⟩ ?_
  refine G.bipush dX11_adds_22 (by decide) ?_
  exact G.icmp_ne (tgt := 30) dX11_adds_24 (by decide) s ⟨by decide, by decide⟩ (fun q => G.pick [0, 1, 2, 3, 4, 5] (kt q)) (fun q => G.pick [] (kf q))
theorem bX11_adds_27 {X : CT} {σ : St}  {P : Int → St → Prop} (hX : RI X P)
    (k : P (-3) σ) :
    G mdX11_adds X 27 [] [] σ := by
  refine G.bipush dX11_adds_27 (by decide) ?_
  exact G.iret hX dX11_adds_29 rfl ⟨by decide, by decide⟩ k
theorem bX11_adds_30 {X : CT} {σ : St} {i1 i2 i3 i4 i5 : Int}  {P : St → Prop} (hM : CV mdX11_note [vr 87] σ P)
    (k : ∀ σ', P σ' → G mdX11_adds X 34 [(0, vr 87), (1, vi i1), (2, vi i2), (3, vi i3), (4, vi i4), (5, vi i5)] [] (σ')) :
    G mdX11_adds X 30 [(0, vr 87), (1, vi i1), (2, vi i2), (3, vi i3), (4, vi i4), (5, vi i5)] [] σ := by
  refine G.aload_n (o := 87) dX11_adds_30 rfl ?_
  exact G.callVV (as := []) (rest := []) dX11_adds_31 rfl vX11_140 (by decide) sh87 rfl (by decide) (Nat.le_of_ble_eq_true rfl) hM (fun σ' q => G.pick [0, 1, 2, 3, 4, 5] (k σ' q))
theorem bX11_adds_34 {X : CT} {σ : St} {i1 i2 i3 i4 i5 : Int}  {P : St → Prop} (hM : CV mdX11_lay [vr 87, vi (34 + (5 * (σ 88 33))), vi i1, vi i2, vi i3, vi i4, vi i5] σ P)
    (k : ∀ σ', P σ' → G mdX11_adds X 57 [(0, vr 87)] [] (σ')) :
    G mdX11_adds X 34 [(0, vr 87), (1, vi i1), (2, vi i2), (3, vi i3), (4, vi i4), (5, vi i5)] [] σ := by
  refine G.aload_n (o := 87) dX11_adds_34 rfl ?_
  refine G.bipush dX11_adds_35 (by decide) ?_
  refine G.iconst dX11_adds_37 ?_
  refine G.aload_n (o := 87) dX11_adds_38 rfl ?_
  refine G.getR (o' := 88) dX11_adds_39 fX11_7 sh87 rfl ?_
  refine G.bipush dX11_adds_42 (by decide) ?_
  refine G.iald dX11_adds_44 sh88 ⟨by decide, by decide⟩ ?_
  refine G.imul dX11_adds_45 ?_
  refine G.iadd dX11_adds_46 ?_
  refine G.iload_n (z := i1) dX11_adds_47 rfl ?_
  refine G.iload_n (z := i2) dX11_adds_48 rfl ?_
  refine G.iload_n (z := i3) dX11_adds_49 rfl ?_
  refine G.iload (z := i4) dX11_adds_50 rfl ?_
  refine G.iload (z := i5) dX11_adds_52 rfl ?_
  exact G.callVV (as := [vi (34 + (5 * (σ 88 33))), vi i1, vi i2, vi i3, vi i4, vi i5]) (rest := []) dX11_adds_54 rfl vX11_150 (by decide) sh87 rfl (by decide) (Nat.le_of_ble_eq_true rfl) hM (fun σ' q => G.pick [0] (k σ' q))
theorem bX11_adds_57 {X : CT} {σ : St}  {P : Int → St → Prop} (hX : RI X P) (s : (-2147483648 ≤ (wr σ 88 33 ((σ 88 33) + 1)) 88 33 ∧ (wr σ 88 33 ((σ 88 33) + 1)) 88 33 < 2147483648))
    (k : P ((wr σ 88 33 ((σ 88 33) + 1)) 88 33) (wr σ 88 33 ((σ 88 33) + 1))) :
    G mdX11_adds X 57 [(0, vr 87)] [] σ := by
  refine G.aload_n (o := 87) dX11_adds_57 rfl ?_
  refine G.getR (o' := 88) dX11_adds_58 fX11_7 sh87 rfl ?_
  refine G.bipush dX11_adds_61 (by decide) ?_
  refine G.dup2 dX11_adds_63 ?_
  refine G.iald dX11_adds_64 sh88 ⟨by decide, by decide⟩ ?_
  refine G.iconst dX11_adds_65 ?_
  refine G.iadd dX11_adds_66 ?_
  refine G.iast dX11_adds_67 sh88 ⟨by decide, by decide⟩ ?_
  refine G.aload_n (o := 87) dX11_adds_68 rfl ?_
  refine G.getR (o' := 88) dX11_adds_69 fX11_7 sh87 rfl ?_
  refine G.bipush dX11_adds_72 (by decide) ?_
  refine G.iald dX11_adds_74 sh88 ⟨by decide, by decide⟩ ?_
  exact G.iret hX dX11_adds_75 rfl s k
theorem bX11_cuts_0 {X : CT} {σ : St}  (s : (-2147483648 ≤ σ 88 33 ∧ σ 88 33 < 2147483648))
    (kt : ¬ σ 88 33 = 0 → G mdX11_cuts X 13 [(0, vr 87)] [] σ)
    (kf : σ 88 33 = 0 → G mdX11_cuts X 10 [] [] σ) :
    G mdX11_cuts X 0 [(0, vr 87)] [] σ := by
  refine G.aload_n (o := 87) dX11_cuts_0 rfl ?_
  refine G.getR (o' := 88) dX11_cuts_1 fX11_7 sh87 rfl ?_
  refine G.bipush dX11_cuts_4 (by decide) ?_
  refine G.iald dX11_cuts_6 sh88 ⟨by decide, by decide⟩ ?_
  exact G.if_ne (tgt := 13) dX11_cuts_7 (by decide) s (fun q => G.pick [0] (kt q)) (fun q => G.pick [] (kf q))
theorem bX11_cuts_10 {X : CT} {σ : St}  {P : Int → St → Prop} (hX : RI X P)
    (k : P (-2) σ) :
    G mdX11_cuts X 10 [] [] σ := by
  refine G.bipush dX11_cuts_10 (by decide) ?_
  exact G.iret hX dX11_cuts_12 rfl ⟨by decide, by decide⟩ k
theorem bX11_cuts_13 {X : CT} {σ : St}  {P : St → Prop} (hM : CV mdX11_note [vr 87] σ P)
    (k : ∀ σ', P σ' → G mdX11_cuts X 17 [(0, vr 87)] [] (σ')) :
    G mdX11_cuts X 13 [(0, vr 87)] [] σ := by
  refine G.aload_n (o := 87) dX11_cuts_13 rfl ?_
  exact G.callVV (as := []) (rest := []) dX11_cuts_14 rfl vX11_140 (by decide) sh87 rfl (by decide) (Nat.le_of_ble_eq_true rfl) hM (fun σ' q => G.pick [0] (k σ' q))
theorem bX11_cuts_17 {X : CT} {σ : St}  {P : Int → St → Prop} (hX : RI X P) (s : (-2147483648 ≤ (wr σ 88 33 ((σ 88 33) - 1)) 88 33 ∧ (wr σ 88 33 ((σ 88 33) - 1)) 88 33 < 2147483648))
    (k : P ((wr σ 88 33 ((σ 88 33) - 1)) 88 33) (wr σ 88 33 ((σ 88 33) - 1))) :
    G mdX11_cuts X 17 [(0, vr 87)] [] σ := by
  refine G.aload_n (o := 87) dX11_cuts_17 rfl ?_
  refine G.getR (o' := 88) dX11_cuts_18 fX11_7 sh87 rfl ?_
  refine G.bipush dX11_cuts_21 (by decide) ?_
  refine G.dup2 dX11_cuts_23 ?_
  refine G.iald dX11_cuts_24 sh88 ⟨by decide, by decide⟩ ?_
  refine G.iconst dX11_cuts_25 ?_
  refine G.isub dX11_cuts_26 ?_
  refine G.iast dX11_cuts_27 sh88 ⟨by decide, by decide⟩ ?_
  refine G.aload_n (o := 87) dX11_cuts_28 rfl ?_
  refine G.getR (o' := 88) dX11_cuts_29 fX11_7 sh87 rfl ?_
  refine G.bipush dX11_cuts_32 (by decide) ?_
  refine G.iald dX11_cuts_34 sh88 ⟨by decide, by decide⟩ ?_
  exact G.iret hX dX11_cuts_35 rfl s k
theorem bX11_takeMade_0 {X : CT} {σ : St} 
    (k : G mdX11_takeMade X 2 [(0, vr 87), (1, vi 0)] [] σ) :
    G mdX11_takeMade X 0 [(0, vr 87)] [] σ := by
  refine G.iconst dX11_takeMade_0 ?_
  refine G.istore_n dX11_takeMade_1 (by decide) rfl ?_
  exact G.pick [0, 1] k
theorem bX11_takeMade_2 {X : CT} {σ : St} {i1 : Int}  (s : (-2147483648 ≤ i1 ∧ i1 < 2147483648))
    (kt : 32 ≤ i1 → G mdX11_takeMade X 26 [] [] σ)
    (kf : i1 < 32 → G mdX11_takeMade X 8 [(0, vr 87), (1, vi i1)] [] σ) :
    G mdX11_takeMade X 2 [(0, vr 87), (1, vi i1)] [] σ := by
  refine G.iload_n (z := i1) dX11_takeMade_2 rfl ?_
  refine G.bipush dX11_takeMade_3 (by decide) ?_
  exact G.icmp_ge (tgt := 26) dX11_takeMade_5 (by decide) s ⟨by decide, by decide⟩ (fun q => G.pick [] (kt q)) (fun q => G.pick [0, 1] (kf q))
theorem bX11_takeMade_8 {X : CT} {σ : St} {i1 : Int}  (s : (0 ≤ i1 ∧ i1 < 32))
    (k : G mdX11_takeMade X 2 [(0, vr 87), (1, vi (i1 + 1))] [] (wr σ 96 i1 (σ 97 i1))) :
    G mdX11_takeMade X 8 [(0, vr 87), (1, vi i1)] [] σ := by
  refine G.aload_n (o := 87) dX11_takeMade_8 rfl ?_
  refine G.getR (o' := 96) dX11_takeMade_9 fX11_36 sh87 rfl ?_
  refine G.iload_n (z := i1) dX11_takeMade_12 rfl ?_
  refine G.aload_n (o := 87) dX11_takeMade_13 rfl ?_
  refine G.getR (o' := 97) dX11_takeMade_14 fX11_39 sh87 rfl ?_
  refine G.iload_n (z := i1) dX11_takeMade_17 rfl ?_
  refine G.iald dX11_takeMade_18 sh97 s ?_
  refine G.iast dX11_takeMade_19 sh96 s ?_
  refine G.iinc (z := i1) dX11_takeMade_20 rfl (by decide) rfl ?_
  refine G.goto (tgt := 2) dX11_takeMade_23 (by decide) ?_
  exact G.pick [0, 1] k
theorem bX11_takeMade_26 {X : CT} {σ : St}  {P : St → Prop} (hX : RV X P)
    (k : P σ) :
    G mdX11_takeMade X 26 [] [] σ := by
  exact G.vret hX dX11_takeMade_26 rfl k
theorem bX11_spread_0 {X : CT} {σ : St} {i1 : Int} 
    (k : G mdX11_spread X 2 [(0, vr 87), (1, vi i1), (2, vi 0)] [] σ) :
    G mdX11_spread X 0 [(0, vr 87), (1, vi i1)] [] σ := by
  refine G.iconst dX11_spread_0 ?_
  refine G.istore_n dX11_spread_1 (by decide) rfl ?_
  exact G.pick [0, 1, 2] k
theorem bX11_spread_2 {X : CT} {σ : St} {i1 i2 : Int}  (s : (-2147483648 ≤ i2 ∧ i2 < 2147483648))
    (kt : 32 ≤ i2 → G mdX11_spread X 56 [(0, vr 87)] [] σ)
    (kf : i2 < 32 → G mdX11_spread X 8 [(0, vr 87), (1, vi i1), (2, vi i2)] [] σ) :
    G mdX11_spread X 2 [(0, vr 87), (1, vi i1), (2, vi i2)] [] σ := by
  refine G.iload_n (z := i2) dX11_spread_2 rfl ?_
  refine G.bipush dX11_spread_3 (by decide) ?_
  exact G.icmp_ge (tgt := 56) dX11_spread_5 (by decide) s ⟨by decide, by decide⟩ (fun q => G.pick [0] (kt q)) (fun q => G.pick [0, 1, 2] (kf q))
theorem bX11_spread_8 {X : CT} {σ : St} {i1 i2 : Int}  (s : (0 ≤ i2 ∧ i2 < 2147483648) ∧ (-2147483648 ≤ i2 % 16 ∧ i2 % 16 < 2147483648))
    (kt : ¬ i2 % 16 = 0 → G mdX11_spread X 22 [(0, vr 87), (1, vi i1), (2, vi i2)] [] σ)
    (kf : i2 % 16 = 0 → G mdX11_spread X 15 [(0, vr 87), (1, vi i1), (2, vi i2)] [] σ) :
    G mdX11_spread X 8 [(0, vr 87), (1, vi i1), (2, vi i2)] [] σ := by
  refine G.iload_n (z := i2) dX11_spread_8 rfl ?_
  refine G.bipush dX11_spread_9 (by decide) ?_
  refine G.irem dX11_spread_11 s.1 ⟨by decide, by decide⟩ ?_
  exact G.if_ne (tgt := 22) dX11_spread_12 (by decide) s.2 (fun q => G.pick [0, 1, 2] (kt q)) (fun q => G.pick [0, 1, 2] (kf q))
theorem bX11_spread_15 {X : CT} {σ : St} {i1 i2 : Int} 
    (k : G mdX11_spread X 25 [(0, vr 87), (1, vi i1), (2, vi i2)] [vi (i2 + 15)] σ) :
    G mdX11_spread X 15 [(0, vr 87), (1, vi i1), (2, vi i2)] [] σ := by
  refine G.iload_n (z := i2) dX11_spread_15 rfl ?_
  refine G.bipush dX11_spread_16 (by decide) ?_
  refine G.iadd dX11_spread_18 ?_
  refine G.goto (tgt := 25) dX11_spread_19 (by decide) ?_
  exact G.pick [0, 1, 2] k
theorem bX11_spread_22 {X : CT} {σ : St} {i1 i2 : Int} 
    (k : G mdX11_spread X 25 [(0, vr 87), (1, vi i1), (2, vi i2)] [vi (i2 - 1)] σ) :
    G mdX11_spread X 22 [(0, vr 87), (1, vi i1), (2, vi i2)] [] σ := by
  refine G.iload_n (z := i2) dX11_spread_22 rfl ?_
  refine G.iconst dX11_spread_23 ?_
  refine G.isub dX11_spread_24 ?_
  exact G.pick [0, 1, 2] k
theorem bX11_spread_25 {X : CT} {σ : St} {i1 i2 t0 : Int}  (s : (0 ≤ i2 ∧ i2 < 32) ∧ (0 ≤ t0 ∧ t0 < 32) ∧ (0 ≤ (σ 96 i2) + (i1 * (σ 96 t0)) ∧ (σ 96 i2) + (i1 * (σ 96 t0)) < 2147483648))
    (k : G mdX11_spread X 2 [(0, vr 87), (1, vi i1), (2, vi (i2 + 1))] [] (wr σ 97 i2 (((σ 96 i2) + (i1 * (σ 96 t0))) % 97))) :
    G mdX11_spread X 25 [(0, vr 87), (1, vi i1), (2, vi i2)] [vi t0] σ := by
  refine G.istore_n dX11_spread_25 (by decide) rfl ?_
  refine G.aload_n (o := 87) dX11_spread_26 rfl ?_
  refine G.getR (o' := 97) dX11_spread_27 fX11_39 sh87 rfl ?_
  refine G.iload_n (z := i2) dX11_spread_30 rfl ?_
  refine G.aload_n (o := 87) dX11_spread_31 rfl ?_
  refine G.getR (o' := 96) dX11_spread_32 fX11_36 sh87 rfl ?_
  refine G.iload_n (z := i2) dX11_spread_35 rfl ?_
  refine G.iald dX11_spread_36 sh96 s.1 ?_
  refine G.iload_n (z := i1) dX11_spread_37 rfl ?_
  refine G.aload_n (o := 87) dX11_spread_38 rfl ?_
  refine G.getR (o' := 96) dX11_spread_39 fX11_36 sh87 rfl ?_
  refine G.iload_n (z := t0) dX11_spread_42 rfl ?_
  refine G.iald dX11_spread_43 sh96 s.2.1 ?_
  refine G.imul dX11_spread_44 ?_
  refine G.iadd dX11_spread_45 ?_
  refine G.bipush dX11_spread_46 (by decide) ?_
  refine G.irem dX11_spread_48 s.2.2 ⟨by decide, by decide⟩ ?_
  refine G.iast dX11_spread_49 sh97 s.1 ?_
  refine G.iinc (z := i2) dX11_spread_50 rfl (by decide) rfl ?_
  refine G.goto (tgt := 2) dX11_spread_53 (by decide) ?_
  exact G.pick [0, 1, 2] k
theorem bX11_spread_56 {X : CT} {σ : St}  {P : St → Prop} (hM : CV mdX11_takeMade [vr 87] σ P)
    (k : ∀ σ', P σ' → G mdX11_spread X 60 [] [] (σ')) :
    G mdX11_spread X 56 [(0, vr 87)] [] σ := by
  refine G.aload_n (o := 87) dX11_spread_56 rfl ?_
  exact G.callVV (as := []) (rest := []) dX11_spread_57 rfl vX11_154 (by decide) sh87 rfl (by decide) (Nat.le_of_ble_eq_true rfl) hM (fun σ' q => G.pick [] (k σ' q))
theorem bX11_spread_60 {X : CT} {σ : St}  {P : St → Prop} (hX : RV X P)
    (k : P σ) :
    G mdX11_spread X 60 [] [] σ := by
  exact G.vret hX dX11_spread_60 rfl k
theorem bX11_unspread_0 {X : CT} {σ : St} {i1 : Int}  {P : Int → St → Prop} (hM : CI mdX11_power [vi i1, vi 16] σ P)
    (k : ∀ z σ', inI z → P z σ' → G mdX11_unspread X 7 [(0, vr 87), (1, vi i1)] [vi z, vi 1] (σ')) :
    G mdX11_unspread X 0 [(0, vr 87), (1, vi i1)] [] σ := by
  refine G.iconst dX11_unspread_0 ?_
  refine G.iload_n (z := i1) dX11_unspread_1 rfl ?_
  refine G.bipush dX11_unspread_2 (by decide) ?_
  exact G.callSI (as := [vi i1, vi 16]) (rest := [vi 1]) dX11_unspread_4 rfl vX11_63 (by decide) (Nat.le_of_ble_eq_true rfl) hM (fun z σ' hz q => G.pick [0, 1] (k z σ' hz q))
theorem bX11_unspread_7 {X : CT} {σ : St} {i1 t0 t1 : Int}  {P : Int → St → Prop} (hM : CI mdX11_left [vi (t0 - t1)] σ P)
    (k : ∀ z σ', inI z → P z σ' → G mdX11_unspread X 11 [(0, vr 87), (1, vi i1)] [vi z] (σ')) :
    G mdX11_unspread X 7 [(0, vr 87), (1, vi i1)] [vi t1, vi t0] σ := by
  refine G.isub dX11_unspread_7 ?_
  exact G.callSI (as := [vi (t0 - t1)]) (rest := []) dX11_unspread_8 rfl vX11_71 (by decide) (Nat.le_of_ble_eq_true rfl) hM (fun z σ' hz q => G.pick [0, 1] (k z σ' hz q))
theorem bX11_unspread_11 {X : CT} {σ : St} {i1 t0 : Int}  {P : Int → St → Prop} (hM : CI mdX11_inverse [vi t0] σ P)
    (k : ∀ z σ', inI z → P z σ' → G mdX11_unspread X 14 [(0, vr 87), (1, vi i1)] [vi z] (σ')) :
    G mdX11_unspread X 11 [(0, vr 87), (1, vi i1)] [vi t0] σ := by
  exact G.callSI (as := [vi t0]) (rest := []) dX11_unspread_11 rfl vX11_157 (by decide) (Nat.le_of_ble_eq_true rfl) hM (fun z σ' hz q => G.pick [0, 1] (k z σ' hz q))
theorem bX11_unspread_14 {X : CT} {σ : St} {i1 t0 : Int}  {P : Int → St → Prop} (hM : CI mdX11_left [vi (-i1)] σ P)
    (k : ∀ z σ', inI z → P z σ' → G mdX11_unspread X 20 [(0, vr 87), (2, vi t0)] [vi z] (σ')) :
    G mdX11_unspread X 14 [(0, vr 87), (1, vi i1)] [vi t0] σ := by
  refine G.istore_n dX11_unspread_14 (by decide) rfl ?_
  refine G.iload_n (z := i1) dX11_unspread_15 rfl ?_
  refine G.ineg dX11_unspread_16 ?_
  exact G.callSI (as := [vi (-i1)]) (rest := []) dX11_unspread_17 rfl vX11_71 (by decide) (Nat.le_of_ble_eq_true rfl) hM (fun z σ' hz q => G.pick [0, 2] (k z σ' hz q))
theorem bX11_unspread_20 {X : CT} {σ : St} {i2 t0 : Int} 
    (k : G mdX11_unspread X 24 [(0, vr 87), (2, vi i2), (3, vi t0), (4, vi 0)] [] σ) :
    G mdX11_unspread X 20 [(0, vr 87), (2, vi i2)] [vi t0] σ := by
  refine G.istore_n dX11_unspread_20 (by decide) rfl ?_
  refine G.iconst dX11_unspread_21 ?_
  refine G.istore dX11_unspread_22 (by decide) rfl ?_
  exact G.pick [0, 2, 3, 4] k
theorem bX11_unspread_24 {X : CT} {σ : St} {i2 i3 i4 : Int}  (s : (-2147483648 ≤ i4 ∧ i4 < 2147483648))
    (kt : 32 ≤ i4 → G mdX11_unspread X 118 [(0, vr 87)] [] σ)
    (kf : i4 < 32 → G mdX11_unspread X 31 [(0, vr 87), (2, vi i2), (3, vi i3), (4, vi i4)] [] σ) :
    G mdX11_unspread X 24 [(0, vr 87), (2, vi i2), (3, vi i3), (4, vi i4)] [] σ := by
  refine G.iload (z := i4) dX11_unspread_24 rfl ?_
  refine G.bipush dX11_unspread_26 (by decide) ?_
  exact G.icmp_ge (tgt := 118) dX11_unspread_28 (by decide) s ⟨by decide, by decide⟩ (fun q => G.pick [0] (kt q)) (fun q => G.pick [0, 2, 3, 4] (kf q))
theorem bX11_unspread_31 {X : CT} {σ : St} {i2 i3 i4 : Int} 
    (k : G mdX11_unspread X 40 [(0, vr 87), (2, vi i2), (3, vi i3), (4, vi i4), (5, vi 0), (6, vi 1), (7, vi 0)] [] σ) :
    G mdX11_unspread X 31 [(0, vr 87), (2, vi i2), (3, vi i3), (4, vi i4)] [] σ := by
  refine G.iconst dX11_unspread_31 ?_
  refine G.istore dX11_unspread_32 (by decide) rfl ?_
  refine G.iconst dX11_unspread_34 ?_
  refine G.istore dX11_unspread_35 (by decide) rfl ?_
  refine G.iconst dX11_unspread_37 ?_
  refine G.istore dX11_unspread_38 (by decide) rfl ?_
  exact G.pick [0, 2, 3, 4, 5, 6, 7] k
theorem bX11_unspread_40 {X : CT} {σ : St} {i2 i3 i4 i5 i6 i7 : Int}  (s : (-2147483648 ≤ i7 ∧ i7 < 2147483648))
    (kt : 16 ≤ i7 → G mdX11_unspread X 98 [(0, vr 87), (2, vi i2), (3, vi i3), (4, vi i4), (5, vi i5)] [] σ)
    (kf : i7 < 16 → G mdX11_unspread X 47 [(0, vr 87), (2, vi i2), (3, vi i3), (4, vi i4), (5, vi i5), (6, vi i6), (7, vi i7)] [] σ) :
    G mdX11_unspread X 40 [(0, vr 87), (2, vi i2), (3, vi i3), (4, vi i4), (5, vi i5), (6, vi i6), (7, vi i7)] [] σ := by
  refine G.iload (z := i7) dX11_unspread_40 rfl ?_
  refine G.bipush dX11_unspread_42 (by decide) ?_
  exact G.icmp_ge (tgt := 98) dX11_unspread_44 (by decide) s ⟨by decide, by decide⟩ (fun q => G.pick [0, 2, 3, 4, 5] (kt q)) (fun q => G.pick [0, 2, 3, 4, 5, 6, 7] (kf q))
theorem bX11_unspread_47 {X : CT} {σ : St} {i2 i3 i4 i5 i6 i7 : Int}  (s : (0 ≤ i4 ∧ i4 < 2147483648) ∧ (0 ≤ (i4 + 16) - i7 ∧ (i4 + 16) - i7 < 2147483648) ∧ (0 ≤ ((i4 / 16) * 16) + (((i4 + 16) - i7) % 16) ∧ ((i4 / 16) * 16) + (((i4 + 16) - i7) % 16) < 32) ∧ (0 ≤ i5 + (i6 * (σ 96 (((i4 / 16) * 16) + (((i4 + 16) - i7) % 16)))) ∧ i5 + (i6 * (σ 96 (((i4 / 16) * 16) + (((i4 + 16) - i7) % 16)))) < 2147483648) ∧ (0 ≤ i6 * i3 ∧ i6 * i3 < 2147483648))
    (k : G mdX11_unspread X 40 [(0, vr 87), (2, vi i2), (3, vi i3), (4, vi i4), (5, vi ((i5 + (i6 * (σ 96 (((i4 / 16) * 16) + (((i4 + 16) - i7) % 16))))) % 97)), (6, vi ((i6 * i3) % 97)), (7, vi (i7 + 1))] [] σ) :
    G mdX11_unspread X 47 [(0, vr 87), (2, vi i2), (3, vi i3), (4, vi i4), (5, vi i5), (6, vi i6), (7, vi i7)] [] σ := by
  refine G.iload (z := i5) dX11_unspread_47 rfl ?_
  refine G.iload (z := i6) dX11_unspread_49 rfl ?_
  refine G.aload_n (o := 87) dX11_unspread_51 rfl ?_
  refine G.getR (o' := 96) dX11_unspread_52 fX11_36 sh87 rfl ?_
  refine G.iload (z := i4) dX11_unspread_55 rfl ?_
  refine G.bipush dX11_unspread_57 (by decide) ?_
  refine G.idiv dX11_unspread_59 s.1 ⟨by decide, by decide⟩ ?_
  refine G.bipush dX11_unspread_60 (by decide) ?_
  refine G.imul dX11_unspread_62 ?_
  refine G.iload (z := i4) dX11_unspread_63 rfl ?_
  refine G.bipush dX11_unspread_65 (by decide) ?_
  refine G.iadd dX11_unspread_67 ?_
  refine G.iload (z := i7) dX11_unspread_68 rfl ?_
  refine G.isub dX11_unspread_70 ?_
  refine G.bipush dX11_unspread_71 (by decide) ?_
  refine G.irem dX11_unspread_73 s.2.1 ⟨by decide, by decide⟩ ?_
  refine G.iadd dX11_unspread_74 ?_
  refine G.iald dX11_unspread_75 sh96 s.2.2.1 ?_
  refine G.imul dX11_unspread_76 ?_
  refine G.iadd dX11_unspread_77 ?_
  refine G.bipush dX11_unspread_78 (by decide) ?_
  refine G.irem dX11_unspread_80 s.2.2.2.1 ⟨by decide, by decide⟩ ?_
  refine G.istore dX11_unspread_81 (by decide) rfl ?_
  refine G.iload (z := i6) dX11_unspread_83 rfl ?_
  refine G.iload_n (z := i3) dX11_unspread_85 rfl ?_
  refine G.imul dX11_unspread_86 ?_
  refine G.bipush dX11_unspread_87 (by decide) ?_
  refine G.irem dX11_unspread_89 s.2.2.2.2 ⟨by decide, by decide⟩ ?_
  refine G.istore dX11_unspread_90 (by decide) rfl ?_
  refine G.iinc (z := i7) dX11_unspread_92 rfl (by decide) rfl ?_
  refine G.goto (tgt := 40) dX11_unspread_95 (by decide) ?_
  exact G.pick [0, 2, 3, 4, 5, 6, 7] k
theorem bX11_unspread_98 {X : CT} {σ : St} {i2 i3 i4 i5 : Int}  (s : (0 ≤ i5 * i2 ∧ i5 * i2 < 2147483648) ∧ (0 ≤ i4 ∧ i4 < 32))
    (k : G mdX11_unspread X 24 [(0, vr 87), (2, vi i2), (3, vi i3), (4, vi (i4 + 1))] [] (wr σ 97 i4 ((i5 * i2) % 97))) :
    G mdX11_unspread X 98 [(0, vr 87), (2, vi i2), (3, vi i3), (4, vi i4), (5, vi i5)] [] σ := by
  refine G.aload_n (o := 87) dX11_unspread_98 rfl ?_
  refine G.getR (o' := 97) dX11_unspread_99 fX11_39 sh87 rfl ?_
  refine G.iload (z := i4) dX11_unspread_102 rfl ?_
  refine G.iload (z := i5) dX11_unspread_104 rfl ?_
  refine G.iload_n (z := i2) dX11_unspread_106 rfl ?_
  refine G.imul dX11_unspread_107 ?_
  refine G.bipush dX11_unspread_108 (by decide) ?_
  refine G.irem dX11_unspread_110 s.1 ⟨by decide, by decide⟩ ?_
  refine G.iast dX11_unspread_111 sh97 s.2 ?_
  refine G.iinc (z := i4) dX11_unspread_112 rfl (by decide) rfl ?_
  refine G.goto (tgt := 24) dX11_unspread_115 (by decide) ?_
  exact G.pick [0, 2, 3, 4] k
theorem bX11_unspread_118 {X : CT} {σ : St}  {P : St → Prop} (hM : CV mdX11_takeMade [vr 87] σ P)
    (k : ∀ σ', P σ' → G mdX11_unspread X 122 [] [] (σ')) :
    G mdX11_unspread X 118 [(0, vr 87)] [] σ := by
  refine G.aload_n (o := 87) dX11_unspread_118 rfl ?_
  exact G.callVV (as := []) (rest := []) dX11_unspread_119 rfl vX11_154 (by decide) sh87 rfl (by decide) (Nat.le_of_ble_eq_true rfl) hM (fun σ' q => G.pick [] (k σ' q))
theorem bX11_unspread_122 {X : CT} {σ : St}  {P : St → Prop} (hX : RV X P)
    (k : P σ) :
    G mdX11_unspread X 122 [] [] σ := by
  exact G.vret hX dX11_unspread_122 rfl k
theorem bX11_twist_0 {X : CT} {σ : St} {i1 i2 i3 i4 : Int} 
    (k : G mdX11_twist X 3 [(0, vr 87), (1, vi i1), (2, vi i2), (3, vi i3), (4, vi i4), (5, vi 0)] [] σ) :
    G mdX11_twist X 0 [(0, vr 87), (1, vi i1), (2, vi i2), (3, vi i3), (4, vi i4)] [] σ := by
  refine G.iconst dX11_twist_0 ?_
  refine G.istore dX11_twist_1 (by decide) rfl ?_
  exact G.pick [0, 1, 2, 3, 4, 5] k
theorem bX11_twist_3 {X : CT} {σ : St} {i1 i2 i3 i4 i5 : Int}  (s : (-2147483648 ≤ i5 ∧ i5 < 2147483648))
    (kt : 16 ≤ i5 → G mdX11_twist X 79 [] [] σ)
    (kf : i5 < 16 → G mdX11_twist X 10 [(0, vr 87), (1, vi i1), (2, vi i2), (3, vi i3), (4, vi i4), (5, vi i5)] [] σ) :
    G mdX11_twist X 3 [(0, vr 87), (1, vi i1), (2, vi i2), (3, vi i3), (4, vi i4), (5, vi i5)] [] σ := by
  refine G.iload (z := i5) dX11_twist_3 rfl ?_
  refine G.bipush dX11_twist_5 (by decide) ?_
  exact G.icmp_ge (tgt := 79) dX11_twist_7 (by decide) s ⟨by decide, by decide⟩ (fun q => G.pick [] (kt q)) (fun q => G.pick [0, 1, 2, 3, 4, 5] (kf q))
theorem bX11_twist_10 {X : CT} {σ : St} {i1 i2 i3 i4 i5 : Int}  (s : (0 ≤ i5 ∧ i5 < 32) ∧ (0 ≤ 16 + i5 ∧ 16 + i5 < 32) ∧ (0 ≤ (i1 * (σ 96 i5)) + (i2 * (σ 96 (16 + i5))) ∧ (i1 * (σ 96 i5)) + (i2 * (σ 96 (16 + i5))) < 2147483648) ∧ (0 ≤ (i3 * (σ 96 i5)) + (i4 * (σ 96 (16 + i5))) ∧ (i3 * (σ 96 i5)) + (i4 * (σ 96 (16 + i5))) < 2147483648))
    (k : G mdX11_twist X 3 [(0, vr 87), (1, vi i1), (2, vi i2), (3, vi i3), (4, vi i4), (5, vi (i5 + 1))] [] (wr (wr σ 96 i5 (((i1 * (σ 96 i5)) + (i2 * (σ 96 (16 + i5)))) % 97)) 96 (16 + i5) (((i3 * (σ 96 i5)) + (i4 * (σ 96 (16 + i5)))) % 97))) :
    G mdX11_twist X 10 [(0, vr 87), (1, vi i1), (2, vi i2), (3, vi i3), (4, vi i4), (5, vi i5)] [] σ := by
  refine G.aload_n (o := 87) dX11_twist_10 rfl ?_
  refine G.getR (o' := 96) dX11_twist_11 fX11_36 sh87 rfl ?_
  refine G.iload (z := i5) dX11_twist_14 rfl ?_
  refine G.iald dX11_twist_16 sh96 s.1 ?_
  refine G.istore dX11_twist_17 (by decide) rfl ?_
  refine G.aload_n (o := 87) dX11_twist_19 rfl ?_
  refine G.getR (o' := 96) dX11_twist_20 fX11_36 sh87 rfl ?_
  refine G.bipush dX11_twist_23 (by decide) ?_
  refine G.iload (z := i5) dX11_twist_25 rfl ?_
  refine G.iadd dX11_twist_27 ?_
  refine G.iald dX11_twist_28 sh96 s.2.1 ?_
  refine G.istore dX11_twist_29 (by decide) rfl ?_
  refine G.aload_n (o := 87) dX11_twist_31 rfl ?_
  refine G.getR (o' := 96) dX11_twist_32 fX11_36 sh87 rfl ?_
  refine G.iload (z := i5) dX11_twist_35 rfl ?_
  refine G.iload_n (z := i1) dX11_twist_37 rfl ?_
  refine G.iload (z := σ 96 i5) dX11_twist_38 rfl ?_
  refine G.imul dX11_twist_40 ?_
  refine G.iload_n (z := i2) dX11_twist_41 rfl ?_
  refine G.iload (z := σ 96 (16 + i5)) dX11_twist_42 rfl ?_
  refine G.imul dX11_twist_44 ?_
  refine G.iadd dX11_twist_45 ?_
  refine G.bipush dX11_twist_46 (by decide) ?_
  refine G.irem dX11_twist_48 s.2.2.1 ⟨by decide, by decide⟩ ?_
  refine G.iast dX11_twist_49 sh96 s.1 ?_
  refine G.aload_n (o := 87) dX11_twist_50 rfl ?_
  refine G.getR (o' := 96) dX11_twist_51 fX11_36 sh87 rfl ?_
  refine G.bipush dX11_twist_54 (by decide) ?_
  refine G.iload (z := i5) dX11_twist_56 rfl ?_
  refine G.iadd dX11_twist_58 ?_
  refine G.iload_n (z := i3) dX11_twist_59 rfl ?_
  refine G.iload (z := σ 96 i5) dX11_twist_60 rfl ?_
  refine G.imul dX11_twist_62 ?_
  refine G.iload (z := i4) dX11_twist_63 rfl ?_
  refine G.iload (z := σ 96 (16 + i5)) dX11_twist_65 rfl ?_
  refine G.imul dX11_twist_67 ?_
  refine G.iadd dX11_twist_68 ?_
  refine G.bipush dX11_twist_69 (by decide) ?_
  refine G.irem dX11_twist_71 s.2.2.2 ⟨by decide, by decide⟩ ?_
  refine G.iast dX11_twist_72 sh96 s.2.1 ?_
  refine G.iinc (z := i5) dX11_twist_73 rfl (by decide) rfl ?_
  refine G.goto (tgt := 3) dX11_twist_76 (by decide) ?_
  exact G.pick [0, 1, 2, 3, 4, 5] k
theorem bX11_twist_79 {X : CT} {σ : St}  {P : St → Prop} (hX : RV X P)
    (k : P σ) :
    G mdX11_twist X 79 [] [] σ := by
  exact G.vret hX dX11_twist_79 rfl k
theorem bX11_untwist_0 {X : CT} {σ : St} {i1 i2 i3 i4 : Int}  {P : Int → St → Prop} (hM : CI mdX11_left [vi ((i1 * i4) - (i2 * i3))] σ P)
    (k : ∀ z σ', inI z → P z σ' → G mdX11_untwist X 11 [(0, vr 87), (1, vi i1), (2, vi i2), (3, vi i3), (4, vi i4)] [vi z] (σ')) :
    G mdX11_untwist X 0 [(0, vr 87), (1, vi i1), (2, vi i2), (3, vi i3), (4, vi i4)] [] σ := by
  refine G.iload_n (z := i1) dX11_untwist_0 rfl ?_
  refine G.iload (z := i4) dX11_untwist_1 rfl ?_
  refine G.imul dX11_untwist_3 ?_
  refine G.iload_n (z := i2) dX11_untwist_4 rfl ?_
  refine G.iload_n (z := i3) dX11_untwist_5 rfl ?_
  refine G.imul dX11_untwist_6 ?_
  refine G.isub dX11_untwist_7 ?_
  exact G.callSI (as := [vi ((i1 * i4) - (i2 * i3))]) (rest := []) dX11_untwist_8 rfl vX11_71 (by decide) (Nat.le_of_ble_eq_true rfl) hM (fun z σ' hz q => G.pick [0, 1, 2, 3, 4] (k z σ' hz q))
theorem bX11_untwist_11 {X : CT} {σ : St} {i1 i2 i3 i4 t0 : Int}  {P : Int → St → Prop} (hM : CI mdX11_inverse [vi t0] σ P)
    (k : ∀ z σ', inI z → P z σ' → G mdX11_untwist X 14 [(0, vr 87), (1, vi i1), (2, vi i2), (3, vi i3), (4, vi i4)] [vi z] (σ')) :
    G mdX11_untwist X 11 [(0, vr 87), (1, vi i1), (2, vi i2), (3, vi i3), (4, vi i4)] [vi t0] σ := by
  exact G.callSI (as := [vi t0]) (rest := []) dX11_untwist_11 rfl vX11_157 (by decide) (Nat.le_of_ble_eq_true rfl) hM (fun z σ' hz q => G.pick [0, 1, 2, 3, 4] (k z σ' hz q))
theorem bX11_untwist_14 {X : CT} {σ : St} {i1 i2 i3 i4 t0 : Int}  {P : Int → St → Prop} (hM : CI mdX11_left [vi ((-i2) * t0)] σ P) (s : (0 ≤ i4 * t0 ∧ i4 * t0 < 2147483648))
    (k : ∀ z σ', inI z → P z σ' → G mdX11_untwist X 33 [(1, vi i1), (3, vi i3), (5, vi t0)] [vi z, vi ((i4 * t0) % 97), vr 87] (σ')) :
    G mdX11_untwist X 14 [(0, vr 87), (1, vi i1), (2, vi i2), (3, vi i3), (4, vi i4)] [vi t0] σ := by
  refine G.istore dX11_untwist_14 (by decide) rfl ?_
  refine G.aload_n (o := 87) dX11_untwist_16 rfl ?_
  refine G.iload (z := i4) dX11_untwist_17 rfl ?_
  refine G.iload (z := t0) dX11_untwist_19 rfl ?_
  refine G.imul dX11_untwist_21 ?_
  refine G.bipush dX11_untwist_22 (by decide) ?_
  refine G.irem dX11_untwist_24 s ⟨by decide, by decide⟩ ?_
  refine G.iload_n (z := i2) dX11_untwist_25 rfl ?_
  refine G.ineg dX11_untwist_26 ?_
  refine G.iload (z := t0) dX11_untwist_27 rfl ?_
  refine G.imul dX11_untwist_29 ?_
  exact G.callSI (as := [vi ((-i2) * t0)]) (rest := [vi ((i4 * t0) % 97), vr 87]) dX11_untwist_30 rfl vX11_71 (by decide) (Nat.le_of_ble_eq_true rfl) hM (fun z σ' hz q => G.pick [1, 3, 5] (k z σ' hz q))
theorem bX11_untwist_33 {X : CT} {σ : St} {i1 i3 i5 t1 t2 : Int}  {P : Int → St → Prop} (hM : CI mdX11_left [vi ((-i3) * i5)] σ P)
    (k : ∀ z σ', inI z → P z σ' → G mdX11_untwist X 41 [(1, vi i1), (5, vi i5)] [vi z, vi t2, vi t1, vr 87] (σ')) :
    G mdX11_untwist X 33 [(1, vi i1), (3, vi i3), (5, vi i5)] [vi t2, vi t1, vr 87] σ := by
  refine G.iload_n (z := i3) dX11_untwist_33 rfl ?_
  refine G.ineg dX11_untwist_34 ?_
  refine G.iload (z := i5) dX11_untwist_35 rfl ?_
  refine G.imul dX11_untwist_37 ?_
  exact G.callSI (as := [vi ((-i3) * i5)]) (rest := [vi t2, vi t1, vr 87]) dX11_untwist_38 rfl vX11_71 (by decide) (Nat.le_of_ble_eq_true rfl) hM (fun z σ' hz q => G.pick [1, 5] (k z σ' hz q))
theorem bX11_untwist_41 {X : CT} {σ : St} {i1 i5 t1 t2 t3 : Int}  {P : St → Prop} (hM : CV mdX11_twist [vr 87, vi t1, vi t2, vi t3, vi ((i1 * i5) % 97)] σ P) (s : (0 ≤ i1 * i5 ∧ i1 * i5 < 2147483648))
    (k : ∀ σ', P σ' → G mdX11_untwist X 51 [] [] (σ')) :
    G mdX11_untwist X 41 [(1, vi i1), (5, vi i5)] [vi t3, vi t2, vi t1, vr 87] σ := by
  refine G.iload_n (z := i1) dX11_untwist_41 rfl ?_
  refine G.iload (z := i5) dX11_untwist_42 rfl ?_
  refine G.imul dX11_untwist_44 ?_
  refine G.bipush dX11_untwist_45 (by decide) ?_
  refine G.irem dX11_untwist_47 s ⟨by decide, by decide⟩ ?_
  exact G.callVV (as := [vi t1, vi t2, vi t3, vi ((i1 * i5) % 97)]) (rest := []) dX11_untwist_48 rfl vX11_160 (by decide) sh87 rfl (by decide) (Nat.le_of_ble_eq_true rfl) hM (fun σ' q => G.pick [] (k σ' q))
theorem bX11_untwist_51 {X : CT} {σ : St}  {P : St → Prop} (hX : RV X P)
    (k : P σ) :
    G mdX11_untwist X 51 [] [] σ := by
  exact G.vret hX dX11_untwist_51 rfl k
theorem bX11_slip_0 {X : CT} {σ : St} {i1 i2 : Int} 
    (k : G mdX11_slip X 2 [(0, vr 87), (2, vi i2), (3, vi i1)] [] σ) :
    G mdX11_slip X 0 [(0, vr 87), (1, vi i1), (2, vi i2)] [] σ := by
  refine G.iload_n (z := i1) dX11_slip_0 rfl ?_
  refine G.istore_n dX11_slip_1 (by decide) rfl ?_
  exact G.pick [0, 2, 3] k
theorem bX11_slip_2 {X : CT} {σ : St} {i2 i3 : Int}  (s : (-2147483648 ≤ i3 ∧ i3 < 2147483648))
    (kt : 16 ≤ i3 → G mdX11_slip X 60 [] [] σ)
    (kf : i3 < 16 → G mdX11_slip X 8 [(0, vr 87), (2, vi i2), (3, vi i3)] [] σ) :
    G mdX11_slip X 2 [(0, vr 87), (2, vi i2), (3, vi i3)] [] σ := by
  refine G.iload_n (z := i3) dX11_slip_2 rfl ?_
  refine G.bipush dX11_slip_3 (by decide) ?_
  exact G.icmp_ge (tgt := 60) dX11_slip_5 (by decide) s ⟨by decide, by decide⟩ (fun q => G.pick [] (kt q)) (fun q => G.pick [0, 2, 3] (kf q))
theorem bX11_slip_8 {X : CT} {σ : St} {i2 i3 : Int}  {P : Int → St → Prop} (hM : CI mdX11_light [vi i2] σ P) (s : (0 ≤ i3 ∧ i3 < 32))
    (k : ∀ z σ', inI z → P z σ' → G mdX11_slip X 23 [(0, vr 87), (2, vi i2), (3, vi i3)] [vi z, vi (σ 96 i3), vi i3, vr 96] (σ')) :
    G mdX11_slip X 8 [(0, vr 87), (2, vi i2), (3, vi i3)] [] σ := by
  refine G.aload_n (o := 87) dX11_slip_8 rfl ?_
  refine G.getR (o' := 96) dX11_slip_9 fX11_36 sh87 rfl ?_
  refine G.iload_n (z := i3) dX11_slip_12 rfl ?_
  refine G.aload_n (o := 87) dX11_slip_13 rfl ?_
  refine G.getR (o' := 96) dX11_slip_14 fX11_36 sh87 rfl ?_
  refine G.iload_n (z := i3) dX11_slip_17 rfl ?_
  refine G.iald dX11_slip_18 sh96 s ?_
  refine G.iload_n (z := i2) dX11_slip_19 rfl ?_
  exact G.callSI (as := [vi i2]) (rest := [vi (σ 96 i3), vi i3, vr 96]) dX11_slip_20 rfl vX11_67 (by decide) (Nat.le_of_ble_eq_true rfl) hM (fun z σ' hz q => G.pick [0, 2, 3] (k z σ' hz q))
theorem bX11_slip_23 {X : CT} {σ : St} {i2 i3 t1 t2 t3 : Int}  {P : Int → St → Prop} (hM : CI mdX11_light [vi i2] (wr σ 96 t1 ((t2 * t3) % 97)) P) (s : (0 ≤ t2 * t3 ∧ t2 * t3 < 2147483648) ∧ (0 ≤ t1 ∧ t1 < 32) ∧ (0 ≤ 16 + i3 ∧ 16 + i3 < 32))
    (k : ∀ z σ', inI z → P z σ' → G mdX11_slip X 49 [(0, vr 87), (2, vi i2), (3, vi i3)] [vi z, vi ((wr σ 96 t1 ((t2 * t3) % 97)) 96 (16 + i3)), vi (16 + i3), vr 96] (σ')) :
    G mdX11_slip X 23 [(0, vr 87), (2, vi i2), (3, vi i3)] [vi t3, vi t2, vi t1, vr 96] σ := by
  refine G.imul dX11_slip_23 ?_
  refine G.bipush dX11_slip_24 (by decide) ?_
  refine G.irem dX11_slip_26 s.1 ⟨by decide, by decide⟩ ?_
  refine G.iast dX11_slip_27 sh96 s.2.1 ?_
  refine G.aload_n (o := 87) dX11_slip_28 rfl ?_
  refine G.getR (o' := 96) dX11_slip_29 fX11_36 sh87 rfl ?_
  refine G.bipush dX11_slip_32 (by decide) ?_
  refine G.iload_n (z := i3) dX11_slip_34 rfl ?_
  refine G.iadd dX11_slip_35 ?_
  refine G.aload_n (o := 87) dX11_slip_36 rfl ?_
  refine G.getR (o' := 96) dX11_slip_37 fX11_36 sh87 rfl ?_
  refine G.bipush dX11_slip_40 (by decide) ?_
  refine G.iload_n (z := i3) dX11_slip_42 rfl ?_
  refine G.iadd dX11_slip_43 ?_
  refine G.iald dX11_slip_44 sh96 s.2.2 ?_
  refine G.iload_n (z := i2) dX11_slip_45 rfl ?_
  exact G.callSI (as := [vi i2]) (rest := [vi ((wr σ 96 t1 ((t2 * t3) % 97)) 96 (16 + i3)), vi (16 + i3), vr 96]) dX11_slip_46 rfl vX11_67 (by decide) (Nat.le_of_ble_eq_true rfl) hM (fun z σ' hz q => G.pick [0, 2, 3] (k z σ' hz q))
theorem bX11_slip_49 {X : CT} {σ : St} {i2 i3 t1 t2 t3 : Int}  (s : (0 ≤ t2 * t3 ∧ t2 * t3 < 2147483648) ∧ (0 ≤ t1 ∧ t1 < 32))
    (k : G mdX11_slip X 2 [(0, vr 87), (2, vi i2), (3, vi (i3 + 1))] [] (wr σ 96 t1 ((t2 * t3) % 97))) :
    G mdX11_slip X 49 [(0, vr 87), (2, vi i2), (3, vi i3)] [vi t3, vi t2, vi t1, vr 96] σ := by
  refine G.imul dX11_slip_49 ?_
  refine G.bipush dX11_slip_50 (by decide) ?_
  refine G.irem dX11_slip_52 s.1 ⟨by decide, by decide⟩ ?_
  refine G.iast dX11_slip_53 sh96 s.2 ?_
  refine G.iinc (z := i3) dX11_slip_54 rfl (by decide) rfl ?_
  refine G.goto (tgt := 2) dX11_slip_57 (by decide) ?_
  exact G.pick [0, 2, 3] k
theorem bX11_slip_60 {X : CT} {σ : St}  {P : St → Prop} (hX : RV X P)
    (k : P σ) :
    G mdX11_slip X 60 [] [] σ := by
  exact G.vret hX dX11_slip_60 rfl k
theorem bX11_late_0 {X : CT} {σ : St} {i1 : Int} 
    (k : G mdX11_late X 2 [(0, vr 87), (1, vi i1), (2, vi 0)] [] σ) :
    G mdX11_late X 0 [(0, vr 87), (1, vi i1)] [] σ := by
  refine G.iconst dX11_late_0 ?_
  refine G.istore_n dX11_late_1 (by decide) rfl ?_
  exact G.pick [0, 1, 2] k
theorem bX11_late_2 {X : CT} {σ : St} {i1 i2 : Int}  (s : (-2147483648 ≤ i2 ∧ i2 < 2147483648))
    (kt : 32 ≤ i2 → G mdX11_late X 26 [(0, vr 87), (1, vi i1)] [] σ)
    (kf : i2 < 32 → G mdX11_late X 8 [(0, vr 87), (1, vi i1), (2, vi i2)] [] σ) :
    G mdX11_late X 2 [(0, vr 87), (1, vi i1), (2, vi i2)] [] σ := by
  refine G.iload_n (z := i2) dX11_late_2 rfl ?_
  refine G.bipush dX11_late_3 (by decide) ?_
  exact G.icmp_ge (tgt := 26) dX11_late_5 (by decide) s ⟨by decide, by decide⟩ (fun q => G.pick [0, 1] (kt q)) (fun q => G.pick [0, 1, 2] (kf q))
theorem bX11_late_8 {X : CT} {σ : St} {i1 i2 : Int}  (s : (0 ≤ i2 ∧ i2 < 32))
    (k : G mdX11_late X 2 [(0, vr 87), (1, vi i1), (2, vi (i2 + 1))] [] (wr σ 97 i2 (σ 96 i2))) :
    G mdX11_late X 8 [(0, vr 87), (1, vi i1), (2, vi i2)] [] σ := by
  refine G.aload_n (o := 87) dX11_late_8 rfl ?_
  refine G.getR (o' := 97) dX11_late_9 fX11_39 sh87 rfl ?_
  refine G.iload_n (z := i2) dX11_late_12 rfl ?_
  refine G.aload_n (o := 87) dX11_late_13 rfl ?_
  refine G.getR (o' := 96) dX11_late_14 fX11_36 sh87 rfl ?_
  refine G.iload_n (z := i2) dX11_late_17 rfl ?_
  refine G.iald dX11_late_18 sh96 s ?_
  refine G.iast dX11_late_19 sh97 s ?_
  refine G.iinc (z := i2) dX11_late_20 rfl (by decide) rfl ?_
  refine G.goto (tgt := 2) dX11_late_23 (by decide) ?_
  exact G.pick [0, 1, 2] k
theorem bX11_late_26 {X : CT} {σ : St} {i1 : Int} 
    (k : G mdX11_late X 28 [(0, vr 87), (1, vi i1), (2, vi 0)] [] σ) :
    G mdX11_late X 26 [(0, vr 87), (1, vi i1)] [] σ := by
  refine G.iconst dX11_late_26 ?_
  refine G.istore_n dX11_late_27 (by decide) rfl ?_
  exact G.pick [0, 1, 2] k
theorem bX11_late_28 {X : CT} {σ : St} {i1 i2 : Int}  (s : (-2147483648 ≤ i2 ∧ i2 < 2147483648))
    (kt : 16 ≤ i2 → G mdX11_late X 63 [(0, vr 87)] [] σ)
    (kf : i2 < 16 → G mdX11_late X 34 [(0, vr 87), (1, vi i1), (2, vi i2)] [] σ) :
    G mdX11_late X 28 [(0, vr 87), (1, vi i1), (2, vi i2)] [] σ := by
  refine G.iload_n (z := i2) dX11_late_28 rfl ?_
  refine G.bipush dX11_late_29 (by decide) ?_
  exact G.icmp_ge (tgt := 63) dX11_late_31 (by decide) s ⟨by decide, by decide⟩ (fun q => G.pick [0] (kt q)) (fun q => G.pick [0, 1, 2] (kf q))
theorem bX11_late_34 {X : CT} {σ : St} {i1 i2 : Int}  (s : (0 ≤ i2 + i1 ∧ i2 + i1 < 2147483648) ∧ (0 ≤ 16 + i2 ∧ 16 + i2 < 32) ∧ (0 ≤ 16 + ((i2 + i1) % 16) ∧ 16 + ((i2 + i1) % 16) < 32))
    (k : G mdX11_late X 28 [(0, vr 87), (1, vi i1), (2, vi (i2 + 1))] [] (wr σ 97 (16 + ((i2 + i1) % 16)) (σ 96 (16 + i2)))) :
    G mdX11_late X 34 [(0, vr 87), (1, vi i1), (2, vi i2)] [] σ := by
  refine G.aload_n (o := 87) dX11_late_34 rfl ?_
  refine G.getR (o' := 97) dX11_late_35 fX11_39 sh87 rfl ?_
  refine G.bipush dX11_late_38 (by decide) ?_
  refine G.iload_n (z := i2) dX11_late_40 rfl ?_
  refine G.iload_n (z := i1) dX11_late_41 rfl ?_
  refine G.iadd dX11_late_42 ?_
  refine G.bipush dX11_late_43 (by decide) ?_
  refine G.irem dX11_late_45 s.1 ⟨by decide, by decide⟩ ?_
  refine G.iadd dX11_late_46 ?_
  refine G.aload_n (o := 87) dX11_late_47 rfl ?_
  refine G.getR (o' := 96) dX11_late_48 fX11_36 sh87 rfl ?_
  refine G.bipush dX11_late_51 (by decide) ?_
  refine G.iload_n (z := i2) dX11_late_53 rfl ?_
  refine G.iadd dX11_late_54 ?_
  refine G.iald dX11_late_55 sh96 s.2.1 ?_
  refine G.iast dX11_late_56 sh97 s.2.2 ?_
  refine G.iinc (z := i2) dX11_late_57 rfl (by decide) rfl ?_
  refine G.goto (tgt := 28) dX11_late_60 (by decide) ?_
  exact G.pick [0, 1, 2] k
theorem bX11_late_63 {X : CT} {σ : St}  {P : St → Prop} (hM : CV mdX11_takeMade [vr 87] σ P)
    (k : ∀ σ', P σ' → G mdX11_late X 67 [] [] (σ')) :
    G mdX11_late X 63 [(0, vr 87)] [] σ := by
  refine G.aload_n (o := 87) dX11_late_63 rfl ?_
  exact G.callVV (as := []) (rest := []) dX11_late_64 rfl vX11_154 (by decide) sh87 rfl (by decide) (Nat.le_of_ble_eq_true rfl) hM (fun σ' q => G.pick [] (k σ' q))
theorem bX11_late_67 {X : CT} {σ : St}  {P : St → Prop} (hX : RV X P)
    (k : P σ) :
    G mdX11_late X 67 [] [] σ := by
  exact G.vret hX dX11_late_67 rfl k
theorem bX11_isLight_0 {X : CT} {σ : St} {i0 : Int}  (s : (-2147483648 ≤ i0 ∧ i0 < 2147483648))
    (kt : i0 = 1 → G mdX11_isLight X 23 [] [] σ)
    (kf : ¬ i0 = 1 → G mdX11_isLight X 5 [(0, vi i0)] [] σ) :
    G mdX11_isLight X 0 [(0, vi i0)] [] σ := by
  refine G.iload_n (z := i0) dX11_isLight_0 rfl ?_
  refine G.iconst dX11_isLight_1 ?_
  exact G.icmp_eq (tgt := 23) dX11_isLight_2 (by decide) s ⟨by decide, by decide⟩ (fun q => G.pick [] (kt q)) (fun q => G.pick [0] (kf q))
theorem bX11_isLight_5 {X : CT} {σ : St} {i0 : Int}  (s : (-2147483648 ≤ i0 ∧ i0 < 2147483648))
    (kt : i0 = 22 → G mdX11_isLight X 23 [] [] σ)
    (kf : ¬ i0 = 22 → G mdX11_isLight X 11 [(0, vi i0)] [] σ) :
    G mdX11_isLight X 5 [(0, vi i0)] [] σ := by
  refine G.iload_n (z := i0) dX11_isLight_5 rfl ?_
  refine G.bipush dX11_isLight_6 (by decide) ?_
  exact G.icmp_eq (tgt := 23) dX11_isLight_8 (by decide) s ⟨by decide, by decide⟩ (fun q => G.pick [] (kt q)) (fun q => G.pick [0] (kf q))
theorem bX11_isLight_11 {X : CT} {σ : St} {i0 : Int}  (s : (-2147483648 ≤ i0 ∧ i0 < 2147483648))
    (kt : i0 = 96 → G mdX11_isLight X 23 [] [] σ)
    (kf : ¬ i0 = 96 → G mdX11_isLight X 17 [(0, vi i0)] [] σ) :
    G mdX11_isLight X 11 [(0, vi i0)] [] σ := by
  refine G.iload_n (z := i0) dX11_isLight_11 rfl ?_
  refine G.bipush dX11_isLight_12 (by decide) ?_
  exact G.icmp_eq (tgt := 23) dX11_isLight_14 (by decide) s ⟨by decide, by decide⟩ (fun q => G.pick [] (kt q)) (fun q => G.pick [0] (kf q))
theorem bX11_isLight_17 {X : CT} {σ : St} {i0 : Int}  (s : (-2147483648 ≤ i0 ∧ i0 < 2147483648))
    (kt : ¬ i0 = 75 → G mdX11_isLight X 27 [] [] σ)
    (kf : i0 = 75 → G mdX11_isLight X 23 [] [] σ) :
    G mdX11_isLight X 17 [(0, vi i0)] [] σ := by
  refine G.iload_n (z := i0) dX11_isLight_17 rfl ?_
  refine G.bipush dX11_isLight_18 (by decide) ?_
  exact G.icmp_ne (tgt := 27) dX11_isLight_20 (by decide) s ⟨by decide, by decide⟩ (fun q => G.pick [] (kt q)) (fun q => G.pick [] (kf q))
theorem bX11_isLight_23 {X : CT} {σ : St} 
    (k : G mdX11_isLight X 28 [] [vi 1] σ) :
    G mdX11_isLight X 23 [] [] σ := by
  refine G.iconst dX11_isLight_23 ?_
  refine G.goto (tgt := 28) dX11_isLight_24 (by decide) ?_
  exact G.pick [] k
theorem bX11_isLight_27 {X : CT} {σ : St} 
    (k : G mdX11_isLight X 28 [] [vi 0] σ) :
    G mdX11_isLight X 27 [] [] σ := by
  refine G.iconst dX11_isLight_27 ?_
  exact G.pick [] k
theorem bX11_isLight_28 {X : CT} {σ : St} {t0 : Int}  {P : Int → St → Prop} (hX : RI X P) (s : (t0 = 0 ∨ t0 = 1))
    (k : P t0 σ) :
    G mdX11_isLight X 28 [] [vi t0] σ := by
  exact G.zret hX dX11_isLight_28 rfl s k
theorem bX11_blind_0 {X : CT} {σ : St} 
    (k : G mdX11_blind X 6 [(0, vr 87), (1, vi 1), (2, vi (-1)), (3, vi 1)] [] σ) :
    G mdX11_blind X 0 [(0, vr 87)] [] σ := by
  refine G.iconst dX11_blind_0 ?_
  refine G.istore_n dX11_blind_1 (by decide) rfl ?_
  refine G.iconst dX11_blind_2 ?_
  refine G.istore_n dX11_blind_3 (by decide) rfl ?_
  refine G.iconst dX11_blind_4 ?_
  refine G.istore_n dX11_blind_5 (by decide) rfl ?_
  exact G.pick [0, 1, 2, 3] k
theorem bX11_blind_6 {X : CT} {σ : St} {i1 i2 i3 : Int}  (s : (-2147483648 ≤ i3 ∧ i3 < 2147483648))
    (kt : 97 ≤ i3 → G mdX11_blind X 90 [(0, vr 87), (1, vi i1)] [] σ)
    (kf : i3 < 97 → G mdX11_blind X 12 [(0, vr 87), (1, vi i1), (2, vi i2), (3, vi i3)] [] σ) :
    G mdX11_blind X 6 [(0, vr 87), (1, vi i1), (2, vi i2), (3, vi i3)] [] σ := by
  refine G.iload_n (z := i3) dX11_blind_6 rfl ?_
  refine G.bipush dX11_blind_7 (by decide) ?_
  exact G.icmp_ge (tgt := 90) dX11_blind_9 (by decide) s ⟨by decide, by decide⟩ (fun q => G.pick [0, 1] (kt q)) (fun q => G.pick [0, 1, 2, 3] (kf q))
theorem bX11_blind_12 {X : CT} {σ : St} {i1 i2 i3 : Int} 
    (k : G mdX11_blind X 18 [(0, vr 87), (1, vi i1), (2, vi i2), (3, vi i3), (4, vi 0), (5, vi 0)] [] σ) :
    G mdX11_blind X 12 [(0, vr 87), (1, vi i1), (2, vi i2), (3, vi i3)] [] σ := by
  refine G.iconst dX11_blind_12 ?_
  refine G.istore dX11_blind_13 (by decide) rfl ?_
  refine G.iconst dX11_blind_15 ?_
  refine G.istore dX11_blind_16 (by decide) rfl ?_
  exact G.pick [0, 1, 2, 3, 4, 5] k
theorem bX11_blind_18 {X : CT} {σ : St} {i1 i2 i3 i4 i5 : Int}  (s : (-2147483648 ≤ i5 ∧ i5 < 2147483648))
    (kt : 32 ≤ i5 → G mdX11_blind X 59 [(0, vr 87), (1, vi i1), (2, vi i2), (3, vi i3), (4, vi i4)] [] σ)
    (kf : i5 < 32 → G mdX11_blind X 25 [(0, vr 87), (1, vi i1), (2, vi i2), (3, vi i3), (4, vi i4), (5, vi i5)] [] σ) :
    G mdX11_blind X 18 [(0, vr 87), (1, vi i1), (2, vi i2), (3, vi i3), (4, vi i4), (5, vi i5)] [] σ := by
  refine G.iload (z := i5) dX11_blind_18 rfl ?_
  refine G.bipush dX11_blind_20 (by decide) ?_
  exact G.icmp_ge (tgt := 59) dX11_blind_22 (by decide) s ⟨by decide, by decide⟩ (fun q => G.pick [0, 1, 2, 3, 4] (kt q)) (fun q => G.pick [0, 1, 2, 3, 4, 5] (kf q))
theorem bX11_blind_25 {X : CT} {σ : St} {i1 i2 i3 i4 i5 : Int}  {P : Int → St → Prop} (hM : CI mdX11_isLight [vi ((i3 * (σ 96 i5)) % 97)] σ P) (s : (0 ≤ i5 ∧ i5 < 32) ∧ (0 ≤ i3 * (σ 96 i5) ∧ i3 * (σ 96 i5) < 2147483648))
    (k : ∀ z σ', inI z → P z σ' → G mdX11_blind X 42 [(0, vr 87), (1, vi i1), (2, vi i2), (3, vi i3), (5, vi i5)] [vi z, vi i4] (σ')) :
    G mdX11_blind X 25 [(0, vr 87), (1, vi i1), (2, vi i2), (3, vi i3), (4, vi i4), (5, vi i5)] [] σ := by
  refine G.iload (z := i4) dX11_blind_25 rfl ?_
  refine G.iload_n (z := i3) dX11_blind_27 rfl ?_
  refine G.aload_n (o := 87) dX11_blind_28 rfl ?_
  refine G.getR (o' := 96) dX11_blind_29 fX11_36 sh87 rfl ?_
  refine G.iload (z := i5) dX11_blind_32 rfl ?_
  refine G.iald dX11_blind_34 sh96 s.1 ?_
  refine G.imul dX11_blind_35 ?_
  refine G.bipush dX11_blind_36 (by decide) ?_
  refine G.irem dX11_blind_38 s.2 ⟨by decide, by decide⟩ ?_
  exact G.callSI (as := [vi ((i3 * (σ 96 i5)) % 97)]) (rest := [vi i4]) dX11_blind_39 rfl vX11_164 (by decide) (Nat.le_of_ble_eq_true rfl) hM (fun z σ' hz q => G.pick [0, 1, 2, 3, 5] (k z σ' hz q))
theorem bX11_blind_42 {X : CT} {σ : St} {i1 i2 i3 i5 t0 t1 : Int}  (s : (-2147483648 ≤ t1 ∧ t1 < 2147483648))
    (kt : t1 = 0 → G mdX11_blind X 49 [(0, vr 87), (1, vi i1), (2, vi i2), (3, vi i3), (5, vi i5)] [vi t0] σ)
    (kf : ¬ t1 = 0 → G mdX11_blind X 45 [(0, vr 87), (1, vi i1), (2, vi i2), (3, vi i3), (5, vi i5)] [vi t0] σ) :
    G mdX11_blind X 42 [(0, vr 87), (1, vi i1), (2, vi i2), (3, vi i3), (5, vi i5)] [vi t1, vi t0] σ := by
  exact G.if_eq (tgt := 49) dX11_blind_42 (by decide) s (fun q => G.pick [0, 1, 2, 3, 5] (kt q)) (fun q => G.pick [0, 1, 2, 3, 5] (kf q))
theorem bX11_blind_45 {X : CT} {σ : St} {i1 i2 i3 i5 t0 : Int} 
    (k : G mdX11_blind X 50 [(0, vr 87), (1, vi i1), (2, vi i2), (3, vi i3), (5, vi i5)] [vi 1, vi t0] σ) :
    G mdX11_blind X 45 [(0, vr 87), (1, vi i1), (2, vi i2), (3, vi i3), (5, vi i5)] [vi t0] σ := by
  refine G.iconst dX11_blind_45 ?_
  refine G.goto (tgt := 50) dX11_blind_46 (by decide) ?_
  exact G.pick [0, 1, 2, 3, 5] k
theorem bX11_blind_49 {X : CT} {σ : St} {i1 i2 i3 i5 t0 : Int} 
    (k : G mdX11_blind X 50 [(0, vr 87), (1, vi i1), (2, vi i2), (3, vi i3), (5, vi i5)] [vi 0, vi t0] σ) :
    G mdX11_blind X 49 [(0, vr 87), (1, vi i1), (2, vi i2), (3, vi i3), (5, vi i5)] [vi t0] σ := by
  refine G.iconst dX11_blind_49 ?_
  exact G.pick [0, 1, 2, 3, 5] k
theorem bX11_blind_50 {X : CT} {σ : St} {i1 i2 i3 i5 t0 t1 : Int} 
    (k : G mdX11_blind X 18 [(0, vr 87), (1, vi i1), (2, vi i2), (3, vi i3), (4, vi (t0 + t1)), (5, vi (i5 + 1))] [] σ) :
    G mdX11_blind X 50 [(0, vr 87), (1, vi i1), (2, vi i2), (3, vi i3), (5, vi i5)] [vi t1, vi t0] σ := by
  refine G.iadd dX11_blind_50 ?_
  refine G.istore dX11_blind_51 (by decide) rfl ?_
  refine G.iinc (z := i5) dX11_blind_53 rfl (by decide) rfl ?_
  refine G.goto (tgt := 18) dX11_blind_56 (by decide) ?_
  exact G.pick [0, 1, 2, 3, 4, 5] k
theorem bX11_blind_59 {X : CT} {σ : St} {i1 i2 i3 i4 : Int}  (s : (-2147483648 ≤ i4 ∧ i4 < 2147483648) ∧ (-2147483648 ≤ i2 ∧ i2 < 2147483648))
    (kt : i4 ≤ i2 → G mdX11_blind X 69 [(0, vr 87), (1, vi i1), (2, vi i2), (3, vi i3), (4, vi i4)] [] σ)
    (kf : i2 < i4 → G mdX11_blind X 65 [(0, vr 87), (2, vi i2), (3, vi i3), (4, vi i4)] [] σ) :
    G mdX11_blind X 59 [(0, vr 87), (1, vi i1), (2, vi i2), (3, vi i3), (4, vi i4)] [] σ := by
  refine G.iload (z := i4) dX11_blind_59 rfl ?_
  refine G.iload_n (z := i2) dX11_blind_61 rfl ?_
  exact G.icmp_le (tgt := 69) dX11_blind_62 (by decide) s.1 s.2 (fun q => G.pick [0, 1, 2, 3, 4] (kt q)) (fun q => G.pick [0, 2, 3, 4] (kf q))
theorem bX11_blind_65 {X : CT} {σ : St} {i2 i3 i4 : Int} 
    (k : G mdX11_blind X 70 [(0, vr 87), (2, vi i2), (3, vi i3), (4, vi i4)] [vi i3] σ) :
    G mdX11_blind X 65 [(0, vr 87), (2, vi i2), (3, vi i3), (4, vi i4)] [] σ := by
  refine G.iload_n (z := i3) dX11_blind_65 rfl ?_
  refine G.goto (tgt := 70) dX11_blind_66 (by decide) ?_
  exact G.pick [0, 2, 3, 4] k
theorem bX11_blind_69 {X : CT} {σ : St} {i1 i2 i3 i4 : Int} 
    (k : G mdX11_blind X 70 [(0, vr 87), (2, vi i2), (3, vi i3), (4, vi i4)] [vi i1] σ) :
    G mdX11_blind X 69 [(0, vr 87), (1, vi i1), (2, vi i2), (3, vi i3), (4, vi i4)] [] σ := by
  refine G.iload_n (z := i1) dX11_blind_69 rfl ?_
  exact G.pick [0, 2, 3, 4] k
theorem bX11_blind_70 {X : CT} {σ : St} {i2 i3 i4 t0 : Int}  (s : (-2147483648 ≤ i4 ∧ i4 < 2147483648) ∧ (-2147483648 ≤ i2 ∧ i2 < 2147483648))
    (kt : i4 ≤ i2 → G mdX11_blind X 82 [(0, vr 87), (1, vi t0), (2, vi i2), (3, vi i3)] [] σ)
    (kf : i2 < i4 → G mdX11_blind X 77 [(0, vr 87), (1, vi t0), (3, vi i3), (4, vi i4)] [] σ) :
    G mdX11_blind X 70 [(0, vr 87), (2, vi i2), (3, vi i3), (4, vi i4)] [vi t0] σ := by
  refine G.istore_n dX11_blind_70 (by decide) rfl ?_
  refine G.iload (z := i4) dX11_blind_71 rfl ?_
  refine G.iload_n (z := i2) dX11_blind_73 rfl ?_
  exact G.icmp_le (tgt := 82) dX11_blind_74 (by decide) s.1 s.2 (fun q => G.pick [0, 1, 2, 3] (kt q)) (fun q => G.pick [0, 1, 3, 4] (kf q))
theorem bX11_blind_77 {X : CT} {σ : St} {i1 i3 i4 : Int} 
    (k : G mdX11_blind X 83 [(0, vr 87), (1, vi i1), (3, vi i3)] [vi i4] σ) :
    G mdX11_blind X 77 [(0, vr 87), (1, vi i1), (3, vi i3), (4, vi i4)] [] σ := by
  refine G.iload (z := i4) dX11_blind_77 rfl ?_
  refine G.goto (tgt := 83) dX11_blind_79 (by decide) ?_
  exact G.pick [0, 1, 3] k
theorem bX11_blind_82 {X : CT} {σ : St} {i1 i2 i3 : Int} 
    (k : G mdX11_blind X 83 [(0, vr 87), (1, vi i1), (3, vi i3)] [vi i2] σ) :
    G mdX11_blind X 82 [(0, vr 87), (1, vi i1), (2, vi i2), (3, vi i3)] [] σ := by
  refine G.iload_n (z := i2) dX11_blind_82 rfl ?_
  exact G.pick [0, 1, 3] k
theorem bX11_blind_83 {X : CT} {σ : St} {i1 i3 t0 : Int} 
    (k : G mdX11_blind X 6 [(0, vr 87), (1, vi i1), (2, vi t0), (3, vi (i3 + 1))] [] σ) :
    G mdX11_blind X 83 [(0, vr 87), (1, vi i1), (3, vi i3)] [vi t0] σ := by
  refine G.istore_n dX11_blind_83 (by decide) rfl ?_
  refine G.iinc (z := i3) dX11_blind_84 rfl (by decide) rfl ?_
  refine G.goto (tgt := 6) dX11_blind_87 (by decide) ?_
  exact G.pick [0, 1, 2, 3] k
theorem bX11_blind_90 {X : CT} {σ : St} {i1 : Int} 
    (k : G mdX11_blind X 92 [(0, vr 87), (1, vi i1), (3, vi 0)] [] σ) :
    G mdX11_blind X 90 [(0, vr 87), (1, vi i1)] [] σ := by
  refine G.iconst dX11_blind_90 ?_
  refine G.istore_n dX11_blind_91 (by decide) rfl ?_
  exact G.pick [0, 1, 3] k
theorem bX11_blind_92 {X : CT} {σ : St} {i1 i3 : Int}  (s : (-2147483648 ≤ i3 ∧ i3 < 2147483648))
    (kt : 32 ≤ i3 → G mdX11_blind X 121 [] [] σ)
    (kf : i3 < 32 → G mdX11_blind X 98 [(0, vr 87), (1, vi i1), (3, vi i3)] [] σ) :
    G mdX11_blind X 92 [(0, vr 87), (1, vi i1), (3, vi i3)] [] σ := by
  refine G.iload_n (z := i3) dX11_blind_92 rfl ?_
  refine G.bipush dX11_blind_93 (by decide) ?_
  exact G.icmp_ge (tgt := 121) dX11_blind_95 (by decide) s ⟨by decide, by decide⟩ (fun q => G.pick [] (kt q)) (fun q => G.pick [0, 1, 3] (kf q))
theorem bX11_blind_98 {X : CT} {σ : St} {i1 i3 : Int}  (s : (0 ≤ i3 ∧ i3 < 32) ∧ (0 ≤ i1 * (σ 96 i3) ∧ i1 * (σ 96 i3) < 2147483648))
    (k : G mdX11_blind X 92 [(0, vr 87), (1, vi i1), (3, vi (i3 + 1))] [] (wr σ 96 i3 ((i1 * (σ 96 i3)) % 97))) :
    G mdX11_blind X 98 [(0, vr 87), (1, vi i1), (3, vi i3)] [] σ := by
  refine G.aload_n (o := 87) dX11_blind_98 rfl ?_
  refine G.getR (o' := 96) dX11_blind_99 fX11_36 sh87 rfl ?_
  refine G.iload_n (z := i3) dX11_blind_102 rfl ?_
  refine G.iload_n (z := i1) dX11_blind_103 rfl ?_
  refine G.aload_n (o := 87) dX11_blind_104 rfl ?_
  refine G.getR (o' := 96) dX11_blind_105 fX11_36 sh87 rfl ?_
  refine G.iload_n (z := i3) dX11_blind_108 rfl ?_
  refine G.iald dX11_blind_109 sh96 s.1 ?_
  refine G.imul dX11_blind_110 ?_
  refine G.bipush dX11_blind_111 (by decide) ?_
  refine G.irem dX11_blind_113 s.2 ⟨by decide, by decide⟩ ?_
  refine G.iast dX11_blind_114 sh96 s.1 ?_
  refine G.iinc (z := i3) dX11_blind_115 rfl (by decide) rfl ?_
  refine G.goto (tgt := 92) dX11_blind_118 (by decide) ?_
  exact G.pick [0, 1, 3] k
theorem bX11_blind_121 {X : CT} {σ : St}  {P : St → Prop} (hX : RV X P)
    (k : P σ) :
    G mdX11_blind X 121 [] [] σ := by
  exact G.vret hX dX11_blind_121 rfl k
theorem bX11_mend_0 {X : CT} {σ : St} 
    (k : G mdX11_mend X 2 [(0, vr 87), (1, vi 0)] [] σ) :
    G mdX11_mend X 0 [(0, vr 87)] [] σ := by
  refine G.iconst dX11_mend_0 ?_
  refine G.istore_n dX11_mend_1 (by decide) rfl ?_
  exact G.pick [0, 1] k
theorem bX11_mend_2 {X : CT} {σ : St} {i1 : Int}  (s : (-2147483648 ≤ i1 ∧ i1 < 2147483648))
    (kt : 16 ≤ i1 → G mdX11_mend X 156 [] [] σ)
    (kf : i1 < 16 → G mdX11_mend X 8 [(0, vr 87), (1, vi i1)] [] σ) :
    G mdX11_mend X 2 [(0, vr 87), (1, vi i1)] [] σ := by
  refine G.iload_n (z := i1) dX11_mend_2 rfl ?_
  refine G.bipush dX11_mend_3 (by decide) ?_
  exact G.icmp_ge (tgt := 156) dX11_mend_5 (by decide) s ⟨by decide, by decide⟩ (fun q => G.pick [] (kt q)) (fun q => G.pick [0, 1] (kf q))
theorem bX11_mend_8 {X : CT} {σ : St} {i1 : Int}  {P : Int → St → Prop} (hM : CI mdX11_has [vi (σ 88 32), vi i1] σ P)
    (k : ∀ z σ', inI z → P z σ' → G mdX11_mend X 19 [(0, vr 87), (1, vi i1)] [vi z] (σ')) :
    G mdX11_mend X 8 [(0, vr 87), (1, vi i1)] [] σ := by
  refine G.aload_n (o := 87) dX11_mend_8 rfl ?_
  refine G.getR (o' := 88) dX11_mend_9 fX11_7 sh87 rfl ?_
  refine G.bipush dX11_mend_12 (by decide) ?_
  refine G.iald dX11_mend_14 sh88 ⟨by decide, by decide⟩ ?_
  refine G.iload_n (z := i1) dX11_mend_15 rfl ?_
  exact G.callSI (as := [vi (σ 88 32), vi i1]) (rest := []) dX11_mend_16 rfl vX11_123 (by decide) (Nat.le_of_ble_eq_true rfl) hM (fun z σ' hz q => G.pick [0, 1] (k z σ' hz q))
theorem bX11_mend_19 {X : CT} {σ : St} {i1 t0 : Int}  (s : (-2147483648 ≤ t0 ∧ t0 < 2147483648))
    (kt : t0 = 0 → G mdX11_mend X 150 [(0, vr 87), (1, vi i1)] [] σ)
    (kf : ¬ t0 = 0 → G mdX11_mend X 22 [(0, vr 87), (1, vi i1)] [] σ) :
    G mdX11_mend X 19 [(0, vr 87), (1, vi i1)] [vi t0] σ := by
  exact G.if_eq (tgt := 150) dX11_mend_19 (by decide) s (fun q => G.pick [0, 1] (kt q)) (fun q => G.pick [0, 1] (kf q))
theorem bX11_mend_22 {X : CT} {σ : St} {i1 : Int} 
    (k : G mdX11_mend X 29 [(0, vr 87), (1, vi i1), (2, vi 0), (3, vi (-1)), (4, vi 0)] [] σ) :
    G mdX11_mend X 22 [(0, vr 87), (1, vi i1)] [] σ := by
  refine G.iconst dX11_mend_22 ?_
  refine G.istore_n dX11_mend_23 (by decide) rfl ?_
  refine G.iconst dX11_mend_24 ?_
  refine G.istore_n dX11_mend_25 (by decide) rfl ?_
  refine G.iconst dX11_mend_26 ?_
  refine G.istore dX11_mend_27 (by decide) rfl ?_
  exact G.pick [0, 1, 2, 3, 4] k
theorem bX11_mend_29 {X : CT} {σ : St} {i1 i2 i3 i4 : Int}  (s : (-2147483648 ≤ i4 ∧ i4 < 2147483648))
    (kt : 4 ≤ i4 → G mdX11_mend X 144 [(0, vr 87), (1, vi i1), (2, vi i2)] [] σ)
    (kf : i4 < 4 → G mdX11_mend X 35 [(0, vr 87), (1, vi i1), (2, vi i2), (3, vi i3), (4, vi i4)] [] σ) :
    G mdX11_mend X 29 [(0, vr 87), (1, vi i1), (2, vi i2), (3, vi i3), (4, vi i4)] [] σ := by
  refine G.iload (z := i4) dX11_mend_29 rfl ?_
  refine G.iconst dX11_mend_31 ?_
  exact G.icmp_ge (tgt := 144) dX11_mend_32 (by decide) s ⟨by decide, by decide⟩ (fun q => G.pick [0, 1, 2] (kt q)) (fun q => G.pick [0, 1, 2, 3, 4] (kf q))
theorem bX11_mend_35 {X : CT} {σ : St} {i1 i2 i3 i4 : Int}  {P : Int → St → Prop} (hM : CI mdX11_light [vi i4] σ P) (s : (0 ≤ i1 ∧ i1 < 32))
    (k : ∀ z σ', inI z → P z σ' → G mdX11_mend X 46 [(0, vr 87), (1, vi i1), (2, vi i2), (3, vi i3), (4, vi i4)] [vi z, vi (σ 96 i1)] (σ')) :
    G mdX11_mend X 35 [(0, vr 87), (1, vi i1), (2, vi i2), (3, vi i3), (4, vi i4)] [] σ := by
  refine G.aload_n (o := 87) dX11_mend_35 rfl ?_
  refine G.getR (o' := 96) dX11_mend_36 fX11_36 sh87 rfl ?_
  refine G.iload_n (z := i1) dX11_mend_39 rfl ?_
  refine G.iald dX11_mend_40 sh96 s ?_
  refine G.iload (z := i4) dX11_mend_41 rfl ?_
  exact G.callSI (as := [vi i4]) (rest := [vi (σ 96 i1)]) dX11_mend_43 rfl vX11_67 (by decide) (Nat.le_of_ble_eq_true rfl) hM (fun z σ' hz q => G.pick [0, 1, 2, 3, 4] (k z σ' hz q))
theorem bX11_mend_46 {X : CT} {σ : St} {i1 i2 i3 i4 t0 t1 : Int}  {P : Int → St → Prop} (hM : CI mdX11_decided [vi ((t0 * t1) % 97)] σ P) (s : (0 ≤ t0 * t1 ∧ t0 * t1 < 2147483648))
    (k : ∀ z σ', inI z → P z σ' → G mdX11_mend X 53 [(0, vr 87), (1, vi i1), (2, vi i2), (3, vi i3), (4, vi i4)] [vi z] (σ')) :
    G mdX11_mend X 46 [(0, vr 87), (1, vi i1), (2, vi i2), (3, vi i3), (4, vi i4)] [vi t1, vi t0] σ := by
  refine G.imul dX11_mend_46 ?_
  refine G.bipush dX11_mend_47 (by decide) ?_
  refine G.irem dX11_mend_49 s ⟨by decide, by decide⟩ ?_
  exact G.callSI (as := [vi ((t0 * t1) % 97)]) (rest := []) dX11_mend_50 rfl vX11_168 (by decide) (Nat.le_of_ble_eq_true rfl) hM (fun z σ' hz q => G.pick [0, 1, 2, 3, 4] (k z σ' hz q))
theorem bX11_mend_53 {X : CT} {σ : St} {i1 i2 i3 i4 t0 : Int}  (s : (0 ≤ i1 ∧ i1 < 86) ∧ (-2147483648 ≤ t0 ∧ t0 < 2147483648) ∧ (-2147483648 ≤ σ 88 i1 ∧ σ 88 i1 < 2147483648))
    (kt : ¬ t0 = σ 88 i1 → G mdX11_mend X 66 [(0, vr 87), (1, vi i1), (2, vi i2), (3, vi i3), (4, vi i4)] [] σ)
    (kf : t0 = σ 88 i1 → G mdX11_mend X 62 [(0, vr 87), (1, vi i1), (2, vi i2), (3, vi i3), (4, vi i4)] [] σ) :
    G mdX11_mend X 53 [(0, vr 87), (1, vi i1), (2, vi i2), (3, vi i3), (4, vi i4)] [vi t0] σ := by
  refine G.aload_n (o := 87) dX11_mend_53 rfl ?_
  refine G.getR (o' := 88) dX11_mend_54 fX11_7 sh87 rfl ?_
  refine G.iload_n (z := i1) dX11_mend_57 rfl ?_
  refine G.iald dX11_mend_58 sh88 s.1 ?_
  exact G.icmp_ne (tgt := 66) dX11_mend_59 (by decide) s.2.1 s.2.2 (fun q => G.pick [0, 1, 2, 3, 4] (kt q)) (fun q => G.pick [0, 1, 2, 3, 4] (kf q))
theorem bX11_mend_62 {X : CT} {σ : St} {i1 i2 i3 i4 : Int} 
    (k : G mdX11_mend X 67 [(0, vr 87), (1, vi i1), (2, vi i2), (3, vi i3), (4, vi i4)] [vi 1] σ) :
    G mdX11_mend X 62 [(0, vr 87), (1, vi i1), (2, vi i2), (3, vi i3), (4, vi i4)] [] σ := by
  refine G.iconst dX11_mend_62 ?_
  refine G.goto (tgt := 67) dX11_mend_63 (by decide) ?_
  exact G.pick [0, 1, 2, 3, 4] k
theorem bX11_mend_66 {X : CT} {σ : St} {i1 i2 i3 i4 : Int} 
    (k : G mdX11_mend X 67 [(0, vr 87), (1, vi i1), (2, vi i2), (3, vi i3), (4, vi i4)] [vi 0] σ) :
    G mdX11_mend X 66 [(0, vr 87), (1, vi i1), (2, vi i2), (3, vi i3), (4, vi i4)] [] σ := by
  refine G.iconst dX11_mend_66 ?_
  exact G.pick [0, 1, 2, 3, 4] k
theorem bX11_mend_67 {X : CT} {σ : St} {i1 i2 i3 i4 t0 : Int}  {P : Int → St → Prop} (hM : CI mdX11_light [vi i4] σ P) (s : (0 ≤ 16 + i1 ∧ 16 + i1 < 32))
    (k : ∀ z σ', inI z → P z σ' → G mdX11_mend X 85 [(0, vr 87), (1, vi i1), (2, vi i2), (3, vi i3), (4, vi i4)] [vi z, vi (σ 96 (16 + i1)), vi t0] (σ')) :
    G mdX11_mend X 67 [(0, vr 87), (1, vi i1), (2, vi i2), (3, vi i3), (4, vi i4)] [vi t0] σ := by
  refine G.istore dX11_mend_67 (by decide) rfl ?_
  refine G.iload (z := t0) dX11_mend_69 rfl ?_
  refine G.aload_n (o := 87) dX11_mend_71 rfl ?_
  refine G.getR (o' := 96) dX11_mend_72 fX11_36 sh87 rfl ?_
  refine G.bipush dX11_mend_75 (by decide) ?_
  refine G.iload_n (z := i1) dX11_mend_77 rfl ?_
  refine G.iadd dX11_mend_78 ?_
  refine G.iald dX11_mend_79 sh96 s ?_
  refine G.iload (z := i4) dX11_mend_80 rfl ?_
  exact G.callSI (as := [vi i4]) (rest := [vi (σ 96 (16 + i1)), vi t0]) dX11_mend_82 rfl vX11_67 (by decide) (Nat.le_of_ble_eq_true rfl) hM (fun z σ' hz q => G.pick [0, 1, 2, 3, 4] (k z σ' hz q))
theorem bX11_mend_85 {X : CT} {σ : St} {i1 i2 i3 i4 t0 t1 t2 : Int}  {P : Int → St → Prop} (hM : CI mdX11_decided [vi ((t1 * t2) % 97)] σ P) (s : (0 ≤ t1 * t2 ∧ t1 * t2 < 2147483648))
    (k : ∀ z σ', inI z → P z σ' → G mdX11_mend X 92 [(0, vr 87), (1, vi i1), (2, vi i2), (3, vi i3), (4, vi i4)] [vi z, vi t0] (σ')) :
    G mdX11_mend X 85 [(0, vr 87), (1, vi i1), (2, vi i2), (3, vi i3), (4, vi i4)] [vi t2, vi t1, vi t0] σ := by
  refine G.imul dX11_mend_85 ?_
  refine G.bipush dX11_mend_86 (by decide) ?_
  refine G.irem dX11_mend_88 s ⟨by decide, by decide⟩ ?_
  exact G.callSI (as := [vi ((t1 * t2) % 97)]) (rest := [vi t0]) dX11_mend_89 rfl vX11_168 (by decide) (Nat.le_of_ble_eq_true rfl) hM (fun z σ' hz q => G.pick [0, 1, 2, 3, 4] (k z σ' hz q))
theorem bX11_mend_92 {X : CT} {σ : St} {i1 i2 i3 i4 t0 t1 : Int}  (s : (0 ≤ 16 + i1 ∧ 16 + i1 < 86) ∧ (-2147483648 ≤ t1 ∧ t1 < 2147483648) ∧ (-2147483648 ≤ σ 88 (16 + i1) ∧ σ 88 (16 + i1) < 2147483648))
    (kt : ¬ t1 = σ 88 (16 + i1) → G mdX11_mend X 108 [(0, vr 87), (1, vi i1), (2, vi i2), (3, vi i3), (4, vi i4)] [vi t0] σ)
    (kf : t1 = σ 88 (16 + i1) → G mdX11_mend X 104 [(0, vr 87), (1, vi i1), (2, vi i2), (3, vi i3), (4, vi i4)] [vi t0] σ) :
    G mdX11_mend X 92 [(0, vr 87), (1, vi i1), (2, vi i2), (3, vi i3), (4, vi i4)] [vi t1, vi t0] σ := by
  refine G.aload_n (o := 87) dX11_mend_92 rfl ?_
  refine G.getR (o' := 88) dX11_mend_93 fX11_7 sh87 rfl ?_
  refine G.bipush dX11_mend_96 (by decide) ?_
  refine G.iload_n (z := i1) dX11_mend_98 rfl ?_
  refine G.iadd dX11_mend_99 ?_
  refine G.iald dX11_mend_100 sh88 s.1 ?_
  exact G.icmp_ne (tgt := 108) dX11_mend_101 (by decide) s.2.1 s.2.2 (fun q => G.pick [0, 1, 2, 3, 4] (kt q)) (fun q => G.pick [0, 1, 2, 3, 4] (kf q))
theorem bX11_mend_104 {X : CT} {σ : St} {i1 i2 i3 i4 t0 : Int} 
    (k : G mdX11_mend X 109 [(0, vr 87), (1, vi i1), (2, vi i2), (3, vi i3), (4, vi i4)] [vi 1, vi t0] σ) :
    G mdX11_mend X 104 [(0, vr 87), (1, vi i1), (2, vi i2), (3, vi i3), (4, vi i4)] [vi t0] σ := by
  refine G.iconst dX11_mend_104 ?_
  refine G.goto (tgt := 109) dX11_mend_105 (by decide) ?_
  exact G.pick [0, 1, 2, 3, 4] k
theorem bX11_mend_108 {X : CT} {σ : St} {i1 i2 i3 i4 t0 : Int} 
    (k : G mdX11_mend X 109 [(0, vr 87), (1, vi i1), (2, vi i2), (3, vi i3), (4, vi i4)] [vi 0, vi t0] σ) :
    G mdX11_mend X 108 [(0, vr 87), (1, vi i1), (2, vi i2), (3, vi i3), (4, vi i4)] [vi t0] σ := by
  refine G.iconst dX11_mend_108 ?_
  exact G.pick [0, 1, 2, 3, 4] k
theorem bX11_mend_109 {X : CT} {σ : St} {i1 i2 i3 i4 t0 t1 : Int}  (s : (-2147483648 ≤ t0 + t1 ∧ t0 + t1 < 2147483648) ∧ (-2147483648 ≤ i3 ∧ i3 < 2147483648))
    (kt : t0 + t1 ≤ i3 → G mdX11_mend X 123 [(0, vr 87), (1, vi i1), (2, vi i2), (3, vi i3), (4, vi i4), (5, vi (t0 + t1))] [] σ)
    (kf : i3 < t0 + t1 → G mdX11_mend X 118 [(0, vr 87), (1, vi i1), (3, vi i3), (4, vi i4), (5, vi (t0 + t1))] [] σ) :
    G mdX11_mend X 109 [(0, vr 87), (1, vi i1), (2, vi i2), (3, vi i3), (4, vi i4)] [vi t1, vi t0] σ := by
  refine G.iadd dX11_mend_109 ?_
  refine G.istore dX11_mend_110 (by decide) rfl ?_
  refine G.iload (z := t0 + t1) dX11_mend_112 rfl ?_
  refine G.iload_n (z := i3) dX11_mend_114 rfl ?_
  exact G.icmp_le (tgt := 123) dX11_mend_115 (by decide) s.1 s.2 (fun q => G.pick [0, 1, 2, 3, 4, 5] (kt q)) (fun q => G.pick [0, 1, 3, 4, 5] (kf q))
theorem bX11_mend_118 {X : CT} {σ : St} {i1 i3 i4 i5 : Int} 
    (k : G mdX11_mend X 124 [(0, vr 87), (1, vi i1), (3, vi i3), (4, vi i4), (5, vi i5)] [vi i4] σ) :
    G mdX11_mend X 118 [(0, vr 87), (1, vi i1), (3, vi i3), (4, vi i4), (5, vi i5)] [] σ := by
  refine G.iload (z := i4) dX11_mend_118 rfl ?_
  refine G.goto (tgt := 124) dX11_mend_120 (by decide) ?_
  exact G.pick [0, 1, 3, 4, 5] k
theorem bX11_mend_123 {X : CT} {σ : St} {i1 i2 i3 i4 i5 : Int} 
    (k : G mdX11_mend X 124 [(0, vr 87), (1, vi i1), (3, vi i3), (4, vi i4), (5, vi i5)] [vi i2] σ) :
    G mdX11_mend X 123 [(0, vr 87), (1, vi i1), (2, vi i2), (3, vi i3), (4, vi i4), (5, vi i5)] [] σ := by
  refine G.iload_n (z := i2) dX11_mend_123 rfl ?_
  exact G.pick [0, 1, 3, 4, 5] k
theorem bX11_mend_124 {X : CT} {σ : St} {i1 i3 i4 i5 t0 : Int}  (s : (-2147483648 ≤ i5 ∧ i5 < 2147483648) ∧ (-2147483648 ≤ i3 ∧ i3 < 2147483648))
    (kt : i5 ≤ i3 → G mdX11_mend X 136 [(0, vr 87), (1, vi i1), (2, vi t0), (3, vi i3), (4, vi i4)] [] σ)
    (kf : i3 < i5 → G mdX11_mend X 131 [(0, vr 87), (1, vi i1), (2, vi t0), (4, vi i4), (5, vi i5)] [] σ) :
    G mdX11_mend X 124 [(0, vr 87), (1, vi i1), (3, vi i3), (4, vi i4), (5, vi i5)] [vi t0] σ := by
  refine G.istore_n dX11_mend_124 (by decide) rfl ?_
  refine G.iload (z := i5) dX11_mend_125 rfl ?_
  refine G.iload_n (z := i3) dX11_mend_127 rfl ?_
  exact G.icmp_le (tgt := 136) dX11_mend_128 (by decide) s.1 s.2 (fun q => G.pick [0, 1, 2, 3, 4] (kt q)) (fun q => G.pick [0, 1, 2, 4, 5] (kf q))
theorem bX11_mend_131 {X : CT} {σ : St} {i1 i2 i4 i5 : Int} 
    (k : G mdX11_mend X 137 [(0, vr 87), (1, vi i1), (2, vi i2), (4, vi i4)] [vi i5] σ) :
    G mdX11_mend X 131 [(0, vr 87), (1, vi i1), (2, vi i2), (4, vi i4), (5, vi i5)] [] σ := by
  refine G.iload (z := i5) dX11_mend_131 rfl ?_
  refine G.goto (tgt := 137) dX11_mend_133 (by decide) ?_
  exact G.pick [0, 1, 2, 4] k
theorem bX11_mend_136 {X : CT} {σ : St} {i1 i2 i3 i4 : Int} 
    (k : G mdX11_mend X 137 [(0, vr 87), (1, vi i1), (2, vi i2), (4, vi i4)] [vi i3] σ) :
    G mdX11_mend X 136 [(0, vr 87), (1, vi i1), (2, vi i2), (3, vi i3), (4, vi i4)] [] σ := by
  refine G.iload_n (z := i3) dX11_mend_136 rfl ?_
  exact G.pick [0, 1, 2, 4] k
theorem bX11_mend_137 {X : CT} {σ : St} {i1 i2 i4 t0 : Int} 
    (k : G mdX11_mend X 29 [(0, vr 87), (1, vi i1), (2, vi i2), (3, vi t0), (4, vi (i4 + 1))] [] σ) :
    G mdX11_mend X 137 [(0, vr 87), (1, vi i1), (2, vi i2), (4, vi i4)] [vi t0] σ := by
  refine G.istore_n dX11_mend_137 (by decide) rfl ?_
  refine G.iinc (z := i4) dX11_mend_138 rfl (by decide) rfl ?_
  refine G.goto (tgt := 29) dX11_mend_141 (by decide) ?_
  exact G.pick [0, 1, 2, 3, 4] k
theorem bX11_mend_144 {X : CT} {σ : St} {i1 i2 : Int}  {P : St → Prop} (hM : CV mdX11_mendFrom [vr 87, vi i1, vi i2] σ P)
    (k : ∀ σ', P σ' → G mdX11_mend X 150 [(0, vr 87), (1, vi i1)] [] (σ')) :
    G mdX11_mend X 144 [(0, vr 87), (1, vi i1), (2, vi i2)] [] σ := by
  refine G.aload_n (o := 87) dX11_mend_144 rfl ?_
  refine G.iload_n (z := i1) dX11_mend_145 rfl ?_
  refine G.iload_n (z := i2) dX11_mend_146 rfl ?_
  exact G.callVV (as := [vi i1, vi i2]) (rest := []) dX11_mend_147 rfl vX11_171 (by decide) sh87 rfl (by decide) (Nat.le_of_ble_eq_true rfl) hM (fun σ' q => G.pick [0, 1] (k σ' q))
theorem bX11_mend_150 {X : CT} {σ : St} {i1 : Int} 
    (k : G mdX11_mend X 2 [(0, vr 87), (1, vi (i1 + 1))] [] σ) :
    G mdX11_mend X 150 [(0, vr 87), (1, vi i1)] [] σ := by
  refine G.iinc (z := i1) dX11_mend_150 rfl (by decide) rfl ?_
  refine G.goto (tgt := 2) dX11_mend_153 (by decide) ?_
  exact G.pick [0, 1] k
theorem bX11_mend_156 {X : CT} {σ : St}  {P : St → Prop} (hX : RV X P)
    (k : P σ) :
    G mdX11_mend X 156 [] [] σ := by
  exact G.vret hX dX11_mend_156 rfl k
theorem bX11_mendFrom_0 {X : CT} {σ : St} {i1 i2 : Int} 
    (k : G mdX11_mendFrom X 5 [(0, vr 87), (2, vi i2), (3, vi i1), (4, vi 1)] [] σ) :
    G mdX11_mendFrom X 0 [(0, vr 87), (1, vi i1), (2, vi i2)] [] σ := by
  refine G.iload_n (z := i1) dX11_mendFrom_0 rfl ?_
  refine G.istore_n dX11_mendFrom_1 (by decide) rfl ?_
  refine G.iconst dX11_mendFrom_2 ?_
  refine G.istore dX11_mendFrom_3 (by decide) rfl ?_
  exact G.pick [0, 2, 3, 4] k
theorem bX11_mendFrom_5 {X : CT} {σ : St} {i2 i3 i4 : Int}  (s : (-2147483648 ≤ i4 ∧ i4 < 2147483648))
    (kt : i4 = 0 → G mdX11_mendFrom X 87 [] [] σ)
    (kf : ¬ i4 = 0 → G mdX11_mendFrom X 10 [(0, vr 87), (2, vi i2), (3, vi i3)] [] σ) :
    G mdX11_mendFrom X 5 [(0, vr 87), (2, vi i2), (3, vi i3), (4, vi i4)] [] σ := by
  refine G.iload (z := i4) dX11_mendFrom_5 rfl ?_
  exact G.if_eq (tgt := 87) dX11_mendFrom_7 (by decide) s (fun q => G.pick [] (kt q)) (fun q => G.pick [0, 2, 3] (kf q))
theorem bX11_mendFrom_10 {X : CT} {σ : St} {i2 i3 : Int}  {P : Int → St → Prop} (hM : CI mdX11_light [vi i2] σ P) (s : (0 ≤ i3 ∧ i3 < 32))
    (k : ∀ z σ', inI z → P z σ' → G mdX11_mendFrom X 25 [(0, vr 87), (2, vi i2), (3, vi i3)] [vi z, vi (σ 96 i3), vi i3, vr 96] (σ')) :
    G mdX11_mendFrom X 10 [(0, vr 87), (2, vi i2), (3, vi i3)] [] σ := by
  refine G.aload_n (o := 87) dX11_mendFrom_10 rfl ?_
  refine G.getR (o' := 96) dX11_mendFrom_11 fX11_36 sh87 rfl ?_
  refine G.iload_n (z := i3) dX11_mendFrom_14 rfl ?_
  refine G.aload_n (o := 87) dX11_mendFrom_15 rfl ?_
  refine G.getR (o' := 96) dX11_mendFrom_16 fX11_36 sh87 rfl ?_
  refine G.iload_n (z := i3) dX11_mendFrom_19 rfl ?_
  refine G.iald dX11_mendFrom_20 sh96 s ?_
  refine G.iload_n (z := i2) dX11_mendFrom_21 rfl ?_
  exact G.callSI (as := [vi i2]) (rest := [vi (σ 96 i3), vi i3, vr 96]) dX11_mendFrom_22 rfl vX11_67 (by decide) (Nat.le_of_ble_eq_true rfl) hM (fun z σ' hz q => G.pick [0, 2, 3] (k z σ' hz q))
theorem bX11_mendFrom_25 {X : CT} {σ : St} {i2 i3 t1 t2 t3 : Int}  {P : Int → St → Prop} (hM : CI mdX11_light [vi i2] (wr σ 96 t1 ((t2 * t3) % 97)) P) (s : (0 ≤ t2 * t3 ∧ t2 * t3 < 2147483648) ∧ (0 ≤ t1 ∧ t1 < 32) ∧ (0 ≤ 16 + i3 ∧ 16 + i3 < 32))
    (k : ∀ z σ', inI z → P z σ' → G mdX11_mendFrom X 51 [(0, vr 87), (2, vi i2), (3, vi i3)] [vi z, vi ((wr σ 96 t1 ((t2 * t3) % 97)) 96 (16 + i3)), vi (16 + i3), vr 96] (σ')) :
    G mdX11_mendFrom X 25 [(0, vr 87), (2, vi i2), (3, vi i3)] [vi t3, vi t2, vi t1, vr 96] σ := by
  refine G.imul dX11_mendFrom_25 ?_
  refine G.bipush dX11_mendFrom_26 (by decide) ?_
  refine G.irem dX11_mendFrom_28 s.1 ⟨by decide, by decide⟩ ?_
  refine G.iast dX11_mendFrom_29 sh96 s.2.1 ?_
  refine G.aload_n (o := 87) dX11_mendFrom_30 rfl ?_
  refine G.getR (o' := 96) dX11_mendFrom_31 fX11_36 sh87 rfl ?_
  refine G.bipush dX11_mendFrom_34 (by decide) ?_
  refine G.iload_n (z := i3) dX11_mendFrom_36 rfl ?_
  refine G.iadd dX11_mendFrom_37 ?_
  refine G.aload_n (o := 87) dX11_mendFrom_38 rfl ?_
  refine G.getR (o' := 96) dX11_mendFrom_39 fX11_36 sh87 rfl ?_
  refine G.bipush dX11_mendFrom_42 (by decide) ?_
  refine G.iload_n (z := i3) dX11_mendFrom_44 rfl ?_
  refine G.iadd dX11_mendFrom_45 ?_
  refine G.iald dX11_mendFrom_46 sh96 s.2.2 ?_
  refine G.iload_n (z := i2) dX11_mendFrom_47 rfl ?_
  exact G.callSI (as := [vi i2]) (rest := [vi ((wr σ 96 t1 ((t2 * t3) % 97)) 96 (16 + i3)), vi (16 + i3), vr 96]) dX11_mendFrom_48 rfl vX11_67 (by decide) (Nat.le_of_ble_eq_true rfl) hM (fun z σ' hz q => G.pick [0, 2, 3] (k z σ' hz q))
theorem bX11_mendFrom_51 {X : CT} {σ : St} {i2 i3 t1 t2 t3 : Int}  {P : Int → St → Prop} (hM : CI mdX11_has [vi ((wr σ 96 t1 ((t2 * t3) % 97)) 88 32), vi ((i3 + 1) % 16)] (wr σ 96 t1 ((t2 * t3) % 97)) P) (s : (0 ≤ t2 * t3 ∧ t2 * t3 < 2147483648) ∧ (0 ≤ t1 ∧ t1 < 32) ∧ (0 ≤ i3 + 1 ∧ i3 + 1 < 2147483648))
    (k : ∀ z σ', inI z → P z σ' → G mdX11_mendFrom X 74 [(0, vr 87), (2, vi i2), (3, vi ((i3 + 1) % 16))] [vi z] (σ')) :
    G mdX11_mendFrom X 51 [(0, vr 87), (2, vi i2), (3, vi i3)] [vi t3, vi t2, vi t1, vr 96] σ := by
  refine G.imul dX11_mendFrom_51 ?_
  refine G.bipush dX11_mendFrom_52 (by decide) ?_
  refine G.irem dX11_mendFrom_54 s.1 ⟨by decide, by decide⟩ ?_
  refine G.iast dX11_mendFrom_55 sh96 s.2.1 ?_
  refine G.iload_n (z := i3) dX11_mendFrom_56 rfl ?_
  refine G.iconst dX11_mendFrom_57 ?_
  refine G.iadd dX11_mendFrom_58 ?_
  refine G.bipush dX11_mendFrom_59 (by decide) ?_
  refine G.irem dX11_mendFrom_61 s.2.2 ⟨by decide, by decide⟩ ?_
  refine G.istore_n dX11_mendFrom_62 (by decide) rfl ?_
  refine G.aload_n (o := 87) dX11_mendFrom_63 rfl ?_
  refine G.getR (o' := 88) dX11_mendFrom_64 fX11_7 sh87 rfl ?_
  refine G.bipush dX11_mendFrom_67 (by decide) ?_
  refine G.iald dX11_mendFrom_69 sh88 ⟨by decide, by decide⟩ ?_
  refine G.iload_n (z := (i3 + 1) % 16) dX11_mendFrom_70 rfl ?_
  exact G.callSI (as := [vi ((wr σ 96 t1 ((t2 * t3) % 97)) 88 32), vi ((i3 + 1) % 16)]) (rest := []) dX11_mendFrom_71 rfl vX11_123 (by decide) (Nat.le_of_ble_eq_true rfl) hM (fun z σ' hz q => G.pick [0, 2, 3] (k z σ' hz q))
theorem bX11_mendFrom_74 {X : CT} {σ : St} {i2 i3 t0 : Int}  (s : (-2147483648 ≤ t0 ∧ t0 < 2147483648))
    (kt : ¬ t0 = 0 → G mdX11_mendFrom X 81 [(0, vr 87), (2, vi i2), (3, vi i3)] [] σ)
    (kf : t0 = 0 → G mdX11_mendFrom X 77 [(0, vr 87), (2, vi i2), (3, vi i3)] [] σ) :
    G mdX11_mendFrom X 74 [(0, vr 87), (2, vi i2), (3, vi i3)] [vi t0] σ := by
  exact G.if_ne (tgt := 81) dX11_mendFrom_74 (by decide) s (fun q => G.pick [0, 2, 3] (kt q)) (fun q => G.pick [0, 2, 3] (kf q))
theorem bX11_mendFrom_77 {X : CT} {σ : St} {i2 i3 : Int} 
    (k : G mdX11_mendFrom X 82 [(0, vr 87), (2, vi i2), (3, vi i3)] [vi 1] σ) :
    G mdX11_mendFrom X 77 [(0, vr 87), (2, vi i2), (3, vi i3)] [] σ := by
  refine G.iconst dX11_mendFrom_77 ?_
  refine G.goto (tgt := 82) dX11_mendFrom_78 (by decide) ?_
  exact G.pick [0, 2, 3] k
theorem bX11_mendFrom_81 {X : CT} {σ : St} {i2 i3 : Int} 
    (k : G mdX11_mendFrom X 82 [(0, vr 87), (2, vi i2), (3, vi i3)] [vi 0] σ) :
    G mdX11_mendFrom X 81 [(0, vr 87), (2, vi i2), (3, vi i3)] [] σ := by
  refine G.iconst dX11_mendFrom_81 ?_
  exact G.pick [0, 2, 3] k
theorem bX11_mendFrom_82 {X : CT} {σ : St} {i2 i3 t0 : Int} 
    (k : G mdX11_mendFrom X 5 [(0, vr 87), (2, vi i2), (3, vi i3), (4, vi t0)] [] σ) :
    G mdX11_mendFrom X 82 [(0, vr 87), (2, vi i2), (3, vi i3)] [vi t0] σ := by
  refine G.istore dX11_mendFrom_82 (by decide) rfl ?_
  refine G.goto (tgt := 5) dX11_mendFrom_84 (by decide) ?_
  exact G.pick [0, 2, 3, 4] k
theorem bX11_mendFrom_87 {X : CT} {σ : St}  {P : St → Prop} (hX : RV X P)
    (k : P σ) :
    G mdX11_mendFrom X 87 [] [] σ := by
  exact G.vret hX dX11_mendFrom_87 rfl k
theorem bX11_doDeed_0 {X : CT} {σ : St} {i1 : Int}  (s : (0 ≤ i1 + 1 ∧ i1 + 1 < 86) ∧ (0 ≤ i1 + 2 ∧ i1 + 2 < 86) ∧ (0 ≤ i1 ∧ i1 < 86) ∧ (-2147483648 ≤ σ 88 i1 ∧ σ 88 i1 < 2147483648))
    (k0 : σ 88 i1 = 0 → G mdX11_doDeed X 56 [(0, vr 87), (2, vi (σ 88 (i1 + 1)))] [] σ)
    (k1 : σ 88 i1 = 1 → G mdX11_doDeed X 64 [(0, vr 87), (1, vi i1), (2, vi (σ 88 (i1 + 1))), (3, vi (σ 88 (i1 + 2)))] [] σ)
    (k2 : σ 88 i1 = 2 → G mdX11_doDeed X 89 [(0, vr 87), (2, vi (σ 88 (i1 + 1))), (3, vi (σ 88 (i1 + 2)))] [] σ)
    (k3 : σ 88 i1 = 3 → G mdX11_doDeed X 98 [(0, vr 87), (2, vi (σ 88 (i1 + 1)))] [] σ)
    (kd : σ 88 i1 < 0 ∨ 3 < σ 88 i1 → G mdX11_doDeed X 106 [(0, vr 87), (1, vi i1), (2, vi (σ 88 (i1 + 1))), (3, vi (σ 88 (i1 + 2)))] [] σ) :
    G mdX11_doDeed X 0 [(0, vr 87), (1, vi i1)] [] σ := by
  refine G.aload_n (o := 87) dX11_doDeed_0 rfl ?_
  refine G.getR (o' := 88) dX11_doDeed_1 fX11_7 sh87 rfl ?_
  refine G.iload_n (z := i1) dX11_doDeed_4 rfl ?_
  refine G.iconst dX11_doDeed_5 ?_
  refine G.iadd dX11_doDeed_6 ?_
  refine G.iald dX11_doDeed_7 sh88 s.1 ?_
  refine G.istore_n dX11_doDeed_8 (by decide) rfl ?_
  refine G.aload_n (o := 87) dX11_doDeed_9 rfl ?_
  refine G.getR (o' := 88) dX11_doDeed_10 fX11_7 sh87 rfl ?_
  refine G.iload_n (z := i1) dX11_doDeed_13 rfl ?_
  refine G.iconst dX11_doDeed_14 ?_
  refine G.iadd dX11_doDeed_15 ?_
  refine G.iald dX11_doDeed_16 sh88 s.2.1 ?_
  refine G.istore_n dX11_doDeed_17 (by decide) rfl ?_
  refine G.aload_n (o := 87) dX11_doDeed_18 rfl ?_
  refine G.getR (o' := 88) dX11_doDeed_19 fX11_7 sh87 rfl ?_
  refine G.iload_n (z := i1) dX11_doDeed_22 rfl ?_
  refine G.iald dX11_doDeed_23 sh88 s.2.2.1 ?_
  have hsw : σ 88 i1 = 0 ∨ σ 88 i1 = 1 ∨ σ 88 i1 = 2 ∨ σ 88 i1 = 3 ∨ (σ 88 i1 < 0 ∨ 3 < σ 88 i1) := by omega
  rcases hsw with q | q | q | q | q
  · exact G.tswIn (v := 0) (tgt := 56) dX11_doDeed_24 s.2.2.2 q ⟨by decide, by decide⟩ (off := 32) rfl (by decide) (G.pick [0, 2] (k0 q))
  · exact G.tswIn (v := 1) (tgt := 64) dX11_doDeed_24 s.2.2.2 q ⟨by decide, by decide⟩ (off := 40) rfl (by decide) (G.pick [0, 1, 2, 3] (k1 q))
  · exact G.tswIn (v := 2) (tgt := 89) dX11_doDeed_24 s.2.2.2 q ⟨by decide, by decide⟩ (off := 65) rfl (by decide) (G.pick [0, 2, 3] (k2 q))
  · exact G.tswIn (v := 3) (tgt := 98) dX11_doDeed_24 s.2.2.2 q ⟨by decide, by decide⟩ (off := 74) rfl (by decide) (G.pick [0, 2] (k3 q))
  · exact G.tswOut (tgt := 106) dX11_doDeed_24 s.2.2.2 q (by decide) (G.pick [0, 1, 2, 3] (kd q))
theorem bX11_doDeed_56 {X : CT} {σ : St} {i2 : Int}  {P : St → Prop} (hM : CV mdX11_spread [vr 87, vi i2] σ P)
    (k : ∀ σ', P σ' → G mdX11_doDeed X 61 [] [] (σ')) :
    G mdX11_doDeed X 56 [(0, vr 87), (2, vi i2)] [] σ := by
  refine G.aload_n (o := 87) dX11_doDeed_56 rfl ?_
  refine G.iload_n (z := i2) dX11_doDeed_57 rfl ?_
  exact G.callVV (as := [vi i2]) (rest := []) dX11_doDeed_58 rfl vX11_175 (by decide) sh87 rfl (by decide) (Nat.le_of_ble_eq_true rfl) hM (fun σ' q => G.pick [] (k σ' q))
theorem bX11_doDeed_61 {X : CT} {σ : St} 
    (k : G mdX11_doDeed X 140 [] [] σ) :
    G mdX11_doDeed X 61 [] [] σ := by
  refine G.goto (tgt := 140) dX11_doDeed_61 (by decide) ?_
  exact G.pick [] k
theorem bX11_doDeed_64 {X : CT} {σ : St} {i1 i2 i3 : Int}  {P : St → Prop} (hM : CV mdX11_twist [vr 87, vi i2, vi i3, vi (σ 88 (i1 + 3)), vi (σ 88 (i1 + 4))] σ P) (s : (0 ≤ i1 + 3 ∧ i1 + 3 < 86) ∧ (0 ≤ i1 + 4 ∧ i1 + 4 < 86))
    (k : ∀ σ', P σ' → G mdX11_doDeed X 86 [] [] (σ')) :
    G mdX11_doDeed X 64 [(0, vr 87), (1, vi i1), (2, vi i2), (3, vi i3)] [] σ := by
  refine G.aload_n (o := 87) dX11_doDeed_64 rfl ?_
  refine G.iload_n (z := i2) dX11_doDeed_65 rfl ?_
  refine G.iload_n (z := i3) dX11_doDeed_66 rfl ?_
  refine G.aload_n (o := 87) dX11_doDeed_67 rfl ?_
  refine G.getR (o' := 88) dX11_doDeed_68 fX11_7 sh87 rfl ?_
  refine G.iload_n (z := i1) dX11_doDeed_71 rfl ?_
  refine G.iconst dX11_doDeed_72 ?_
  refine G.iadd dX11_doDeed_73 ?_
  refine G.iald dX11_doDeed_74 sh88 s.1 ?_
  refine G.aload_n (o := 87) dX11_doDeed_75 rfl ?_
  refine G.getR (o' := 88) dX11_doDeed_76 fX11_7 sh87 rfl ?_
  refine G.iload_n (z := i1) dX11_doDeed_79 rfl ?_
  refine G.iconst dX11_doDeed_80 ?_
  refine G.iadd dX11_doDeed_81 ?_
  refine G.iald dX11_doDeed_82 sh88 s.2 ?_
  exact G.callVV (as := [vi i2, vi i3, vi (σ 88 (i1 + 3)), vi (σ 88 (i1 + 4))]) (rest := []) dX11_doDeed_83 rfl vX11_160 (by decide) sh87 rfl (by decide) (Nat.le_of_ble_eq_true rfl) hM (fun σ' q => G.pick [] (k σ' q))
theorem bX11_doDeed_86 {X : CT} {σ : St} 
    (k : G mdX11_doDeed X 140 [] [] σ) :
    G mdX11_doDeed X 86 [] [] σ := by
  refine G.goto (tgt := 140) dX11_doDeed_86 (by decide) ?_
  exact G.pick [] k
theorem bX11_doDeed_89 {X : CT} {σ : St} {i2 i3 : Int}  {P : St → Prop} (hM : CV mdX11_slip [vr 87, vi i2, vi i3] σ P)
    (k : ∀ σ', P σ' → G mdX11_doDeed X 95 [] [] (σ')) :
    G mdX11_doDeed X 89 [(0, vr 87), (2, vi i2), (3, vi i3)] [] σ := by
  refine G.aload_n (o := 87) dX11_doDeed_89 rfl ?_
  refine G.iload_n (z := i2) dX11_doDeed_90 rfl ?_
  refine G.iload_n (z := i3) dX11_doDeed_91 rfl ?_
  exact G.callVV (as := [vi i2, vi i3]) (rest := []) dX11_doDeed_92 rfl vX11_178 (by decide) sh87 rfl (by decide) (Nat.le_of_ble_eq_true rfl) hM (fun σ' q => G.pick [] (k σ' q))
theorem bX11_doDeed_95 {X : CT} {σ : St} 
    (k : G mdX11_doDeed X 140 [] [] σ) :
    G mdX11_doDeed X 95 [] [] σ := by
  refine G.goto (tgt := 140) dX11_doDeed_95 (by decide) ?_
  exact G.pick [] k
theorem bX11_doDeed_98 {X : CT} {σ : St} {i2 : Int}  {P : St → Prop} (hM : CV mdX11_late [vr 87, vi i2] σ P)
    (k : ∀ σ', P σ' → G mdX11_doDeed X 103 [] [] (σ')) :
    G mdX11_doDeed X 98 [(0, vr 87), (2, vi i2)] [] σ := by
  refine G.aload_n (o := 87) dX11_doDeed_98 rfl ?_
  refine G.iload_n (z := i2) dX11_doDeed_99 rfl ?_
  exact G.callVV (as := [vi i2]) (rest := []) dX11_doDeed_100 rfl vX11_181 (by decide) sh87 rfl (by decide) (Nat.le_of_ble_eq_true rfl) hM (fun σ' q => G.pick [] (k σ' q))
theorem bX11_doDeed_103 {X : CT} {σ : St} 
    (k : G mdX11_doDeed X 140 [] [] σ) :
    G mdX11_doDeed X 103 [] [] σ := by
  refine G.goto (tgt := 140) dX11_doDeed_103 (by decide) ?_
  exact G.pick [] k
theorem bX11_doDeed_106 {X : CT} {σ : St} {i1 i2 i3 : Int}  (s : (0 ≤ (16 * i2) + i3 ∧ (16 * i2) + i3 < 32) ∧ (0 ≤ i1 + 3 ∧ i1 + 3 < 86) ∧ (0 ≤ (σ 96 ((16 * i2) + i3)) + (σ 88 (i1 + 3)) ∧ (σ 96 ((16 * i2) + i3)) + (σ 88 (i1 + 3)) < 2147483648))
    (k : G mdX11_doDeed X 140 [] [] (wr σ 96 ((16 * i2) + i3) (((σ 96 ((16 * i2) + i3)) + (σ 88 (i1 + 3))) % 97))) :
    G mdX11_doDeed X 106 [(0, vr 87), (1, vi i1), (2, vi i2), (3, vi i3)] [] σ := by
  refine G.aload_n (o := 87) dX11_doDeed_106 rfl ?_
  refine G.getR (o' := 96) dX11_doDeed_107 fX11_36 sh87 rfl ?_
  refine G.bipush dX11_doDeed_110 (by decide) ?_
  refine G.iload_n (z := i2) dX11_doDeed_112 rfl ?_
  refine G.imul dX11_doDeed_113 ?_
  refine G.iload_n (z := i3) dX11_doDeed_114 rfl ?_
  refine G.iadd dX11_doDeed_115 ?_
  refine G.aload_n (o := 87) dX11_doDeed_116 rfl ?_
  refine G.getR (o' := 96) dX11_doDeed_117 fX11_36 sh87 rfl ?_
  refine G.bipush dX11_doDeed_120 (by decide) ?_
  refine G.iload_n (z := i2) dX11_doDeed_122 rfl ?_
  refine G.imul dX11_doDeed_123 ?_
  refine G.iload_n (z := i3) dX11_doDeed_124 rfl ?_
  refine G.iadd dX11_doDeed_125 ?_
  refine G.iald dX11_doDeed_126 sh96 s.1 ?_
  refine G.aload_n (o := 87) dX11_doDeed_127 rfl ?_
  refine G.getR (o' := 88) dX11_doDeed_128 fX11_7 sh87 rfl ?_
  refine G.iload_n (z := i1) dX11_doDeed_131 rfl ?_
  refine G.iconst dX11_doDeed_132 ?_
  refine G.iadd dX11_doDeed_133 ?_
  refine G.iald dX11_doDeed_134 sh88 s.2.1 ?_
  refine G.iadd dX11_doDeed_135 ?_
  refine G.bipush dX11_doDeed_136 (by decide) ?_
  refine G.irem dX11_doDeed_138 s.2.2 ⟨by decide, by decide⟩ ?_
  refine G.iast dX11_doDeed_139 sh96 s.1 ?_
  exact G.pick [] k
theorem bX11_doDeed_140 {X : CT} {σ : St}  {P : St → Prop} (hX : RV X P)
    (k : P σ) :
    G mdX11_doDeed X 140 [] [] σ := by
  exact G.vret hX dX11_doDeed_140 rfl k
theorem bX11_doStage_0 {X : CT} {σ : St} {i1 : Int}  (s : (0 ≤ i1 ∧ i1 < 86) ∧ (-2147483648 ≤ σ 88 i1 ∧ σ 88 i1 < 2147483648))
    (k0 : σ 88 i1 = 0 → G mdX11_doStage X 36 [(0, vr 87), (1, vi i1)] [] σ)
    (k1 : σ 88 i1 = 1 → G mdX11_doStage X 51 [(0, vr 87), (1, vi i1)] [] σ)
    (k2 : σ 88 i1 = 2 → G mdX11_doStage X 90 [(0, vr 87), (1, vi i1)] [] σ)
    (k3 : σ 88 i1 = 3 → G mdX11_doStage X 108 [(0, vr 87)] [] σ)
    (kd : σ 88 i1 < 0 ∨ 3 < σ 88 i1 → G mdX11_doStage X 115 [(0, vr 87)] [] σ) :
    G mdX11_doStage X 0 [(0, vr 87), (1, vi i1)] [] σ := by
  refine G.aload_n (o := 87) dX11_doStage_0 rfl ?_
  refine G.getR (o' := 88) dX11_doStage_1 fX11_7 sh87 rfl ?_
  refine G.iload_n (z := i1) dX11_doStage_4 rfl ?_
  refine G.iald dX11_doStage_5 sh88 s.1 ?_
  have hsw : σ 88 i1 = 0 ∨ σ 88 i1 = 1 ∨ σ 88 i1 = 2 ∨ σ 88 i1 = 3 ∨ (σ 88 i1 < 0 ∨ 3 < σ 88 i1) := by omega
  rcases hsw with q | q | q | q | q
  · exact G.tswIn (v := 0) (tgt := 36) dX11_doStage_6 s.2 q ⟨by decide, by decide⟩ (off := 30) rfl (by decide) (G.pick [0, 1] (k0 q))
  · exact G.tswIn (v := 1) (tgt := 51) dX11_doStage_6 s.2 q ⟨by decide, by decide⟩ (off := 45) rfl (by decide) (G.pick [0, 1] (k1 q))
  · exact G.tswIn (v := 2) (tgt := 90) dX11_doStage_6 s.2 q ⟨by decide, by decide⟩ (off := 84) rfl (by decide) (G.pick [0, 1] (k2 q))
  · exact G.tswIn (v := 3) (tgt := 108) dX11_doStage_6 s.2 q ⟨by decide, by decide⟩ (off := 102) rfl (by decide) (G.pick [0] (k3 q))
  · exact G.tswOut (tgt := 115) dX11_doStage_6 s.2 q (by decide) (G.pick [0] (kd q))
theorem bX11_doStage_36 {X : CT} {σ : St} {i1 : Int}  {P : St → Prop} (hM : CV mdX11_unspread [vr 87, vi (σ 88 (i1 + 1))] σ P) (s : (0 ≤ i1 + 1 ∧ i1 + 1 < 86))
    (k : ∀ σ', P σ' → G mdX11_doStage X 48 [] [] (σ')) :
    G mdX11_doStage X 36 [(0, vr 87), (1, vi i1)] [] σ := by
  refine G.aload_n (o := 87) dX11_doStage_36 rfl ?_
  refine G.aload_n (o := 87) dX11_doStage_37 rfl ?_
  refine G.getR (o' := 88) dX11_doStage_38 fX11_7 sh87 rfl ?_
  refine G.iload_n (z := i1) dX11_doStage_41 rfl ?_
  refine G.iconst dX11_doStage_42 ?_
  refine G.iadd dX11_doStage_43 ?_
  refine G.iald dX11_doStage_44 sh88 s ?_
  exact G.callVV (as := [vi (σ 88 (i1 + 1))]) (rest := []) dX11_doStage_45 rfl vX11_184 (by decide) sh87 rfl (by decide) (Nat.le_of_ble_eq_true rfl) hM (fun σ' q => G.pick [] (k σ' q))
theorem bX11_doStage_48 {X : CT} {σ : St} 
    (k : G mdX11_doStage X 119 [] [] σ) :
    G mdX11_doStage X 48 [] [] σ := by
  refine G.goto (tgt := 119) dX11_doStage_48 (by decide) ?_
  exact G.pick [] k
theorem bX11_doStage_51 {X : CT} {σ : St} {i1 : Int}  {P : St → Prop} (hM : CV mdX11_untwist [vr 87, vi (σ 88 (i1 + 1)), vi (σ 88 (i1 + 2)), vi (σ 88 (i1 + 3)), vi (σ 88 (i1 + 4))] σ P) (s : (0 ≤ i1 + 1 ∧ i1 + 1 < 86) ∧ (0 ≤ i1 + 2 ∧ i1 + 2 < 86) ∧ (0 ≤ i1 + 3 ∧ i1 + 3 < 86) ∧ (0 ≤ i1 + 4 ∧ i1 + 4 < 86))
    (k : ∀ σ', P σ' → G mdX11_doStage X 87 [] [] (σ')) :
    G mdX11_doStage X 51 [(0, vr 87), (1, vi i1)] [] σ := by
  refine G.aload_n (o := 87) dX11_doStage_51 rfl ?_
  refine G.aload_n (o := 87) dX11_doStage_52 rfl ?_
  refine G.getR (o' := 88) dX11_doStage_53 fX11_7 sh87 rfl ?_
  refine G.iload_n (z := i1) dX11_doStage_56 rfl ?_
  refine G.iconst dX11_doStage_57 ?_
  refine G.iadd dX11_doStage_58 ?_
  refine G.iald dX11_doStage_59 sh88 s.1 ?_
  refine G.aload_n (o := 87) dX11_doStage_60 rfl ?_
  refine G.getR (o' := 88) dX11_doStage_61 fX11_7 sh87 rfl ?_
  refine G.iload_n (z := i1) dX11_doStage_64 rfl ?_
  refine G.iconst dX11_doStage_65 ?_
  refine G.iadd dX11_doStage_66 ?_
  refine G.iald dX11_doStage_67 sh88 s.2.1 ?_
  refine G.aload_n (o := 87) dX11_doStage_68 rfl ?_
  refine G.getR (o' := 88) dX11_doStage_69 fX11_7 sh87 rfl ?_
  refine G.iload_n (z := i1) dX11_doStage_72 rfl ?_
  refine G.iconst dX11_doStage_73 ?_
  refine G.iadd dX11_doStage_74 ?_
  refine G.iald dX11_doStage_75 sh88 s.2.2.1 ?_
  refine G.aload_n (o := 87) dX11_doStage_76 rfl ?_
  refine G.getR (o' := 88) dX11_doStage_77 fX11_7 sh87 rfl ?_
  refine G.iload_n (z := i1) dX11_doStage_80 rfl ?_
  refine G.iconst dX11_doStage_81 ?_
  refine G.iadd dX11_doStage_82 ?_
  refine G.iald dX11_doStage_83 sh88 s.2.2.2 ?_
  exact G.callVV (as := [vi (σ 88 (i1 + 1)), vi (σ 88 (i1 + 2)), vi (σ 88 (i1 + 3)), vi (σ 88 (i1 + 4))]) (rest := []) dX11_doStage_84 rfl vX11_187 (by decide) sh87 rfl (by decide) (Nat.le_of_ble_eq_true rfl) hM (fun σ' q => G.pick [] (k σ' q))
theorem bX11_doStage_87 {X : CT} {σ : St} 
    (k : G mdX11_doStage X 119 [] [] σ) :
    G mdX11_doStage X 87 [] [] σ := by
  refine G.goto (tgt := 119) dX11_doStage_87 (by decide) ?_
  exact G.pick [] k
theorem bX11_doStage_90 {X : CT} {σ : St} {i1 : Int}  {P : St → Prop} (hM : CV mdX11_late [vr 87, vi (16 - (σ 88 (i1 + 1)))] σ P) (s : (0 ≤ i1 + 1 ∧ i1 + 1 < 86))
    (k : ∀ σ', P σ' → G mdX11_doStage X 105 [] [] (σ')) :
    G mdX11_doStage X 90 [(0, vr 87), (1, vi i1)] [] σ := by
  refine G.aload_n (o := 87) dX11_doStage_90 rfl ?_
  refine G.bipush dX11_doStage_91 (by decide) ?_
  refine G.aload_n (o := 87) dX11_doStage_93 rfl ?_
  refine G.getR (o' := 88) dX11_doStage_94 fX11_7 sh87 rfl ?_
  refine G.iload_n (z := i1) dX11_doStage_97 rfl ?_
  refine G.iconst dX11_doStage_98 ?_
  refine G.iadd dX11_doStage_99 ?_
  refine G.iald dX11_doStage_100 sh88 s ?_
  refine G.isub dX11_doStage_101 ?_
  exact G.callVV (as := [vi (16 - (σ 88 (i1 + 1)))]) (rest := []) dX11_doStage_102 rfl vX11_181 (by decide) sh87 rfl (by decide) (Nat.le_of_ble_eq_true rfl) hM (fun σ' q => G.pick [] (k σ' q))
theorem bX11_doStage_105 {X : CT} {σ : St} 
    (k : G mdX11_doStage X 119 [] [] σ) :
    G mdX11_doStage X 105 [] [] σ := by
  refine G.goto (tgt := 119) dX11_doStage_105 (by decide) ?_
  exact G.pick [] k
theorem bX11_doStage_108 {X : CT} {σ : St}  {P : St → Prop} (hM : CV mdX11_blind [vr 87] σ P)
    (k : ∀ σ', P σ' → G mdX11_doStage X 112 [] [] (σ')) :
    G mdX11_doStage X 108 [(0, vr 87)] [] σ := by
  refine G.aload_n (o := 87) dX11_doStage_108 rfl ?_
  exact G.callVV (as := []) (rest := []) dX11_doStage_109 rfl vX11_190 (by decide) sh87 rfl (by decide) (Nat.le_of_ble_eq_true rfl) hM (fun σ' q => G.pick [] (k σ' q))
theorem bX11_doStage_112 {X : CT} {σ : St} 
    (k : G mdX11_doStage X 119 [] [] σ) :
    G mdX11_doStage X 112 [] [] σ := by
  refine G.goto (tgt := 119) dX11_doStage_112 (by decide) ?_
  exact G.pick [] k
theorem bX11_doStage_115 {X : CT} {σ : St}  {P : St → Prop} (hM : CV mdX11_mend [vr 87] σ P)
    (k : ∀ σ', P σ' → G mdX11_doStage X 119 [] [] (σ')) :
    G mdX11_doStage X 115 [(0, vr 87)] [] σ := by
  refine G.aload_n (o := 87) dX11_doStage_115 rfl ?_
  exact G.callVV (as := []) (rest := []) dX11_doStage_116 rfl vX11_193 (by decide) sh87 rfl (by decide) (Nat.le_of_ble_eq_true rfl) hM (fun σ' q => G.pick [] (k σ' q))
theorem bX11_doStage_119 {X : CT} {σ : St}  {P : St → Prop} (hX : RV X P)
    (k : P σ) :
    G mdX11_doStage X 119 [] [] σ := by
  exact G.vret hX dX11_doStage_119 rfl k
theorem bX11_layAir_0 {X : CT} {σ : St} 
    (k : G mdX11_layAir X 2 [(0, vr 87), (1, vi 0)] [] σ) :
    G mdX11_layAir X 0 [(0, vr 87)] [] σ := by
  refine G.iconst dX11_layAir_0 ?_
  refine G.istore_n dX11_layAir_1 (by decide) rfl ?_
  exact G.pick [0, 1] k
theorem bX11_layAir_2 {X : CT} {σ : St} {i1 : Int}  (s : (-2147483648 ≤ i1 ∧ i1 < 2147483648))
    (kt : 32 ≤ i1 → G mdX11_layAir X 29 [(0, vr 87)] [] σ)
    (kf : i1 < 32 → G mdX11_layAir X 8 [(0, vr 87), (1, vi i1)] [] σ) :
    G mdX11_layAir X 2 [(0, vr 87), (1, vi i1)] [] σ := by
  refine G.iload_n (z := i1) dX11_layAir_2 rfl ?_
  refine G.bipush dX11_layAir_3 (by decide) ?_
  exact G.icmp_ge (tgt := 29) dX11_layAir_5 (by decide) s ⟨by decide, by decide⟩ (fun q => G.pick [0] (kt q)) (fun q => G.pick [0, 1] (kf q))
theorem bX11_layAir_8 {X : CT} {σ : St} {i1 : Int}  {P : Int → St → Prop} (hM : CI mdX11_light [vi (σ 88 i1)] σ P) (s : (0 ≤ i1 ∧ i1 < 86))
    (k : ∀ z σ', inI z → P z σ' → G mdX11_layAir X 22 [(0, vr 87), (1, vi i1)] [vi z, vi i1, vr 96] (σ')) :
    G mdX11_layAir X 8 [(0, vr 87), (1, vi i1)] [] σ := by
  refine G.aload_n (o := 87) dX11_layAir_8 rfl ?_
  refine G.getR (o' := 96) dX11_layAir_9 fX11_36 sh87 rfl ?_
  refine G.iload_n (z := i1) dX11_layAir_12 rfl ?_
  refine G.aload_n (o := 87) dX11_layAir_13 rfl ?_
  refine G.getR (o' := 88) dX11_layAir_14 fX11_7 sh87 rfl ?_
  refine G.iload_n (z := i1) dX11_layAir_17 rfl ?_
  refine G.iald dX11_layAir_18 sh88 s ?_
  exact G.callSI (as := [vi (σ 88 i1)]) (rest := [vi i1, vr 96]) dX11_layAir_19 rfl vX11_67 (by decide) (Nat.le_of_ble_eq_true rfl) hM (fun z σ' hz q => G.pick [0, 1] (k z σ' hz q))
theorem bX11_layAir_22 {X : CT} {σ : St} {i1 t1 t2 : Int}  (s : (0 ≤ t1 ∧ t1 < 32))
    (k : G mdX11_layAir X 2 [(0, vr 87), (1, vi (i1 + 1))] [] (wr σ 96 t1 t2)) :
    G mdX11_layAir X 22 [(0, vr 87), (1, vi i1)] [vi t2, vi t1, vr 96] σ := by
  refine G.iast dX11_layAir_22 sh96 s ?_
  refine G.iinc (z := i1) dX11_layAir_23 rfl (by decide) rfl ?_
  refine G.goto (tgt := 2) dX11_layAir_26 (by decide) ?_
  exact G.pick [0, 1] k
theorem bX11_layAir_29 {X : CT} {σ : St} 
    (k : G mdX11_layAir X 31 [(0, vr 87), (1, vi 0)] [] σ) :
    G mdX11_layAir X 29 [(0, vr 87)] [] σ := by
  refine G.iconst dX11_layAir_29 ?_
  refine G.istore_n dX11_layAir_30 (by decide) rfl ?_
  exact G.pick [0, 1] k
theorem bX11_layAir_31 {X : CT} {σ : St} {i1 : Int}  (s : (-2147483648 ≤ i1 ∧ i1 < 2147483648) ∧ (-2147483648 ≤ σ 88 33 ∧ σ 88 33 < 2147483648))
    (kt : σ 88 33 ≤ i1 → G mdX11_layAir X 58 [] [] σ)
    (kf : i1 < σ 88 33 → G mdX11_layAir X 42 [(0, vr 87), (1, vi i1)] [] σ) :
    G mdX11_layAir X 31 [(0, vr 87), (1, vi i1)] [] σ := by
  refine G.iload_n (z := i1) dX11_layAir_31 rfl ?_
  refine G.aload_n (o := 87) dX11_layAir_32 rfl ?_
  refine G.getR (o' := 88) dX11_layAir_33 fX11_7 sh87 rfl ?_
  refine G.bipush dX11_layAir_36 (by decide) ?_
  refine G.iald dX11_layAir_38 sh88 ⟨by decide, by decide⟩ ?_
  exact G.icmp_ge (tgt := 58) dX11_layAir_39 (by decide) s.1 s.2 (fun q => G.pick [] (kt q)) (fun q => G.pick [0, 1] (kf q))
theorem bX11_layAir_42 {X : CT} {σ : St} {i1 : Int}  {P : St → Prop} (hM : CV mdX11_doDeed [vr 87, vi (34 + (5 * i1))] σ P)
    (k : ∀ σ', P σ' → G mdX11_layAir X 52 [(0, vr 87), (1, vi i1)] [] (σ')) :
    G mdX11_layAir X 42 [(0, vr 87), (1, vi i1)] [] σ := by
  refine G.aload_n (o := 87) dX11_layAir_42 rfl ?_
  refine G.bipush dX11_layAir_43 (by decide) ?_
  refine G.iconst dX11_layAir_45 ?_
  refine G.iload_n (z := i1) dX11_layAir_46 rfl ?_
  refine G.imul dX11_layAir_47 ?_
  refine G.iadd dX11_layAir_48 ?_
  exact G.callVV (as := [vi (34 + (5 * i1))]) (rest := []) dX11_layAir_49 rfl vX11_196 (by decide) sh87 rfl (by decide) (Nat.le_of_ble_eq_true rfl) hM (fun σ' q => G.pick [0, 1] (k σ' q))
theorem bX11_layAir_52 {X : CT} {σ : St} {i1 : Int} 
    (k : G mdX11_layAir X 31 [(0, vr 87), (1, vi (i1 + 1))] [] σ) :
    G mdX11_layAir X 52 [(0, vr 87), (1, vi i1)] [] σ := by
  refine G.iinc (z := i1) dX11_layAir_52 rfl (by decide) rfl ?_
  refine G.goto (tgt := 31) dX11_layAir_55 (by decide) ?_
  exact G.pick [0, 1] k
theorem bX11_layAir_58 {X : CT} {σ : St}  {P : St → Prop} (hX : RV X P)
    (k : P σ) :
    G mdX11_layAir X 58 [] [] σ := by
  exact G.vret hX dX11_layAir_58 rfl k
theorem bX11_goThrough_0 {X : CT} {σ : St} {i1 : Int} 
    (k : G mdX11_goThrough X 2 [(0, vr 87), (1, vi i1), (2, vi 0)] [] σ) :
    G mdX11_goThrough X 0 [(0, vr 87), (1, vi i1)] [] σ := by
  refine G.iconst dX11_goThrough_0 ?_
  refine G.istore_n dX11_goThrough_1 (by decide) rfl ?_
  exact G.pick [0, 1, 2] k
theorem bX11_goThrough_2 {X : CT} {σ : St} {i1 i2 : Int}  (s : (-2147483648 ≤ i2 ∧ i2 < 2147483648) ∧ (-2147483648 ≤ i1 ∧ i1 < 2147483648))
    (kt : i1 ≤ i2 → G mdX11_goThrough X 23 [] [] σ)
    (kf : i2 < i1 → G mdX11_goThrough X 7 [(0, vr 87), (1, vi i1), (2, vi i2)] [] σ) :
    G mdX11_goThrough X 2 [(0, vr 87), (1, vi i1), (2, vi i2)] [] σ := by
  refine G.iload_n (z := i2) dX11_goThrough_2 rfl ?_
  refine G.iload_n (z := i1) dX11_goThrough_3 rfl ?_
  exact G.icmp_ge (tgt := 23) dX11_goThrough_4 (by decide) s.1 s.2 (fun q => G.pick [] (kt q)) (fun q => G.pick [0, 1, 2] (kf q))
theorem bX11_goThrough_7 {X : CT} {σ : St} {i1 i2 : Int}  {P : St → Prop} (hM : CV mdX11_doStage [vr 87, vi (65 + (5 * i2))] σ P)
    (k : ∀ σ', P σ' → G mdX11_goThrough X 17 [(0, vr 87), (1, vi i1), (2, vi i2)] [] (σ')) :
    G mdX11_goThrough X 7 [(0, vr 87), (1, vi i1), (2, vi i2)] [] σ := by
  refine G.aload_n (o := 87) dX11_goThrough_7 rfl ?_
  refine G.bipush dX11_goThrough_8 (by decide) ?_
  refine G.iconst dX11_goThrough_10 ?_
  refine G.iload_n (z := i2) dX11_goThrough_11 rfl ?_
  refine G.imul dX11_goThrough_12 ?_
  refine G.iadd dX11_goThrough_13 ?_
  exact G.callVV (as := [vi (65 + (5 * i2))]) (rest := []) dX11_goThrough_14 rfl vX11_199 (by decide) sh87 rfl (by decide) (Nat.le_of_ble_eq_true rfl) hM (fun σ' q => G.pick [0, 1, 2] (k σ' q))
theorem bX11_goThrough_17 {X : CT} {σ : St} {i1 i2 : Int} 
    (k : G mdX11_goThrough X 2 [(0, vr 87), (1, vi i1), (2, vi (i2 + 1))] [] σ) :
    G mdX11_goThrough X 17 [(0, vr 87), (1, vi i1), (2, vi i2)] [] σ := by
  refine G.iinc (z := i2) dX11_goThrough_17 rfl (by decide) rfl ?_
  refine G.goto (tgt := 2) dX11_goThrough_20 (by decide) ?_
  exact G.pick [0, 1, 2] k
theorem bX11_goThrough_23 {X : CT} {σ : St}  {P : St → Prop} (hX : RV X P)
    (k : P σ) :
    G mdX11_goThrough X 23 [] [] σ := by
  exact G.vret hX dX11_goThrough_23 rfl k
theorem bX11_layReceived_0 {X : CT} {σ : St}  {P : St → Prop} (hM : CV mdX11_layAir [vr 87] σ P)
    (k : ∀ σ', P σ' → G mdX11_layReceived X 4 [(0, vr 87)] [] (σ')) :
    G mdX11_layReceived X 0 [(0, vr 87)] [] σ := by
  refine G.aload_n (o := 87) dX11_layReceived_0 rfl ?_
  exact G.callVV (as := []) (rest := []) dX11_layReceived_1 rfl vX11_202 (by decide) sh87 rfl (by decide) (Nat.le_of_ble_eq_true rfl) hM (fun σ' q => G.pick [0] (k σ' q))
theorem bX11_layReceived_4 {X : CT} {σ : St}  {P : St → Prop} (hM : CV mdX11_goThrough [vr 87, vi (σ 88 64)] σ P)
    (k : ∀ σ', P σ' → G mdX11_layReceived X 15 [] [] (σ')) :
    G mdX11_layReceived X 4 [(0, vr 87)] [] σ := by
  refine G.aload_n (o := 87) dX11_layReceived_4 rfl ?_
  refine G.aload_n (o := 87) dX11_layReceived_5 rfl ?_
  refine G.getR (o' := 88) dX11_layReceived_6 fX11_7 sh87 rfl ?_
  refine G.bipush dX11_layReceived_9 (by decide) ?_
  refine G.iald dX11_layReceived_11 sh88 ⟨by decide, by decide⟩ ?_
  exact G.callVV (as := [vi (σ 88 64)]) (rest := []) dX11_layReceived_12 rfl vX11_205 (by decide) sh87 rfl (by decide) (Nat.le_of_ble_eq_true rfl) hM (fun σ' q => G.pick [] (k σ' q))
theorem bX11_layReceived_15 {X : CT} {σ : St}  {P : St → Prop} (hX : RV X P)
    (k : P σ) :
    G mdX11_layReceived X 15 [] [] σ := by
  exact G.vret hX dX11_layReceived_15 rfl k
theorem bX11_wrongNow_0 {X : CT} {σ : St} 
    (k : G mdX11_wrongNow X 4 [(0, vr 87), (1, vi 0), (2, vi 0)] [] σ) :
    G mdX11_wrongNow X 0 [(0, vr 87)] [] σ := by
  refine G.iconst dX11_wrongNow_0 ?_
  refine G.istore_n dX11_wrongNow_1 (by decide) rfl ?_
  refine G.iconst dX11_wrongNow_2 ?_
  refine G.istore_n dX11_wrongNow_3 (by decide) rfl ?_
  exact G.pick [0, 1, 2] k
theorem bX11_wrongNow_4 {X : CT} {σ : St} {i1 i2 : Int}  (s : (-2147483648 ≤ i2 ∧ i2 < 2147483648))
    (kt : 32 ≤ i2 → G mdX11_wrongNow X 42 [(1, vi i1)] [] σ)
    (kf : i2 < 32 → G mdX11_wrongNow X 10 [(0, vr 87), (1, vi i1), (2, vi i2)] [] σ) :
    G mdX11_wrongNow X 4 [(0, vr 87), (1, vi i1), (2, vi i2)] [] σ := by
  refine G.iload_n (z := i2) dX11_wrongNow_4 rfl ?_
  refine G.bipush dX11_wrongNow_5 (by decide) ?_
  exact G.icmp_ge (tgt := 42) dX11_wrongNow_7 (by decide) s ⟨by decide, by decide⟩ (fun q => G.pick [1] (kt q)) (fun q => G.pick [0, 1, 2] (kf q))
theorem bX11_wrongNow_10 {X : CT} {σ : St} {i1 i2 : Int}  {P : Int → St → Prop} (hM : CI mdX11_decided [vi (σ 96 i2)] σ P) (s : (0 ≤ i2 ∧ i2 < 32))
    (k : ∀ z σ', inI z → P z σ' → G mdX11_wrongNow X 20 [(0, vr 87), (2, vi i2)] [vi z, vi i1] (σ')) :
    G mdX11_wrongNow X 10 [(0, vr 87), (1, vi i1), (2, vi i2)] [] σ := by
  refine G.iload_n (z := i1) dX11_wrongNow_10 rfl ?_
  refine G.aload_n (o := 87) dX11_wrongNow_11 rfl ?_
  refine G.getR (o' := 96) dX11_wrongNow_12 fX11_36 sh87 rfl ?_
  refine G.iload_n (z := i2) dX11_wrongNow_15 rfl ?_
  refine G.iald dX11_wrongNow_16 sh96 s ?_
  exact G.callSI (as := [vi (σ 96 i2)]) (rest := [vi i1]) dX11_wrongNow_17 rfl vX11_168 (by decide) (Nat.le_of_ble_eq_true rfl) hM (fun z σ' hz q => G.pick [0, 2] (k z σ' hz q))
theorem bX11_wrongNow_20 {X : CT} {σ : St} {i2 t0 t1 : Int}  (s : (0 ≤ i2 ∧ i2 < 86) ∧ (-2147483648 ≤ t1 ∧ t1 < 2147483648) ∧ (-2147483648 ≤ σ 88 i2 ∧ σ 88 i2 < 2147483648))
    (kt : ¬ t1 = σ 88 i2 → G mdX11_wrongNow X 33 [(0, vr 87), (2, vi i2)] [vi t0] σ)
    (kf : t1 = σ 88 i2 → G mdX11_wrongNow X 29 [(0, vr 87), (2, vi i2)] [vi t0] σ) :
    G mdX11_wrongNow X 20 [(0, vr 87), (2, vi i2)] [vi t1, vi t0] σ := by
  refine G.aload_n (o := 87) dX11_wrongNow_20 rfl ?_
  refine G.getR (o' := 88) dX11_wrongNow_21 fX11_7 sh87 rfl ?_
  refine G.iload_n (z := i2) dX11_wrongNow_24 rfl ?_
  refine G.iald dX11_wrongNow_25 sh88 s.1 ?_
  exact G.icmp_ne (tgt := 33) dX11_wrongNow_26 (by decide) s.2.1 s.2.2 (fun q => G.pick [0, 2] (kt q)) (fun q => G.pick [0, 2] (kf q))
theorem bX11_wrongNow_29 {X : CT} {σ : St} {i2 t0 : Int} 
    (k : G mdX11_wrongNow X 34 [(0, vr 87), (2, vi i2)] [vi 0, vi t0] σ) :
    G mdX11_wrongNow X 29 [(0, vr 87), (2, vi i2)] [vi t0] σ := by
  refine G.iconst dX11_wrongNow_29 ?_
  refine G.goto (tgt := 34) dX11_wrongNow_30 (by decide) ?_
  exact G.pick [0, 2] k
theorem bX11_wrongNow_33 {X : CT} {σ : St} {i2 t0 : Int} 
    (k : G mdX11_wrongNow X 34 [(0, vr 87), (2, vi i2)] [vi 1, vi t0] σ) :
    G mdX11_wrongNow X 33 [(0, vr 87), (2, vi i2)] [vi t0] σ := by
  refine G.iconst dX11_wrongNow_33 ?_
  exact G.pick [0, 2] k
theorem bX11_wrongNow_34 {X : CT} {σ : St} {i2 t0 t1 : Int} 
    (k : G mdX11_wrongNow X 4 [(0, vr 87), (1, vi (t0 + t1)), (2, vi (i2 + 1))] [] σ) :
    G mdX11_wrongNow X 34 [(0, vr 87), (2, vi i2)] [vi t1, vi t0] σ := by
  refine G.iadd dX11_wrongNow_34 ?_
  refine G.istore_n dX11_wrongNow_35 (by decide) rfl ?_
  refine G.iinc (z := i2) dX11_wrongNow_36 rfl (by decide) rfl ?_
  refine G.goto (tgt := 4) dX11_wrongNow_39 (by decide) ?_
  exact G.pick [0, 1, 2] k
theorem bX11_wrongNow_42 {X : CT} {σ : St} {i1 : Int}  {P : Int → St → Prop} (hX : RI X P) (s : (-2147483648 ≤ i1 ∧ i1 < 2147483648))
    (k : P i1 σ) :
    G mdX11_wrongNow X 42 [(1, vi i1)] [] σ := by
  refine G.iload_n (z := i1) dX11_wrongNow_42 rfl ?_
  exact G.iret hX dX11_wrongNow_43 rfl s k
theorem bX11_wrongAtMarks_0 {X : CT} {σ : St} 
    (k : G mdX11_wrongAtMarks X 4 [(0, vr 87), (1, vi 0), (2, vi 0)] [] σ) :
    G mdX11_wrongAtMarks X 0 [(0, vr 87)] [] σ := by
  refine G.iconst dX11_wrongAtMarks_0 ?_
  refine G.istore_n dX11_wrongAtMarks_1 (by decide) rfl ?_
  refine G.iconst dX11_wrongAtMarks_2 ?_
  refine G.istore_n dX11_wrongAtMarks_3 (by decide) rfl ?_
  exact G.pick [0, 1, 2] k
theorem bX11_wrongAtMarks_4 {X : CT} {σ : St} {i1 i2 : Int}  (s : (-2147483648 ≤ i2 ∧ i2 < 2147483648))
    (kt : 32 ≤ i2 → G mdX11_wrongAtMarks X 59 [(1, vi i1)] [] σ)
    (kf : i2 < 32 → G mdX11_wrongAtMarks X 10 [(0, vr 87), (1, vi i1), (2, vi i2)] [] σ) :
    G mdX11_wrongAtMarks X 4 [(0, vr 87), (1, vi i1), (2, vi i2)] [] σ := by
  refine G.iload_n (z := i2) dX11_wrongAtMarks_4 rfl ?_
  refine G.bipush dX11_wrongAtMarks_5 (by decide) ?_
  exact G.icmp_ge (tgt := 59) dX11_wrongAtMarks_7 (by decide) s ⟨by decide, by decide⟩ (fun q => G.pick [1] (kt q)) (fun q => G.pick [0, 1, 2] (kf q))
theorem bX11_wrongAtMarks_10 {X : CT} {σ : St} {i1 i2 : Int}  {P : Int → St → Prop} (hM : CI mdX11_has [vi (σ 88 32), vi (i2 % 16)] σ P) (s : (0 ≤ i2 ∧ i2 < 2147483648))
    (k : ∀ z σ', inI z → P z σ' → G mdX11_wrongAtMarks X 25 [(0, vr 87), (2, vi i2)] [vi z, vi i1] (σ')) :
    G mdX11_wrongAtMarks X 10 [(0, vr 87), (1, vi i1), (2, vi i2)] [] σ := by
  refine G.iload_n (z := i1) dX11_wrongAtMarks_10 rfl ?_
  refine G.aload_n (o := 87) dX11_wrongAtMarks_11 rfl ?_
  refine G.getR (o' := 88) dX11_wrongAtMarks_12 fX11_7 sh87 rfl ?_
  refine G.bipush dX11_wrongAtMarks_15 (by decide) ?_
  refine G.iald dX11_wrongAtMarks_17 sh88 ⟨by decide, by decide⟩ ?_
  refine G.iload_n (z := i2) dX11_wrongAtMarks_18 rfl ?_
  refine G.bipush dX11_wrongAtMarks_19 (by decide) ?_
  refine G.irem dX11_wrongAtMarks_21 s ⟨by decide, by decide⟩ ?_
  exact G.callSI (as := [vi (σ 88 32), vi (i2 % 16)]) (rest := [vi i1]) dX11_wrongAtMarks_22 rfl vX11_123 (by decide) (Nat.le_of_ble_eq_true rfl) hM (fun z σ' hz q => G.pick [0, 2] (k z σ' hz q))
theorem bX11_wrongAtMarks_25 {X : CT} {σ : St} {i2 t0 t1 : Int}  (s : (-2147483648 ≤ t1 ∧ t1 < 2147483648))
    (kt : t1 = 0 → G mdX11_wrongAtMarks X 50 [(0, vr 87), (2, vi i2)] [vi t0] σ)
    (kf : ¬ t1 = 0 → G mdX11_wrongAtMarks X 28 [(0, vr 87), (2, vi i2)] [vi t0] σ) :
    G mdX11_wrongAtMarks X 25 [(0, vr 87), (2, vi i2)] [vi t1, vi t0] σ := by
  exact G.if_eq (tgt := 50) dX11_wrongAtMarks_25 (by decide) s (fun q => G.pick [0, 2] (kt q)) (fun q => G.pick [0, 2] (kf q))
theorem bX11_wrongAtMarks_28 {X : CT} {σ : St} {i2 t0 : Int}  {P : Int → St → Prop} (hM : CI mdX11_decided [vi (σ 96 i2)] σ P) (s : (0 ≤ i2 ∧ i2 < 32))
    (k : ∀ z σ', inI z → P z σ' → G mdX11_wrongAtMarks X 37 [(0, vr 87), (2, vi i2)] [vi z, vi t0] (σ')) :
    G mdX11_wrongAtMarks X 28 [(0, vr 87), (2, vi i2)] [vi t0] σ := by
  refine G.aload_n (o := 87) dX11_wrongAtMarks_28 rfl ?_
  refine G.getR (o' := 96) dX11_wrongAtMarks_29 fX11_36 sh87 rfl ?_
  refine G.iload_n (z := i2) dX11_wrongAtMarks_32 rfl ?_
  refine G.iald dX11_wrongAtMarks_33 sh96 s ?_
  exact G.callSI (as := [vi (σ 96 i2)]) (rest := [vi t0]) dX11_wrongAtMarks_34 rfl vX11_168 (by decide) (Nat.le_of_ble_eq_true rfl) hM (fun z σ' hz q => G.pick [0, 2] (k z σ' hz q))
theorem bX11_wrongAtMarks_37 {X : CT} {σ : St} {i2 t0 t1 : Int}  (s : (0 ≤ i2 ∧ i2 < 86) ∧ (-2147483648 ≤ t1 ∧ t1 < 2147483648) ∧ (-2147483648 ≤ σ 88 i2 ∧ σ 88 i2 < 2147483648))
    (kt : t1 = σ 88 i2 → G mdX11_wrongAtMarks X 50 [(0, vr 87), (2, vi i2)] [vi t0] σ)
    (kf : ¬ t1 = σ 88 i2 → G mdX11_wrongAtMarks X 46 [(0, vr 87), (2, vi i2)] [vi t0] σ) :
    G mdX11_wrongAtMarks X 37 [(0, vr 87), (2, vi i2)] [vi t1, vi t0] σ := by
  refine G.aload_n (o := 87) dX11_wrongAtMarks_37 rfl ?_
  refine G.getR (o' := 88) dX11_wrongAtMarks_38 fX11_7 sh87 rfl ?_
  refine G.iload_n (z := i2) dX11_wrongAtMarks_41 rfl ?_
  refine G.iald dX11_wrongAtMarks_42 sh88 s.1 ?_
  exact G.icmp_eq (tgt := 50) dX11_wrongAtMarks_43 (by decide) s.2.1 s.2.2 (fun q => G.pick [0, 2] (kt q)) (fun q => G.pick [0, 2] (kf q))
theorem bX11_wrongAtMarks_46 {X : CT} {σ : St} {i2 t0 : Int} 
    (k : G mdX11_wrongAtMarks X 51 [(0, vr 87), (2, vi i2)] [vi 1, vi t0] σ) :
    G mdX11_wrongAtMarks X 46 [(0, vr 87), (2, vi i2)] [vi t0] σ := by
  refine G.iconst dX11_wrongAtMarks_46 ?_
  refine G.goto (tgt := 51) dX11_wrongAtMarks_47 (by decide) ?_
  exact G.pick [0, 2] k
theorem bX11_wrongAtMarks_50 {X : CT} {σ : St} {i2 t0 : Int} 
    (k : G mdX11_wrongAtMarks X 51 [(0, vr 87), (2, vi i2)] [vi 0, vi t0] σ) :
    G mdX11_wrongAtMarks X 50 [(0, vr 87), (2, vi i2)] [vi t0] σ := by
  refine G.iconst dX11_wrongAtMarks_50 ?_
  exact G.pick [0, 2] k
theorem bX11_wrongAtMarks_51 {X : CT} {σ : St} {i2 t0 t1 : Int} 
    (k : G mdX11_wrongAtMarks X 4 [(0, vr 87), (1, vi (t0 + t1)), (2, vi (i2 + 1))] [] σ) :
    G mdX11_wrongAtMarks X 51 [(0, vr 87), (2, vi i2)] [vi t1, vi t0] σ := by
  refine G.iadd dX11_wrongAtMarks_51 ?_
  refine G.istore_n dX11_wrongAtMarks_52 (by decide) rfl ?_
  refine G.iinc (z := i2) dX11_wrongAtMarks_53 rfl (by decide) rfl ?_
  refine G.goto (tgt := 4) dX11_wrongAtMarks_56 (by decide) ?_
  exact G.pick [0, 1, 2] k
theorem bX11_wrongAtMarks_59 {X : CT} {σ : St} {i1 : Int}  {P : Int → St → Prop} (hX : RI X P) (s : (-2147483648 ≤ i1 ∧ i1 < 2147483648))
    (k : P i1 σ) :
    G mdX11_wrongAtMarks X 59 [(1, vi i1)] [] σ := by
  refine G.iload_n (z := i1) dX11_wrongAtMarks_59 rfl ?_
  exact G.iret hX dX11_wrongAtMarks_60 rfl s k
theorem bX11_wrongReceived_0 {X : CT} {σ : St}  {P : St → Prop} (hM : CV mdX11_layReceived [vr 87] σ P)
    (k : ∀ σ', P σ' → G mdX11_wrongReceived X 4 [(0, vr 87)] [] (σ')) :
    G mdX11_wrongReceived X 0 [(0, vr 87)] [] σ := by
  refine G.aload_n (o := 87) dX11_wrongReceived_0 rfl ?_
  exact G.callVV (as := []) (rest := []) dX11_wrongReceived_1 rfl vX11_208 (by decide) sh87 rfl (by decide) (Nat.le_of_ble_eq_true rfl) hM (fun σ' q => G.pick [0] (k σ' q))
theorem bX11_wrongReceived_4 {X : CT} {σ : St}  {P : Int → St → Prop} (hM : CI mdX11_wrongNow [vr 87] σ P)
    (k : ∀ z σ', inI z → P z σ' → G mdX11_wrongReceived X 8 [] [vi z] (σ')) :
    G mdX11_wrongReceived X 4 [(0, vr 87)] [] σ := by
  refine G.aload_n (o := 87) dX11_wrongReceived_4 rfl ?_
  exact G.callVI (as := []) (rest := []) dX11_wrongReceived_5 rfl vX11_211 (by decide) sh87 rfl (by decide) (Nat.le_of_ble_eq_true rfl) hM (fun z σ' hz q => G.pick [] (k z σ' hz q))
theorem bX11_wrongReceived_8 {X : CT} {σ : St} {t0 : Int}  {P : Int → St → Prop} (hX : RI X P) (s : (-2147483648 ≤ t0 ∧ t0 < 2147483648))
    (k : P t0 σ) :
    G mdX11_wrongReceived X 8 [] [vi t0] σ := by
  exact G.iret hX dX11_wrongReceived_8 rfl s k
theorem bX11_stages_0 {X : CT} {σ : St} {i1 i2 i3 i4 i5 : Int}  {P : Int → St → Prop} (hM : CI mdX11_isStage [vi i1, vi i2, vi i3, vi i4, vi i5] σ P)
    (k : ∀ z σ', inI z → P z σ' → G mdX11_stages X 10 [(0, vr 87), (1, vi i1), (2, vi i2), (3, vi i3), (4, vi i4), (5, vi i5)] [vi z] (σ')) :
    G mdX11_stages X 0 [(0, vr 87), (1, vi i1), (2, vi i2), (3, vi i3), (4, vi i4), (5, vi i5)] [] σ := by
  refine G.iload_n (z := i1) dX11_stages_0 rfl ?_
  refine G.iload_n (z := i2) dX11_stages_1 rfl ?_
  refine G.iload_n (z := i3) dX11_stages_2 rfl ?_
  refine G.iload (z := i4) dX11_stages_3 rfl ?_
  refine G.iload (z := i5) dX11_stages_5 rfl ?_
  exact G.callSI (as := [vi i1, vi i2, vi i3, vi i4, vi i5]) (rest := []) dX11_stages_7 rfl vX11_214 (by decide) (Nat.le_of_ble_eq_true rfl) hM (fun z σ' hz q => G.pick [0, 1, 2, 3, 4, 5] (k z σ' hz q))
theorem bX11_stages_10 {X : CT} {σ : St} {i1 i2 i3 i4 i5 t0 : Int}  (s : (-2147483648 ≤ t0 ∧ t0 < 2147483648))
    (kt : ¬ t0 = 0 → G mdX11_stages X 15 [(0, vr 87), (1, vi i1), (2, vi i2), (3, vi i3), (4, vi i4), (5, vi i5)] [] σ)
    (kf : t0 = 0 → G mdX11_stages X 13 [] [] σ) :
    G mdX11_stages X 10 [(0, vr 87), (1, vi i1), (2, vi i2), (3, vi i3), (4, vi i4), (5, vi i5)] [vi t0] σ := by
  exact G.if_ne (tgt := 15) dX11_stages_10 (by decide) s (fun q => G.pick [0, 1, 2, 3, 4, 5] (kt q)) (fun q => G.pick [] (kf q))
theorem bX11_stages_13 {X : CT} {σ : St}  {P : Int → St → Prop} (hX : RI X P)
    (k : P (-1) σ) :
    G mdX11_stages X 13 [] [] σ := by
  refine G.iconst dX11_stages_13 ?_
  exact G.iret hX dX11_stages_14 rfl ⟨by decide, by decide⟩ k
theorem bX11_stages_15 {X : CT} {σ : St} {i1 i2 i3 i4 i5 : Int}  (s : (-2147483648 ≤ σ 88 64 ∧ σ 88 64 < 2147483648))
    (kt : ¬ σ 88 64 = 4 → G mdX11_stages X 29 [(0, vr 87), (1, vi i1), (2, vi i2), (3, vi i3), (4, vi i4), (5, vi i5)] [] σ)
    (kf : σ 88 64 = 4 → G mdX11_stages X 26 [] [] σ) :
    G mdX11_stages X 15 [(0, vr 87), (1, vi i1), (2, vi i2), (3, vi i3), (4, vi i4), (5, vi i5)] [] σ := by
  refine G.aload_n (o := 87) dX11_stages_15 rfl ?_
  refine G.getR (o' := 88) dX11_stages_16 fX11_7 sh87 rfl ?_
  refine G.bipush dX11_stages_19 (by decide) ?_
  refine G.iald dX11_stages_21 sh88 ⟨by decide, by decide⟩ ?_
  refine G.iconst dX11_stages_22 ?_
  exact G.icmp_ne (tgt := 29) dX11_stages_23 (by decide) s ⟨by decide, by decide⟩ (fun q => G.pick [0, 1, 2, 3, 4, 5] (kt q)) (fun q => G.pick [] (kf q))
theorem bX11_stages_26 {X : CT} {σ : St}  {P : Int → St → Prop} (hX : RI X P)
    (k : P (-3) σ) :
    G mdX11_stages X 26 [] [] σ := by
  refine G.bipush dX11_stages_26 (by decide) ?_
  exact G.iret hX dX11_stages_28 rfl ⟨by decide, by decide⟩ k
theorem bX11_stages_29 {X : CT} {σ : St} {i1 i2 i3 i4 i5 : Int}  {P : St → Prop} (hM : CV mdX11_note [vr 87] σ P)
    (k : ∀ σ', P σ' → G mdX11_stages X 33 [(0, vr 87), (1, vi i1), (2, vi i2), (3, vi i3), (4, vi i4), (5, vi i5)] [] (σ')) :
    G mdX11_stages X 29 [(0, vr 87), (1, vi i1), (2, vi i2), (3, vi i3), (4, vi i4), (5, vi i5)] [] σ := by
  refine G.aload_n (o := 87) dX11_stages_29 rfl ?_
  exact G.callVV (as := []) (rest := []) dX11_stages_30 rfl vX11_140 (by decide) sh87 rfl (by decide) (Nat.le_of_ble_eq_true rfl) hM (fun σ' q => G.pick [0, 1, 2, 3, 4, 5] (k σ' q))
theorem bX11_stages_33 {X : CT} {σ : St} {i1 i2 i3 i4 i5 : Int}  {P : St → Prop} (hM : CV mdX11_lay [vr 87, vi (65 + (5 * (σ 88 64))), vi i1, vi i2, vi i3, vi i4, vi i5] σ P)
    (k : ∀ σ', P σ' → G mdX11_stages X 56 [(0, vr 87)] [] (σ')) :
    G mdX11_stages X 33 [(0, vr 87), (1, vi i1), (2, vi i2), (3, vi i3), (4, vi i4), (5, vi i5)] [] σ := by
  refine G.aload_n (o := 87) dX11_stages_33 rfl ?_
  refine G.bipush dX11_stages_34 (by decide) ?_
  refine G.iconst dX11_stages_36 ?_
  refine G.aload_n (o := 87) dX11_stages_37 rfl ?_
  refine G.getR (o' := 88) dX11_stages_38 fX11_7 sh87 rfl ?_
  refine G.bipush dX11_stages_41 (by decide) ?_
  refine G.iald dX11_stages_43 sh88 ⟨by decide, by decide⟩ ?_
  refine G.imul dX11_stages_44 ?_
  refine G.iadd dX11_stages_45 ?_
  refine G.iload_n (z := i1) dX11_stages_46 rfl ?_
  refine G.iload_n (z := i2) dX11_stages_47 rfl ?_
  refine G.iload_n (z := i3) dX11_stages_48 rfl ?_
  refine G.iload (z := i4) dX11_stages_49 rfl ?_
  refine G.iload (z := i5) dX11_stages_51 rfl ?_
  exact G.callVV (as := [vi (65 + (5 * (σ 88 64))), vi i1, vi i2, vi i3, vi i4, vi i5]) (rest := []) dX11_stages_53 rfl vX11_150 (by decide) sh87 rfl (by decide) (Nat.le_of_ble_eq_true rfl) hM (fun σ' q => G.pick [0] (k σ' q))
theorem bX11_stages_56 {X : CT} {σ : St}  {P : Int → St → Prop} (hX : RI X P) (s : (-2147483648 ≤ (wr σ 88 64 ((σ 88 64) + 1)) 88 64 ∧ (wr σ 88 64 ((σ 88 64) + 1)) 88 64 < 2147483648))
    (k : P ((wr σ 88 64 ((σ 88 64) + 1)) 88 64) (wr σ 88 64 ((σ 88 64) + 1))) :
    G mdX11_stages X 56 [(0, vr 87)] [] σ := by
  refine G.aload_n (o := 87) dX11_stages_56 rfl ?_
  refine G.getR (o' := 88) dX11_stages_57 fX11_7 sh87 rfl ?_
  refine G.bipush dX11_stages_60 (by decide) ?_
  refine G.dup2 dX11_stages_62 ?_
  refine G.iald dX11_stages_63 sh88 ⟨by decide, by decide⟩ ?_
  refine G.iconst dX11_stages_64 ?_
  refine G.iadd dX11_stages_65 ?_
  refine G.iast dX11_stages_66 sh88 ⟨by decide, by decide⟩ ?_
  refine G.aload_n (o := 87) dX11_stages_67 rfl ?_
  refine G.getR (o' := 88) dX11_stages_68 fX11_7 sh87 rfl ?_
  refine G.bipush dX11_stages_71 (by decide) ?_
  refine G.iald dX11_stages_73 sh88 ⟨by decide, by decide⟩ ?_
  exact G.iret hX dX11_stages_74 rfl s k
theorem bX11_drops_0 {X : CT} {σ : St} {i1 : Int}  {P : Int → St → Prop} (hM : CI mdX11_in [vi i1, vi 0, vi ((σ 88 64) - 1)] σ P)
    (k : ∀ z σ', inI z → P z σ' → G mdX11_drops X 14 [(0, vr 87), (1, vi i1)] [vi z] (σ')) :
    G mdX11_drops X 0 [(0, vr 87), (1, vi i1)] [] σ := by
  refine G.iload_n (z := i1) dX11_drops_0 rfl ?_
  refine G.iconst dX11_drops_1 ?_
  refine G.aload_n (o := 87) dX11_drops_2 rfl ?_
  refine G.getR (o' := 88) dX11_drops_3 fX11_7 sh87 rfl ?_
  refine G.bipush dX11_drops_6 (by decide) ?_
  refine G.iald dX11_drops_8 sh88 ⟨by decide, by decide⟩ ?_
  refine G.iconst dX11_drops_9 ?_
  refine G.isub dX11_drops_10 ?_
  exact G.callSI (as := [vi i1, vi 0, vi ((σ 88 64) - 1)]) (rest := []) dX11_drops_11 rfl vX11_82 (by decide) (Nat.le_of_ble_eq_true rfl) hM (fun z σ' hz q => G.pick [0, 1] (k z σ' hz q))
theorem bX11_drops_14 {X : CT} {σ : St} {i1 t0 : Int}  (s : (-2147483648 ≤ t0 ∧ t0 < 2147483648))
    (kt : ¬ t0 = 0 → G mdX11_drops X 19 [(0, vr 87), (1, vi i1)] [] σ)
    (kf : t0 = 0 → G mdX11_drops X 17 [] [] σ) :
    G mdX11_drops X 14 [(0, vr 87), (1, vi i1)] [vi t0] σ := by
  exact G.if_ne (tgt := 19) dX11_drops_14 (by decide) s (fun q => G.pick [0, 1] (kt q)) (fun q => G.pick [] (kf q))
theorem bX11_drops_17 {X : CT} {σ : St}  {P : Int → St → Prop} (hX : RI X P)
    (k : P (-1) σ) :
    G mdX11_drops X 17 [] [] σ := by
  refine G.iconst dX11_drops_17 ?_
  exact G.iret hX dX11_drops_18 rfl ⟨by decide, by decide⟩ k
theorem bX11_drops_19 {X : CT} {σ : St} {i1 : Int}  {P : St → Prop} (hM : CV mdX11_note [vr 87] σ P)
    (k : ∀ σ', P σ' → G mdX11_drops X 23 [(0, vr 87), (1, vi i1)] [] (σ')) :
    G mdX11_drops X 19 [(0, vr 87), (1, vi i1)] [] σ := by
  refine G.aload_n (o := 87) dX11_drops_19 rfl ?_
  exact G.callVV (as := []) (rest := []) dX11_drops_20 rfl vX11_140 (by decide) sh87 rfl (by decide) (Nat.le_of_ble_eq_true rfl) hM (fun σ' q => G.pick [0, 1] (k σ' q))
theorem bX11_drops_23 {X : CT} {σ : St} {i1 : Int} 
    (k : G mdX11_drops X 30 [(0, vr 87), (2, vi (65 + (5 * i1)))] [] σ) :
    G mdX11_drops X 23 [(0, vr 87), (1, vi i1)] [] σ := by
  refine G.bipush dX11_drops_23 (by decide) ?_
  refine G.iconst dX11_drops_25 ?_
  refine G.iload_n (z := i1) dX11_drops_26 rfl ?_
  refine G.imul dX11_drops_27 ?_
  refine G.iadd dX11_drops_28 ?_
  refine G.istore_n dX11_drops_29 (by decide) rfl ?_
  exact G.pick [0, 2] k
theorem bX11_drops_30 {X : CT} {σ : St} {i2 : Int}  (s : (-2147483648 ≤ i2 ∧ i2 < 2147483648))
    (kt : 80 ≤ i2 → G mdX11_drops X 56 [(0, vr 87)] [] σ)
    (kf : i2 < 80 → G mdX11_drops X 36 [(0, vr 87), (2, vi i2)] [] σ) :
    G mdX11_drops X 30 [(0, vr 87), (2, vi i2)] [] σ := by
  refine G.iload_n (z := i2) dX11_drops_30 rfl ?_
  refine G.bipush dX11_drops_31 (by decide) ?_
  exact G.icmp_ge (tgt := 56) dX11_drops_33 (by decide) s ⟨by decide, by decide⟩ (fun q => G.pick [0] (kt q)) (fun q => G.pick [0, 2] (kf q))
theorem bX11_drops_36 {X : CT} {σ : St} {i2 : Int}  (s : (0 ≤ i2 + 5 ∧ i2 + 5 < 86) ∧ (0 ≤ i2 ∧ i2 < 86))
    (k : G mdX11_drops X 30 [(0, vr 87), (2, vi (i2 + 1))] [] (wr σ 88 i2 (σ 88 (i2 + 5)))) :
    G mdX11_drops X 36 [(0, vr 87), (2, vi i2)] [] σ := by
  refine G.aload_n (o := 87) dX11_drops_36 rfl ?_
  refine G.getR (o' := 88) dX11_drops_37 fX11_7 sh87 rfl ?_
  refine G.iload_n (z := i2) dX11_drops_40 rfl ?_
  refine G.aload_n (o := 87) dX11_drops_41 rfl ?_
  refine G.getR (o' := 88) dX11_drops_42 fX11_7 sh87 rfl ?_
  refine G.iload_n (z := i2) dX11_drops_45 rfl ?_
  refine G.iconst dX11_drops_46 ?_
  refine G.iadd dX11_drops_47 ?_
  refine G.iald dX11_drops_48 sh88 s.1 ?_
  refine G.iast dX11_drops_49 sh88 s.2 ?_
  refine G.iinc (z := i2) dX11_drops_50 rfl (by decide) rfl ?_
  refine G.goto (tgt := 30) dX11_drops_53 (by decide) ?_
  exact G.pick [0, 2] k
theorem bX11_drops_56 {X : CT} {σ : St}  {P : Int → St → Prop} (hX : RI X P) (s : (-2147483648 ≤ (wr σ 88 64 ((σ 88 64) - 1)) 88 64 ∧ (wr σ 88 64 ((σ 88 64) - 1)) 88 64 < 2147483648))
    (k : P ((wr σ 88 64 ((σ 88 64) - 1)) 88 64) (wr σ 88 64 ((σ 88 64) - 1))) :
    G mdX11_drops X 56 [(0, vr 87)] [] σ := by
  refine G.aload_n (o := 87) dX11_drops_56 rfl ?_
  refine G.getR (o' := 88) dX11_drops_57 fX11_7 sh87 rfl ?_
  refine G.bipush dX11_drops_60 (by decide) ?_
  refine G.dup2 dX11_drops_62 ?_
  refine G.iald dX11_drops_63 sh88 ⟨by decide, by decide⟩ ?_
  refine G.iconst dX11_drops_64 ?_
  refine G.isub dX11_drops_65 ?_
  refine G.iast dX11_drops_66 sh88 ⟨by decide, by decide⟩ ?_
  refine G.aload_n (o := 87) dX11_drops_67 rfl ?_
  refine G.getR (o' := 88) dX11_drops_68 fX11_7 sh87 rfl ?_
  refine G.bipush dX11_drops_71 (by decide) ?_
  refine G.iald dX11_drops_73 sh88 ⟨by decide, by decide⟩ ?_
  exact G.iret hX dX11_drops_74 rfl s k
theorem bX11_findTaps_0 {X : CT} {σ : St} {i1 i2 i3 : Int}  {P : Int → St → Prop} (hM : CI mdX11_left [vi (((σ 96 i1) * (σ 96 (16 + i2))) - ((σ 96 i2) * (σ 96 (16 + i1))))] σ P) (s : (0 ≤ i1 ∧ i1 < 32) ∧ (0 ≤ 16 + i2 ∧ 16 + i2 < 32) ∧ (0 ≤ i2 ∧ i2 < 32) ∧ (0 ≤ 16 + i1 ∧ 16 + i1 < 32))
    (k : ∀ z σ', inI z → P z σ' → G mdX11_findTaps X 36 [(0, vr 87), (1, vi i1), (2, vi i2), (3, vi i3)] [vi z] (σ')) :
    G mdX11_findTaps X 0 [(0, vr 87), (1, vi i1), (2, vi i2), (3, vi i3)] [] σ := by
  refine G.aload_n (o := 87) dX11_findTaps_0 rfl ?_
  refine G.getR (o' := 96) dX11_findTaps_1 fX11_36 sh87 rfl ?_
  refine G.iload_n (z := i1) dX11_findTaps_4 rfl ?_
  refine G.iald dX11_findTaps_5 sh96 s.1 ?_
  refine G.aload_n (o := 87) dX11_findTaps_6 rfl ?_
  refine G.getR (o' := 96) dX11_findTaps_7 fX11_36 sh87 rfl ?_
  refine G.bipush dX11_findTaps_10 (by decide) ?_
  refine G.iload_n (z := i2) dX11_findTaps_12 rfl ?_
  refine G.iadd dX11_findTaps_13 ?_
  refine G.iald dX11_findTaps_14 sh96 s.2.1 ?_
  refine G.imul dX11_findTaps_15 ?_
  refine G.aload_n (o := 87) dX11_findTaps_16 rfl ?_
  refine G.getR (o' := 96) dX11_findTaps_17 fX11_36 sh87 rfl ?_
  refine G.iload_n (z := i2) dX11_findTaps_20 rfl ?_
  refine G.iald dX11_findTaps_21 sh96 s.2.2.1 ?_
  refine G.aload_n (o := 87) dX11_findTaps_22 rfl ?_
  refine G.getR (o' := 96) dX11_findTaps_23 fX11_36 sh87 rfl ?_
  refine G.bipush dX11_findTaps_26 (by decide) ?_
  refine G.iload_n (z := i1) dX11_findTaps_28 rfl ?_
  refine G.iadd dX11_findTaps_29 ?_
  refine G.iald dX11_findTaps_30 sh96 s.2.2.2 ?_
  refine G.imul dX11_findTaps_31 ?_
  refine G.isub dX11_findTaps_32 ?_
  exact G.callSI (as := [vi (((σ 96 i1) * (σ 96 (16 + i2))) - ((σ 96 i2) * (σ 96 (16 + i1))))]) (rest := []) dX11_findTaps_33 rfl vX11_71 (by decide) (Nat.le_of_ble_eq_true rfl) hM (fun z σ' hz q => G.pick [0, 1, 2, 3] (k z σ' hz q))
theorem bX11_findTaps_36 {X : CT} {σ : St} {i1 i2 i3 t0 : Int}  (s : (-2147483648 ≤ t0 ∧ t0 < 2147483648))
    (kt : ¬ t0 = 0 → G mdX11_findTaps X 45 [(0, vr 87), (1, vi i1), (2, vi i2), (3, vi i3), (4, vi t0)] [] σ)
    (kf : t0 = 0 → G mdX11_findTaps X 43 [] [] σ) :
    G mdX11_findTaps X 36 [(0, vr 87), (1, vi i1), (2, vi i2), (3, vi i3)] [vi t0] σ := by
  refine G.istore dX11_findTaps_36 (by decide) rfl ?_
  refine G.iload (z := t0) dX11_findTaps_38 rfl ?_
  exact G.if_ne (tgt := 45) dX11_findTaps_40 (by decide) s (fun q => G.pick [0, 1, 2, 3, 4] (kt q)) (fun q => G.pick [] (kf q))
theorem bX11_findTaps_43 {X : CT} {σ : St}  {P : Int → St → Prop} (hX : RI X P)
    (k : P 0 σ) :
    G mdX11_findTaps X 43 [] [] σ := by
  refine G.iconst dX11_findTaps_43 ?_
  exact G.zret hX dX11_findTaps_44 rfl (Or.inl rfl) k
theorem bX11_findTaps_45 {X : CT} {σ : St} {i1 i2 i3 i4 : Int}  {P : Int → St → Prop} (hM : CI mdX11_light [vi (σ 88 ((16 * i3) + i1))] σ P) (s : (0 ≤ (16 * i3) + i1 ∧ (16 * i3) + i1 < 86))
    (k : ∀ z σ', inI z → P z σ' → G mdX11_findTaps X 59 [(0, vr 87), (1, vi i1), (2, vi i2), (3, vi i3), (4, vi i4)] [vi z] (σ')) :
    G mdX11_findTaps X 45 [(0, vr 87), (1, vi i1), (2, vi i2), (3, vi i3), (4, vi i4)] [] σ := by
  refine G.aload_n (o := 87) dX11_findTaps_45 rfl ?_
  refine G.getR (o' := 88) dX11_findTaps_46 fX11_7 sh87 rfl ?_
  refine G.bipush dX11_findTaps_49 (by decide) ?_
  refine G.iload_n (z := i3) dX11_findTaps_51 rfl ?_
  refine G.imul dX11_findTaps_52 ?_
  refine G.iload_n (z := i1) dX11_findTaps_53 rfl ?_
  refine G.iadd dX11_findTaps_54 ?_
  refine G.iald dX11_findTaps_55 sh88 s ?_
  exact G.callSI (as := [vi (σ 88 ((16 * i3) + i1))]) (rest := []) dX11_findTaps_56 rfl vX11_67 (by decide) (Nat.le_of_ble_eq_true rfl) hM (fun z σ' hz q => G.pick [0, 1, 2, 3, 4] (k z σ' hz q))
theorem bX11_findTaps_59 {X : CT} {σ : St} {i1 i2 i3 i4 t0 : Int}  {P : Int → St → Prop} (hM : CI mdX11_light [vi (σ 88 ((16 * i3) + i2))] σ P) (s : (0 ≤ (16 * i3) + i2 ∧ (16 * i3) + i2 < 86))
    (k : ∀ z σ', inI z → P z σ' → G mdX11_findTaps X 75 [(0, vr 87), (1, vi i1), (2, vi i2), (4, vi i4), (5, vi t0)] [vi z] (σ')) :
    G mdX11_findTaps X 59 [(0, vr 87), (1, vi i1), (2, vi i2), (3, vi i3), (4, vi i4)] [vi t0] σ := by
  refine G.istore dX11_findTaps_59 (by decide) rfl ?_
  refine G.aload_n (o := 87) dX11_findTaps_61 rfl ?_
  refine G.getR (o' := 88) dX11_findTaps_62 fX11_7 sh87 rfl ?_
  refine G.bipush dX11_findTaps_65 (by decide) ?_
  refine G.iload_n (z := i3) dX11_findTaps_67 rfl ?_
  refine G.imul dX11_findTaps_68 ?_
  refine G.iload_n (z := i2) dX11_findTaps_69 rfl ?_
  refine G.iadd dX11_findTaps_70 ?_
  refine G.iald dX11_findTaps_71 sh88 s ?_
  exact G.callSI (as := [vi (σ 88 ((16 * i3) + i2))]) (rest := []) dX11_findTaps_72 rfl vX11_67 (by decide) (Nat.le_of_ble_eq_true rfl) hM (fun z σ' hz q => G.pick [0, 1, 2, 4, 5] (k z σ' hz q))
theorem bX11_findTaps_75 {X : CT} {σ : St} {i1 i2 i4 i5 t0 : Int}  {P : Int → St → Prop} (hM : CI mdX11_inverse [vi i4] σ P)
    (k : ∀ z σ', inI z → P z σ' → G mdX11_findTaps X 82 [(0, vr 87), (1, vi i1), (2, vi i2), (5, vi i5), (6, vi t0)] [vi z] (σ')) :
    G mdX11_findTaps X 75 [(0, vr 87), (1, vi i1), (2, vi i2), (4, vi i4), (5, vi i5)] [vi t0] σ := by
  refine G.istore dX11_findTaps_75 (by decide) rfl ?_
  refine G.iload (z := i4) dX11_findTaps_77 rfl ?_
  exact G.callSI (as := [vi i4]) (rest := []) dX11_findTaps_79 rfl vX11_157 (by decide) (Nat.le_of_ble_eq_true rfl) hM (fun z σ' hz q => G.pick [0, 1, 2, 5, 6] (k z σ' hz q))
theorem bX11_findTaps_82 {X : CT} {σ : St} {i1 i2 i5 i6 t0 : Int}  {P : Int → St → Prop} (hM : CI mdX11_left [vi ((i5 * (σ 96 (16 + i2))) - (i6 * (σ 96 (16 + i1))))] σ P) (s : (0 ≤ 16 + i2 ∧ 16 + i2 < 32) ∧ (0 ≤ 16 + i1 ∧ 16 + i1 < 32))
    (k : ∀ z σ', inI z → P z σ' → G mdX11_findTaps X 113 [(0, vr 87), (1, vi i1), (2, vi i2), (4, vi t0), (5, vi i5), (6, vi i6)] [vi z, vr 87] (σ')) :
    G mdX11_findTaps X 82 [(0, vr 87), (1, vi i1), (2, vi i2), (5, vi i5), (6, vi i6)] [vi t0] σ := by
  refine G.istore dX11_findTaps_82 (by decide) rfl ?_
  refine G.aload_n (o := 87) dX11_findTaps_84 rfl ?_
  refine G.iload (z := i5) dX11_findTaps_85 rfl ?_
  refine G.aload_n (o := 87) dX11_findTaps_87 rfl ?_
  refine G.getR (o' := 96) dX11_findTaps_88 fX11_36 sh87 rfl ?_
  refine G.bipush dX11_findTaps_91 (by decide) ?_
  refine G.iload_n (z := i2) dX11_findTaps_93 rfl ?_
  refine G.iadd dX11_findTaps_94 ?_
  refine G.iald dX11_findTaps_95 sh96 s.1 ?_
  refine G.imul dX11_findTaps_96 ?_
  refine G.iload (z := i6) dX11_findTaps_97 rfl ?_
  refine G.aload_n (o := 87) dX11_findTaps_99 rfl ?_
  refine G.getR (o' := 96) dX11_findTaps_100 fX11_36 sh87 rfl ?_
  refine G.bipush dX11_findTaps_103 (by decide) ?_
  refine G.iload_n (z := i1) dX11_findTaps_105 rfl ?_
  refine G.iadd dX11_findTaps_106 ?_
  refine G.iald dX11_findTaps_107 sh96 s.2 ?_
  refine G.imul dX11_findTaps_108 ?_
  refine G.isub dX11_findTaps_109 ?_
  exact G.callSI (as := [vi ((i5 * (σ 96 (16 + i2))) - (i6 * (σ 96 (16 + i1))))]) (rest := [vr 87]) dX11_findTaps_110 rfl vX11_71 (by decide) (Nat.le_of_ble_eq_true rfl) hM (fun z σ' hz q => G.pick [0, 1, 2, 4, 5, 6] (k z σ' hz q))
theorem bX11_findTaps_113 {X : CT} {σ : St} {i1 i2 i4 i5 i6 t1 : Int}  {P : Int → St → Prop} (hM : CI mdX11_left [vi ((i6 * ((wr σ 87 19 ((t1 * i4) % 97)) 96 i1)) - (i5 * ((wr σ 87 19 ((t1 * i4) % 97)) 96 i2)))] (wr σ 87 19 ((t1 * i4) % 97)) P) (s : (0 ≤ t1 * i4 ∧ t1 * i4 < 2147483648) ∧ (0 ≤ i1 ∧ i1 < 32) ∧ (0 ≤ i2 ∧ i2 < 32))
    (k : ∀ z σ', inI z → P z σ' → G mdX11_findTaps X 145 [(4, vi i4)] [vi z, vr 87] (σ')) :
    G mdX11_findTaps X 113 [(0, vr 87), (1, vi i1), (2, vi i2), (4, vi i4), (5, vi i5), (6, vi i6)] [vi t1, vr 87] σ := by
  refine G.iload (z := i4) dX11_findTaps_113 rfl ?_
  refine G.imul dX11_findTaps_115 ?_
  refine G.bipush dX11_findTaps_116 (by decide) ?_
  refine G.irem dX11_findTaps_118 s.1 ⟨by decide, by decide⟩ ?_
  refine G.putI (j := 19) dX11_findTaps_119 fX11_217 sh87 rfl rfl rfl rfl rfl ?_
  refine G.aload_n (o := 87) dX11_findTaps_122 rfl ?_
  refine G.iload (z := i6) dX11_findTaps_123 rfl ?_
  refine G.aload_n (o := 87) dX11_findTaps_125 rfl ?_
  refine G.getR (o' := 96) dX11_findTaps_126 fX11_36 sh87 rfl ?_
  refine G.iload_n (z := i1) dX11_findTaps_129 rfl ?_
  refine G.iald dX11_findTaps_130 sh96 s.2.1 ?_
  refine G.imul dX11_findTaps_131 ?_
  refine G.iload (z := i5) dX11_findTaps_132 rfl ?_
  refine G.aload_n (o := 87) dX11_findTaps_134 rfl ?_
  refine G.getR (o' := 96) dX11_findTaps_135 fX11_36 sh87 rfl ?_
  refine G.iload_n (z := i2) dX11_findTaps_138 rfl ?_
  refine G.iald dX11_findTaps_139 sh96 s.2.2 ?_
  refine G.imul dX11_findTaps_140 ?_
  refine G.isub dX11_findTaps_141 ?_
  exact G.callSI (as := [vi ((i6 * ((wr σ 87 19 ((t1 * i4) % 97)) 96 i1)) - (i5 * ((wr σ 87 19 ((t1 * i4) % 97)) 96 i2)))]) (rest := [vr 87]) dX11_findTaps_142 rfl vX11_71 (by decide) (Nat.le_of_ble_eq_true rfl) hM (fun z σ' hz q => G.pick [4] (k z σ' hz q))
theorem bX11_findTaps_145 {X : CT} {σ : St} {i4 t1 : Int}  {P : Int → St → Prop} (hX : RI X P) (s : (0 ≤ t1 * i4 ∧ t1 * i4 < 2147483648))
    (k : P 1 (wr σ 87 20 ((t1 * i4) % 97))) :
    G mdX11_findTaps X 145 [(4, vi i4)] [vi t1, vr 87] σ := by
  refine G.iload (z := i4) dX11_findTaps_145 rfl ?_
  refine G.imul dX11_findTaps_147 ?_
  refine G.bipush dX11_findTaps_148 (by decide) ?_
  refine G.irem dX11_findTaps_150 s ⟨by decide, by decide⟩ ?_
  refine G.putI (j := 20) dX11_findTaps_151 fX11_220 sh87 rfl rfl rfl rfl rfl ?_
  refine G.iconst dX11_findTaps_154 ?_
  exact G.zret hX dX11_findTaps_155 rfl (Or.inr rfl) k
theorem bX11_areTaps_0 {X : CT} {σ : St} {i1 i2 : Int}  {P : St → Prop} (hM : CV mdX11_layReceived [vr 87] σ P)
    (k : ∀ σ', P σ' → G mdX11_areTaps X 4 [(0, vr 87), (1, vi i1), (2, vi i2)] [] (σ')) :
    G mdX11_areTaps X 0 [(0, vr 87), (1, vi i1), (2, vi i2)] [] σ := by
  refine G.aload_n (o := 87) dX11_areTaps_0 rfl ?_
  exact G.callVV (as := []) (rest := []) dX11_areTaps_1 rfl vX11_208 (by decide) sh87 rfl (by decide) (Nat.le_of_ble_eq_true rfl) hM (fun σ' q => G.pick [0, 1, 2] (k σ' q))
theorem bX11_areTaps_4 {X : CT} {σ : St} {i1 i2 : Int} 
    (k : G mdX11_areTaps X 6 [(0, vr 87), (1, vi i1), (2, vi i2), (3, vi 0)] [] σ) :
    G mdX11_areTaps X 4 [(0, vr 87), (1, vi i1), (2, vi i2)] [] σ := by
  refine G.iconst dX11_areTaps_4 ?_
  refine G.istore_n dX11_areTaps_5 (by decide) rfl ?_
  exact G.pick [0, 1, 2, 3] k
theorem bX11_areTaps_6 {X : CT} {σ : St} {i1 i2 i3 : Int}  (s : (-2147483648 ≤ i3 ∧ i3 < 2147483648))
    (kt : 2 ≤ i3 → G mdX11_areTaps X 55 [(0, vr 87)] [] σ)
    (kf : i3 < 2 → G mdX11_areTaps X 11 [(0, vr 87), (1, vi i1), (2, vi i2), (3, vi i3)] [] σ) :
    G mdX11_areTaps X 6 [(0, vr 87), (1, vi i1), (2, vi i2), (3, vi i3)] [] σ := by
  refine G.iload_n (z := i3) dX11_areTaps_6 rfl ?_
  refine G.iconst dX11_areTaps_7 ?_
  exact G.icmp_ge (tgt := 55) dX11_areTaps_8 (by decide) s ⟨by decide, by decide⟩ (fun q => G.pick [0] (kt q)) (fun q => G.pick [0, 1, 2, 3] (kf q))
theorem bX11_areTaps_11 {X : CT} {σ : St} {i1 i2 i3 : Int}  {P : Int → St → Prop} (hM : CI mdX11_findTaps [vr 87, vi i1, vi i2, vi i3] σ P)
    (k : ∀ z σ', inI z → P z σ' → G mdX11_areTaps X 18 [(0, vr 87), (1, vi i1), (2, vi i2), (3, vi i3)] [vi z] (σ')) :
    G mdX11_areTaps X 11 [(0, vr 87), (1, vi i1), (2, vi i2), (3, vi i3)] [] σ := by
  refine G.aload_n (o := 87) dX11_areTaps_11 rfl ?_
  refine G.iload_n (z := i1) dX11_areTaps_12 rfl ?_
  refine G.iload_n (z := i2) dX11_areTaps_13 rfl ?_
  refine G.iload_n (z := i3) dX11_areTaps_14 rfl ?_
  exact G.callVI (as := [vi i1, vi i2, vi i3]) (rest := []) dX11_areTaps_15 rfl vX11_223 (by decide) sh87 rfl (by decide) (Nat.le_of_ble_eq_true rfl) hM (fun z σ' hz q => G.pick [0, 1, 2, 3] (k z σ' hz q))
theorem bX11_areTaps_18 {X : CT} {σ : St} {i1 i2 i3 t0 : Int}  (s : (-2147483648 ≤ t0 ∧ t0 < 2147483648))
    (kt : ¬ t0 = 0 → G mdX11_areTaps X 23 [(0, vr 87), (1, vi i1), (2, vi i2), (3, vi i3)] [] σ)
    (kf : t0 = 0 → G mdX11_areTaps X 21 [] [] σ) :
    G mdX11_areTaps X 18 [(0, vr 87), (1, vi i1), (2, vi i2), (3, vi i3)] [vi t0] σ := by
  exact G.if_ne (tgt := 23) dX11_areTaps_18 (by decide) s (fun q => G.pick [0, 1, 2, 3] (kt q)) (fun q => G.pick [] (kf q))
theorem bX11_areTaps_21 {X : CT} {σ : St}  {P : Int → St → Prop} (hX : RI X P)
    (k : P 0 σ) :
    G mdX11_areTaps X 21 [] [] σ := by
  refine G.iconst dX11_areTaps_21 ?_
  exact G.zret hX dX11_areTaps_22 rfl (Or.inl rfl) k
theorem bX11_areTaps_23 {X : CT} {σ : St} {i1 i2 i3 : Int}  (s : (0 ≤ 2 * i3 ∧ 2 * i3 < 4) ∧ (0 ≤ (2 * i3) + 1 ∧ (2 * i3) + 1 < 4))
    (k : G mdX11_areTaps X 6 [(0, vr 87), (1, vi i1), (2, vi i2), (3, vi (i3 + 1))] [] (wr (wr σ 98 (2 * i3) (σ 87 19)) 98 ((2 * i3) + 1) ((wr σ 98 (2 * i3) (σ 87 19)) 87 20))) :
    G mdX11_areTaps X 23 [(0, vr 87), (1, vi i1), (2, vi i2), (3, vi i3)] [] σ := by
  refine G.aload_n (o := 87) dX11_areTaps_23 rfl ?_
  refine G.getR (o' := 98) dX11_areTaps_24 fX11_42 sh87 rfl ?_
  refine G.iconst dX11_areTaps_27 ?_
  refine G.iload_n (z := i3) dX11_areTaps_28 rfl ?_
  refine G.imul dX11_areTaps_29 ?_
  refine G.aload_n (o := 87) dX11_areTaps_30 rfl ?_
  refine G.getI (j := 19) dX11_areTaps_31 fX11_217 sh87 rfl rfl rfl ?_
  refine G.iast dX11_areTaps_34 sh98 s.1 ?_
  refine G.aload_n (o := 87) dX11_areTaps_35 rfl ?_
  refine G.getR (o' := 98) dX11_areTaps_36 fX11_42 sh87 rfl ?_
  refine G.iconst dX11_areTaps_39 ?_
  refine G.iload_n (z := i3) dX11_areTaps_40 rfl ?_
  refine G.imul dX11_areTaps_41 ?_
  refine G.iconst dX11_areTaps_42 ?_
  refine G.iadd dX11_areTaps_43 ?_
  refine G.aload_n (o := 87) dX11_areTaps_44 rfl ?_
  refine G.getI (j := 20) dX11_areTaps_45 fX11_220 sh87 rfl rfl rfl ?_
  refine G.iast dX11_areTaps_48 sh98 s.2 ?_
  refine G.iinc (z := i3) dX11_areTaps_49 rfl (by decide) rfl ?_
  refine G.goto (tgt := 6) dX11_areTaps_52 (by decide) ?_
  exact G.pick [0, 1, 2, 3] k
theorem bX11_areTaps_55 {X : CT} {σ : St}  {P : Int → St → Prop} (hM : CI mdX11_left [vi (((σ 98 0) * (σ 98 3)) - ((σ 98 1) * (σ 98 2)))] σ P)
    (k : ∀ z σ', inI z → P z σ' → G mdX11_areTaps X 85 [] [vi z] (σ')) :
    G mdX11_areTaps X 55 [(0, vr 87)] [] σ := by
  refine G.aload_n (o := 87) dX11_areTaps_55 rfl ?_
  refine G.getR (o' := 98) dX11_areTaps_56 fX11_42 sh87 rfl ?_
  refine G.iconst dX11_areTaps_59 ?_
  refine G.iald dX11_areTaps_60 sh98 ⟨by decide, by decide⟩ ?_
  refine G.aload_n (o := 87) dX11_areTaps_61 rfl ?_
  refine G.getR (o' := 98) dX11_areTaps_62 fX11_42 sh87 rfl ?_
  refine G.iconst dX11_areTaps_65 ?_
  refine G.iald dX11_areTaps_66 sh98 ⟨by decide, by decide⟩ ?_
  refine G.imul dX11_areTaps_67 ?_
  refine G.aload_n (o := 87) dX11_areTaps_68 rfl ?_
  refine G.getR (o' := 98) dX11_areTaps_69 fX11_42 sh87 rfl ?_
  refine G.iconst dX11_areTaps_72 ?_
  refine G.iald dX11_areTaps_73 sh98 ⟨by decide, by decide⟩ ?_
  refine G.aload_n (o := 87) dX11_areTaps_74 rfl ?_
  refine G.getR (o' := 98) dX11_areTaps_75 fX11_42 sh87 rfl ?_
  refine G.iconst dX11_areTaps_78 ?_
  refine G.iald dX11_areTaps_79 sh98 ⟨by decide, by decide⟩ ?_
  refine G.imul dX11_areTaps_80 ?_
  refine G.isub dX11_areTaps_81 ?_
  exact G.callSI (as := [vi (((σ 98 0) * (σ 98 3)) - ((σ 98 1) * (σ 98 2)))]) (rest := []) dX11_areTaps_82 rfl vX11_71 (by decide) (Nat.le_of_ble_eq_true rfl) hM (fun z σ' hz q => G.pick [] (k z σ' hz q))
theorem bX11_areTaps_85 {X : CT} {σ : St} {t0 : Int}  (s : (-2147483648 ≤ t0 ∧ t0 < 2147483648))
    (kt : t0 = 0 → G mdX11_areTaps X 92 [] [] σ)
    (kf : ¬ t0 = 0 → G mdX11_areTaps X 88 [] [] σ) :
    G mdX11_areTaps X 85 [] [vi t0] σ := by
  exact G.if_eq (tgt := 92) dX11_areTaps_85 (by decide) s (fun q => G.pick [] (kt q)) (fun q => G.pick [] (kf q))
theorem bX11_areTaps_88 {X : CT} {σ : St} 
    (k : G mdX11_areTaps X 93 [] [vi 1] σ) :
    G mdX11_areTaps X 88 [] [] σ := by
  refine G.iconst dX11_areTaps_88 ?_
  refine G.goto (tgt := 93) dX11_areTaps_89 (by decide) ?_
  exact G.pick [] k
theorem bX11_areTaps_92 {X : CT} {σ : St} 
    (k : G mdX11_areTaps X 93 [] [vi 0] σ) :
    G mdX11_areTaps X 92 [] [] σ := by
  refine G.iconst dX11_areTaps_92 ?_
  exact G.pick [] k
theorem bX11_areTaps_93 {X : CT} {σ : St} {t0 : Int}  {P : Int → St → Prop} (hX : RI X P) (s : (t0 = 0 ∨ t0 = 1))
    (k : P t0 σ) :
    G mdX11_areTaps X 93 [] [vi t0] σ := by
  exact G.zret hX dX11_areTaps_93 rfl s k
theorem bX11_arePlaces_0 {X : CT} {σ : St} {i0 i1 : Int}  {P : Int → St → Prop} (hM : CI mdX11_in [vi i0, vi 0, vi 15] σ P)
    (k : ∀ z σ', inI z → P z σ' → G mdX11_arePlaces X 7 [(0, vi i0), (1, vi i1)] [vi z] (σ')) :
    G mdX11_arePlaces X 0 [(0, vi i0), (1, vi i1)] [] σ := by
  refine G.iload_n (z := i0) dX11_arePlaces_0 rfl ?_
  refine G.iconst dX11_arePlaces_1 ?_
  refine G.bipush dX11_arePlaces_2 (by decide) ?_
  exact G.callSI (as := [vi i0, vi 0, vi 15]) (rest := []) dX11_arePlaces_4 rfl vX11_82 (by decide) (Nat.le_of_ble_eq_true rfl) hM (fun z σ' hz q => G.pick [0, 1] (k z σ' hz q))
theorem bX11_arePlaces_7 {X : CT} {σ : St} {i0 i1 t0 : Int}  (s : (-2147483648 ≤ t0 ∧ t0 < 2147483648))
    (kt : t0 = 0 → G mdX11_arePlaces X 29 [] [] σ)
    (kf : ¬ t0 = 0 → G mdX11_arePlaces X 10 [(0, vi i0), (1, vi i1)] [] σ) :
    G mdX11_arePlaces X 7 [(0, vi i0), (1, vi i1)] [vi t0] σ := by
  exact G.if_eq (tgt := 29) dX11_arePlaces_7 (by decide) s (fun q => G.pick [] (kt q)) (fun q => G.pick [0, 1] (kf q))
theorem bX11_arePlaces_10 {X : CT} {σ : St} {i0 i1 : Int}  {P : Int → St → Prop} (hM : CI mdX11_in [vi i1, vi 0, vi 15] σ P)
    (k : ∀ z σ', inI z → P z σ' → G mdX11_arePlaces X 17 [(0, vi i0), (1, vi i1)] [vi z] (σ')) :
    G mdX11_arePlaces X 10 [(0, vi i0), (1, vi i1)] [] σ := by
  refine G.iload_n (z := i1) dX11_arePlaces_10 rfl ?_
  refine G.iconst dX11_arePlaces_11 ?_
  refine G.bipush dX11_arePlaces_12 (by decide) ?_
  exact G.callSI (as := [vi i1, vi 0, vi 15]) (rest := []) dX11_arePlaces_14 rfl vX11_82 (by decide) (Nat.le_of_ble_eq_true rfl) hM (fun z σ' hz q => G.pick [0, 1] (k z σ' hz q))
theorem bX11_arePlaces_17 {X : CT} {σ : St} {i0 i1 t0 : Int}  (s : (-2147483648 ≤ t0 ∧ t0 < 2147483648))
    (kt : t0 = 0 → G mdX11_arePlaces X 29 [] [] σ)
    (kf : ¬ t0 = 0 → G mdX11_arePlaces X 20 [(0, vi i0), (1, vi i1)] [] σ) :
    G mdX11_arePlaces X 17 [(0, vi i0), (1, vi i1)] [vi t0] σ := by
  exact G.if_eq (tgt := 29) dX11_arePlaces_17 (by decide) s (fun q => G.pick [] (kt q)) (fun q => G.pick [0, 1] (kf q))
theorem bX11_arePlaces_20 {X : CT} {σ : St} {i0 i1 : Int}  (s : (-2147483648 ≤ i0 ∧ i0 < 2147483648) ∧ (-2147483648 ≤ i1 ∧ i1 < 2147483648))
    (kt : i0 = i1 → G mdX11_arePlaces X 29 [] [] σ)
    (kf : ¬ i0 = i1 → G mdX11_arePlaces X 25 [] [] σ) :
    G mdX11_arePlaces X 20 [(0, vi i0), (1, vi i1)] [] σ := by
  refine G.iload_n (z := i0) dX11_arePlaces_20 rfl ?_
  refine G.iload_n (z := i1) dX11_arePlaces_21 rfl ?_
  exact G.icmp_eq (tgt := 29) dX11_arePlaces_22 (by decide) s.1 s.2 (fun q => G.pick [] (kt q)) (fun q => G.pick [] (kf q))
theorem bX11_arePlaces_25 {X : CT} {σ : St} 
    (k : G mdX11_arePlaces X 30 [] [vi 1] σ) :
    G mdX11_arePlaces X 25 [] [] σ := by
  refine G.iconst dX11_arePlaces_25 ?_
  refine G.goto (tgt := 30) dX11_arePlaces_26 (by decide) ?_
  exact G.pick [] k
theorem bX11_arePlaces_29 {X : CT} {σ : St} 
    (k : G mdX11_arePlaces X 30 [] [vi 0] σ) :
    G mdX11_arePlaces X 29 [] [] σ := by
  refine G.iconst dX11_arePlaces_29 ?_
  exact G.pick [] k
theorem bX11_arePlaces_30 {X : CT} {σ : St} {t0 : Int}  {P : Int → St → Prop} (hX : RI X P) (s : (t0 = 0 ∨ t0 = 1))
    (k : P t0 σ) :
    G mdX11_arePlaces X 30 [] [vi t0] σ := by
  exact G.zret hX dX11_arePlaces_30 rfl s k
theorem bX11_learns_0 {X : CT} {σ : St} {i1 i2 : Int}  {P : Int → St → Prop} (hM : CI mdX11_arePlaces [vi i1, vi i2] σ P)
    (k : ∀ z σ', inI z → P z σ' → G mdX11_learns X 5 [(0, vr 87), (1, vi i1), (2, vi i2)] [vi z] (σ')) :
    G mdX11_learns X 0 [(0, vr 87), (1, vi i1), (2, vi i2)] [] σ := by
  refine G.iload_n (z := i1) dX11_learns_0 rfl ?_
  refine G.iload_n (z := i2) dX11_learns_1 rfl ?_
  exact G.callSI (as := [vi i1, vi i2]) (rest := []) dX11_learns_2 rfl vX11_226 (by decide) (Nat.le_of_ble_eq_true rfl) hM (fun z σ' hz q => G.pick [0, 1, 2] (k z σ' hz q))
theorem bX11_learns_5 {X : CT} {σ : St} {i1 i2 t0 : Int}  (s : (-2147483648 ≤ t0 ∧ t0 < 2147483648))
    (kt : ¬ t0 = 0 → G mdX11_learns X 10 [(0, vr 87), (1, vi i1), (2, vi i2)] [] σ)
    (kf : t0 = 0 → G mdX11_learns X 8 [] [] σ) :
    G mdX11_learns X 5 [(0, vr 87), (1, vi i1), (2, vi i2)] [vi t0] σ := by
  exact G.if_ne (tgt := 10) dX11_learns_5 (by decide) s (fun q => G.pick [0, 1, 2] (kt q)) (fun q => G.pick [] (kf q))
theorem bX11_learns_8 {X : CT} {σ : St}  {P : Int → St → Prop} (hX : RI X P)
    (k : P (-1) σ) :
    G mdX11_learns X 8 [] [] σ := by
  refine G.iconst dX11_learns_8 ?_
  exact G.iret hX dX11_learns_9 rfl ⟨by decide, by decide⟩ k
theorem bX11_learns_10 {X : CT} {σ : St} {i1 i2 : Int}  {P : Int → St → Prop} (hM : CI mdX11_areTaps [vr 87, vi i1, vi i2] σ P)
    (k : ∀ z σ', inI z → P z σ' → G mdX11_learns X 16 [(0, vr 87)] [vi z] (σ')) :
    G mdX11_learns X 10 [(0, vr 87), (1, vi i1), (2, vi i2)] [] σ := by
  refine G.aload_n (o := 87) dX11_learns_10 rfl ?_
  refine G.iload_n (z := i1) dX11_learns_11 rfl ?_
  refine G.iload_n (z := i2) dX11_learns_12 rfl ?_
  exact G.callVI (as := [vi i1, vi i2]) (rest := []) dX11_learns_13 rfl vX11_229 (by decide) sh87 rfl (by decide) (Nat.le_of_ble_eq_true rfl) hM (fun z σ' hz q => G.pick [0] (k z σ' hz q))
theorem bX11_learns_16 {X : CT} {σ : St} {t0 : Int}  (s : (-2147483648 ≤ t0 ∧ t0 < 2147483648))
    (kt : ¬ t0 = 0 → G mdX11_learns X 22 [(0, vr 87)] [] σ)
    (kf : t0 = 0 → G mdX11_learns X 19 [] [] σ) :
    G mdX11_learns X 16 [(0, vr 87)] [vi t0] σ := by
  exact G.if_ne (tgt := 22) dX11_learns_16 (by decide) s (fun q => G.pick [0] (kt q)) (fun q => G.pick [] (kf q))
theorem bX11_learns_19 {X : CT} {σ : St}  {P : Int → St → Prop} (hX : RI X P)
    (k : P (-2) σ) :
    G mdX11_learns X 19 [] [] σ := by
  refine G.bipush dX11_learns_19 (by decide) ?_
  exact G.iret hX dX11_learns_21 rfl ⟨by decide, by decide⟩ k
theorem bX11_learns_22 {X : CT} {σ : St}  (s : (-2147483648 ≤ σ 88 64 ∧ σ 88 64 < 2147483648))
    (kt : ¬ σ 88 64 = 4 → G mdX11_learns X 36 [(0, vr 87)] [] σ)
    (kf : σ 88 64 = 4 → G mdX11_learns X 33 [] [] σ) :
    G mdX11_learns X 22 [(0, vr 87)] [] σ := by
  refine G.aload_n (o := 87) dX11_learns_22 rfl ?_
  refine G.getR (o' := 88) dX11_learns_23 fX11_7 sh87 rfl ?_
  refine G.bipush dX11_learns_26 (by decide) ?_
  refine G.iald dX11_learns_28 sh88 ⟨by decide, by decide⟩ ?_
  refine G.iconst dX11_learns_29 ?_
  exact G.icmp_ne (tgt := 36) dX11_learns_30 (by decide) s ⟨by decide, by decide⟩ (fun q => G.pick [0] (kt q)) (fun q => G.pick [] (kf q))
theorem bX11_learns_33 {X : CT} {σ : St}  {P : Int → St → Prop} (hX : RI X P)
    (k : P (-3) σ) :
    G mdX11_learns X 33 [] [] σ := by
  refine G.bipush dX11_learns_33 (by decide) ?_
  exact G.iret hX dX11_learns_35 rfl ⟨by decide, by decide⟩ k
theorem bX11_learns_36 {X : CT} {σ : St}  {P : St → Prop} (hM : CV mdX11_note [vr 87] σ P)
    (k : ∀ σ', P σ' → G mdX11_learns X 40 [(0, vr 87)] [] (σ')) :
    G mdX11_learns X 36 [(0, vr 87)] [] σ := by
  refine G.aload_n (o := 87) dX11_learns_36 rfl ?_
  exact G.callVV (as := []) (rest := []) dX11_learns_37 rfl vX11_140 (by decide) sh87 rfl (by decide) (Nat.le_of_ble_eq_true rfl) hM (fun σ' q => G.pick [0] (k σ' q))
theorem bX11_learns_40 {X : CT} {σ : St}  {P : Int → St → Prop} (hM : CI mdX11_left [vi (((σ 98 0) * (σ 98 3)) - ((σ 98 1) * (σ 98 2)))] σ P)
    (k : ∀ z σ', inI z → P z σ' → G mdX11_learns X 70 [(0, vr 87)] [vi z] (σ')) :
    G mdX11_learns X 40 [(0, vr 87)] [] σ := by
  refine G.aload_n (o := 87) dX11_learns_40 rfl ?_
  refine G.getR (o' := 98) dX11_learns_41 fX11_42 sh87 rfl ?_
  refine G.iconst dX11_learns_44 ?_
  refine G.iald dX11_learns_45 sh98 ⟨by decide, by decide⟩ ?_
  refine G.aload_n (o := 87) dX11_learns_46 rfl ?_
  refine G.getR (o' := 98) dX11_learns_47 fX11_42 sh87 rfl ?_
  refine G.iconst dX11_learns_50 ?_
  refine G.iald dX11_learns_51 sh98 ⟨by decide, by decide⟩ ?_
  refine G.imul dX11_learns_52 ?_
  refine G.aload_n (o := 87) dX11_learns_53 rfl ?_
  refine G.getR (o' := 98) dX11_learns_54 fX11_42 sh87 rfl ?_
  refine G.iconst dX11_learns_57 ?_
  refine G.iald dX11_learns_58 sh98 ⟨by decide, by decide⟩ ?_
  refine G.aload_n (o := 87) dX11_learns_59 rfl ?_
  refine G.getR (o' := 98) dX11_learns_60 fX11_42 sh87 rfl ?_
  refine G.iconst dX11_learns_63 ?_
  refine G.iald dX11_learns_64 sh98 ⟨by decide, by decide⟩ ?_
  refine G.imul dX11_learns_65 ?_
  refine G.isub dX11_learns_66 ?_
  exact G.callSI (as := [vi (((σ 98 0) * (σ 98 3)) - ((σ 98 1) * (σ 98 2)))]) (rest := []) dX11_learns_67 rfl vX11_71 (by decide) (Nat.le_of_ble_eq_true rfl) hM (fun z σ' hz q => G.pick [0] (k z σ' hz q))
theorem bX11_learns_70 {X : CT} {σ : St} {t0 : Int}  {P : Int → St → Prop} (hM : CI mdX11_inverse [vi t0] σ P)
    (k : ∀ z σ', inI z → P z σ' → G mdX11_learns X 73 [(0, vr 87)] [vi z] (σ')) :
    G mdX11_learns X 70 [(0, vr 87)] [vi t0] σ := by
  exact G.callSI (as := [vi t0]) (rest := []) dX11_learns_70 rfl vX11_157 (by decide) (Nat.le_of_ble_eq_true rfl) hM (fun z σ' hz q => G.pick [0] (k z σ' hz q))
theorem bX11_learns_73 {X : CT} {σ : St} {t0 : Int}  {P : Int → St → Prop} (hM : CI mdX11_left [vi ((-(σ 98 1)) * t0)] σ P) (s : (0 ≤ (σ 98 3) * t0 ∧ (σ 98 3) * t0 < 2147483648))
    (k : ∀ z σ', inI z → P z σ' → G mdX11_learns X 111 [(0, vr 87), (3, vi t0)] [vi z, vi (((σ 98 3) * t0) % 97), vi 1, vi (65 + (5 * (σ 88 64))), vr 87] (σ')) :
    G mdX11_learns X 73 [(0, vr 87)] [vi t0] σ := by
  refine G.istore_n dX11_learns_73 (by decide) rfl ?_
  refine G.aload_n (o := 87) dX11_learns_74 rfl ?_
  refine G.bipush dX11_learns_75 (by decide) ?_
  refine G.iconst dX11_learns_77 ?_
  refine G.aload_n (o := 87) dX11_learns_78 rfl ?_
  refine G.getR (o' := 88) dX11_learns_79 fX11_7 sh87 rfl ?_
  refine G.bipush dX11_learns_82 (by decide) ?_
  refine G.iald dX11_learns_84 sh88 ⟨by decide, by decide⟩ ?_
  refine G.imul dX11_learns_85 ?_
  refine G.iadd dX11_learns_86 ?_
  refine G.iconst dX11_learns_87 ?_
  refine G.aload_n (o := 87) dX11_learns_88 rfl ?_
  refine G.getR (o' := 98) dX11_learns_89 fX11_42 sh87 rfl ?_
  refine G.iconst dX11_learns_92 ?_
  refine G.iald dX11_learns_93 sh98 ⟨by decide, by decide⟩ ?_
  refine G.iload_n (z := t0) dX11_learns_94 rfl ?_
  refine G.imul dX11_learns_95 ?_
  refine G.bipush dX11_learns_96 (by decide) ?_
  refine G.irem dX11_learns_98 s ⟨by decide, by decide⟩ ?_
  refine G.aload_n (o := 87) dX11_learns_99 rfl ?_
  refine G.getR (o' := 98) dX11_learns_100 fX11_42 sh87 rfl ?_
  refine G.iconst dX11_learns_103 ?_
  refine G.iald dX11_learns_104 sh98 ⟨by decide, by decide⟩ ?_
  refine G.ineg dX11_learns_105 ?_
  refine G.iload_n (z := t0) dX11_learns_106 rfl ?_
  refine G.imul dX11_learns_107 ?_
  exact G.callSI (as := [vi ((-(σ 98 1)) * t0)]) (rest := [vi (((σ 98 3) * t0) % 97), vi 1, vi (65 + (5 * (σ 88 64))), vr 87]) dX11_learns_108 rfl vX11_71 (by decide) (Nat.le_of_ble_eq_true rfl) hM (fun z σ' hz q => G.pick [0, 3] (k z σ' hz q))
theorem bX11_learns_111 {X : CT} {σ : St} {i3 t1 t2 t3 t4 : Int}  {P : Int → St → Prop} (hM : CI mdX11_left [vi ((-(σ 98 2)) * i3)] σ P)
    (k : ∀ z σ', inI z → P z σ' → G mdX11_learns X 123 [(0, vr 87), (3, vi i3)] [vi z, vi t4, vi t3, vi t2, vi t1, vr 87] (σ')) :
    G mdX11_learns X 111 [(0, vr 87), (3, vi i3)] [vi t4, vi t3, vi t2, vi t1, vr 87] σ := by
  refine G.aload_n (o := 87) dX11_learns_111 rfl ?_
  refine G.getR (o' := 98) dX11_learns_112 fX11_42 sh87 rfl ?_
  refine G.iconst dX11_learns_115 ?_
  refine G.iald dX11_learns_116 sh98 ⟨by decide, by decide⟩ ?_
  refine G.ineg dX11_learns_117 ?_
  refine G.iload_n (z := i3) dX11_learns_118 rfl ?_
  refine G.imul dX11_learns_119 ?_
  exact G.callSI (as := [vi ((-(σ 98 2)) * i3)]) (rest := [vi t4, vi t3, vi t2, vi t1, vr 87]) dX11_learns_120 rfl vX11_71 (by decide) (Nat.le_of_ble_eq_true rfl) hM (fun z σ' hz q => G.pick [0, 3] (k z σ' hz q))
theorem bX11_learns_123 {X : CT} {σ : St} {i3 t1 t2 t3 t4 t5 : Int}  {P : St → Prop} (hM : CV mdX11_lay [vr 87, vi t1, vi t2, vi t3, vi t4, vi t5, vi (((σ 98 0) * i3) % 97)] σ P) (s : (0 ≤ (σ 98 0) * i3 ∧ (σ 98 0) * i3 < 2147483648))
    (k : ∀ σ', P σ' → G mdX11_learns X 137 [(0, vr 87)] [] (σ')) :
    G mdX11_learns X 123 [(0, vr 87), (3, vi i3)] [vi t5, vi t4, vi t3, vi t2, vi t1, vr 87] σ := by
  refine G.aload_n (o := 87) dX11_learns_123 rfl ?_
  refine G.getR (o' := 98) dX11_learns_124 fX11_42 sh87 rfl ?_
  refine G.iconst dX11_learns_127 ?_
  refine G.iald dX11_learns_128 sh98 ⟨by decide, by decide⟩ ?_
  refine G.iload_n (z := i3) dX11_learns_129 rfl ?_
  refine G.imul dX11_learns_130 ?_
  refine G.bipush dX11_learns_131 (by decide) ?_
  refine G.irem dX11_learns_133 s ⟨by decide, by decide⟩ ?_
  exact G.callVV (as := [vi t1, vi t2, vi t3, vi t4, vi t5, vi (((σ 98 0) * i3) % 97)]) (rest := []) dX11_learns_134 rfl vX11_150 (by decide) sh87 rfl (by decide) (Nat.le_of_ble_eq_true rfl) hM (fun σ' q => G.pick [0] (k σ' q))
theorem bX11_learns_137 {X : CT} {σ : St}  {P : Int → St → Prop} (hX : RI X P) (s : (-2147483648 ≤ (wr σ 88 64 ((σ 88 64) + 1)) 88 64 ∧ (wr σ 88 64 ((σ 88 64) + 1)) 88 64 < 2147483648))
    (k : P ((wr σ 88 64 ((σ 88 64) + 1)) 88 64) (wr σ 88 64 ((σ 88 64) + 1))) :
    G mdX11_learns X 137 [(0, vr 87)] [] σ := by
  refine G.aload_n (o := 87) dX11_learns_137 rfl ?_
  refine G.getR (o' := 88) dX11_learns_138 fX11_7 sh87 rfl ?_
  refine G.bipush dX11_learns_141 (by decide) ?_
  refine G.dup2 dX11_learns_143 ?_
  refine G.iald dX11_learns_144 sh88 ⟨by decide, by decide⟩ ?_
  refine G.iconst dX11_learns_145 ?_
  refine G.iadd dX11_learns_146 ?_
  refine G.iast dX11_learns_147 sh88 ⟨by decide, by decide⟩ ?_
  refine G.aload_n (o := 87) dX11_learns_148 rfl ?_
  refine G.getR (o' := 88) dX11_learns_149 fX11_7 sh87 rfl ?_
  refine G.bipush dX11_learns_152 (by decide) ?_
  refine G.iald dX11_learns_154 sh88 ⟨by decide, by decide⟩ ?_
  exact G.iret hX dX11_learns_155 rfl s k
theorem bX11_taps_0 {X : CT} {σ : St} {i1 i2 i3 : Int}  {P : Int → St → Prop} (hM : CI mdX11_arePlaces [vi i1, vi i2] σ P)
    (k : ∀ z σ', inI z → P z σ' → G mdX11_taps X 5 [(0, vr 87), (1, vi i1), (2, vi i2), (3, vi i3)] [vi z] (σ')) :
    G mdX11_taps X 0 [(0, vr 87), (1, vi i1), (2, vi i2), (3, vi i3)] [] σ := by
  refine G.iload_n (z := i1) dX11_taps_0 rfl ?_
  refine G.iload_n (z := i2) dX11_taps_1 rfl ?_
  exact G.callSI (as := [vi i1, vi i2]) (rest := []) dX11_taps_2 rfl vX11_226 (by decide) (Nat.le_of_ble_eq_true rfl) hM (fun z σ' hz q => G.pick [0, 1, 2, 3] (k z σ' hz q))
theorem bX11_taps_5 {X : CT} {σ : St} {i1 i2 i3 t0 : Int}  (s : (-2147483648 ≤ t0 ∧ t0 < 2147483648))
    (kt : t0 = 0 → G mdX11_taps X 17 [] [] σ)
    (kf : ¬ t0 = 0 → G mdX11_taps X 8 [(0, vr 87), (1, vi i1), (2, vi i2), (3, vi i3)] [] σ) :
    G mdX11_taps X 5 [(0, vr 87), (1, vi i1), (2, vi i2), (3, vi i3)] [vi t0] σ := by
  exact G.if_eq (tgt := 17) dX11_taps_5 (by decide) s (fun q => G.pick [] (kt q)) (fun q => G.pick [0, 1, 2, 3] (kf q))
theorem bX11_taps_8 {X : CT} {σ : St} {i1 i2 i3 : Int}  {P : Int → St → Prop} (hM : CI mdX11_in [vi i3, vi 0, vi 3] σ P)
    (k : ∀ z σ', inI z → P z σ' → G mdX11_taps X 14 [(0, vr 87), (1, vi i1), (2, vi i2), (3, vi i3)] [vi z] (σ')) :
    G mdX11_taps X 8 [(0, vr 87), (1, vi i1), (2, vi i2), (3, vi i3)] [] σ := by
  refine G.iload_n (z := i3) dX11_taps_8 rfl ?_
  refine G.iconst dX11_taps_9 ?_
  refine G.iconst dX11_taps_10 ?_
  exact G.callSI (as := [vi i3, vi 0, vi 3]) (rest := []) dX11_taps_11 rfl vX11_82 (by decide) (Nat.le_of_ble_eq_true rfl) hM (fun z σ' hz q => G.pick [0, 1, 2, 3] (k z σ' hz q))
theorem bX11_taps_14 {X : CT} {σ : St} {i1 i2 i3 t0 : Int}  (s : (-2147483648 ≤ t0 ∧ t0 < 2147483648))
    (kt : ¬ t0 = 0 → G mdX11_taps X 19 [(0, vr 87), (1, vi i1), (2, vi i2), (3, vi i3)] [] σ)
    (kf : t0 = 0 → G mdX11_taps X 17 [] [] σ) :
    G mdX11_taps X 14 [(0, vr 87), (1, vi i1), (2, vi i2), (3, vi i3)] [vi t0] σ := by
  exact G.if_ne (tgt := 19) dX11_taps_14 (by decide) s (fun q => G.pick [0, 1, 2, 3] (kt q)) (fun q => G.pick [] (kf q))
theorem bX11_taps_17 {X : CT} {σ : St}  {P : Int → St → Prop} (hX : RI X P)
    (k : P (-1) σ) :
    G mdX11_taps X 17 [] [] σ := by
  refine G.iconst dX11_taps_17 ?_
  exact G.iret hX dX11_taps_18 rfl ⟨by decide, by decide⟩ k
theorem bX11_taps_19 {X : CT} {σ : St} {i1 i2 i3 : Int}  {P : Int → St → Prop} (hM : CI mdX11_areTaps [vr 87, vi i1, vi i2] σ P)
    (k : ∀ z σ', inI z → P z σ' → G mdX11_taps X 25 [(0, vr 87), (3, vi i3)] [vi z] (σ')) :
    G mdX11_taps X 19 [(0, vr 87), (1, vi i1), (2, vi i2), (3, vi i3)] [] σ := by
  refine G.aload_n (o := 87) dX11_taps_19 rfl ?_
  refine G.iload_n (z := i1) dX11_taps_20 rfl ?_
  refine G.iload_n (z := i2) dX11_taps_21 rfl ?_
  exact G.callVI (as := [vi i1, vi i2]) (rest := []) dX11_taps_22 rfl vX11_229 (by decide) sh87 rfl (by decide) (Nat.le_of_ble_eq_true rfl) hM (fun z σ' hz q => G.pick [0, 3] (k z σ' hz q))
theorem bX11_taps_25 {X : CT} {σ : St} {i3 t0 : Int}  (s : (-2147483648 ≤ t0 ∧ t0 < 2147483648))
    (kt : t0 = 0 → G mdX11_taps X 37 [] [] σ)
    (kf : ¬ t0 = 0 → G mdX11_taps X 28 [(0, vr 87), (3, vi i3)] [] σ) :
    G mdX11_taps X 25 [(0, vr 87), (3, vi i3)] [vi t0] σ := by
  exact G.if_eq (tgt := 37) dX11_taps_25 (by decide) s (fun q => G.pick [] (kt q)) (fun q => G.pick [0, 3] (kf q))
theorem bX11_taps_28 {X : CT} {σ : St} {i3 : Int}  (s : (0 ≤ i3 ∧ i3 < 4))
    (k : G mdX11_taps X 39 [] [vi (σ 98 i3)] σ) :
    G mdX11_taps X 28 [(0, vr 87), (3, vi i3)] [] σ := by
  refine G.aload_n (o := 87) dX11_taps_28 rfl ?_
  refine G.getR (o' := 98) dX11_taps_29 fX11_42 sh87 rfl ?_
  refine G.iload_n (z := i3) dX11_taps_32 rfl ?_
  refine G.iald dX11_taps_33 sh98 s ?_
  refine G.goto (tgt := 39) dX11_taps_34 (by decide) ?_
  exact G.pick [] k
theorem bX11_taps_37 {X : CT} {σ : St} 
    (k : G mdX11_taps X 39 [] [vi (-9)] σ) :
    G mdX11_taps X 37 [] [] σ := by
  refine G.bipush dX11_taps_37 (by decide) ?_
  exact G.pick [] k
theorem bX11_taps_39 {X : CT} {σ : St} {t0 : Int}  {P : Int → St → Prop} (hX : RI X P) (s : (-2147483648 ≤ t0 ∧ t0 < 2147483648))
    (k : P t0 σ) :
    G mdX11_taps X 39 [] [vi t0] σ := by
  exact G.iret hX dX11_taps_39 rfl s k
theorem bX11_turnsOn_0 {X : CT} {σ : St} {i1 : Int} 
    (k : G mdX11_turnsOn X 4 [(0, vr 87), (1, vi i1), (2, vi (i1 - 2))] [] σ) :
    G mdX11_turnsOn X 0 [(0, vr 87), (1, vi i1)] [] σ := by
  refine G.iload_n (z := i1) dX11_turnsOn_0 rfl ?_
  refine G.iconst dX11_turnsOn_1 ?_
  refine G.isub dX11_turnsOn_2 ?_
  refine G.istore_n dX11_turnsOn_3 (by decide) rfl ?_
  exact G.pick [0, 1, 2] k
theorem bX11_turnsOn_4 {X : CT} {σ : St} {i1 i2 : Int}  (s : (-2147483648 ≤ i2 ∧ i2 < 2147483648))
    (kt : i2 < 0 → G mdX11_turnsOn X 31 [(0, vr 87), (1, vi i1), (2, vi i2)] [] σ)
    (kf : 0 ≤ i2 → G mdX11_turnsOn X 8 [(0, vr 87), (1, vi i1), (2, vi i2)] [] σ) :
    G mdX11_turnsOn X 4 [(0, vr 87), (1, vi i1), (2, vi i2)] [] σ := by
  refine G.iload_n (z := i2) dX11_turnsOn_4 rfl ?_
  exact G.if_lt (tgt := 31) dX11_turnsOn_5 (by decide) s (fun q => G.pick [0, 1, 2] (kt q)) (fun q => G.pick [0, 1, 2] (kf q))
theorem bX11_turnsOn_8 {X : CT} {σ : St} {i1 i2 : Int}  (s : (0 ≤ i2 ∧ i2 < 4) ∧ (0 ≤ i2 + 1 ∧ i2 + 1 < 4) ∧ (-2147483648 ≤ σ 99 i2 ∧ σ 99 i2 < 2147483648) ∧ (-2147483648 ≤ σ 99 (i2 + 1) ∧ σ 99 (i2 + 1) < 2147483648))
    (kt : σ 99 i2 ≤ σ 99 (i2 + 1) → G mdX11_turnsOn X 31 [(0, vr 87), (1, vi i1), (2, vi i2)] [] σ)
    (kf : σ 99 (i2 + 1) < σ 99 i2 → G mdX11_turnsOn X 25 [(0, vr 87), (1, vi i1), (2, vi i2)] [] σ) :
    G mdX11_turnsOn X 8 [(0, vr 87), (1, vi i1), (2, vi i2)] [] σ := by
  refine G.aload_n (o := 87) dX11_turnsOn_8 rfl ?_
  refine G.getR (o' := 99) dX11_turnsOn_9 fX11_45 sh87 rfl ?_
  refine G.iload_n (z := i2) dX11_turnsOn_12 rfl ?_
  refine G.iald dX11_turnsOn_13 sh99 s.1 ?_
  refine G.aload_n (o := 87) dX11_turnsOn_14 rfl ?_
  refine G.getR (o' := 99) dX11_turnsOn_15 fX11_45 sh87 rfl ?_
  refine G.iload_n (z := i2) dX11_turnsOn_18 rfl ?_
  refine G.iconst dX11_turnsOn_19 ?_
  refine G.iadd dX11_turnsOn_20 ?_
  refine G.iald dX11_turnsOn_21 sh99 s.2.1 ?_
  exact G.icmp_le (tgt := 31) dX11_turnsOn_22 (by decide) s.2.2.1 s.2.2.2 (fun q => G.pick [0, 1, 2] (kt q)) (fun q => G.pick [0, 1, 2] (kf q))
theorem bX11_turnsOn_25 {X : CT} {σ : St} {i1 i2 : Int} 
    (k : G mdX11_turnsOn X 4 [(0, vr 87), (1, vi i1), (2, vi (i2 + (-1)))] [] σ) :
    G mdX11_turnsOn X 25 [(0, vr 87), (1, vi i1), (2, vi i2)] [] σ := by
  refine G.iinc (z := i2) dX11_turnsOn_25 rfl (by decide) rfl ?_
  refine G.goto (tgt := 4) dX11_turnsOn_28 (by decide) ?_
  exact G.pick [0, 1, 2] k
theorem bX11_turnsOn_31 {X : CT} {σ : St} {i1 i2 : Int}  (s : (-2147483648 ≤ i2 ∧ i2 < 2147483648))
    (kt : 0 ≤ i2 → G mdX11_turnsOn X 37 [(0, vr 87), (1, vi i1), (2, vi i2)] [] σ)
    (kf : i2 < 0 → G mdX11_turnsOn X 35 [] [] σ) :
    G mdX11_turnsOn X 31 [(0, vr 87), (1, vi i1), (2, vi i2)] [] σ := by
  refine G.iload_n (z := i2) dX11_turnsOn_31 rfl ?_
  exact G.if_ge (tgt := 37) dX11_turnsOn_32 (by decide) s (fun q => G.pick [0, 1, 2] (kt q)) (fun q => G.pick [] (kf q))
theorem bX11_turnsOn_35 {X : CT} {σ : St}  {P : Int → St → Prop} (hX : RI X P)
    (k : P 0 σ) :
    G mdX11_turnsOn X 35 [] [] σ := by
  refine G.iconst dX11_turnsOn_35 ?_
  exact G.zret hX dX11_turnsOn_36 rfl (Or.inl rfl) k
theorem bX11_turnsOn_37 {X : CT} {σ : St} {i1 i2 : Int} 
    (k : G mdX11_turnsOn X 41 [(0, vr 87), (1, vi i1), (2, vi i2), (3, vi (i1 - 1))] [] σ) :
    G mdX11_turnsOn X 37 [(0, vr 87), (1, vi i1), (2, vi i2)] [] σ := by
  refine G.iload_n (z := i1) dX11_turnsOn_37 rfl ?_
  refine G.iconst dX11_turnsOn_38 ?_
  refine G.isub dX11_turnsOn_39 ?_
  refine G.istore_n dX11_turnsOn_40 (by decide) rfl ?_
  exact G.pick [0, 1, 2, 3] k
theorem bX11_turnsOn_41 {X : CT} {σ : St} {i1 i2 i3 : Int}  (s : (0 ≤ i3 ∧ i3 < 4) ∧ (0 ≤ i2 ∧ i2 < 4) ∧ (-2147483648 ≤ σ 99 i3 ∧ σ 99 i3 < 2147483648) ∧ (-2147483648 ≤ σ 99 i2 ∧ σ 99 i2 < 2147483648))
    (kt : σ 99 i2 ≤ σ 99 i3 → G mdX11_turnsOn X 62 [(0, vr 87), (1, vi i1), (2, vi i2), (3, vi i3)] [] σ)
    (kf : σ 99 i3 < σ 99 i2 → G mdX11_turnsOn X 56 [(0, vr 87), (1, vi i1), (2, vi i2), (3, vi i3)] [] σ) :
    G mdX11_turnsOn X 41 [(0, vr 87), (1, vi i1), (2, vi i2), (3, vi i3)] [] σ := by
  refine G.aload_n (o := 87) dX11_turnsOn_41 rfl ?_
  refine G.getR (o' := 99) dX11_turnsOn_42 fX11_45 sh87 rfl ?_
  refine G.iload_n (z := i3) dX11_turnsOn_45 rfl ?_
  refine G.iald dX11_turnsOn_46 sh99 s.1 ?_
  refine G.aload_n (o := 87) dX11_turnsOn_47 rfl ?_
  refine G.getR (o' := 99) dX11_turnsOn_48 fX11_45 sh87 rfl ?_
  refine G.iload_n (z := i2) dX11_turnsOn_51 rfl ?_
  refine G.iald dX11_turnsOn_52 sh99 s.2.1 ?_
  exact G.icmp_ge (tgt := 62) dX11_turnsOn_53 (by decide) s.2.2.1 s.2.2.2 (fun q => G.pick [0, 1, 2, 3] (kt q)) (fun q => G.pick [0, 1, 2, 3] (kf q))
theorem bX11_turnsOn_56 {X : CT} {σ : St} {i1 i2 i3 : Int} 
    (k : G mdX11_turnsOn X 41 [(0, vr 87), (1, vi i1), (2, vi i2), (3, vi (i3 + (-1)))] [] σ) :
    G mdX11_turnsOn X 56 [(0, vr 87), (1, vi i1), (2, vi i2), (3, vi i3)] [] σ := by
  refine G.iinc (z := i3) dX11_turnsOn_56 rfl (by decide) rfl ?_
  refine G.goto (tgt := 41) dX11_turnsOn_59 (by decide) ?_
  exact G.pick [0, 1, 2, 3] k
theorem bX11_turnsOn_62 {X : CT} {σ : St} {i1 i2 i3 : Int}  {P : St → Prop} (hM : CV mdX11_swap [vr 87, vi i2, vi i3] σ P)
    (k : ∀ σ', P σ' → G mdX11_turnsOn X 68 [(0, vr 87), (1, vi i1), (2, vi i2)] [] (σ')) :
    G mdX11_turnsOn X 62 [(0, vr 87), (1, vi i1), (2, vi i2), (3, vi i3)] [] σ := by
  refine G.aload_n (o := 87) dX11_turnsOn_62 rfl ?_
  refine G.iload_n (z := i2) dX11_turnsOn_63 rfl ?_
  refine G.iload_n (z := i3) dX11_turnsOn_64 rfl ?_
  exact G.callVV (as := [vi i2, vi i3]) (rest := []) dX11_turnsOn_65 rfl vX11_232 (by decide) sh87 rfl (by decide) (Nat.le_of_ble_eq_true rfl) hM (fun σ' q => G.pick [0, 1, 2] (k σ' q))
theorem bX11_turnsOn_68 {X : CT} {σ : St} {i1 i2 : Int} 
    (k : G mdX11_turnsOn X 78 [(0, vr 87), (4, vi (i2 + 1)), (5, vi (i1 - 1))] [] σ) :
    G mdX11_turnsOn X 68 [(0, vr 87), (1, vi i1), (2, vi i2)] [] σ := by
  refine G.iload_n (z := i2) dX11_turnsOn_68 rfl ?_
  refine G.iconst dX11_turnsOn_69 ?_
  refine G.iadd dX11_turnsOn_70 ?_
  refine G.istore dX11_turnsOn_71 (by decide) rfl ?_
  refine G.iload_n (z := i1) dX11_turnsOn_73 rfl ?_
  refine G.iconst dX11_turnsOn_74 ?_
  refine G.isub dX11_turnsOn_75 ?_
  refine G.istore dX11_turnsOn_76 (by decide) rfl ?_
  exact G.pick [0, 4, 5] k
theorem bX11_turnsOn_78 {X : CT} {σ : St} {i4 i5 : Int}  (s : (-2147483648 ≤ i4 ∧ i4 < 2147483648) ∧ (-2147483648 ≤ i5 ∧ i5 < 2147483648))
    (kt : i5 ≤ i4 → G mdX11_turnsOn X 102 [] [] σ)
    (kf : i4 < i5 → G mdX11_turnsOn X 85 [(0, vr 87), (4, vi i4), (5, vi i5)] [] σ) :
    G mdX11_turnsOn X 78 [(0, vr 87), (4, vi i4), (5, vi i5)] [] σ := by
  refine G.iload (z := i4) dX11_turnsOn_78 rfl ?_
  refine G.iload (z := i5) dX11_turnsOn_80 rfl ?_
  exact G.icmp_ge (tgt := 102) dX11_turnsOn_82 (by decide) s.1 s.2 (fun q => G.pick [] (kt q)) (fun q => G.pick [0, 4, 5] (kf q))
theorem bX11_turnsOn_85 {X : CT} {σ : St} {i4 i5 : Int}  {P : St → Prop} (hM : CV mdX11_swap [vr 87, vi i4, vi i5] σ P)
    (k : ∀ σ', P σ' → G mdX11_turnsOn X 93 [(0, vr 87), (4, vi i4), (5, vi i5)] [] (σ')) :
    G mdX11_turnsOn X 85 [(0, vr 87), (4, vi i4), (5, vi i5)] [] σ := by
  refine G.aload_n (o := 87) dX11_turnsOn_85 rfl ?_
  refine G.iload (z := i4) dX11_turnsOn_86 rfl ?_
  refine G.iload (z := i5) dX11_turnsOn_88 rfl ?_
  exact G.callVV (as := [vi i4, vi i5]) (rest := []) dX11_turnsOn_90 rfl vX11_232 (by decide) sh87 rfl (by decide) (Nat.le_of_ble_eq_true rfl) hM (fun σ' q => G.pick [0, 4, 5] (k σ' q))
theorem bX11_turnsOn_93 {X : CT} {σ : St} {i4 i5 : Int} 
    (k : G mdX11_turnsOn X 78 [(0, vr 87), (4, vi (i4 + 1)), (5, vi (i5 + (-1)))] [] σ) :
    G mdX11_turnsOn X 93 [(0, vr 87), (4, vi i4), (5, vi i5)] [] σ := by
  refine G.iinc (z := i4) dX11_turnsOn_93 rfl (by decide) rfl ?_
  refine G.iinc (z := i5) dX11_turnsOn_96 rfl (by decide) rfl ?_
  refine G.goto (tgt := 78) dX11_turnsOn_99 (by decide) ?_
  exact G.pick [0, 4, 5] k
theorem bX11_turnsOn_102 {X : CT} {σ : St}  {P : Int → St → Prop} (hX : RI X P)
    (k : P 1 σ) :
    G mdX11_turnsOn X 102 [] [] σ := by
  refine G.iconst dX11_turnsOn_102 ?_
  exact G.zret hX dX11_turnsOn_103 rfl (Or.inr rfl) k
theorem bX11_swap_0 {X : CT} {σ : St} {i1 i2 : Int}  {P : St → Prop} (hX : RV X P) (s : (0 ≤ i1 ∧ i1 < 4) ∧ (0 ≤ i2 ∧ i2 < 4))
    (k : P (wr (wr σ 99 i1 (σ 99 i2)) 99 i2 (σ 99 i1))) :
    G mdX11_swap X 0 [(0, vr 87), (1, vi i1), (2, vi i2)] [] σ := by
  refine G.aload_n (o := 87) dX11_swap_0 rfl ?_
  refine G.getR (o' := 99) dX11_swap_1 fX11_45 sh87 rfl ?_
  refine G.iload_n (z := i1) dX11_swap_4 rfl ?_
  refine G.iald dX11_swap_5 sh99 s.1 ?_
  refine G.istore_n dX11_swap_6 (by decide) rfl ?_
  refine G.aload_n (o := 87) dX11_swap_7 rfl ?_
  refine G.getR (o' := 99) dX11_swap_8 fX11_45 sh87 rfl ?_
  refine G.iload_n (z := i1) dX11_swap_11 rfl ?_
  refine G.aload_n (o := 87) dX11_swap_12 rfl ?_
  refine G.getR (o' := 99) dX11_swap_13 fX11_45 sh87 rfl ?_
  refine G.iload_n (z := i2) dX11_swap_16 rfl ?_
  refine G.iald dX11_swap_17 sh99 s.2 ?_
  refine G.iast dX11_swap_18 sh99 s.1 ?_
  refine G.aload_n (o := 87) dX11_swap_19 rfl ?_
  refine G.getR (o' := 99) dX11_swap_20 fX11_45 sh87 rfl ?_
  refine G.iload_n (z := i2) dX11_swap_23 rfl ?_
  refine G.iload_n (z := σ 99 i1) dX11_swap_24 rfl ?_
  refine G.iast dX11_swap_25 sh99 s.2 ?_
  exact G.vret hX dX11_swap_26 rfl k
theorem bX11_findOrder_0 {X : CT} {σ : St} 
    (k : G mdX11_findOrder X 10 [(0, vr 87), (1, vi (σ 88 64)), (2, vi 0)] [] σ) :
    G mdX11_findOrder X 0 [(0, vr 87)] [] σ := by
  refine G.aload_n (o := 87) dX11_findOrder_0 rfl ?_
  refine G.getR (o' := 88) dX11_findOrder_1 fX11_7 sh87 rfl ?_
  refine G.bipush dX11_findOrder_4 (by decide) ?_
  refine G.iald dX11_findOrder_6 sh88 ⟨by decide, by decide⟩ ?_
  refine G.istore_n dX11_findOrder_7 (by decide) rfl ?_
  refine G.iconst dX11_findOrder_8 ?_
  refine G.istore_n dX11_findOrder_9 (by decide) rfl ?_
  exact G.pick [0, 1, 2] k
theorem bX11_findOrder_10 {X : CT} {σ : St} {i1 i2 : Int}  (s : (-2147483648 ≤ i2 ∧ i2 < 2147483648))
    (kt : 4 ≤ i2 → G mdX11_findOrder X 28 [(0, vr 87), (1, vi i1)] [] σ)
    (kf : i2 < 4 → G mdX11_findOrder X 15 [(0, vr 87), (1, vi i1), (2, vi i2)] [] σ) :
    G mdX11_findOrder X 10 [(0, vr 87), (1, vi i1), (2, vi i2)] [] σ := by
  refine G.iload_n (z := i2) dX11_findOrder_10 rfl ?_
  refine G.iconst dX11_findOrder_11 ?_
  exact G.icmp_ge (tgt := 28) dX11_findOrder_12 (by decide) s ⟨by decide, by decide⟩ (fun q => G.pick [0, 1] (kt q)) (fun q => G.pick [0, 1, 2] (kf q))
theorem bX11_findOrder_15 {X : CT} {σ : St} {i1 i2 : Int}  (s : (0 ≤ i2 ∧ i2 < 4))
    (k : G mdX11_findOrder X 10 [(0, vr 87), (1, vi i1), (2, vi (i2 + 1))] [] (wr σ 99 i2 i2)) :
    G mdX11_findOrder X 15 [(0, vr 87), (1, vi i1), (2, vi i2)] [] σ := by
  refine G.aload_n (o := 87) dX11_findOrder_15 rfl ?_
  refine G.getR (o' := 99) dX11_findOrder_16 fX11_45 sh87 rfl ?_
  refine G.iload_n (z := i2) dX11_findOrder_19 rfl ?_
  refine G.iload_n (z := i2) dX11_findOrder_20 rfl ?_
  refine G.iast dX11_findOrder_21 sh99 s ?_
  refine G.iinc (z := i2) dX11_findOrder_22 rfl (by decide) rfl ?_
  refine G.goto (tgt := 10) dX11_findOrder_25 (by decide) ?_
  exact G.pick [0, 1, 2] k
theorem bX11_findOrder_28 {X : CT} {σ : St} {i1 : Int} 
    (k : G mdX11_findOrder X 36 [(0, vr 87), (1, vi i1), (2, vi 1)] [] (wr σ 87 24 33)) :
    G mdX11_findOrder X 28 [(0, vr 87), (1, vi i1)] [] σ := by
  refine G.aload_n (o := 87) dX11_findOrder_28 rfl ?_
  refine G.bipush dX11_findOrder_29 (by decide) ?_
  refine G.putI (j := 24) dX11_findOrder_31 fX11_235 sh87 rfl rfl rfl rfl rfl ?_
  refine G.iconst dX11_findOrder_34 ?_
  refine G.istore_n dX11_findOrder_35 (by decide) rfl ?_
  exact G.pick [0, 1, 2] k
theorem bX11_findOrder_36 {X : CT} {σ : St} {i1 i2 : Int}  (s : (-2147483648 ≤ i2 ∧ i2 < 2147483648))
    (kt : i2 = 0 → G mdX11_findOrder X 143 [] [] σ)
    (kf : ¬ i2 = 0 → G mdX11_findOrder X 40 [(0, vr 87), (1, vi i1)] [] σ) :
    G mdX11_findOrder X 36 [(0, vr 87), (1, vi i1), (2, vi i2)] [] σ := by
  refine G.iload_n (z := i2) dX11_findOrder_36 rfl ?_
  exact G.if_eq (tgt := 143) dX11_findOrder_37 (by decide) s (fun q => G.pick [] (kt q)) (fun q => G.pick [0, 1] (kf q))
theorem bX11_findOrder_40 {X : CT} {σ : St} {i1 : Int}  {P : St → Prop} (hM : CV mdX11_layAir [vr 87] σ P)
    (k : ∀ σ', P σ' → G mdX11_findOrder X 44 [(0, vr 87), (1, vi i1)] [] (σ')) :
    G mdX11_findOrder X 40 [(0, vr 87), (1, vi i1)] [] σ := by
  refine G.aload_n (o := 87) dX11_findOrder_40 rfl ?_
  exact G.callVV (as := []) (rest := []) dX11_findOrder_41 rfl vX11_202 (by decide) sh87 rfl (by decide) (Nat.le_of_ble_eq_true rfl) hM (fun σ' q => G.pick [0, 1] (k σ' q))
theorem bX11_findOrder_44 {X : CT} {σ : St} {i1 : Int} 
    (k : G mdX11_findOrder X 46 [(0, vr 87), (1, vi i1), (3, vi 0)] [] σ) :
    G mdX11_findOrder X 44 [(0, vr 87), (1, vi i1)] [] σ := by
  refine G.iconst dX11_findOrder_44 ?_
  refine G.istore_n dX11_findOrder_45 (by decide) rfl ?_
  exact G.pick [0, 1, 3] k
theorem bX11_findOrder_46 {X : CT} {σ : St} {i1 i3 : Int}  (s : (-2147483648 ≤ i3 ∧ i3 < 2147483648) ∧ (-2147483648 ≤ i1 ∧ i1 < 2147483648))
    (kt : i1 ≤ i3 → G mdX11_findOrder X 72 [(0, vr 87), (1, vi i1)] [] σ)
    (kf : i3 < i1 → G mdX11_findOrder X 51 [(0, vr 87), (1, vi i1), (3, vi i3)] [] σ) :
    G mdX11_findOrder X 46 [(0, vr 87), (1, vi i1), (3, vi i3)] [] σ := by
  refine G.iload_n (z := i3) dX11_findOrder_46 rfl ?_
  refine G.iload_n (z := i1) dX11_findOrder_47 rfl ?_
  exact G.icmp_ge (tgt := 72) dX11_findOrder_48 (by decide) s.1 s.2 (fun q => G.pick [0, 1] (kt q)) (fun q => G.pick [0, 1, 3] (kf q))
theorem bX11_findOrder_51 {X : CT} {σ : St} {i1 i3 : Int}  {P : St → Prop} (hM : CV mdX11_doStage [vr 87, vi (65 + (5 * (σ 99 i3)))] σ P) (s : (0 ≤ i3 ∧ i3 < 4))
    (k : ∀ σ', P σ' → G mdX11_findOrder X 66 [(0, vr 87), (1, vi i1), (3, vi i3)] [] (σ')) :
    G mdX11_findOrder X 51 [(0, vr 87), (1, vi i1), (3, vi i3)] [] σ := by
  refine G.aload_n (o := 87) dX11_findOrder_51 rfl ?_
  refine G.bipush dX11_findOrder_52 (by decide) ?_
  refine G.iconst dX11_findOrder_54 ?_
  refine G.aload_n (o := 87) dX11_findOrder_55 rfl ?_
  refine G.getR (o' := 99) dX11_findOrder_56 fX11_45 sh87 rfl ?_
  refine G.iload_n (z := i3) dX11_findOrder_59 rfl ?_
  refine G.iald dX11_findOrder_60 sh99 s ?_
  refine G.imul dX11_findOrder_61 ?_
  refine G.iadd dX11_findOrder_62 ?_
  exact G.callVV (as := [vi (65 + (5 * (σ 99 i3)))]) (rest := []) dX11_findOrder_63 rfl vX11_199 (by decide) sh87 rfl (by decide) (Nat.le_of_ble_eq_true rfl) hM (fun σ' q => G.pick [0, 1, 3] (k σ' q))
theorem bX11_findOrder_66 {X : CT} {σ : St} {i1 i3 : Int} 
    (k : G mdX11_findOrder X 46 [(0, vr 87), (1, vi i1), (3, vi (i3 + 1))] [] σ) :
    G mdX11_findOrder X 66 [(0, vr 87), (1, vi i1), (3, vi i3)] [] σ := by
  refine G.iinc (z := i3) dX11_findOrder_66 rfl (by decide) rfl ?_
  refine G.goto (tgt := 46) dX11_findOrder_69 (by decide) ?_
  exact G.pick [0, 1, 3] k
theorem bX11_findOrder_72 {X : CT} {σ : St} {i1 : Int}  {P : Int → St → Prop} (hM : CI mdX11_wrongNow [vr 87] σ P)
    (k : ∀ z σ', inI z → P z σ' → G mdX11_findOrder X 76 [(0, vr 87), (1, vi i1)] [vi z] (σ')) :
    G mdX11_findOrder X 72 [(0, vr 87), (1, vi i1)] [] σ := by
  refine G.aload_n (o := 87) dX11_findOrder_72 rfl ?_
  exact G.callVI (as := []) (rest := []) dX11_findOrder_73 rfl vX11_211 (by decide) sh87 rfl (by decide) (Nat.le_of_ble_eq_true rfl) hM (fun z σ' hz q => G.pick [0, 1] (k z σ' hz q))
theorem bX11_findOrder_76 {X : CT} {σ : St} {i1 t0 : Int} 
    (k : G mdX11_findOrder X 80 [(0, vr 87), (1, vi i1), (3, vi t0), (4, vi 0)] [] σ) :
    G mdX11_findOrder X 76 [(0, vr 87), (1, vi i1)] [vi t0] σ := by
  refine G.istore_n dX11_findOrder_76 (by decide) rfl ?_
  refine G.iconst dX11_findOrder_77 ?_
  refine G.istore dX11_findOrder_78 (by decide) rfl ?_
  exact G.pick [0, 1, 3, 4] k
theorem bX11_findOrder_80 {X : CT} {σ : St} {i1 i3 i4 : Int}  (s : (-2147483648 ≤ i4 ∧ i4 < 2147483648))
    (kt : 4 ≤ i4 → G mdX11_findOrder X 114 [(0, vr 87), (1, vi i1), (3, vi i3)] [] σ)
    (kf : i4 < 4 → G mdX11_findOrder X 86 [(0, vr 87), (1, vi i1), (3, vi i3), (4, vi i4)] [] σ) :
    G mdX11_findOrder X 80 [(0, vr 87), (1, vi i1), (3, vi i3), (4, vi i4)] [] σ := by
  refine G.iload (z := i4) dX11_findOrder_80 rfl ?_
  refine G.iconst dX11_findOrder_82 ?_
  exact G.icmp_ge (tgt := 114) dX11_findOrder_83 (by decide) s ⟨by decide, by decide⟩ (fun q => G.pick [0, 1, 3] (kt q)) (fun q => G.pick [0, 1, 3, 4] (kf q))
theorem bX11_findOrder_86 {X : CT} {σ : St} {i1 i3 i4 : Int}  (s : (-2147483648 ≤ i3 ∧ i3 < 2147483648) ∧ (-2147483648 ≤ σ 87 24 ∧ σ 87 24 < 2147483648))
    (kt : σ 87 24 ≤ i3 → G mdX11_findOrder X 114 [(0, vr 87), (1, vi i1), (3, vi i3)] [] σ)
    (kf : i3 < σ 87 24 → G mdX11_findOrder X 94 [(0, vr 87), (1, vi i1), (3, vi i3), (4, vi i4)] [] σ) :
    G mdX11_findOrder X 86 [(0, vr 87), (1, vi i1), (3, vi i3), (4, vi i4)] [] σ := by
  refine G.iload_n (z := i3) dX11_findOrder_86 rfl ?_
  refine G.aload_n (o := 87) dX11_findOrder_87 rfl ?_
  refine G.getI (j := 24) dX11_findOrder_88 fX11_235 sh87 rfl rfl rfl ?_
  exact G.icmp_ge (tgt := 114) dX11_findOrder_91 (by decide) s.1 s.2 (fun q => G.pick [0, 1, 3] (kt q)) (fun q => G.pick [0, 1, 3, 4] (kf q))
theorem bX11_findOrder_94 {X : CT} {σ : St} {i1 i3 i4 : Int}  (s : (0 ≤ i4 ∧ i4 < 4))
    (k : G mdX11_findOrder X 80 [(0, vr 87), (1, vi i1), (3, vi i3), (4, vi (i4 + 1))] [] (wr σ 100 i4 (σ 99 i4))) :
    G mdX11_findOrder X 94 [(0, vr 87), (1, vi i1), (3, vi i3), (4, vi i4)] [] σ := by
  refine G.aload_n (o := 87) dX11_findOrder_94 rfl ?_
  refine G.getR (o' := 100) dX11_findOrder_95 fX11_48 sh87 rfl ?_
  refine G.iload (z := i4) dX11_findOrder_98 rfl ?_
  refine G.aload_n (o := 87) dX11_findOrder_100 rfl ?_
  refine G.getR (o' := 99) dX11_findOrder_101 fX11_45 sh87 rfl ?_
  refine G.iload (z := i4) dX11_findOrder_104 rfl ?_
  refine G.iald dX11_findOrder_106 sh99 s ?_
  refine G.iast dX11_findOrder_107 sh100 s ?_
  refine G.iinc (z := i4) dX11_findOrder_108 rfl (by decide) rfl ?_
  refine G.goto (tgt := 80) dX11_findOrder_111 (by decide) ?_
  exact G.pick [0, 1, 3, 4] k
theorem bX11_findOrder_114 {X : CT} {σ : St} {i1 i3 : Int}  (s : (-2147483648 ≤ i3 ∧ i3 < 2147483648) ∧ (-2147483648 ≤ σ 87 24 ∧ σ 87 24 < 2147483648))
    (kt : σ 87 24 ≤ i3 → G mdX11_findOrder X 127 [(0, vr 87), (1, vi i1)] [vr 87] σ)
    (kf : i3 < σ 87 24 → G mdX11_findOrder X 123 [(0, vr 87), (1, vi i1), (3, vi i3)] [vr 87] σ) :
    G mdX11_findOrder X 114 [(0, vr 87), (1, vi i1), (3, vi i3)] [] σ := by
  refine G.aload_n (o := 87) dX11_findOrder_114 rfl ?_
  refine G.iload_n (z := i3) dX11_findOrder_115 rfl ?_
  refine G.aload_n (o := 87) dX11_findOrder_116 rfl ?_
  refine G.getI (j := 24) dX11_findOrder_117 fX11_235 sh87 rfl rfl rfl ?_
  exact G.icmp_ge (tgt := 127) dX11_findOrder_120 (by decide) s.1 s.2 (fun q => G.pick [0, 1] (kt q)) (fun q => G.pick [0, 1, 3] (kf q))
theorem bX11_findOrder_123 {X : CT} {σ : St} {i1 i3 : Int} 
    (k : G mdX11_findOrder X 131 [(0, vr 87), (1, vi i1)] [vi i3, vr 87] σ) :
    G mdX11_findOrder X 123 [(0, vr 87), (1, vi i1), (3, vi i3)] [vr 87] σ := by
  refine G.iload_n (z := i3) dX11_findOrder_123 rfl ?_
  refine G.goto (tgt := 131) dX11_findOrder_124 (by decide) ?_
  exact G.pick [0, 1] k
theorem bX11_findOrder_127 {X : CT} {σ : St} {i1 : Int} 
    (k : G mdX11_findOrder X 131 [(0, vr 87), (1, vi i1)] [vi (σ 87 24), vr 87] σ) :
    G mdX11_findOrder X 127 [(0, vr 87), (1, vi i1)] [vr 87] σ := by
  refine G.aload_n (o := 87) dX11_findOrder_127 rfl ?_
  refine G.getI (j := 24) dX11_findOrder_128 fX11_235 sh87 rfl rfl rfl ?_
  exact G.pick [0, 1] k
theorem bX11_findOrder_131 {X : CT} {σ : St} {i1 t1 : Int}  {P : Int → St → Prop} (hM : CI mdX11_turnsOn [vr 87, vi i1] (wr σ 87 24 t1) P)
    (k : ∀ z σ', inI z → P z σ' → G mdX11_findOrder X 139 [(0, vr 87), (1, vi i1)] [vi z] (σ')) :
    G mdX11_findOrder X 131 [(0, vr 87), (1, vi i1)] [vi t1, vr 87] σ := by
  refine G.putI (j := 24) dX11_findOrder_131 fX11_235 sh87 rfl rfl rfl rfl rfl ?_
  refine G.aload_n (o := 87) dX11_findOrder_134 rfl ?_
  refine G.iload_n (z := i1) dX11_findOrder_135 rfl ?_
  exact G.callVI (as := [vi i1]) (rest := []) dX11_findOrder_136 rfl vX11_238 (by decide) sh87 rfl (by decide) (Nat.le_of_ble_eq_true rfl) hM (fun z σ' hz q => G.pick [0, 1] (k z σ' hz q))
theorem bX11_findOrder_139 {X : CT} {σ : St} {i1 t0 : Int} 
    (k : G mdX11_findOrder X 36 [(0, vr 87), (1, vi i1), (2, vi t0)] [] σ) :
    G mdX11_findOrder X 139 [(0, vr 87), (1, vi i1)] [vi t0] σ := by
  refine G.istore_n dX11_findOrder_139 (by decide) rfl ?_
  refine G.goto (tgt := 36) dX11_findOrder_140 (by decide) ?_
  exact G.pick [0, 1, 2] k
theorem bX11_findOrder_143 {X : CT} {σ : St}  {P : St → Prop} (hX : RV X P)
    (k : P σ) :
    G mdX11_findOrder X 143 [] [] σ := by
  exact G.vret hX dX11_findOrder_143 rfl k
theorem bX11_order_0 {X : CT} {σ : St} {i1 : Int}  (s : (-2147483648 ≤ i1 ∧ i1 < 2147483648))
    (kt : (-1) ≤ i1 → G mdX11_order X 7 [(0, vr 87), (1, vi i1)] [] σ)
    (kf : i1 < (-1) → G mdX11_order X 5 [] [] σ) :
    G mdX11_order X 0 [(0, vr 87), (1, vi i1)] [] σ := by
  refine G.iload_n (z := i1) dX11_order_0 rfl ?_
  refine G.iconst dX11_order_1 ?_
  exact G.icmp_ge (tgt := 7) dX11_order_2 (by decide) s ⟨by decide, by decide⟩ (fun q => G.pick [0, 1] (kt q)) (fun q => G.pick [] (kf q))
theorem bX11_order_5 {X : CT} {σ : St}  {P : Int → St → Prop} (hX : RI X P)
    (k : P (-1) σ) :
    G mdX11_order X 5 [] [] σ := by
  refine G.iconst dX11_order_5 ?_
  exact G.iret hX dX11_order_6 rfl ⟨by decide, by decide⟩ k
theorem bX11_order_7 {X : CT} {σ : St} {i1 : Int}  {P : St → Prop} (hM : CV mdX11_findOrder [vr 87] σ P)
    (k : ∀ σ', P σ' → G mdX11_order X 11 [(0, vr 87), (1, vi i1)] [] (σ')) :
    G mdX11_order X 7 [(0, vr 87), (1, vi i1)] [] σ := by
  refine G.aload_n (o := 87) dX11_order_7 rfl ?_
  exact G.callVV (as := []) (rest := []) dX11_order_8 rfl vX11_241 (by decide) sh87 rfl (by decide) (Nat.le_of_ble_eq_true rfl) hM (fun σ' q => G.pick [0, 1] (k σ' q))
theorem bX11_order_11 {X : CT} {σ : St} {i1 : Int}  (s : (-2147483648 ≤ i1 ∧ i1 < 2147483648))
    (kt : 0 ≤ i1 → G mdX11_order X 22 [(0, vr 87), (1, vi i1)] [] σ)
    (kf : i1 < 0 → G mdX11_order X 15 [(0, vr 87)] [] σ) :
    G mdX11_order X 11 [(0, vr 87), (1, vi i1)] [] σ := by
  refine G.iload_n (z := i1) dX11_order_11 rfl ?_
  exact G.if_ge (tgt := 22) dX11_order_12 (by decide) s (fun q => G.pick [0, 1] (kt q)) (fun q => G.pick [0] (kf q))
theorem bX11_order_15 {X : CT} {σ : St} 
    (k : G mdX11_order X 44 [] [vi (σ 87 24)] σ) :
    G mdX11_order X 15 [(0, vr 87)] [] σ := by
  refine G.aload_n (o := 87) dX11_order_15 rfl ?_
  refine G.getI (j := 24) dX11_order_16 fX11_235 sh87 rfl rfl rfl ?_
  refine G.goto (tgt := 44) dX11_order_19 (by decide) ?_
  exact G.pick [] k
theorem bX11_order_22 {X : CT} {σ : St} {i1 : Int}  (s : (-2147483648 ≤ i1 ∧ i1 < 2147483648) ∧ (-2147483648 ≤ σ 88 64 ∧ σ 88 64 < 2147483648))
    (kt : σ 88 64 ≤ i1 → G mdX11_order X 42 [] [] σ)
    (kf : i1 < σ 88 64 → G mdX11_order X 33 [(0, vr 87), (1, vi i1)] [] σ) :
    G mdX11_order X 22 [(0, vr 87), (1, vi i1)] [] σ := by
  refine G.iload_n (z := i1) dX11_order_22 rfl ?_
  refine G.aload_n (o := 87) dX11_order_23 rfl ?_
  refine G.getR (o' := 88) dX11_order_24 fX11_7 sh87 rfl ?_
  refine G.bipush dX11_order_27 (by decide) ?_
  refine G.iald dX11_order_29 sh88 ⟨by decide, by decide⟩ ?_
  exact G.icmp_ge (tgt := 42) dX11_order_30 (by decide) s.1 s.2 (fun q => G.pick [] (kt q)) (fun q => G.pick [0, 1] (kf q))
theorem bX11_order_33 {X : CT} {σ : St} {i1 : Int}  (s : (0 ≤ i1 ∧ i1 < 4))
    (k : G mdX11_order X 44 [] [vi (σ 100 i1)] σ) :
    G mdX11_order X 33 [(0, vr 87), (1, vi i1)] [] σ := by
  refine G.aload_n (o := 87) dX11_order_33 rfl ?_
  refine G.getR (o' := 100) dX11_order_34 fX11_48 sh87 rfl ?_
  refine G.iload_n (z := i1) dX11_order_37 rfl ?_
  refine G.iald dX11_order_38 sh100 s ?_
  refine G.goto (tgt := 44) dX11_order_39 (by decide) ?_
  exact G.pick [] k
theorem bX11_order_42 {X : CT} {σ : St} 
    (k : G mdX11_order X 44 [] [vi (-9)] σ) :
    G mdX11_order X 42 [] [] σ := by
  refine G.bipush dX11_order_42 (by decide) ?_
  exact G.pick [] k
theorem bX11_order_44 {X : CT} {σ : St} {t0 : Int}  {P : Int → St → Prop} (hX : RI X P) (s : (-2147483648 ≤ t0 ∧ t0 < 2147483648))
    (k : P t0 σ) :
    G mdX11_order X 44 [] [vi t0] σ := by
  exact G.iret hX dX11_order_44 rfl s k
theorem bX11_orders_0 {X : CT} {σ : St}  {P : St → Prop} (hM : CV mdX11_findOrder [vr 87] σ P)
    (k : ∀ σ', P σ' → G mdX11_orders X 4 [(0, vr 87)] [] (σ')) :
    G mdX11_orders X 0 [(0, vr 87)] [] σ := by
  refine G.aload_n (o := 87) dX11_orders_0 rfl ?_
  exact G.callVV (as := []) (rest := []) dX11_orders_1 rfl vX11_241 (by decide) sh87 rfl (by decide) (Nat.le_of_ble_eq_true rfl) hM (fun σ' q => G.pick [0] (k σ' q))
theorem bX11_orders_4 {X : CT} {σ : St} 
    (k : G mdX11_orders X 8 [(0, vr 87), (1, vi 1), (2, vi 0)] [] σ) :
    G mdX11_orders X 4 [(0, vr 87)] [] σ := by
  refine G.iconst dX11_orders_4 ?_
  refine G.istore_n dX11_orders_5 (by decide) rfl ?_
  refine G.iconst dX11_orders_6 ?_
  refine G.istore_n dX11_orders_7 (by decide) rfl ?_
  exact G.pick [0, 1, 2] k
theorem bX11_orders_8 {X : CT} {σ : St} {i1 i2 : Int}  (s : (-2147483648 ≤ i2 ∧ i2 < 2147483648) ∧ (-2147483648 ≤ σ 88 64 ∧ σ 88 64 < 2147483648))
    (kt : σ 88 64 ≤ i2 → G mdX11_orders X 45 [(0, vr 87), (1, vi i1)] [] σ)
    (kf : i2 < σ 88 64 → G mdX11_orders X 19 [(0, vr 87), (1, vi i1), (2, vi i2)] [] σ) :
    G mdX11_orders X 8 [(0, vr 87), (1, vi i1), (2, vi i2)] [] σ := by
  refine G.iload_n (z := i2) dX11_orders_8 rfl ?_
  refine G.aload_n (o := 87) dX11_orders_9 rfl ?_
  refine G.getR (o' := 88) dX11_orders_10 fX11_7 sh87 rfl ?_
  refine G.bipush dX11_orders_13 (by decide) ?_
  refine G.iald dX11_orders_15 sh88 ⟨by decide, by decide⟩ ?_
  exact G.icmp_ge (tgt := 45) dX11_orders_16 (by decide) s.1 s.2 (fun q => G.pick [0, 1] (kt q)) (fun q => G.pick [0, 1, 2] (kf q))
theorem bX11_orders_19 {X : CT} {σ : St} {i1 i2 : Int}  (s : (-2147483648 ≤ i1 ∧ i1 < 2147483648))
    (kt : i1 = 0 → G mdX11_orders X 37 [(0, vr 87), (2, vi i2)] [] σ)
    (kf : ¬ i1 = 0 → G mdX11_orders X 23 [(0, vr 87), (2, vi i2)] [] σ) :
    G mdX11_orders X 19 [(0, vr 87), (1, vi i1), (2, vi i2)] [] σ := by
  refine G.iload_n (z := i1) dX11_orders_19 rfl ?_
  exact G.if_eq (tgt := 37) dX11_orders_20 (by decide) s (fun q => G.pick [0, 2] (kt q)) (fun q => G.pick [0, 2] (kf q))
theorem bX11_orders_23 {X : CT} {σ : St} {i2 : Int}  (s : (0 ≤ i2 ∧ i2 < 4) ∧ (-2147483648 ≤ σ 100 i2 ∧ σ 100 i2 < 2147483648) ∧ (-2147483648 ≤ i2 ∧ i2 < 2147483648))
    (kt : ¬ σ 100 i2 = i2 → G mdX11_orders X 37 [(0, vr 87), (2, vi i2)] [] σ)
    (kf : σ 100 i2 = i2 → G mdX11_orders X 33 [(0, vr 87), (2, vi i2)] [] σ) :
    G mdX11_orders X 23 [(0, vr 87), (2, vi i2)] [] σ := by
  refine G.aload_n (o := 87) dX11_orders_23 rfl ?_
  refine G.getR (o' := 100) dX11_orders_24 fX11_48 sh87 rfl ?_
  refine G.iload_n (z := i2) dX11_orders_27 rfl ?_
  refine G.iald dX11_orders_28 sh100 s.1 ?_
  refine G.iload_n (z := i2) dX11_orders_29 rfl ?_
  exact G.icmp_ne (tgt := 37) dX11_orders_30 (by decide) s.2.1 s.2.2 (fun q => G.pick [0, 2] (kt q)) (fun q => G.pick [0, 2] (kf q))
theorem bX11_orders_33 {X : CT} {σ : St} {i2 : Int} 
    (k : G mdX11_orders X 38 [(0, vr 87), (2, vi i2)] [vi 1] σ) :
    G mdX11_orders X 33 [(0, vr 87), (2, vi i2)] [] σ := by
  refine G.iconst dX11_orders_33 ?_
  refine G.goto (tgt := 38) dX11_orders_34 (by decide) ?_
  exact G.pick [0, 2] k
theorem bX11_orders_37 {X : CT} {σ : St} {i2 : Int} 
    (k : G mdX11_orders X 38 [(0, vr 87), (2, vi i2)] [vi 0] σ) :
    G mdX11_orders X 37 [(0, vr 87), (2, vi i2)] [] σ := by
  refine G.iconst dX11_orders_37 ?_
  exact G.pick [0, 2] k
theorem bX11_orders_38 {X : CT} {σ : St} {i2 t0 : Int} 
    (k : G mdX11_orders X 8 [(0, vr 87), (1, vi t0), (2, vi (i2 + 1))] [] σ) :
    G mdX11_orders X 38 [(0, vr 87), (2, vi i2)] [vi t0] σ := by
  refine G.istore_n dX11_orders_38 (by decide) rfl ?_
  refine G.iinc (z := i2) dX11_orders_39 rfl (by decide) rfl ?_
  refine G.goto (tgt := 8) dX11_orders_42 (by decide) ?_
  exact G.pick [0, 1, 2] k
theorem bX11_orders_45 {X : CT} {σ : St} {i1 : Int}  (s : (-2147483648 ≤ i1 ∧ i1 < 2147483648))
    (kt : i1 = 0 → G mdX11_orders X 52 [(0, vr 87)] [] σ)
    (kf : ¬ i1 = 0 → G mdX11_orders X 49 [] [] σ) :
    G mdX11_orders X 45 [(0, vr 87), (1, vi i1)] [] σ := by
  refine G.iload_n (z := i1) dX11_orders_45 rfl ?_
  exact G.if_eq (tgt := 52) dX11_orders_46 (by decide) s (fun q => G.pick [0] (kt q)) (fun q => G.pick [] (kf q))
theorem bX11_orders_49 {X : CT} {σ : St}  {P : Int → St → Prop} (hX : RI X P)
    (k : P (-2) σ) :
    G mdX11_orders X 49 [] [] σ := by
  refine G.bipush dX11_orders_49 (by decide) ?_
  exact G.iret hX dX11_orders_51 rfl ⟨by decide, by decide⟩ k
theorem bX11_orders_52 {X : CT} {σ : St}  {P : St → Prop} (hM : CV mdX11_note [vr 87] σ P)
    (k : ∀ σ', P σ' → G mdX11_orders X 56 [(0, vr 87)] [] (σ')) :
    G mdX11_orders X 52 [(0, vr 87)] [] σ := by
  refine G.aload_n (o := 87) dX11_orders_52 rfl ?_
  exact G.callVV (as := []) (rest := []) dX11_orders_53 rfl vX11_140 (by decide) sh87 rfl (by decide) (Nat.le_of_ble_eq_true rfl) hM (fun σ' q => G.pick [0] (k σ' q))
theorem bX11_orders_56 {X : CT} {σ : St} 
    (k : G mdX11_orders X 58 [(0, vr 87), (2, vi 0)] [] σ) :
    G mdX11_orders X 56 [(0, vr 87)] [] σ := by
  refine G.iconst dX11_orders_56 ?_
  refine G.istore_n dX11_orders_57 (by decide) rfl ?_
  exact G.pick [0, 2] k
theorem bX11_orders_58 {X : CT} {σ : St} {i2 : Int}  (s : (-2147483648 ≤ i2 ∧ i2 < 2147483648))
    (kt : 20 ≤ i2 → G mdX11_orders X 85 [(0, vr 87)] [] σ)
    (kf : i2 < 20 → G mdX11_orders X 64 [(0, vr 87), (2, vi i2)] [] σ) :
    G mdX11_orders X 58 [(0, vr 87), (2, vi i2)] [] σ := by
  refine G.iload_n (z := i2) dX11_orders_58 rfl ?_
  refine G.bipush dX11_orders_59 (by decide) ?_
  exact G.icmp_ge (tgt := 85) dX11_orders_61 (by decide) s ⟨by decide, by decide⟩ (fun q => G.pick [0] (kt q)) (fun q => G.pick [0, 2] (kf q))
theorem bX11_orders_64 {X : CT} {σ : St} {i2 : Int}  (s : (0 ≤ 65 + i2 ∧ 65 + i2 < 86) ∧ (0 ≤ i2 ∧ i2 < 20))
    (k : G mdX11_orders X 58 [(0, vr 87), (2, vi (i2 + 1))] [] (wr σ 101 i2 (σ 88 (65 + i2)))) :
    G mdX11_orders X 64 [(0, vr 87), (2, vi i2)] [] σ := by
  refine G.aload_n (o := 87) dX11_orders_64 rfl ?_
  refine G.getR (o' := 101) dX11_orders_65 fX11_51 sh87 rfl ?_
  refine G.iload_n (z := i2) dX11_orders_68 rfl ?_
  refine G.aload_n (o := 87) dX11_orders_69 rfl ?_
  refine G.getR (o' := 88) dX11_orders_70 fX11_7 sh87 rfl ?_
  refine G.bipush dX11_orders_73 (by decide) ?_
  refine G.iload_n (z := i2) dX11_orders_75 rfl ?_
  refine G.iadd dX11_orders_76 ?_
  refine G.iald dX11_orders_77 sh88 s.1 ?_
  refine G.iast dX11_orders_78 sh101 s.2 ?_
  refine G.iinc (z := i2) dX11_orders_79 rfl (by decide) rfl ?_
  refine G.goto (tgt := 58) dX11_orders_82 (by decide) ?_
  exact G.pick [0, 2] k
theorem bX11_orders_85 {X : CT} {σ : St} 
    (k : G mdX11_orders X 87 [(0, vr 87), (2, vi 0)] [] σ) :
    G mdX11_orders X 85 [(0, vr 87)] [] σ := by
  refine G.iconst dX11_orders_85 ?_
  refine G.istore_n dX11_orders_86 (by decide) rfl ?_
  exact G.pick [0, 2] k
theorem bX11_orders_87 {X : CT} {σ : St} {i2 : Int}  (s : (-2147483648 ≤ i2 ∧ i2 < 2147483648) ∧ (-2147483648 ≤ 5 * (σ 88 64) ∧ 5 * (σ 88 64) < 2147483648))
    (kt : 5 * (σ 88 64) ≤ i2 → G mdX11_orders X 134 [(0, vr 87)] [] σ)
    (kf : i2 < 5 * (σ 88 64) → G mdX11_orders X 100 [(0, vr 87), (2, vi i2)] [] σ) :
    G mdX11_orders X 87 [(0, vr 87), (2, vi i2)] [] σ := by
  refine G.iload_n (z := i2) dX11_orders_87 rfl ?_
  refine G.iconst dX11_orders_88 ?_
  refine G.aload_n (o := 87) dX11_orders_89 rfl ?_
  refine G.getR (o' := 88) dX11_orders_90 fX11_7 sh87 rfl ?_
  refine G.bipush dX11_orders_93 (by decide) ?_
  refine G.iald dX11_orders_95 sh88 ⟨by decide, by decide⟩ ?_
  refine G.imul dX11_orders_96 ?_
  exact G.icmp_ge (tgt := 134) dX11_orders_97 (by decide) s.1 s.2 (fun q => G.pick [0] (kt q)) (fun q => G.pick [0, 2] (kf q))
theorem bX11_orders_100 {X : CT} {σ : St} {i2 : Int}  (s : (0 ≤ i2 ∧ i2 < 2147483648) ∧ (0 ≤ i2 / 5 ∧ i2 / 5 < 4) ∧ (0 ≤ (5 * (σ 100 (i2 / 5))) + (i2 % 5) ∧ (5 * (σ 100 (i2 / 5))) + (i2 % 5) < 20) ∧ (0 ≤ 65 + i2 ∧ 65 + i2 < 86))
    (k : G mdX11_orders X 87 [(0, vr 87), (2, vi (i2 + 1))] [] (wr σ 88 (65 + i2) (σ 101 ((5 * (σ 100 (i2 / 5))) + (i2 % 5))))) :
    G mdX11_orders X 100 [(0, vr 87), (2, vi i2)] [] σ := by
  refine G.aload_n (o := 87) dX11_orders_100 rfl ?_
  refine G.getR (o' := 88) dX11_orders_101 fX11_7 sh87 rfl ?_
  refine G.bipush dX11_orders_104 (by decide) ?_
  refine G.iload_n (z := i2) dX11_orders_106 rfl ?_
  refine G.iadd dX11_orders_107 ?_
  refine G.aload_n (o := 87) dX11_orders_108 rfl ?_
  refine G.getR (o' := 101) dX11_orders_109 fX11_51 sh87 rfl ?_
  refine G.iconst dX11_orders_112 ?_
  refine G.aload_n (o := 87) dX11_orders_113 rfl ?_
  refine G.getR (o' := 100) dX11_orders_114 fX11_48 sh87 rfl ?_
  refine G.iload_n (z := i2) dX11_orders_117 rfl ?_
  refine G.iconst dX11_orders_118 ?_
  refine G.idiv dX11_orders_119 s.1 ⟨by decide, by decide⟩ ?_
  refine G.iald dX11_orders_120 sh100 s.2.1 ?_
  refine G.imul dX11_orders_121 ?_
  refine G.iload_n (z := i2) dX11_orders_122 rfl ?_
  refine G.iconst dX11_orders_123 ?_
  refine G.irem dX11_orders_124 s.1 ⟨by decide, by decide⟩ ?_
  refine G.iadd dX11_orders_125 ?_
  refine G.iald dX11_orders_126 sh101 s.2.2.1 ?_
  refine G.iast dX11_orders_127 sh88 s.2.2.2 ?_
  refine G.iinc (z := i2) dX11_orders_128 rfl (by decide) rfl ?_
  refine G.goto (tgt := 87) dX11_orders_131 (by decide) ?_
  exact G.pick [0, 2] k
theorem bX11_orders_134 {X : CT} {σ : St}  {P : Int → St → Prop} (hX : RI X P) (s : (-2147483648 ≤ σ 87 24 ∧ σ 87 24 < 2147483648))
    (k : P (σ 87 24) σ) :
    G mdX11_orders X 134 [(0, vr 87)] [] σ := by
  refine G.aload_n (o := 87) dX11_orders_134 rfl ?_
  refine G.getI (j := 24) dX11_orders_135 fX11_235 sh87 rfl rfl rfl ?_
  exact G.iret hX dX11_orders_138 rfl s k
theorem bX11_hears_0 {X : CT} {σ : St}  {P : Int → St → Prop} (hM : CI mdX11_wrongReceived [vr 87] σ P)
    (k : ∀ z σ', inI z → P z σ' → G mdX11_hears X 4 [(0, vr 87)] [vi z] (σ')) :
    G mdX11_hears X 0 [(0, vr 87)] [] σ := by
  refine G.aload_n (o := 87) dX11_hears_0 rfl ?_
  exact G.callVI (as := []) (rest := []) dX11_hears_1 rfl vX11_244 (by decide) sh87 rfl (by decide) (Nat.le_of_ble_eq_true rfl) hM (fun z σ' hz q => G.pick [0] (k z σ' hz q))
theorem bX11_hears_4 {X : CT} {σ : St} {t0 : Int}  {P : St → Prop} (hM : CV mdX11_note [vr 87] σ P)
    (k : ∀ σ', P σ' → G mdX11_hears X 9 [(0, vr 87), (1, vi t0)] [] (σ')) :
    G mdX11_hears X 4 [(0, vr 87)] [vi t0] σ := by
  refine G.istore_n dX11_hears_4 (by decide) rfl ?_
  refine G.aload_n (o := 87) dX11_hears_5 rfl ?_
  exact G.callVV (as := []) (rest := []) dX11_hears_6 rfl vX11_140 (by decide) sh87 rfl (by decide) (Nat.le_of_ble_eq_true rfl) hM (fun σ' q => G.pick [0, 1] (k σ' q))
theorem bX11_hears_9 {X : CT} {σ : St} {i1 : Int}  (n0 : vf_n32 (FP.fmul 1061158912 (fl ((wr σ 88 85 ((σ 88 85) + 1)) 87 1)))) (n1 : vf_n32 (FP.fmul 1048576000 (FP.i2f (Int32.ofInt i1)))) (n2 : vf_n32 (FP.fadd (FP.fmul 1061158912 (fl ((wr σ 88 85 ((σ 88 85) + 1)) 87 1))) (FP.fmul 1048576000 (FP.i2f (Int32.ofInt i1))))) {P : Int → St → Prop} (hX : RI X P) (s : (-2147483648 ≤ i1 ∧ i1 < 2147483648))
    (k : P i1 (wr (wr σ 88 85 ((σ 88 85) + 1)) 87 1 (FP.fadd (FP.fmul 1061158912 (fl ((wr σ 88 85 ((σ 88 85) + 1)) 87 1))) (FP.fmul 1048576000 (FP.i2f (Int32.ofInt i1)))).toNat)) :
    G mdX11_hears X 9 [(0, vr 87), (1, vi i1)] [] σ := by
  refine G.aload_n (o := 87) dX11_hears_9 rfl ?_
  refine G.getR (o' := 88) dX11_hears_10 fX11_7 sh87 rfl ?_
  refine G.bipush dX11_hears_13 (by decide) ?_
  refine G.dup2 dX11_hears_15 ?_
  refine G.iald dX11_hears_16 sh88 ⟨by decide, by decide⟩ ?_
  refine G.iconst dX11_hears_17 ?_
  refine G.iadd dX11_hears_18 ?_
  refine G.iast dX11_hears_19 sh88 ⟨by decide, by decide⟩ ?_
  refine G.aload_n (o := 87) dX11_hears_20 rfl ?_
  refine G.ldcf (i := 1132) (v := 1061158912) dX11_hears_21 (by decide +kernel) ?_
  refine G.aload_n (o := 87) dX11_hears_23 rfl ?_
  refine G.getF (j := 1) dX11_hears_24 fX11_78 sh87 rfl rfl ?_
  refine G.fmul dX11_hears_27 n0 ?_
  refine G.ldcf (i := 1133) (v := 1048576000) dX11_hears_28 (by decide +kernel) ?_
  refine G.iload_n (z := i1) dX11_hears_30 rfl ?_
  refine G.i2f dX11_hears_31 ?_
  refine G.fmul dX11_hears_32 n1 ?_
  refine G.fadd dX11_hears_33 n2 ?_
  refine G.putF (j := 1) dX11_hears_34 fX11_78 sh87 rfl rfl rfl rfl rfl ?_
  refine G.iload_n (z := i1) dX11_hears_37 rfl ?_
  exact G.iret hX dX11_hears_38 rfl s k
theorem bX11_at_0 {X : CT} {σ : St} {i1 i2 i3 : Int}  {P : Int → St → Prop} (hM : CI mdX11_in [vi i1, vi 0, vi 1] σ P)
    (k : ∀ z σ', inI z → P z σ' → G mdX11_at X 6 [(0, vr 87), (1, vi i1), (2, vi i2), (3, vi i3)] [vi z] (σ')) :
    G mdX11_at X 0 [(0, vr 87), (1, vi i1), (2, vi i2), (3, vi i3)] [] σ := by
  refine G.iload_n (z := i1) dX11_at_0 rfl ?_
  refine G.iconst dX11_at_1 ?_
  refine G.iconst dX11_at_2 ?_
  exact G.callSI (as := [vi i1, vi 0, vi 1]) (rest := []) dX11_at_3 rfl vX11_82 (by decide) (Nat.le_of_ble_eq_true rfl) hM (fun z σ' hz q => G.pick [0, 1, 2, 3] (k z σ' hz q))
theorem bX11_at_6 {X : CT} {σ : St} {i1 i2 i3 t0 : Int}  (s : (-2147483648 ≤ t0 ∧ t0 < 2147483648))
    (kt : t0 = 0 → G mdX11_at X 28 [] [] σ)
    (kf : ¬ t0 = 0 → G mdX11_at X 9 [(0, vr 87), (1, vi i1), (2, vi i2), (3, vi i3)] [] σ) :
    G mdX11_at X 6 [(0, vr 87), (1, vi i1), (2, vi i2), (3, vi i3)] [vi t0] σ := by
  exact G.if_eq (tgt := 28) dX11_at_6 (by decide) s (fun q => G.pick [] (kt q)) (fun q => G.pick [0, 1, 2, 3] (kf q))
theorem bX11_at_9 {X : CT} {σ : St} {i1 i2 i3 : Int}  {P : Int → St → Prop} (hM : CI mdX11_in [vi i2, vi 0, vi 15] σ P)
    (k : ∀ z σ', inI z → P z σ' → G mdX11_at X 16 [(0, vr 87), (1, vi i1), (2, vi i2), (3, vi i3)] [vi z] (σ')) :
    G mdX11_at X 9 [(0, vr 87), (1, vi i1), (2, vi i2), (3, vi i3)] [] σ := by
  refine G.iload_n (z := i2) dX11_at_9 rfl ?_
  refine G.iconst dX11_at_10 ?_
  refine G.bipush dX11_at_11 (by decide) ?_
  exact G.callSI (as := [vi i2, vi 0, vi 15]) (rest := []) dX11_at_13 rfl vX11_82 (by decide) (Nat.le_of_ble_eq_true rfl) hM (fun z σ' hz q => G.pick [0, 1, 2, 3] (k z σ' hz q))
theorem bX11_at_16 {X : CT} {σ : St} {i1 i2 i3 t0 : Int}  (s : (-2147483648 ≤ t0 ∧ t0 < 2147483648))
    (kt : t0 = 0 → G mdX11_at X 28 [] [] σ)
    (kf : ¬ t0 = 0 → G mdX11_at X 19 [(0, vr 87), (1, vi i1), (2, vi i2), (3, vi i3)] [] σ) :
    G mdX11_at X 16 [(0, vr 87), (1, vi i1), (2, vi i2), (3, vi i3)] [vi t0] σ := by
  exact G.if_eq (tgt := 28) dX11_at_16 (by decide) s (fun q => G.pick [] (kt q)) (fun q => G.pick [0, 1, 2, 3] (kf q))
theorem bX11_at_19 {X : CT} {σ : St} {i1 i2 i3 : Int}  {P : Int → St → Prop} (hM : CI mdX11_in [vi i3, vi 0, vi 3] σ P)
    (k : ∀ z σ', inI z → P z σ' → G mdX11_at X 25 [(0, vr 87), (1, vi i1), (2, vi i2), (3, vi i3)] [vi z] (σ')) :
    G mdX11_at X 19 [(0, vr 87), (1, vi i1), (2, vi i2), (3, vi i3)] [] σ := by
  refine G.iload_n (z := i3) dX11_at_19 rfl ?_
  refine G.iconst dX11_at_20 ?_
  refine G.iconst dX11_at_21 ?_
  exact G.callSI (as := [vi i3, vi 0, vi 3]) (rest := []) dX11_at_22 rfl vX11_82 (by decide) (Nat.le_of_ble_eq_true rfl) hM (fun z σ' hz q => G.pick [0, 1, 2, 3] (k z σ' hz q))
theorem bX11_at_25 {X : CT} {σ : St} {i1 i2 i3 t0 : Int}  (s : (-2147483648 ≤ t0 ∧ t0 < 2147483648))
    (kt : ¬ t0 = 0 → G mdX11_at X 30 [(0, vr 87), (1, vi i1), (2, vi i2), (3, vi i3)] [] σ)
    (kf : t0 = 0 → G mdX11_at X 28 [] [] σ) :
    G mdX11_at X 25 [(0, vr 87), (1, vi i1), (2, vi i2), (3, vi i3)] [vi t0] σ := by
  exact G.if_ne (tgt := 30) dX11_at_25 (by decide) s (fun q => G.pick [0, 1, 2, 3] (kt q)) (fun q => G.pick [] (kf q))
theorem bX11_at_28 {X : CT} {σ : St}  {P : Int → St → Prop} (hX : RI X P)
    (k : P (-1) σ) :
    G mdX11_at X 28 [] [] σ := by
  refine G.iconst dX11_at_28 ?_
  exact G.iret hX dX11_at_29 rfl ⟨by decide, by decide⟩ k
theorem bX11_at_30 {X : CT} {σ : St} {i1 i2 i3 : Int}  (s : (-2147483648 ≤ i3 ∧ i3 < 2147483648))
    (kt : ¬ i3 = 0 → G mdX11_at X 50 [(0, vr 87), (3, vi i3), (4, vi ((16 * i1) + i2))] [] σ)
    (kf : i3 = 0 → G mdX11_at X 42 [(0, vr 87), (4, vi ((16 * i1) + i2))] [] σ) :
    G mdX11_at X 30 [(0, vr 87), (1, vi i1), (2, vi i2), (3, vi i3)] [] σ := by
  refine G.bipush dX11_at_30 (by decide) ?_
  refine G.iload_n (z := i1) dX11_at_32 rfl ?_
  refine G.imul dX11_at_33 ?_
  refine G.iload_n (z := i2) dX11_at_34 rfl ?_
  refine G.iadd dX11_at_35 ?_
  refine G.istore dX11_at_36 (by decide) rfl ?_
  refine G.iload_n (z := i3) dX11_at_38 rfl ?_
  exact G.if_ne (tgt := 50) dX11_at_39 (by decide) s (fun q => G.pick [0, 3, 4] (kt q)) (fun q => G.pick [0, 4] (kf q))
theorem bX11_at_42 {X : CT} {σ : St} {i4 : Int}  {P : Int → St → Prop} (hX : RI X P) (s : (0 ≤ i4 ∧ i4 < 86) ∧ (-2147483648 ≤ σ 88 i4 ∧ σ 88 i4 < 2147483648))
    (k : P (σ 88 i4) σ) :
    G mdX11_at X 42 [(0, vr 87), (4, vi i4)] [] σ := by
  refine G.aload_n (o := 87) dX11_at_42 rfl ?_
  refine G.getR (o' := 88) dX11_at_43 fX11_7 sh87 rfl ?_
  refine G.iload (z := i4) dX11_at_46 rfl ?_
  refine G.iald dX11_at_48 sh88 s.1 ?_
  exact G.iret hX dX11_at_49 rfl s.2 k
theorem bX11_at_50 {X : CT} {σ : St} {i3 i4 : Int}  {P : St → Prop} (hM : CV mdX11_layAir [vr 87] σ P)
    (k : ∀ σ', P σ' → G mdX11_at X 54 [(0, vr 87), (3, vi i3), (4, vi i4)] [] (σ')) :
    G mdX11_at X 50 [(0, vr 87), (3, vi i3), (4, vi i4)] [] σ := by
  refine G.aload_n (o := 87) dX11_at_50 rfl ?_
  exact G.callVV (as := []) (rest := []) dX11_at_51 rfl vX11_202 (by decide) sh87 rfl (by decide) (Nat.le_of_ble_eq_true rfl) hM (fun σ' q => G.pick [0, 3, 4] (k σ' q))
theorem bX11_at_54 {X : CT} {σ : St} {i3 i4 : Int}  (s : (-2147483648 ≤ i3 ∧ i3 < 2147483648))
    (kt : ¬ i3 = 1 → G mdX11_at X 67 [(0, vr 87), (3, vi i3), (4, vi i4)] [] σ)
    (kf : i3 = 1 → G mdX11_at X 59 [(0, vr 87), (4, vi i4)] [] σ) :
    G mdX11_at X 54 [(0, vr 87), (3, vi i3), (4, vi i4)] [] σ := by
  refine G.iload_n (z := i3) dX11_at_54 rfl ?_
  refine G.iconst dX11_at_55 ?_
  exact G.icmp_ne (tgt := 67) dX11_at_56 (by decide) s ⟨by decide, by decide⟩ (fun q => G.pick [0, 3, 4] (kt q)) (fun q => G.pick [0, 4] (kf q))
theorem bX11_at_59 {X : CT} {σ : St} {i4 : Int}  {P : Int → St → Prop} (hX : RI X P) (s : (0 ≤ i4 ∧ i4 < 32) ∧ (-2147483648 ≤ σ 96 i4 ∧ σ 96 i4 < 2147483648))
    (k : P (σ 96 i4) σ) :
    G mdX11_at X 59 [(0, vr 87), (4, vi i4)] [] σ := by
  refine G.aload_n (o := 87) dX11_at_59 rfl ?_
  refine G.getR (o' := 96) dX11_at_60 fX11_36 sh87 rfl ?_
  refine G.iload (z := i4) dX11_at_63 rfl ?_
  refine G.iald dX11_at_65 sh96 s.1 ?_
  exact G.iret hX dX11_at_66 rfl s.2 k
theorem bX11_at_67 {X : CT} {σ : St} {i3 i4 : Int}  {P : St → Prop} (hM : CV mdX11_goThrough [vr 87, vi (σ 88 64)] σ P)
    (k : ∀ σ', P σ' → G mdX11_at X 78 [(0, vr 87), (3, vi i3), (4, vi i4)] [] (σ')) :
    G mdX11_at X 67 [(0, vr 87), (3, vi i3), (4, vi i4)] [] σ := by
  refine G.aload_n (o := 87) dX11_at_67 rfl ?_
  refine G.aload_n (o := 87) dX11_at_68 rfl ?_
  refine G.getR (o' := 88) dX11_at_69 fX11_7 sh87 rfl ?_
  refine G.bipush dX11_at_72 (by decide) ?_
  refine G.iald dX11_at_74 sh88 ⟨by decide, by decide⟩ ?_
  exact G.callVV (as := [vi (σ 88 64)]) (rest := []) dX11_at_75 rfl vX11_205 (by decide) sh87 rfl (by decide) (Nat.le_of_ble_eq_true rfl) hM (fun σ' q => G.pick [0, 3, 4] (k σ' q))
theorem bX11_at_78 {X : CT} {σ : St} {i3 i4 : Int}  (s : (-2147483648 ≤ i3 ∧ i3 < 2147483648))
    (kt : ¬ i3 = 2 → G mdX11_at X 93 [(0, vr 87), (4, vi i4)] [] σ)
    (kf : i3 = 2 → G mdX11_at X 83 [(0, vr 87), (4, vi i4)] [] σ) :
    G mdX11_at X 78 [(0, vr 87), (3, vi i3), (4, vi i4)] [] σ := by
  refine G.iload_n (z := i3) dX11_at_78 rfl ?_
  refine G.iconst dX11_at_79 ?_
  exact G.icmp_ne (tgt := 93) dX11_at_80 (by decide) s ⟨by decide, by decide⟩ (fun q => G.pick [0, 4] (kt q)) (fun q => G.pick [0, 4] (kf q))
theorem bX11_at_83 {X : CT} {σ : St} {i4 : Int}  (s : (0 ≤ i4 ∧ i4 < 32))
    (k : G mdX11_at X 103 [] [vi (σ 96 i4)] σ) :
    G mdX11_at X 83 [(0, vr 87), (4, vi i4)] [] σ := by
  refine G.aload_n (o := 87) dX11_at_83 rfl ?_
  refine G.getR (o' := 96) dX11_at_84 fX11_36 sh87 rfl ?_
  refine G.iload (z := i4) dX11_at_87 rfl ?_
  refine G.iald dX11_at_89 sh96 s ?_
  refine G.goto (tgt := 103) dX11_at_90 (by decide) ?_
  exact G.pick [] k
theorem bX11_at_93 {X : CT} {σ : St} {i4 : Int}  {P : Int → St → Prop} (hM : CI mdX11_decided [vi (σ 96 i4)] σ P) (s : (0 ≤ i4 ∧ i4 < 32))
    (k : ∀ z σ', inI z → P z σ' → G mdX11_at X 103 [] [vi z] (σ')) :
    G mdX11_at X 93 [(0, vr 87), (4, vi i4)] [] σ := by
  refine G.aload_n (o := 87) dX11_at_93 rfl ?_
  refine G.getR (o' := 96) dX11_at_94 fX11_36 sh87 rfl ?_
  refine G.iload (z := i4) dX11_at_97 rfl ?_
  refine G.iald dX11_at_99 sh96 s ?_
  exact G.callSI (as := [vi (σ 96 i4)]) (rest := []) dX11_at_100 rfl vX11_168 (by decide) (Nat.le_of_ble_eq_true rfl) hM (fun z σ' hz q => G.pick [] (k z σ' hz q))
theorem bX11_at_103 {X : CT} {σ : St} {t0 : Int}  {P : Int → St → Prop} (hX : RI X P) (s : (-2147483648 ≤ t0 ∧ t0 < 2147483648))
    (k : P t0 σ) :
    G mdX11_at X 103 [] [vi t0] σ := by
  exact G.iret hX dX11_at_103 rfl s k
theorem bX11_deed_0 {X : CT} {σ : St} {i1 i2 : Int}  {P : Int → St → Prop} (hM : CI mdX11_in [vi i1, vi 0, vi ((σ 88 33) - 1)] σ P)
    (k : ∀ z σ', inI z → P z σ' → G mdX11_deed X 14 [(0, vr 87), (1, vi i1), (2, vi i2)] [vi z] (σ')) :
    G mdX11_deed X 0 [(0, vr 87), (1, vi i1), (2, vi i2)] [] σ := by
  refine G.iload_n (z := i1) dX11_deed_0 rfl ?_
  refine G.iconst dX11_deed_1 ?_
  refine G.aload_n (o := 87) dX11_deed_2 rfl ?_
  refine G.getR (o' := 88) dX11_deed_3 fX11_7 sh87 rfl ?_
  refine G.bipush dX11_deed_6 (by decide) ?_
  refine G.iald dX11_deed_8 sh88 ⟨by decide, by decide⟩ ?_
  refine G.iconst dX11_deed_9 ?_
  refine G.isub dX11_deed_10 ?_
  exact G.callSI (as := [vi i1, vi 0, vi ((σ 88 33) - 1)]) (rest := []) dX11_deed_11 rfl vX11_82 (by decide) (Nat.le_of_ble_eq_true rfl) hM (fun z σ' hz q => G.pick [0, 1, 2] (k z σ' hz q))
theorem bX11_deed_14 {X : CT} {σ : St} {i1 i2 t0 : Int}  (s : (-2147483648 ≤ t0 ∧ t0 < 2147483648))
    (kt : t0 = 0 → G mdX11_deed X 42 [] [] σ)
    (kf : ¬ t0 = 0 → G mdX11_deed X 17 [(0, vr 87), (1, vi i1), (2, vi i2)] [] σ) :
    G mdX11_deed X 14 [(0, vr 87), (1, vi i1), (2, vi i2)] [vi t0] σ := by
  exact G.if_eq (tgt := 42) dX11_deed_14 (by decide) s (fun q => G.pick [] (kt q)) (fun q => G.pick [0, 1, 2] (kf q))
theorem bX11_deed_17 {X : CT} {σ : St} {i1 i2 : Int}  {P : Int → St → Prop} (hM : CI mdX11_in [vi i2, vi 0, vi 4] σ P)
    (k : ∀ z σ', inI z → P z σ' → G mdX11_deed X 23 [(0, vr 87), (1, vi i1), (2, vi i2)] [vi z] (σ')) :
    G mdX11_deed X 17 [(0, vr 87), (1, vi i1), (2, vi i2)] [] σ := by
  refine G.iload_n (z := i2) dX11_deed_17 rfl ?_
  refine G.iconst dX11_deed_18 ?_
  refine G.iconst dX11_deed_19 ?_
  exact G.callSI (as := [vi i2, vi 0, vi 4]) (rest := []) dX11_deed_20 rfl vX11_82 (by decide) (Nat.le_of_ble_eq_true rfl) hM (fun z σ' hz q => G.pick [0, 1, 2] (k z σ' hz q))
theorem bX11_deed_23 {X : CT} {σ : St} {i1 i2 t0 : Int}  (s : (-2147483648 ≤ t0 ∧ t0 < 2147483648))
    (kt : t0 = 0 → G mdX11_deed X 42 [] [] σ)
    (kf : ¬ t0 = 0 → G mdX11_deed X 26 [(0, vr 87), (1, vi i1), (2, vi i2)] [] σ) :
    G mdX11_deed X 23 [(0, vr 87), (1, vi i1), (2, vi i2)] [vi t0] σ := by
  exact G.if_eq (tgt := 42) dX11_deed_23 (by decide) s (fun q => G.pick [] (kt q)) (fun q => G.pick [0, 1, 2] (kf q))
theorem bX11_deed_26 {X : CT} {σ : St} {i1 i2 : Int}  (s : (0 ≤ (34 + (5 * i1)) + i2 ∧ (34 + (5 * i1)) + i2 < 86))
    (k : G mdX11_deed X 43 [] [vi (σ 88 ((34 + (5 * i1)) + i2))] σ) :
    G mdX11_deed X 26 [(0, vr 87), (1, vi i1), (2, vi i2)] [] σ := by
  refine G.aload_n (o := 87) dX11_deed_26 rfl ?_
  refine G.getR (o' := 88) dX11_deed_27 fX11_7 sh87 rfl ?_
  refine G.bipush dX11_deed_30 (by decide) ?_
  refine G.iconst dX11_deed_32 ?_
  refine G.iload_n (z := i1) dX11_deed_33 rfl ?_
  refine G.imul dX11_deed_34 ?_
  refine G.iadd dX11_deed_35 ?_
  refine G.iload_n (z := i2) dX11_deed_36 rfl ?_
  refine G.iadd dX11_deed_37 ?_
  refine G.iald dX11_deed_38 sh88 s ?_
  refine G.goto (tgt := 43) dX11_deed_39 (by decide) ?_
  exact G.pick [] k
theorem bX11_deed_42 {X : CT} {σ : St} 
    (k : G mdX11_deed X 43 [] [vi (-1)] σ) :
    G mdX11_deed X 42 [] [] σ := by
  refine G.iconst dX11_deed_42 ?_
  exact G.pick [] k
theorem bX11_deed_43 {X : CT} {σ : St} {t0 : Int}  {P : Int → St → Prop} (hX : RI X P) (s : (-2147483648 ≤ t0 ∧ t0 < 2147483648))
    (k : P t0 σ) :
    G mdX11_deed X 43 [] [vi t0] σ := by
  exact G.iret hX dX11_deed_43 rfl s k
theorem bX11_stage_0 {X : CT} {σ : St} {i1 i2 : Int}  {P : Int → St → Prop} (hM : CI mdX11_in [vi i1, vi 0, vi ((σ 88 64) - 1)] σ P)
    (k : ∀ z σ', inI z → P z σ' → G mdX11_stage X 14 [(0, vr 87), (1, vi i1), (2, vi i2)] [vi z] (σ')) :
    G mdX11_stage X 0 [(0, vr 87), (1, vi i1), (2, vi i2)] [] σ := by
  refine G.iload_n (z := i1) dX11_stage_0 rfl ?_
  refine G.iconst dX11_stage_1 ?_
  refine G.aload_n (o := 87) dX11_stage_2 rfl ?_
  refine G.getR (o' := 88) dX11_stage_3 fX11_7 sh87 rfl ?_
  refine G.bipush dX11_stage_6 (by decide) ?_
  refine G.iald dX11_stage_8 sh88 ⟨by decide, by decide⟩ ?_
  refine G.iconst dX11_stage_9 ?_
  refine G.isub dX11_stage_10 ?_
  exact G.callSI (as := [vi i1, vi 0, vi ((σ 88 64) - 1)]) (rest := []) dX11_stage_11 rfl vX11_82 (by decide) (Nat.le_of_ble_eq_true rfl) hM (fun z σ' hz q => G.pick [0, 1, 2] (k z σ' hz q))
theorem bX11_stage_14 {X : CT} {σ : St} {i1 i2 t0 : Int}  (s : (-2147483648 ≤ t0 ∧ t0 < 2147483648))
    (kt : t0 = 0 → G mdX11_stage X 42 [] [] σ)
    (kf : ¬ t0 = 0 → G mdX11_stage X 17 [(0, vr 87), (1, vi i1), (2, vi i2)] [] σ) :
    G mdX11_stage X 14 [(0, vr 87), (1, vi i1), (2, vi i2)] [vi t0] σ := by
  exact G.if_eq (tgt := 42) dX11_stage_14 (by decide) s (fun q => G.pick [] (kt q)) (fun q => G.pick [0, 1, 2] (kf q))
theorem bX11_stage_17 {X : CT} {σ : St} {i1 i2 : Int}  {P : Int → St → Prop} (hM : CI mdX11_in [vi i2, vi 0, vi 4] σ P)
    (k : ∀ z σ', inI z → P z σ' → G mdX11_stage X 23 [(0, vr 87), (1, vi i1), (2, vi i2)] [vi z] (σ')) :
    G mdX11_stage X 17 [(0, vr 87), (1, vi i1), (2, vi i2)] [] σ := by
  refine G.iload_n (z := i2) dX11_stage_17 rfl ?_
  refine G.iconst dX11_stage_18 ?_
  refine G.iconst dX11_stage_19 ?_
  exact G.callSI (as := [vi i2, vi 0, vi 4]) (rest := []) dX11_stage_20 rfl vX11_82 (by decide) (Nat.le_of_ble_eq_true rfl) hM (fun z σ' hz q => G.pick [0, 1, 2] (k z σ' hz q))
theorem bX11_stage_23 {X : CT} {σ : St} {i1 i2 t0 : Int}  (s : (-2147483648 ≤ t0 ∧ t0 < 2147483648))
    (kt : t0 = 0 → G mdX11_stage X 42 [] [] σ)
    (kf : ¬ t0 = 0 → G mdX11_stage X 26 [(0, vr 87), (1, vi i1), (2, vi i2)] [] σ) :
    G mdX11_stage X 23 [(0, vr 87), (1, vi i1), (2, vi i2)] [vi t0] σ := by
  exact G.if_eq (tgt := 42) dX11_stage_23 (by decide) s (fun q => G.pick [] (kt q)) (fun q => G.pick [0, 1, 2] (kf q))
theorem bX11_stage_26 {X : CT} {σ : St} {i1 i2 : Int}  (s : (0 ≤ (65 + (5 * i1)) + i2 ∧ (65 + (5 * i1)) + i2 < 86))
    (k : G mdX11_stage X 43 [] [vi (σ 88 ((65 + (5 * i1)) + i2))] σ) :
    G mdX11_stage X 26 [(0, vr 87), (1, vi i1), (2, vi i2)] [] σ := by
  refine G.aload_n (o := 87) dX11_stage_26 rfl ?_
  refine G.getR (o' := 88) dX11_stage_27 fX11_7 sh87 rfl ?_
  refine G.bipush dX11_stage_30 (by decide) ?_
  refine G.iconst dX11_stage_32 ?_
  refine G.iload_n (z := i1) dX11_stage_33 rfl ?_
  refine G.imul dX11_stage_34 ?_
  refine G.iadd dX11_stage_35 ?_
  refine G.iload_n (z := i2) dX11_stage_36 rfl ?_
  refine G.iadd dX11_stage_37 ?_
  refine G.iald dX11_stage_38 sh88 s ?_
  refine G.goto (tgt := 43) dX11_stage_39 (by decide) ?_
  exact G.pick [] k
theorem bX11_stage_42 {X : CT} {σ : St} 
    (k : G mdX11_stage X 43 [] [vi (-1)] σ) :
    G mdX11_stage X 42 [] [] σ := by
  refine G.iconst dX11_stage_42 ?_
  exact G.pick [] k
theorem bX11_stage_43 {X : CT} {σ : St} {t0 : Int}  {P : Int → St → Prop} (hX : RI X P) (s : (-2147483648 ≤ t0 ∧ t0 < 2147483648))
    (k : P t0 σ) :
    G mdX11_stage X 43 [] [vi t0] σ := by
  exact G.iret hX dX11_stage_43 rfl s k
theorem bX11_wrong_0 {X : CT} {σ : St} {i1 : Int}  {P : Int → St → Prop} (hM : CI mdX11_in [vi i1, vi 0, vi (σ 88 64)] σ P)
    (k : ∀ z σ', inI z → P z σ' → G mdX11_wrong X 12 [(0, vr 87), (1, vi i1)] [vi z] (σ')) :
    G mdX11_wrong X 0 [(0, vr 87), (1, vi i1)] [] σ := by
  refine G.iload_n (z := i1) dX11_wrong_0 rfl ?_
  refine G.iconst dX11_wrong_1 ?_
  refine G.aload_n (o := 87) dX11_wrong_2 rfl ?_
  refine G.getR (o' := 88) dX11_wrong_3 fX11_7 sh87 rfl ?_
  refine G.bipush dX11_wrong_6 (by decide) ?_
  refine G.iald dX11_wrong_8 sh88 ⟨by decide, by decide⟩ ?_
  exact G.callSI (as := [vi i1, vi 0, vi (σ 88 64)]) (rest := []) dX11_wrong_9 rfl vX11_82 (by decide) (Nat.le_of_ble_eq_true rfl) hM (fun z σ' hz q => G.pick [0, 1] (k z σ' hz q))
theorem bX11_wrong_12 {X : CT} {σ : St} {i1 t0 : Int}  (s : (-2147483648 ≤ t0 ∧ t0 < 2147483648))
    (kt : ¬ t0 = 0 → G mdX11_wrong X 17 [(0, vr 87), (1, vi i1)] [] σ)
    (kf : t0 = 0 → G mdX11_wrong X 15 [] [] σ) :
    G mdX11_wrong X 12 [(0, vr 87), (1, vi i1)] [vi t0] σ := by
  exact G.if_ne (tgt := 17) dX11_wrong_12 (by decide) s (fun q => G.pick [0, 1] (kt q)) (fun q => G.pick [] (kf q))
theorem bX11_wrong_15 {X : CT} {σ : St}  {P : Int → St → Prop} (hX : RI X P)
    (k : P (-1) σ) :
    G mdX11_wrong X 15 [] [] σ := by
  refine G.iconst dX11_wrong_15 ?_
  exact G.iret hX dX11_wrong_16 rfl ⟨by decide, by decide⟩ k
theorem bX11_wrong_17 {X : CT} {σ : St} {i1 : Int}  {P : St → Prop} (hM : CV mdX11_layAir [vr 87] σ P)
    (k : ∀ σ', P σ' → G mdX11_wrong X 21 [(0, vr 87), (1, vi i1)] [] (σ')) :
    G mdX11_wrong X 17 [(0, vr 87), (1, vi i1)] [] σ := by
  refine G.aload_n (o := 87) dX11_wrong_17 rfl ?_
  exact G.callVV (as := []) (rest := []) dX11_wrong_18 rfl vX11_202 (by decide) sh87 rfl (by decide) (Nat.le_of_ble_eq_true rfl) hM (fun σ' q => G.pick [0, 1] (k σ' q))
theorem bX11_wrong_21 {X : CT} {σ : St} {i1 : Int}  {P : St → Prop} (hM : CV mdX11_goThrough [vr 87, vi i1] σ P)
    (k : ∀ σ', P σ' → G mdX11_wrong X 26 [(0, vr 87)] [] (σ')) :
    G mdX11_wrong X 21 [(0, vr 87), (1, vi i1)] [] σ := by
  refine G.aload_n (o := 87) dX11_wrong_21 rfl ?_
  refine G.iload_n (z := i1) dX11_wrong_22 rfl ?_
  exact G.callVV (as := [vi i1]) (rest := []) dX11_wrong_23 rfl vX11_205 (by decide) sh87 rfl (by decide) (Nat.le_of_ble_eq_true rfl) hM (fun σ' q => G.pick [0] (k σ' q))
theorem bX11_wrong_26 {X : CT} {σ : St}  {P : Int → St → Prop} (hM : CI mdX11_wrongNow [vr 87] σ P)
    (k : ∀ z σ', inI z → P z σ' → G mdX11_wrong X 30 [] [vi z] (σ')) :
    G mdX11_wrong X 26 [(0, vr 87)] [] σ := by
  refine G.aload_n (o := 87) dX11_wrong_26 rfl ?_
  exact G.callVI (as := []) (rest := []) dX11_wrong_27 rfl vX11_211 (by decide) sh87 rfl (by decide) (Nat.le_of_ble_eq_true rfl) hM (fun z σ' hz q => G.pick [] (k z σ' hz q))
theorem bX11_wrong_30 {X : CT} {σ : St} {t0 : Int}  {P : Int → St → Prop} (hX : RI X P) (s : (-2147483648 ≤ t0 ∧ t0 < 2147483648))
    (k : P t0 σ) :
    G mdX11_wrong X 30 [] [vi t0] σ := by
  exact G.iret hX dX11_wrong_30 rfl s k
theorem bX11_loss_0 {X : CT} {σ : St}  (n0 : vf_n32 (FP.fmul 1120403456 (fl (σ 87 1)))) {P : Int → St → Prop} (hX : RI X P) (s : (-2147483648 ≤ (FP.f2i (FP.fmul 1120403456 (fl (σ 87 1)))).toInt ∧ (FP.f2i (FP.fmul 1120403456 (fl (σ 87 1)))).toInt < 2147483648))
    (k : P ((FP.f2i (FP.fmul 1120403456 (fl (σ 87 1)))).toInt) σ) :
    G mdX11_loss X 0 [(0, vr 87)] [] σ := by
  refine G.ldcf (i := 1154) (v := 1120403456) dX11_loss_0 (by decide +kernel) ?_
  refine G.aload_n (o := 87) dX11_loss_2 rfl ?_
  refine G.getF (j := 1) dX11_loss_3 fX11_78 sh87 rfl rfl ?_
  refine G.fmul dX11_loss_6 n0 ?_
  refine G.f2i dX11_loss_7 ?_
  exact G.iret hX dX11_loss_8 rfl s k
theorem bX11_keepReceived_0 {X : CT} {σ : St}  {P : St → Prop} (hM : CV mdX11_layReceived [vr 87] σ P)
    (k : ∀ σ', P σ' → G mdX11_keepReceived X 4 [(0, vr 87)] [] (σ')) :
    G mdX11_keepReceived X 0 [(0, vr 87)] [] σ := by
  refine G.aload_n (o := 87) dX11_keepReceived_0 rfl ?_
  exact G.callVV (as := []) (rest := []) dX11_keepReceived_1 rfl vX11_208 (by decide) sh87 rfl (by decide) (Nat.le_of_ble_eq_true rfl) hM (fun σ' q => G.pick [0] (k σ' q))
theorem bX11_keepReceived_4 {X : CT} {σ : St} 
    (k : G mdX11_keepReceived X 6 [(0, vr 87), (1, vi 0)] [] σ) :
    G mdX11_keepReceived X 4 [(0, vr 87)] [] σ := by
  refine G.iconst dX11_keepReceived_4 ?_
  refine G.istore_n dX11_keepReceived_5 (by decide) rfl ?_
  exact G.pick [0, 1] k
theorem bX11_keepReceived_6 {X : CT} {σ : St} {i1 : Int}  (s : (-2147483648 ≤ i1 ∧ i1 < 2147483648))
    (kt : 32 ≤ i1 → G mdX11_keepReceived X 30 [] [] σ)
    (kf : i1 < 32 → G mdX11_keepReceived X 12 [(0, vr 87), (1, vi i1)] [] σ) :
    G mdX11_keepReceived X 6 [(0, vr 87), (1, vi i1)] [] σ := by
  refine G.iload_n (z := i1) dX11_keepReceived_6 rfl ?_
  refine G.bipush dX11_keepReceived_7 (by decide) ?_
  exact G.icmp_ge (tgt := 30) dX11_keepReceived_9 (by decide) s ⟨by decide, by decide⟩ (fun q => G.pick [] (kt q)) (fun q => G.pick [0, 1] (kf q))
theorem bX11_keepReceived_12 {X : CT} {σ : St} {i1 : Int}  (s : (0 ≤ i1 ∧ i1 < 32))
    (k : G mdX11_keepReceived X 6 [(0, vr 87), (1, vi (i1 + 1))] [] (wr σ 102 i1 (σ 96 i1))) :
    G mdX11_keepReceived X 12 [(0, vr 87), (1, vi i1)] [] σ := by
  refine G.aload_n (o := 87) dX11_keepReceived_12 rfl ?_
  refine G.getR (o' := 102) dX11_keepReceived_13 fX11_54 sh87 rfl ?_
  refine G.iload_n (z := i1) dX11_keepReceived_16 rfl ?_
  refine G.aload_n (o := 87) dX11_keepReceived_17 rfl ?_
  refine G.getR (o' := 96) dX11_keepReceived_18 fX11_36 sh87 rfl ?_
  refine G.iload_n (z := i1) dX11_keepReceived_21 rfl ?_
  refine G.iald dX11_keepReceived_22 sh96 s ?_
  refine G.iast dX11_keepReceived_23 sh102 s ?_
  refine G.iinc (z := i1) dX11_keepReceived_24 rfl (by decide) rfl ?_
  refine G.goto (tgt := 6) dX11_keepReceived_27 (by decide) ?_
  exact G.pick [0, 1] k
theorem bX11_keepReceived_30 {X : CT} {σ : St}  {P : St → Prop} (hX : RV X P)
    (k : P σ) :
    G mdX11_keepReceived X 30 [] [] σ := by
  exact G.vret hX dX11_keepReceived_30 rfl k
theorem bX11_layKept_0 {X : CT} {σ : St} 
    (k : G mdX11_layKept X 2 [(0, vr 87), (1, vi 0)] [] σ) :
    G mdX11_layKept X 0 [(0, vr 87)] [] σ := by
  refine G.iconst dX11_layKept_0 ?_
  refine G.istore_n dX11_layKept_1 (by decide) rfl ?_
  exact G.pick [0, 1] k
theorem bX11_layKept_2 {X : CT} {σ : St} {i1 : Int}  (s : (-2147483648 ≤ i1 ∧ i1 < 2147483648))
    (kt : 32 ≤ i1 → G mdX11_layKept X 26 [] [] σ)
    (kf : i1 < 32 → G mdX11_layKept X 8 [(0, vr 87), (1, vi i1)] [] σ) :
    G mdX11_layKept X 2 [(0, vr 87), (1, vi i1)] [] σ := by
  refine G.iload_n (z := i1) dX11_layKept_2 rfl ?_
  refine G.bipush dX11_layKept_3 (by decide) ?_
  exact G.icmp_ge (tgt := 26) dX11_layKept_5 (by decide) s ⟨by decide, by decide⟩ (fun q => G.pick [] (kt q)) (fun q => G.pick [0, 1] (kf q))
theorem bX11_layKept_8 {X : CT} {σ : St} {i1 : Int}  (s : (0 ≤ i1 ∧ i1 < 32))
    (k : G mdX11_layKept X 2 [(0, vr 87), (1, vi (i1 + 1))] [] (wr σ 96 i1 (σ 102 i1))) :
    G mdX11_layKept X 8 [(0, vr 87), (1, vi i1)] [] σ := by
  refine G.aload_n (o := 87) dX11_layKept_8 rfl ?_
  refine G.getR (o' := 96) dX11_layKept_9 fX11_36 sh87 rfl ?_
  refine G.iload_n (z := i1) dX11_layKept_12 rfl ?_
  refine G.aload_n (o := 87) dX11_layKept_13 rfl ?_
  refine G.getR (o' := 102) dX11_layKept_14 fX11_54 sh87 rfl ?_
  refine G.iload_n (z := i1) dX11_layKept_17 rfl ?_
  refine G.iald dX11_layKept_18 sh102 s ?_
  refine G.iast dX11_layKept_19 sh96 s ?_
  refine G.iinc (z := i1) dX11_layKept_20 rfl (by decide) rfl ?_
  refine G.goto (tgt := 2) dX11_layKept_23 (by decide) ?_
  exact G.pick [0, 1] k
theorem bX11_layKept_26 {X : CT} {σ : St}  {P : St → Prop} (hX : RV X P)
    (k : P σ) :
    G mdX11_layKept X 26 [] [] σ := by
  exact G.vret hX dX11_layKept_26 rfl k
theorem bX11_skew_0 {X : CT} {σ : St}  {P : St → Prop} (hM : CV mdX11_keepReceived [vr 87] σ P)
    (k : ∀ σ', P σ' → G mdX11_skew X 4 [(0, vr 87)] [] (σ')) :
    G mdX11_skew X 0 [(0, vr 87)] [] σ := by
  refine G.aload_n (o := 87) dX11_skew_0 rfl ?_
  exact G.callVV (as := []) (rest := []) dX11_skew_1 rfl vX11_250 (by decide) sh87 rfl (by decide) (Nat.le_of_ble_eq_true rfl) hM (fun σ' q => G.pick [0] (k σ' q))
theorem bX11_skew_4 {X : CT} {σ : St} 
    (k : G mdX11_skew X 11 [(0, vr 87), (1, vi 0), (2, vi 33), (3, vi 0)] [] σ) :
    G mdX11_skew X 4 [(0, vr 87)] [] σ := by
  refine G.iconst dX11_skew_4 ?_
  refine G.istore_n dX11_skew_5 (by decide) rfl ?_
  refine G.bipush dX11_skew_6 (by decide) ?_
  refine G.istore_n dX11_skew_8 (by decide) rfl ?_
  refine G.iconst dX11_skew_9 ?_
  refine G.istore_n dX11_skew_10 (by decide) rfl ?_
  exact G.pick [0, 1, 2, 3] k
theorem bX11_skew_11 {X : CT} {σ : St} {i1 i2 i3 : Int}  (s : (-2147483648 ≤ i3 ∧ i3 < 2147483648))
    (kt : 16 ≤ i3 → G mdX11_skew X 69 [(1, vi i1)] [] σ)
    (kf : i3 < 16 → G mdX11_skew X 17 [(0, vr 87), (1, vi i1), (2, vi i2), (3, vi i3)] [] σ) :
    G mdX11_skew X 11 [(0, vr 87), (1, vi i1), (2, vi i2), (3, vi i3)] [] σ := by
  refine G.iload_n (z := i3) dX11_skew_11 rfl ?_
  refine G.bipush dX11_skew_12 (by decide) ?_
  exact G.icmp_ge (tgt := 69) dX11_skew_14 (by decide) s ⟨by decide, by decide⟩ (fun q => G.pick [1] (kt q)) (fun q => G.pick [0, 1, 2, 3] (kf q))
theorem bX11_skew_17 {X : CT} {σ : St} {i1 i2 i3 : Int}  {P : St → Prop} (hM : CV mdX11_layKept [vr 87] σ P)
    (k : ∀ σ', P σ' → G mdX11_skew X 21 [(0, vr 87), (1, vi i1), (2, vi i2), (3, vi i3)] [] (σ')) :
    G mdX11_skew X 17 [(0, vr 87), (1, vi i1), (2, vi i2), (3, vi i3)] [] σ := by
  refine G.aload_n (o := 87) dX11_skew_17 rfl ?_
  exact G.callVV (as := []) (rest := []) dX11_skew_18 rfl vX11_253 (by decide) sh87 rfl (by decide) (Nat.le_of_ble_eq_true rfl) hM (fun σ' q => G.pick [0, 1, 2, 3] (k σ' q))
theorem bX11_skew_21 {X : CT} {σ : St} {i1 i2 i3 : Int}  {P : St → Prop} (hM : CV mdX11_late [vr 87, vi ((16 - i3) % 16)] σ P) (s : (0 ≤ 16 - i3 ∧ 16 - i3 < 2147483648))
    (k : ∀ σ', P σ' → G mdX11_skew X 32 [(0, vr 87), (1, vi i1), (2, vi i2), (3, vi i3)] [] (σ')) :
    G mdX11_skew X 21 [(0, vr 87), (1, vi i1), (2, vi i2), (3, vi i3)] [] σ := by
  refine G.aload_n (o := 87) dX11_skew_21 rfl ?_
  refine G.bipush dX11_skew_22 (by decide) ?_
  refine G.iload_n (z := i3) dX11_skew_24 rfl ?_
  refine G.isub dX11_skew_25 ?_
  refine G.bipush dX11_skew_26 (by decide) ?_
  refine G.irem dX11_skew_28 s ⟨by decide, by decide⟩ ?_
  exact G.callVV (as := [vi ((16 - i3) % 16)]) (rest := []) dX11_skew_29 rfl vX11_181 (by decide) sh87 rfl (by decide) (Nat.le_of_ble_eq_true rfl) hM (fun σ' q => G.pick [0, 1, 2, 3] (k σ' q))
theorem bX11_skew_32 {X : CT} {σ : St} {i1 i2 i3 : Int}  {P : Int → St → Prop} (hM : CI mdX11_wrongAtMarks [vr 87] σ P)
    (k : ∀ z σ', inI z → P z σ' → G mdX11_skew X 36 [(0, vr 87), (1, vi i1), (2, vi i2), (3, vi i3)] [vi z] (σ')) :
    G mdX11_skew X 32 [(0, vr 87), (1, vi i1), (2, vi i2), (3, vi i3)] [] σ := by
  refine G.aload_n (o := 87) dX11_skew_32 rfl ?_
  exact G.callVI (as := []) (rest := []) dX11_skew_33 rfl vX11_256 (by decide) sh87 rfl (by decide) (Nat.le_of_ble_eq_true rfl) hM (fun z σ' hz q => G.pick [0, 1, 2, 3] (k z σ' hz q))
theorem bX11_skew_36 {X : CT} {σ : St} {i1 i2 i3 t0 : Int}  (s : (-2147483648 ≤ t0 ∧ t0 < 2147483648) ∧ (-2147483648 ≤ i2 ∧ i2 < 2147483648))
    (kt : i2 ≤ t0 → G mdX11_skew X 48 [(0, vr 87), (1, vi i1), (2, vi i2), (3, vi i3), (4, vi t0)] [] σ)
    (kf : t0 < i2 → G mdX11_skew X 44 [(0, vr 87), (2, vi i2), (3, vi i3), (4, vi t0)] [] σ) :
    G mdX11_skew X 36 [(0, vr 87), (1, vi i1), (2, vi i2), (3, vi i3)] [vi t0] σ := by
  refine G.istore dX11_skew_36 (by decide) rfl ?_
  refine G.iload (z := t0) dX11_skew_38 rfl ?_
  refine G.iload_n (z := i2) dX11_skew_40 rfl ?_
  exact G.icmp_ge (tgt := 48) dX11_skew_41 (by decide) s.1 s.2 (fun q => G.pick [0, 1, 2, 3, 4] (kt q)) (fun q => G.pick [0, 2, 3, 4] (kf q))
theorem bX11_skew_44 {X : CT} {σ : St} {i2 i3 i4 : Int} 
    (k : G mdX11_skew X 49 [(0, vr 87), (2, vi i2), (3, vi i3), (4, vi i4)] [vi i3] σ) :
    G mdX11_skew X 44 [(0, vr 87), (2, vi i2), (3, vi i3), (4, vi i4)] [] σ := by
  refine G.iload_n (z := i3) dX11_skew_44 rfl ?_
  refine G.goto (tgt := 49) dX11_skew_45 (by decide) ?_
  exact G.pick [0, 2, 3, 4] k
theorem bX11_skew_48 {X : CT} {σ : St} {i1 i2 i3 i4 : Int} 
    (k : G mdX11_skew X 49 [(0, vr 87), (2, vi i2), (3, vi i3), (4, vi i4)] [vi i1] σ) :
    G mdX11_skew X 48 [(0, vr 87), (1, vi i1), (2, vi i2), (3, vi i3), (4, vi i4)] [] σ := by
  refine G.iload_n (z := i1) dX11_skew_48 rfl ?_
  exact G.pick [0, 2, 3, 4] k
theorem bX11_skew_49 {X : CT} {σ : St} {i2 i3 i4 t0 : Int}  (s : (-2147483648 ≤ i4 ∧ i4 < 2147483648) ∧ (-2147483648 ≤ i2 ∧ i2 < 2147483648))
    (kt : i2 ≤ i4 → G mdX11_skew X 61 [(0, vr 87), (1, vi t0), (2, vi i2), (3, vi i3)] [] σ)
    (kf : i4 < i2 → G mdX11_skew X 56 [(0, vr 87), (1, vi t0), (3, vi i3), (4, vi i4)] [] σ) :
    G mdX11_skew X 49 [(0, vr 87), (2, vi i2), (3, vi i3), (4, vi i4)] [vi t0] σ := by
  refine G.istore_n dX11_skew_49 (by decide) rfl ?_
  refine G.iload (z := i4) dX11_skew_50 rfl ?_
  refine G.iload_n (z := i2) dX11_skew_52 rfl ?_
  exact G.icmp_ge (tgt := 61) dX11_skew_53 (by decide) s.1 s.2 (fun q => G.pick [0, 1, 2, 3] (kt q)) (fun q => G.pick [0, 1, 3, 4] (kf q))
theorem bX11_skew_56 {X : CT} {σ : St} {i1 i3 i4 : Int} 
    (k : G mdX11_skew X 62 [(0, vr 87), (1, vi i1), (3, vi i3)] [vi i4] σ) :
    G mdX11_skew X 56 [(0, vr 87), (1, vi i1), (3, vi i3), (4, vi i4)] [] σ := by
  refine G.iload (z := i4) dX11_skew_56 rfl ?_
  refine G.goto (tgt := 62) dX11_skew_58 (by decide) ?_
  exact G.pick [0, 1, 3] k
theorem bX11_skew_61 {X : CT} {σ : St} {i1 i2 i3 : Int} 
    (k : G mdX11_skew X 62 [(0, vr 87), (1, vi i1), (3, vi i3)] [vi i2] σ) :
    G mdX11_skew X 61 [(0, vr 87), (1, vi i1), (2, vi i2), (3, vi i3)] [] σ := by
  refine G.iload_n (z := i2) dX11_skew_61 rfl ?_
  exact G.pick [0, 1, 3] k
theorem bX11_skew_62 {X : CT} {σ : St} {i1 i3 t0 : Int} 
    (k : G mdX11_skew X 11 [(0, vr 87), (1, vi i1), (2, vi t0), (3, vi (i3 + 1))] [] σ) :
    G mdX11_skew X 62 [(0, vr 87), (1, vi i1), (3, vi i3)] [vi t0] σ := by
  refine G.istore_n dX11_skew_62 (by decide) rfl ?_
  refine G.iinc (z := i3) dX11_skew_63 rfl (by decide) rfl ?_
  refine G.goto (tgt := 11) dX11_skew_66 (by decide) ?_
  exact G.pick [0, 1, 2, 3] k
theorem bX11_skew_69 {X : CT} {σ : St} {i1 : Int}  {P : Int → St → Prop} (hX : RI X P) (s : (-2147483648 ≤ i1 ∧ i1 < 2147483648))
    (k : P i1 σ) :
    G mdX11_skew X 69 [(1, vi i1)] [] σ := by
  refine G.iload_n (z := i1) dX11_skew_69 rfl ?_
  exact G.iret hX dX11_skew_70 rfl s k
theorem bX11_spreads_0 {X : CT} {σ : St} {i1 : Int}  {P : Int → St → Prop} (hM : CI mdX11_in [vi i1, vi 0, vi 1] σ P)
    (k : ∀ z σ', inI z → P z σ' → G mdX11_spreads X 6 [(0, vr 87), (1, vi i1)] [vi z] (σ')) :
    G mdX11_spreads X 0 [(0, vr 87), (1, vi i1)] [] σ := by
  refine G.iload_n (z := i1) dX11_spreads_0 rfl ?_
  refine G.iconst dX11_spreads_1 ?_
  refine G.iconst dX11_spreads_2 ?_
  exact G.callSI (as := [vi i1, vi 0, vi 1]) (rest := []) dX11_spreads_3 rfl vX11_82 (by decide) (Nat.le_of_ble_eq_true rfl) hM (fun z σ' hz q => G.pick [0, 1] (k z σ' hz q))
theorem bX11_spreads_6 {X : CT} {σ : St} {i1 t0 : Int}  (s : (-2147483648 ≤ t0 ∧ t0 < 2147483648))
    (kt : ¬ t0 = 0 → G mdX11_spreads X 11 [(0, vr 87), (1, vi i1)] [] σ)
    (kf : t0 = 0 → G mdX11_spreads X 9 [] [] σ) :
    G mdX11_spreads X 6 [(0, vr 87), (1, vi i1)] [vi t0] σ := by
  exact G.if_ne (tgt := 11) dX11_spreads_6 (by decide) s (fun q => G.pick [0, 1] (kt q)) (fun q => G.pick [] (kf q))
theorem bX11_spreads_9 {X : CT} {σ : St}  {P : Int → St → Prop} (hX : RI X P)
    (k : P (-1) σ) :
    G mdX11_spreads X 9 [] [] σ := by
  refine G.iconst dX11_spreads_9 ?_
  exact G.iret hX dX11_spreads_10 rfl ⟨by decide, by decide⟩ k
theorem bX11_spreads_11 {X : CT} {σ : St} {i1 : Int}  {P : St → Prop} (hM : CV mdX11_keepReceived [vr 87] σ P)
    (k : ∀ σ', P σ' → G mdX11_spreads X 15 [(0, vr 87), (1, vi i1)] [] (σ')) :
    G mdX11_spreads X 11 [(0, vr 87), (1, vi i1)] [] σ := by
  refine G.aload_n (o := 87) dX11_spreads_11 rfl ?_
  exact G.callVV (as := []) (rest := []) dX11_spreads_12 rfl vX11_250 (by decide) sh87 rfl (by decide) (Nat.le_of_ble_eq_true rfl) hM (fun σ' q => G.pick [0, 1] (k σ' q))
theorem bX11_spreads_15 {X : CT} {σ : St} {i1 : Int} 
    (k : G mdX11_spreads X 23 [(0, vr 87), (1, vi i1), (2, vi 0), (3, vi (-9)), (4, vi 1)] [] σ) :
    G mdX11_spreads X 15 [(0, vr 87), (1, vi i1)] [] σ := by
  refine G.iconst dX11_spreads_15 ?_
  refine G.istore_n dX11_spreads_16 (by decide) rfl ?_
  refine G.bipush dX11_spreads_17 (by decide) ?_
  refine G.istore_n dX11_spreads_19 (by decide) rfl ?_
  refine G.iconst dX11_spreads_20 ?_
  refine G.istore dX11_spreads_21 (by decide) rfl ?_
  exact G.pick [0, 1, 2, 3, 4] k
theorem bX11_spreads_23 {X : CT} {σ : St} {i1 i2 i3 i4 : Int}  (s : (-2147483648 ≤ i4 ∧ i4 < 2147483648))
    (kt : 97 ≤ i4 → G mdX11_spreads X 78 [(1, vi i1), (2, vi i2), (3, vi i3)] [] σ)
    (kf : i4 < 97 → G mdX11_spreads X 30 [(0, vr 87), (1, vi i1), (2, vi i2), (3, vi i3), (4, vi i4)] [] σ) :
    G mdX11_spreads X 23 [(0, vr 87), (1, vi i1), (2, vi i2), (3, vi i3), (4, vi i4)] [] σ := by
  refine G.iload (z := i4) dX11_spreads_23 rfl ?_
  refine G.bipush dX11_spreads_25 (by decide) ?_
  exact G.icmp_ge (tgt := 78) dX11_spreads_27 (by decide) s ⟨by decide, by decide⟩ (fun q => G.pick [1, 2, 3] (kt q)) (fun q => G.pick [0, 1, 2, 3, 4] (kf q))
theorem bX11_spreads_30 {X : CT} {σ : St} {i1 i2 i3 i4 : Int}  {P : Int → St → Prop} (hM : CI mdX11_power [vi i4, vi 16] σ P)
    (k : ∀ z σ', inI z → P z σ' → G mdX11_spreads X 37 [(0, vr 87), (1, vi i1), (2, vi i2), (3, vi i3), (4, vi i4)] [vi z] (σ')) :
    G mdX11_spreads X 30 [(0, vr 87), (1, vi i1), (2, vi i2), (3, vi i3), (4, vi i4)] [] σ := by
  refine G.iload (z := i4) dX11_spreads_30 rfl ?_
  refine G.bipush dX11_spreads_32 (by decide) ?_
  exact G.callSI (as := [vi i4, vi 16]) (rest := []) dX11_spreads_34 rfl vX11_63 (by decide) (Nat.le_of_ble_eq_true rfl) hM (fun z σ' hz q => G.pick [0, 1, 2, 3, 4] (k z σ' hz q))
theorem bX11_spreads_37 {X : CT} {σ : St} {i1 i2 i3 i4 t0 : Int}  (s : (-2147483648 ≤ t0 ∧ t0 < 2147483648))
    (kt : t0 = 1 → G mdX11_spreads X 72 [(0, vr 87), (1, vi i1), (2, vi i2), (3, vi i3), (4, vi i4)] [] σ)
    (kf : ¬ t0 = 1 → G mdX11_spreads X 41 [(0, vr 87), (1, vi i1), (2, vi i2), (3, vi i3), (4, vi i4)] [] σ) :
    G mdX11_spreads X 37 [(0, vr 87), (1, vi i1), (2, vi i2), (3, vi i3), (4, vi i4)] [vi t0] σ := by
  refine G.iconst dX11_spreads_37 ?_
  exact G.icmp_eq (tgt := 72) dX11_spreads_38 (by decide) s ⟨by decide, by decide⟩ (fun q => G.pick [0, 1, 2, 3, 4] (kt q)) (fun q => G.pick [0, 1, 2, 3, 4] (kf q))
theorem bX11_spreads_41 {X : CT} {σ : St} {i1 i2 i3 i4 : Int}  {P : St → Prop} (hM : CV mdX11_layKept [vr 87] σ P)
    (k : ∀ σ', P σ' → G mdX11_spreads X 45 [(0, vr 87), (1, vi i1), (2, vi i2), (3, vi i3), (4, vi i4)] [] (σ')) :
    G mdX11_spreads X 41 [(0, vr 87), (1, vi i1), (2, vi i2), (3, vi i3), (4, vi i4)] [] σ := by
  refine G.aload_n (o := 87) dX11_spreads_41 rfl ?_
  exact G.callVV (as := []) (rest := []) dX11_spreads_42 rfl vX11_253 (by decide) sh87 rfl (by decide) (Nat.le_of_ble_eq_true rfl) hM (fun σ' q => G.pick [0, 1, 2, 3, 4] (k σ' q))
theorem bX11_spreads_45 {X : CT} {σ : St} {i1 i2 i3 i4 : Int}  {P : St → Prop} (hM : CV mdX11_unspread [vr 87, vi i4] σ P)
    (k : ∀ σ', P σ' → G mdX11_spreads X 51 [(0, vr 87), (1, vi i1), (2, vi i2), (3, vi i3), (4, vi i4)] [] (σ')) :
    G mdX11_spreads X 45 [(0, vr 87), (1, vi i1), (2, vi i2), (3, vi i3), (4, vi i4)] [] σ := by
  refine G.aload_n (o := 87) dX11_spreads_45 rfl ?_
  refine G.iload (z := i4) dX11_spreads_46 rfl ?_
  exact G.callVV (as := [vi i4]) (rest := []) dX11_spreads_48 rfl vX11_184 (by decide) sh87 rfl (by decide) (Nat.le_of_ble_eq_true rfl) hM (fun σ' q => G.pick [0, 1, 2, 3, 4] (k σ' q))
theorem bX11_spreads_51 {X : CT} {σ : St} {i1 i2 i3 i4 : Int}  {P : Int → St → Prop} (hM : CI mdX11_wrongAtMarks [vr 87] σ P)
    (k : ∀ z σ', inI z → P z σ' → G mdX11_spreads X 55 [(0, vr 87), (1, vi i1), (2, vi i2), (3, vi i3), (4, vi i4)] [vi z] (σ')) :
    G mdX11_spreads X 51 [(0, vr 87), (1, vi i1), (2, vi i2), (3, vi i3), (4, vi i4)] [] σ := by
  refine G.aload_n (o := 87) dX11_spreads_51 rfl ?_
  exact G.callVI (as := []) (rest := []) dX11_spreads_52 rfl vX11_256 (by decide) sh87 rfl (by decide) (Nat.le_of_ble_eq_true rfl) hM (fun z σ' hz q => G.pick [0, 1, 2, 3, 4] (k z σ' hz q))
theorem bX11_spreads_55 {X : CT} {σ : St} {i1 i2 i3 i4 t0 : Int}  (s : (-2147483648 ≤ t0 ∧ t0 < 2147483648))
    (kt : ¬ t0 = 0 → G mdX11_spreads X 72 [(0, vr 87), (1, vi i1), (2, vi i2), (3, vi i3), (4, vi i4)] [] σ)
    (kf : t0 = 0 → G mdX11_spreads X 58 [(0, vr 87), (1, vi i1), (2, vi i2), (3, vi i3), (4, vi i4)] [] σ) :
    G mdX11_spreads X 55 [(0, vr 87), (1, vi i1), (2, vi i2), (3, vi i3), (4, vi i4)] [vi t0] σ := by
  exact G.if_ne (tgt := 72) dX11_spreads_55 (by decide) s (fun q => G.pick [0, 1, 2, 3, 4] (kt q)) (fun q => G.pick [0, 1, 2, 3, 4] (kf q))
theorem bX11_spreads_58 {X : CT} {σ : St} {i1 i2 i3 i4 : Int}  (s : (-2147483648 ≤ i2 ∧ i2 < 2147483648))
    (kt : ¬ i2 = 0 → G mdX11_spreads X 67 [(0, vr 87), (1, vi i1), (2, vi i2), (3, vi i3), (4, vi i4)] [] σ)
    (kf : i2 = 0 → G mdX11_spreads X 62 [(0, vr 87), (1, vi i1), (2, vi i2), (4, vi i4)] [] σ) :
    G mdX11_spreads X 58 [(0, vr 87), (1, vi i1), (2, vi i2), (3, vi i3), (4, vi i4)] [] σ := by
  refine G.iload_n (z := i2) dX11_spreads_58 rfl ?_
  exact G.if_ne (tgt := 67) dX11_spreads_59 (by decide) s (fun q => G.pick [0, 1, 2, 3, 4] (kt q)) (fun q => G.pick [0, 1, 2, 4] (kf q))
theorem bX11_spreads_62 {X : CT} {σ : St} {i1 i2 i4 : Int} 
    (k : G mdX11_spreads X 68 [(0, vr 87), (1, vi i1), (2, vi i2), (4, vi i4)] [vi i4] σ) :
    G mdX11_spreads X 62 [(0, vr 87), (1, vi i1), (2, vi i2), (4, vi i4)] [] σ := by
  refine G.iload (z := i4) dX11_spreads_62 rfl ?_
  refine G.goto (tgt := 68) dX11_spreads_64 (by decide) ?_
  exact G.pick [0, 1, 2, 4] k
theorem bX11_spreads_67 {X : CT} {σ : St} {i1 i2 i3 i4 : Int} 
    (k : G mdX11_spreads X 68 [(0, vr 87), (1, vi i1), (2, vi i2), (4, vi i4)] [vi i3] σ) :
    G mdX11_spreads X 67 [(0, vr 87), (1, vi i1), (2, vi i2), (3, vi i3), (4, vi i4)] [] σ := by
  refine G.iload_n (z := i3) dX11_spreads_67 rfl ?_
  exact G.pick [0, 1, 2, 4] k
theorem bX11_spreads_68 {X : CT} {σ : St} {i1 i2 i4 t0 : Int} 
    (k : G mdX11_spreads X 72 [(0, vr 87), (1, vi i1), (2, vi (i2 + 1)), (3, vi t0), (4, vi i4)] [] σ) :
    G mdX11_spreads X 68 [(0, vr 87), (1, vi i1), (2, vi i2), (4, vi i4)] [vi t0] σ := by
  refine G.istore_n dX11_spreads_68 (by decide) rfl ?_
  refine G.iinc (z := i2) dX11_spreads_69 rfl (by decide) rfl ?_
  exact G.pick [0, 1, 2, 3, 4] k
theorem bX11_spreads_72 {X : CT} {σ : St} {i1 i2 i3 i4 : Int} 
    (k : G mdX11_spreads X 23 [(0, vr 87), (1, vi i1), (2, vi i2), (3, vi i3), (4, vi (i4 + 1))] [] σ) :
    G mdX11_spreads X 72 [(0, vr 87), (1, vi i1), (2, vi i2), (3, vi i3), (4, vi i4)] [] σ := by
  refine G.iinc (z := i4) dX11_spreads_72 rfl (by decide) rfl ?_
  refine G.goto (tgt := 23) dX11_spreads_75 (by decide) ?_
  exact G.pick [0, 1, 2, 3, 4] k
theorem bX11_spreads_78 {X : CT} {σ : St} {i1 i2 i3 : Int}  (s : (-2147483648 ≤ i1 ∧ i1 < 2147483648))
    (kt : ¬ i1 = 0 → G mdX11_spreads X 86 [(3, vi i3)] [] σ)
    (kf : i1 = 0 → G mdX11_spreads X 82 [(2, vi i2)] [] σ) :
    G mdX11_spreads X 78 [(1, vi i1), (2, vi i2), (3, vi i3)] [] σ := by
  refine G.iload_n (z := i1) dX11_spreads_78 rfl ?_
  exact G.if_ne (tgt := 86) dX11_spreads_79 (by decide) s (fun q => G.pick [3] (kt q)) (fun q => G.pick [2] (kf q))
theorem bX11_spreads_82 {X : CT} {σ : St} {i2 : Int} 
    (k : G mdX11_spreads X 87 [] [vi i2] σ) :
    G mdX11_spreads X 82 [(2, vi i2)] [] σ := by
  refine G.iload_n (z := i2) dX11_spreads_82 rfl ?_
  refine G.goto (tgt := 87) dX11_spreads_83 (by decide) ?_
  exact G.pick [] k
theorem bX11_spreads_86 {X : CT} {σ : St} {i3 : Int} 
    (k : G mdX11_spreads X 87 [] [vi i3] σ) :
    G mdX11_spreads X 86 [(3, vi i3)] [] σ := by
  refine G.iload_n (z := i3) dX11_spreads_86 rfl ?_
  exact G.pick [] k
theorem bX11_spreads_87 {X : CT} {σ : St} {t0 : Int}  {P : Int → St → Prop} (hX : RI X P) (s : (-2147483648 ≤ t0 ∧ t0 < 2147483648))
    (k : P t0 σ) :
    G mdX11_spreads X 87 [] [vi t0] σ := by
  exact G.iret hX dX11_spreads_87 rfl s k
theorem bX11_lag_0 {X : CT} {σ : St} {i1 : Int}  {P : Int → St → Prop} (hM : CI mdX11_in [vi i1, vi 0, vi 15] σ P)
    (k : ∀ z σ', inI z → P z σ' → G mdX11_lag X 7 [(0, vr 87), (1, vi i1)] [vi z] (σ')) :
    G mdX11_lag X 0 [(0, vr 87), (1, vi i1)] [] σ := by
  refine G.iload_n (z := i1) dX11_lag_0 rfl ?_
  refine G.iconst dX11_lag_1 ?_
  refine G.bipush dX11_lag_2 (by decide) ?_
  exact G.callSI (as := [vi i1, vi 0, vi 15]) (rest := []) dX11_lag_4 rfl vX11_82 (by decide) (Nat.le_of_ble_eq_true rfl) hM (fun z σ' hz q => G.pick [0, 1] (k z σ' hz q))
theorem bX11_lag_7 {X : CT} {σ : St} {i1 t0 : Int}  (s : (-2147483648 ≤ t0 ∧ t0 < 2147483648))
    (kt : ¬ t0 = 0 → G mdX11_lag X 12 [(0, vr 87), (1, vi i1)] [] σ)
    (kf : t0 = 0 → G mdX11_lag X 10 [] [] σ) :
    G mdX11_lag X 7 [(0, vr 87), (1, vi i1)] [vi t0] σ := by
  exact G.if_ne (tgt := 12) dX11_lag_7 (by decide) s (fun q => G.pick [0, 1] (kt q)) (fun q => G.pick [] (kf q))
theorem bX11_lag_10 {X : CT} {σ : St}  {P : Int → St → Prop} (hX : RI X P)
    (k : P (-1) σ) :
    G mdX11_lag X 10 [] [] σ := by
  refine G.iconst dX11_lag_10 ?_
  exact G.iret hX dX11_lag_11 rfl ⟨by decide, by decide⟩ k
theorem bX11_lag_12 {X : CT} {σ : St} {i1 : Int} 
    (k : G mdX11_lag X 14 [(0, vr 87), (1, vi i1), (2, vi 0)] [] σ) :
    G mdX11_lag X 12 [(0, vr 87), (1, vi i1)] [] σ := by
  refine G.iconst dX11_lag_12 ?_
  refine G.istore_n dX11_lag_13 (by decide) rfl ?_
  exact G.pick [0, 1, 2] k
theorem bX11_lag_14 {X : CT} {σ : St} {i1 i2 : Int}  (s : (-2147483648 ≤ i2 ∧ i2 < 2147483648))
    (kt : 16 ≤ i2 → G mdX11_lag X 45 [(2, vi i2)] [] σ)
    (kf : i2 < 16 → G mdX11_lag X 20 [(0, vr 87), (1, vi i1), (2, vi i2)] [] σ) :
    G mdX11_lag X 14 [(0, vr 87), (1, vi i1), (2, vi i2)] [] σ := by
  refine G.iload_n (z := i2) dX11_lag_14 rfl ?_
  refine G.bipush dX11_lag_15 (by decide) ?_
  exact G.icmp_ge (tgt := 45) dX11_lag_17 (by decide) s ⟨by decide, by decide⟩ (fun q => G.pick [2] (kt q)) (fun q => G.pick [0, 1, 2] (kf q))
theorem bX11_lag_20 {X : CT} {σ : St} {i1 i2 : Int}  {P : Int → St → Prop} (hM : CI mdX11_has [vi (σ 88 32), vi ((i1 + i2) % 16)] σ P) (s : (0 ≤ i1 + i2 ∧ i1 + i2 < 2147483648))
    (k : ∀ z σ', inI z → P z σ' → G mdX11_lag X 36 [(0, vr 87), (1, vi i1), (2, vi i2)] [vi z] (σ')) :
    G mdX11_lag X 20 [(0, vr 87), (1, vi i1), (2, vi i2)] [] σ := by
  refine G.aload_n (o := 87) dX11_lag_20 rfl ?_
  refine G.getR (o' := 88) dX11_lag_21 fX11_7 sh87 rfl ?_
  refine G.bipush dX11_lag_24 (by decide) ?_
  refine G.iald dX11_lag_26 sh88 ⟨by decide, by decide⟩ ?_
  refine G.iload_n (z := i1) dX11_lag_27 rfl ?_
  refine G.iload_n (z := i2) dX11_lag_28 rfl ?_
  refine G.iadd dX11_lag_29 ?_
  refine G.bipush dX11_lag_30 (by decide) ?_
  refine G.irem dX11_lag_32 s ⟨by decide, by decide⟩ ?_
  exact G.callSI (as := [vi (σ 88 32), vi ((i1 + i2) % 16)]) (rest := []) dX11_lag_33 rfl vX11_123 (by decide) (Nat.le_of_ble_eq_true rfl) hM (fun z σ' hz q => G.pick [0, 1, 2] (k z σ' hz q))
theorem bX11_lag_36 {X : CT} {σ : St} {i1 i2 t0 : Int}  (s : (-2147483648 ≤ t0 ∧ t0 < 2147483648))
    (kt : ¬ t0 = 0 → G mdX11_lag X 45 [(2, vi i2)] [] σ)
    (kf : t0 = 0 → G mdX11_lag X 39 [(0, vr 87), (1, vi i1), (2, vi i2)] [] σ) :
    G mdX11_lag X 36 [(0, vr 87), (1, vi i1), (2, vi i2)] [vi t0] σ := by
  exact G.if_ne (tgt := 45) dX11_lag_36 (by decide) s (fun q => G.pick [2] (kt q)) (fun q => G.pick [0, 1, 2] (kf q))
theorem bX11_lag_39 {X : CT} {σ : St} {i1 i2 : Int} 
    (k : G mdX11_lag X 14 [(0, vr 87), (1, vi i1), (2, vi (i2 + 1))] [] σ) :
    G mdX11_lag X 39 [(0, vr 87), (1, vi i1), (2, vi i2)] [] σ := by
  refine G.iinc (z := i2) dX11_lag_39 rfl (by decide) rfl ?_
  refine G.goto (tgt := 14) dX11_lag_42 (by decide) ?_
  exact G.pick [0, 1, 2] k
theorem bX11_lag_45 {X : CT} {σ : St} {i2 : Int}  {P : Int → St → Prop} (hX : RI X P) (s : (-2147483648 ≤ i2 ∧ i2 < 2147483648))
    (k : P i2 σ) :
    G mdX11_lag X 45 [(2, vi i2)] [] σ := by
  refine G.iload_n (z := i2) dX11_lag_45 rfl ?_
  exact G.iret hX dX11_lag_46 rfl s k
theorem bX11_sees_0 {X : CT} {σ : St} {i1 i2 i3 : Int}  {P : Int → St → Prop} (hM : CI mdX11_in [vi i1, vi 0, vi 1] σ P)
    (k : ∀ z σ', inI z → P z σ' → G mdX11_sees X 6 [(0, vr 87), (1, vi i1), (2, vi i2), (3, vi i3)] [vi z] (σ')) :
    G mdX11_sees X 0 [(0, vr 87), (1, vi i1), (2, vi i2), (3, vi i3)] [] σ := by
  refine G.iload_n (z := i1) dX11_sees_0 rfl ?_
  refine G.iconst dX11_sees_1 ?_
  refine G.iconst dX11_sees_2 ?_
  exact G.callSI (as := [vi i1, vi 0, vi 1]) (rest := []) dX11_sees_3 rfl vX11_82 (by decide) (Nat.le_of_ble_eq_true rfl) hM (fun z σ' hz q => G.pick [0, 1, 2, 3] (k z σ' hz q))
theorem bX11_sees_6 {X : CT} {σ : St} {i1 i2 i3 t0 : Int}  (s : (-2147483648 ≤ t0 ∧ t0 < 2147483648))
    (kt : t0 = 0 → G mdX11_sees X 28 [] [] σ)
    (kf : ¬ t0 = 0 → G mdX11_sees X 9 [(0, vr 87), (1, vi i1), (2, vi i2), (3, vi i3)] [] σ) :
    G mdX11_sees X 6 [(0, vr 87), (1, vi i1), (2, vi i2), (3, vi i3)] [vi t0] σ := by
  exact G.if_eq (tgt := 28) dX11_sees_6 (by decide) s (fun q => G.pick [] (kt q)) (fun q => G.pick [0, 1, 2, 3] (kf q))
theorem bX11_sees_9 {X : CT} {σ : St} {i1 i2 i3 : Int}  {P : Int → St → Prop} (hM : CI mdX11_in [vi i2, vi 0, vi 15] σ P)
    (k : ∀ z σ', inI z → P z σ' → G mdX11_sees X 16 [(0, vr 87), (1, vi i1), (2, vi i2), (3, vi i3)] [vi z] (σ')) :
    G mdX11_sees X 9 [(0, vr 87), (1, vi i1), (2, vi i2), (3, vi i3)] [] σ := by
  refine G.iload_n (z := i2) dX11_sees_9 rfl ?_
  refine G.iconst dX11_sees_10 ?_
  refine G.bipush dX11_sees_11 (by decide) ?_
  exact G.callSI (as := [vi i2, vi 0, vi 15]) (rest := []) dX11_sees_13 rfl vX11_82 (by decide) (Nat.le_of_ble_eq_true rfl) hM (fun z σ' hz q => G.pick [0, 1, 2, 3] (k z σ' hz q))
theorem bX11_sees_16 {X : CT} {σ : St} {i1 i2 i3 t0 : Int}  (s : (-2147483648 ≤ t0 ∧ t0 < 2147483648))
    (kt : t0 = 0 → G mdX11_sees X 28 [] [] σ)
    (kf : ¬ t0 = 0 → G mdX11_sees X 19 [(0, vr 87), (1, vi i1), (2, vi i2), (3, vi i3)] [] σ) :
    G mdX11_sees X 16 [(0, vr 87), (1, vi i1), (2, vi i2), (3, vi i3)] [vi t0] σ := by
  exact G.if_eq (tgt := 28) dX11_sees_16 (by decide) s (fun q => G.pick [] (kt q)) (fun q => G.pick [0, 1, 2, 3] (kf q))
theorem bX11_sees_19 {X : CT} {σ : St} {i1 i2 i3 : Int}  {P : Int → St → Prop} (hM : CI mdX11_in [vi i3, vi 0, vi 3] σ P)
    (k : ∀ z σ', inI z → P z σ' → G mdX11_sees X 25 [(0, vr 87), (1, vi i1), (2, vi i2), (3, vi i3)] [vi z] (σ')) :
    G mdX11_sees X 19 [(0, vr 87), (1, vi i1), (2, vi i2), (3, vi i3)] [] σ := by
  refine G.iload_n (z := i3) dX11_sees_19 rfl ?_
  refine G.iconst dX11_sees_20 ?_
  refine G.iconst dX11_sees_21 ?_
  exact G.callSI (as := [vi i3, vi 0, vi 3]) (rest := []) dX11_sees_22 rfl vX11_82 (by decide) (Nat.le_of_ble_eq_true rfl) hM (fun z σ' hz q => G.pick [0, 1, 2, 3] (k z σ' hz q))
theorem bX11_sees_25 {X : CT} {σ : St} {i1 i2 i3 t0 : Int}  (s : (-2147483648 ≤ t0 ∧ t0 < 2147483648))
    (kt : ¬ t0 = 0 → G mdX11_sees X 30 [(0, vr 87), (1, vi i1), (2, vi i2), (3, vi i3)] [] σ)
    (kf : t0 = 0 → G mdX11_sees X 28 [] [] σ) :
    G mdX11_sees X 25 [(0, vr 87), (1, vi i1), (2, vi i2), (3, vi i3)] [vi t0] σ := by
  exact G.if_ne (tgt := 30) dX11_sees_25 (by decide) s (fun q => G.pick [0, 1, 2, 3] (kt q)) (fun q => G.pick [] (kf q))
theorem bX11_sees_28 {X : CT} {σ : St}  {P : Int → St → Prop} (hX : RI X P)
    (k : P (-1) σ) :
    G mdX11_sees X 28 [] [] σ := by
  refine G.iconst dX11_sees_28 ?_
  exact G.iret hX dX11_sees_29 rfl ⟨by decide, by decide⟩ k
theorem bX11_sees_30 {X : CT} {σ : St} {i1 i2 i3 : Int}  (s : (-2147483648 ≤ σ 87 27 ∧ σ 87 27 < 2147483648))
    (kt : ¬ σ 87 27 = 6 → G mdX11_sees X 42 [(0, vr 87), (1, vi i1), (2, vi i2), (3, vi i3)] [] σ)
    (kf : σ 87 27 = 6 → G mdX11_sees X 39 [] [] σ) :
    G mdX11_sees X 30 [(0, vr 87), (1, vi i1), (2, vi i2), (3, vi i3)] [] σ := by
  refine G.aload_n (o := 87) dX11_sees_30 rfl ?_
  refine G.getI (j := 27) dX11_sees_31 fX11_143 sh87 rfl rfl rfl ?_
  refine G.bipush dX11_sees_34 (by decide) ?_
  exact G.icmp_ne (tgt := 42) dX11_sees_36 (by decide) s ⟨by decide, by decide⟩ (fun q => G.pick [0, 1, 2, 3] (kt q)) (fun q => G.pick [] (kf q))
theorem bX11_sees_39 {X : CT} {σ : St}  {P : Int → St → Prop} (hX : RI X P)
    (k : P (-3) σ) :
    G mdX11_sees X 39 [] [] σ := by
  refine G.bipush dX11_sees_39 (by decide) ?_
  exact G.iret hX dX11_sees_41 rfl ⟨by decide, by decide⟩ k
theorem bX11_sees_42 {X : CT} {σ : St} {i1 i2 i3 : Int}  {P : Int → St → Prop} (hX : RI X P) (s : (0 ≤ σ 87 27 ∧ σ 87 27 < 6) ∧ (0 ≤ (wr σ 103 (σ 87 27) ((16 * i1) + i2)) 87 27 ∧ (wr σ 103 (σ 87 27) ((16 * i1) + i2)) 87 27 < 6) ∧ (-2147483648 ≤ (wr (wr (wr σ 103 (σ 87 27) ((16 * i1) + i2)) 104 ((wr σ 103 (σ 87 27) ((16 * i1) + i2)) 87 27) i3) 87 27 (((wr (wr σ 103 (σ 87 27) ((16 * i1) + i2)) 104 ((wr σ 103 (σ 87 27) ((16 * i1) + i2)) 87 27) i3) 87 27) + 1)) 87 27 ∧ (wr (wr (wr σ 103 (σ 87 27) ((16 * i1) + i2)) 104 ((wr σ 103 (σ 87 27) ((16 * i1) + i2)) 87 27) i3) 87 27 (((wr (wr σ 103 (σ 87 27) ((16 * i1) + i2)) 104 ((wr σ 103 (σ 87 27) ((16 * i1) + i2)) 87 27) i3) 87 27) + 1)) 87 27 < 2147483648))
    (k : P ((wr (wr (wr σ 103 (σ 87 27) ((16 * i1) + i2)) 104 ((wr σ 103 (σ 87 27) ((16 * i1) + i2)) 87 27) i3) 87 27 (((wr (wr σ 103 (σ 87 27) ((16 * i1) + i2)) 104 ((wr σ 103 (σ 87 27) ((16 * i1) + i2)) 87 27) i3) 87 27) + 1)) 87 27) (wr (wr (wr σ 103 (σ 87 27) ((16 * i1) + i2)) 104 ((wr σ 103 (σ 87 27) ((16 * i1) + i2)) 87 27) i3) 87 27 (((wr (wr σ 103 (σ 87 27) ((16 * i1) + i2)) 104 ((wr σ 103 (σ 87 27) ((16 * i1) + i2)) 87 27) i3) 87 27) + 1))) :
    G mdX11_sees X 42 [(0, vr 87), (1, vi i1), (2, vi i2), (3, vi i3)] [] σ := by
  refine G.aload_n (o := 87) dX11_sees_42 rfl ?_
  refine G.getR (o' := 103) dX11_sees_43 fX11_57 sh87 rfl ?_
  refine G.aload_n (o := 87) dX11_sees_46 rfl ?_
  refine G.getI (j := 27) dX11_sees_47 fX11_143 sh87 rfl rfl rfl ?_
  refine G.bipush dX11_sees_50 (by decide) ?_
  refine G.iload_n (z := i1) dX11_sees_52 rfl ?_
  refine G.imul dX11_sees_53 ?_
  refine G.iload_n (z := i2) dX11_sees_54 rfl ?_
  refine G.iadd dX11_sees_55 ?_
  refine G.iast dX11_sees_56 sh103 s.1 ?_
  refine G.aload_n (o := 87) dX11_sees_57 rfl ?_
  refine G.getR (o' := 104) dX11_sees_58 fX11_60 sh87 rfl ?_
  refine G.aload_n (o := 87) dX11_sees_61 rfl ?_
  refine G.getI (j := 27) dX11_sees_62 fX11_143 sh87 rfl rfl rfl ?_
  refine G.iload_n (z := i3) dX11_sees_65 rfl ?_
  refine G.iast dX11_sees_66 sh104 s.2.1 ?_
  refine G.aload_n (o := 87) dX11_sees_67 rfl ?_
  refine G.dup dX11_sees_68 ?_
  refine G.getI (j := 27) dX11_sees_69 fX11_143 sh87 rfl rfl rfl ?_
  refine G.iconst dX11_sees_72 ?_
  refine G.iadd dX11_sees_73 ?_
  refine G.putI (j := 27) dX11_sees_74 fX11_143 sh87 rfl rfl rfl rfl rfl ?_
  refine G.aload_n (o := 87) dX11_sees_77 rfl ?_
  refine G.getI (j := 27) dX11_sees_78 fX11_143 sh87 rfl rfl rfl ?_
  exact G.iret hX dX11_sees_81 rfl s.2.2 k
theorem bX11_forget_0 {X : CT} {σ : St}  {P : Int → St → Prop} (hX : RI X P) (s : (-2147483648 ≤ σ 87 27 ∧ σ 87 27 < 2147483648))
    (k : P (σ 87 27) (wr σ 87 27 0)) :
    G mdX11_forget X 0 [(0, vr 87)] [] σ := by
  refine G.aload_n (o := 87) dX11_forget_0 rfl ?_
  refine G.getI (j := 27) dX11_forget_1 fX11_143 sh87 rfl rfl rfl ?_
  refine G.istore_n dX11_forget_4 (by decide) rfl ?_
  refine G.aload_n (o := 87) dX11_forget_5 rfl ?_
  refine G.iconst dX11_forget_6 ?_
  refine G.putI (j := 27) dX11_forget_7 fX11_143 sh87 rfl rfl rfl rfl rfl ?_
  refine G.iload_n (z := σ 87 27) dX11_forget_10 rfl ?_
  exact G.iret hX dX11_forget_11 rfl s k
theorem bX11_isSeenBy_0 {X : CT} {σ : St} {i1 i2 : Int}  {P : St → Prop} (hM : CV mdX11_layAir [vr 87] σ P)
    (k : ∀ σ', P σ' → G mdX11_isSeenBy X 4 [(0, vr 87), (1, vi i1), (2, vi i2)] [] (σ')) :
    G mdX11_isSeenBy X 0 [(0, vr 87), (1, vi i1), (2, vi i2)] [] σ := by
  refine G.aload_n (o := 87) dX11_isSeenBy_0 rfl ?_
  exact G.callVV (as := []) (rest := []) dX11_isSeenBy_1 rfl vX11_202 (by decide) sh87 rfl (by decide) (Nat.le_of_ble_eq_true rfl) hM (fun σ' q => G.pick [0, 1, 2] (k σ' q))
theorem bX11_isSeenBy_4 {X : CT} {σ : St} {i1 i2 : Int}  {P : St → Prop} (hM : CV mdX11_slip [vr 87, vi i1, vi i2] σ P)
    (k : ∀ σ', P σ' → G mdX11_isSeenBy X 10 [(0, vr 87)] [] (σ')) :
    G mdX11_isSeenBy X 4 [(0, vr 87), (1, vi i1), (2, vi i2)] [] σ := by
  refine G.aload_n (o := 87) dX11_isSeenBy_4 rfl ?_
  refine G.iload_n (z := i1) dX11_isSeenBy_5 rfl ?_
  refine G.iload_n (z := i2) dX11_isSeenBy_6 rfl ?_
  exact G.callVV (as := [vi i1, vi i2]) (rest := []) dX11_isSeenBy_7 rfl vX11_178 (by decide) sh87 rfl (by decide) (Nat.le_of_ble_eq_true rfl) hM (fun σ' q => G.pick [0] (k σ' q))
theorem bX11_isSeenBy_10 {X : CT} {σ : St}  {P : St → Prop} (hM : CV mdX11_goThrough [vr 87, vi (σ 88 64)] σ P)
    (k : ∀ σ', P σ' → G mdX11_isSeenBy X 21 [(0, vr 87)] [] (σ')) :
    G mdX11_isSeenBy X 10 [(0, vr 87)] [] σ := by
  refine G.aload_n (o := 87) dX11_isSeenBy_10 rfl ?_
  refine G.aload_n (o := 87) dX11_isSeenBy_11 rfl ?_
  refine G.getR (o' := 88) dX11_isSeenBy_12 fX11_7 sh87 rfl ?_
  refine G.bipush dX11_isSeenBy_15 (by decide) ?_
  refine G.iald dX11_isSeenBy_17 sh88 ⟨by decide, by decide⟩ ?_
  exact G.callVV (as := [vi (σ 88 64)]) (rest := []) dX11_isSeenBy_18 rfl vX11_205 (by decide) sh87 rfl (by decide) (Nat.le_of_ble_eq_true rfl) hM (fun σ' q => G.pick [0] (k σ' q))
theorem bX11_isSeenBy_21 {X : CT} {σ : St} 
    (k : G mdX11_isSeenBy X 26 [(0, vr 87), (3, vi 1), (4, vi 0)] [] σ) :
    G mdX11_isSeenBy X 21 [(0, vr 87)] [] σ := by
  refine G.iconst dX11_isSeenBy_21 ?_
  refine G.istore_n dX11_isSeenBy_22 (by decide) rfl ?_
  refine G.iconst dX11_isSeenBy_23 ?_
  refine G.istore dX11_isSeenBy_24 (by decide) rfl ?_
  exact G.pick [0, 3, 4] k
theorem bX11_isSeenBy_26 {X : CT} {σ : St} {i3 i4 : Int}  (s : (-2147483648 ≤ i4 ∧ i4 < 2147483648) ∧ (-2147483648 ≤ σ 87 27 ∧ σ 87 27 < 2147483648))
    (kt : σ 87 27 ≤ i4 → G mdX11_isSeenBy X 76 [(3, vi i3)] [] σ)
    (kf : i4 < σ 87 27 → G mdX11_isSeenBy X 35 [(0, vr 87), (3, vi i3), (4, vi i4)] [] σ) :
    G mdX11_isSeenBy X 26 [(0, vr 87), (3, vi i3), (4, vi i4)] [] σ := by
  refine G.iload (z := i4) dX11_isSeenBy_26 rfl ?_
  refine G.aload_n (o := 87) dX11_isSeenBy_28 rfl ?_
  refine G.getI (j := 27) dX11_isSeenBy_29 fX11_143 sh87 rfl rfl rfl ?_
  exact G.icmp_ge (tgt := 76) dX11_isSeenBy_32 (by decide) s.1 s.2 (fun q => G.pick [3] (kt q)) (fun q => G.pick [0, 3, 4] (kf q))
theorem bX11_isSeenBy_35 {X : CT} {σ : St} {i3 i4 : Int}  (s : (-2147483648 ≤ i3 ∧ i3 < 2147483648))
    (kt : i3 = 0 → G mdX11_isSeenBy X 68 [(0, vr 87), (4, vi i4)] [] σ)
    (kf : ¬ i3 = 0 → G mdX11_isSeenBy X 39 [(0, vr 87), (4, vi i4)] [] σ) :
    G mdX11_isSeenBy X 35 [(0, vr 87), (3, vi i3), (4, vi i4)] [] σ := by
  refine G.iload_n (z := i3) dX11_isSeenBy_35 rfl ?_
  exact G.if_eq (tgt := 68) dX11_isSeenBy_36 (by decide) s (fun q => G.pick [0, 4] (kt q)) (fun q => G.pick [0, 4] (kf q))
theorem bX11_isSeenBy_39 {X : CT} {σ : St} {i4 : Int}  {P : Int → St → Prop} (hM : CI mdX11_decided [vi (σ 96 (σ 103 i4))] σ P) (s : (0 ≤ i4 ∧ i4 < 6) ∧ (0 ≤ σ 103 i4 ∧ σ 103 i4 < 32))
    (k : ∀ z σ', inI z → P z σ' → G mdX11_isSeenBy X 54 [(0, vr 87), (4, vi i4)] [vi z] (σ')) :
    G mdX11_isSeenBy X 39 [(0, vr 87), (4, vi i4)] [] σ := by
  refine G.aload_n (o := 87) dX11_isSeenBy_39 rfl ?_
  refine G.getR (o' := 96) dX11_isSeenBy_40 fX11_36 sh87 rfl ?_
  refine G.aload_n (o := 87) dX11_isSeenBy_43 rfl ?_
  refine G.getR (o' := 103) dX11_isSeenBy_44 fX11_57 sh87 rfl ?_
  refine G.iload (z := i4) dX11_isSeenBy_47 rfl ?_
  refine G.iald dX11_isSeenBy_49 sh103 s.1 ?_
  refine G.iald dX11_isSeenBy_50 sh96 s.2 ?_
  exact G.callSI (as := [vi (σ 96 (σ 103 i4))]) (rest := []) dX11_isSeenBy_51 rfl vX11_168 (by decide) (Nat.le_of_ble_eq_true rfl) hM (fun z σ' hz q => G.pick [0, 4] (k z σ' hz q))
theorem bX11_isSeenBy_54 {X : CT} {σ : St} {i4 t0 : Int}  (s : (0 ≤ i4 ∧ i4 < 6) ∧ (-2147483648 ≤ t0 ∧ t0 < 2147483648) ∧ (-2147483648 ≤ σ 104 i4 ∧ σ 104 i4 < 2147483648))
    (kt : ¬ t0 = σ 104 i4 → G mdX11_isSeenBy X 68 [(0, vr 87), (4, vi i4)] [] σ)
    (kf : t0 = σ 104 i4 → G mdX11_isSeenBy X 64 [(0, vr 87), (4, vi i4)] [] σ) :
    G mdX11_isSeenBy X 54 [(0, vr 87), (4, vi i4)] [vi t0] σ := by
  refine G.aload_n (o := 87) dX11_isSeenBy_54 rfl ?_
  refine G.getR (o' := 104) dX11_isSeenBy_55 fX11_60 sh87 rfl ?_
  refine G.iload (z := i4) dX11_isSeenBy_58 rfl ?_
  refine G.iald dX11_isSeenBy_60 sh104 s.1 ?_
  exact G.icmp_ne (tgt := 68) dX11_isSeenBy_61 (by decide) s.2.1 s.2.2 (fun q => G.pick [0, 4] (kt q)) (fun q => G.pick [0, 4] (kf q))
theorem bX11_isSeenBy_64 {X : CT} {σ : St} {i4 : Int} 
    (k : G mdX11_isSeenBy X 69 [(0, vr 87), (4, vi i4)] [vi 1] σ) :
    G mdX11_isSeenBy X 64 [(0, vr 87), (4, vi i4)] [] σ := by
  refine G.iconst dX11_isSeenBy_64 ?_
  refine G.goto (tgt := 69) dX11_isSeenBy_65 (by decide) ?_
  exact G.pick [0, 4] k
theorem bX11_isSeenBy_68 {X : CT} {σ : St} {i4 : Int} 
    (k : G mdX11_isSeenBy X 69 [(0, vr 87), (4, vi i4)] [vi 0] σ) :
    G mdX11_isSeenBy X 68 [(0, vr 87), (4, vi i4)] [] σ := by
  refine G.iconst dX11_isSeenBy_68 ?_
  exact G.pick [0, 4] k
theorem bX11_isSeenBy_69 {X : CT} {σ : St} {i4 t0 : Int} 
    (k : G mdX11_isSeenBy X 26 [(0, vr 87), (3, vi t0), (4, vi (i4 + 1))] [] σ) :
    G mdX11_isSeenBy X 69 [(0, vr 87), (4, vi i4)] [vi t0] σ := by
  refine G.istore_n dX11_isSeenBy_69 (by decide) rfl ?_
  refine G.iinc (z := i4) dX11_isSeenBy_70 rfl (by decide) rfl ?_
  refine G.goto (tgt := 26) dX11_isSeenBy_73 (by decide) ?_
  exact G.pick [0, 3, 4] k
theorem bX11_isSeenBy_76 {X : CT} {σ : St} {i3 : Int}  {P : Int → St → Prop} (hX : RI X P) (s : (i3 = 0 ∨ i3 = 1))
    (k : P i3 σ) :
    G mdX11_isSeenBy X 76 [(3, vi i3)] [] σ := by
  refine G.iload_n (z := i3) dX11_isSeenBy_76 rfl ?_
  exact G.zret hX dX11_isSeenBy_77 rfl s k
theorem bX11_fits_0 {X : CT} {σ : St} {i1 : Int}  {P : Int → St → Prop} (hM : CI mdX11_in [vi i1, vi 0, vi 1] σ P)
    (k : ∀ z σ', inI z → P z σ' → G mdX11_fits X 6 [(0, vr 87), (1, vi i1)] [vi z] (σ')) :
    G mdX11_fits X 0 [(0, vr 87), (1, vi i1)] [] σ := by
  refine G.iload_n (z := i1) dX11_fits_0 rfl ?_
  refine G.iconst dX11_fits_1 ?_
  refine G.iconst dX11_fits_2 ?_
  exact G.callSI (as := [vi i1, vi 0, vi 1]) (rest := []) dX11_fits_3 rfl vX11_82 (by decide) (Nat.le_of_ble_eq_true rfl) hM (fun z σ' hz q => G.pick [0, 1] (k z σ' hz q))
theorem bX11_fits_6 {X : CT} {σ : St} {i1 t0 : Int}  (s : (-2147483648 ≤ t0 ∧ t0 < 2147483648))
    (kt : ¬ t0 = 0 → G mdX11_fits X 11 [(0, vr 87), (1, vi i1)] [] σ)
    (kf : t0 = 0 → G mdX11_fits X 9 [] [] σ) :
    G mdX11_fits X 6 [(0, vr 87), (1, vi i1)] [vi t0] σ := by
  exact G.if_ne (tgt := 11) dX11_fits_6 (by decide) s (fun q => G.pick [0, 1] (kt q)) (fun q => G.pick [] (kf q))
theorem bX11_fits_9 {X : CT} {σ : St}  {P : Int → St → Prop} (hX : RI X P)
    (k : P (-1) σ) :
    G mdX11_fits X 9 [] [] σ := by
  refine G.iconst dX11_fits_9 ?_
  exact G.iret hX dX11_fits_10 rfl ⟨by decide, by decide⟩ k
theorem bX11_fits_11 {X : CT} {σ : St} {i1 : Int} 
    (k : G mdX11_fits X 19 [(0, vr 87), (1, vi i1), (2, vi 0), (3, vi (-9)), (4, vi 0)] [] σ) :
    G mdX11_fits X 11 [(0, vr 87), (1, vi i1)] [] σ := by
  refine G.iconst dX11_fits_11 ?_
  refine G.istore_n dX11_fits_12 (by decide) rfl ?_
  refine G.bipush dX11_fits_13 (by decide) ?_
  refine G.istore_n dX11_fits_15 (by decide) rfl ?_
  refine G.iconst dX11_fits_16 ?_
  refine G.istore dX11_fits_17 (by decide) rfl ?_
  exact G.pick [0, 1, 2, 3, 4] k
theorem bX11_fits_19 {X : CT} {σ : St} {i1 i2 i3 i4 : Int}  (s : (-2147483648 ≤ i4 ∧ i4 < 2147483648))
    (kt : 16 ≤ i4 → G mdX11_fits X 77 [(1, vi i1), (2, vi i2), (3, vi i3)] [] σ)
    (kf : i4 < 16 → G mdX11_fits X 26 [(0, vr 87), (1, vi i1), (2, vi i2), (3, vi i3), (4, vi i4)] [] σ) :
    G mdX11_fits X 19 [(0, vr 87), (1, vi i1), (2, vi i2), (3, vi i3), (4, vi i4)] [] σ := by
  refine G.iload (z := i4) dX11_fits_19 rfl ?_
  refine G.bipush dX11_fits_21 (by decide) ?_
  exact G.icmp_ge (tgt := 77) dX11_fits_23 (by decide) s ⟨by decide, by decide⟩ (fun q => G.pick [1, 2, 3] (kt q)) (fun q => G.pick [0, 1, 2, 3, 4] (kf q))
theorem bX11_fits_26 {X : CT} {σ : St} {i1 i2 i3 i4 : Int} 
    (k : G mdX11_fits X 29 [(0, vr 87), (1, vi i1), (2, vi i2), (3, vi i3), (4, vi i4), (5, vi 1)] [] σ) :
    G mdX11_fits X 26 [(0, vr 87), (1, vi i1), (2, vi i2), (3, vi i3), (4, vi i4)] [] σ := by
  refine G.iconst dX11_fits_26 ?_
  refine G.istore dX11_fits_27 (by decide) rfl ?_
  exact G.pick [0, 1, 2, 3, 4, 5] k
theorem bX11_fits_29 {X : CT} {σ : St} {i1 i2 i3 i4 i5 : Int}  (s : (-2147483648 ≤ i5 ∧ i5 < 2147483648))
    (kt : 4 ≤ i5 → G mdX11_fits X 71 [(0, vr 87), (1, vi i1), (2, vi i2), (3, vi i3), (4, vi i4)] [] σ)
    (kf : i5 < 4 → G mdX11_fits X 35 [(0, vr 87), (1, vi i1), (2, vi i2), (3, vi i3), (4, vi i4), (5, vi i5)] [] σ) :
    G mdX11_fits X 29 [(0, vr 87), (1, vi i1), (2, vi i2), (3, vi i3), (4, vi i4), (5, vi i5)] [] σ := by
  refine G.iload (z := i5) dX11_fits_29 rfl ?_
  refine G.iconst dX11_fits_31 ?_
  exact G.icmp_ge (tgt := 71) dX11_fits_32 (by decide) s ⟨by decide, by decide⟩ (fun q => G.pick [0, 1, 2, 3, 4] (kt q)) (fun q => G.pick [0, 1, 2, 3, 4, 5] (kf q))
theorem bX11_fits_35 {X : CT} {σ : St} {i1 i2 i3 i4 i5 : Int}  {P : Int → St → Prop} (hM : CI mdX11_isSeenBy [vr 87, vi i4, vi i5] σ P)
    (k : ∀ z σ', inI z → P z σ' → G mdX11_fits X 43 [(0, vr 87), (1, vi i1), (2, vi i2), (3, vi i3), (4, vi i4), (5, vi i5)] [vi z] (σ')) :
    G mdX11_fits X 35 [(0, vr 87), (1, vi i1), (2, vi i2), (3, vi i3), (4, vi i4), (5, vi i5)] [] σ := by
  refine G.aload_n (o := 87) dX11_fits_35 rfl ?_
  refine G.iload (z := i4) dX11_fits_36 rfl ?_
  refine G.iload (z := i5) dX11_fits_38 rfl ?_
  exact G.callVI (as := [vi i4, vi i5]) (rest := []) dX11_fits_40 rfl vX11_259 (by decide) sh87 rfl (by decide) (Nat.le_of_ble_eq_true rfl) hM (fun z σ' hz q => G.pick [0, 1, 2, 3, 4, 5] (k z σ' hz q))
theorem bX11_fits_43 {X : CT} {σ : St} {i1 i2 i3 i4 i5 t0 : Int}  (s : (-2147483648 ≤ t0 ∧ t0 < 2147483648))
    (kt : t0 = 0 → G mdX11_fits X 65 [(0, vr 87), (1, vi i1), (2, vi i2), (3, vi i3), (4, vi i4), (5, vi i5)] [] σ)
    (kf : ¬ t0 = 0 → G mdX11_fits X 46 [(0, vr 87), (1, vi i1), (2, vi i2), (3, vi i3), (4, vi i4), (5, vi i5)] [] σ) :
    G mdX11_fits X 43 [(0, vr 87), (1, vi i1), (2, vi i2), (3, vi i3), (4, vi i4), (5, vi i5)] [vi t0] σ := by
  exact G.if_eq (tgt := 65) dX11_fits_43 (by decide) s (fun q => G.pick [0, 1, 2, 3, 4, 5] (kt q)) (fun q => G.pick [0, 1, 2, 3, 4, 5] (kf q))
theorem bX11_fits_46 {X : CT} {σ : St} {i1 i2 i3 i4 i5 : Int}  (s : (-2147483648 ≤ i2 ∧ i2 < 2147483648))
    (kt : ¬ i2 = 0 → G mdX11_fits X 60 [(0, vr 87), (1, vi i1), (2, vi i2), (3, vi i3), (4, vi i4), (5, vi i5)] [] σ)
    (kf : i2 = 0 → G mdX11_fits X 50 [(0, vr 87), (1, vi i1), (2, vi i2), (4, vi i4), (5, vi i5)] [] σ) :
    G mdX11_fits X 46 [(0, vr 87), (1, vi i1), (2, vi i2), (3, vi i3), (4, vi i4), (5, vi i5)] [] σ := by
  refine G.iload_n (z := i2) dX11_fits_46 rfl ?_
  exact G.if_ne (tgt := 60) dX11_fits_47 (by decide) s (fun q => G.pick [0, 1, 2, 3, 4, 5] (kt q)) (fun q => G.pick [0, 1, 2, 4, 5] (kf q))
theorem bX11_fits_50 {X : CT} {σ : St} {i1 i2 i4 i5 : Int} 
    (k : G mdX11_fits X 61 [(0, vr 87), (1, vi i1), (2, vi i2), (4, vi i4), (5, vi i5)] [vi ((4 * i4) + i5)] σ) :
    G mdX11_fits X 50 [(0, vr 87), (1, vi i1), (2, vi i2), (4, vi i4), (5, vi i5)] [] σ := by
  refine G.iconst dX11_fits_50 ?_
  refine G.iload (z := i4) dX11_fits_51 rfl ?_
  refine G.imul dX11_fits_53 ?_
  refine G.iload (z := i5) dX11_fits_54 rfl ?_
  refine G.iadd dX11_fits_56 ?_
  refine G.goto (tgt := 61) dX11_fits_57 (by decide) ?_
  exact G.pick [0, 1, 2, 4, 5] k
theorem bX11_fits_60 {X : CT} {σ : St} {i1 i2 i3 i4 i5 : Int} 
    (k : G mdX11_fits X 61 [(0, vr 87), (1, vi i1), (2, vi i2), (4, vi i4), (5, vi i5)] [vi i3] σ) :
    G mdX11_fits X 60 [(0, vr 87), (1, vi i1), (2, vi i2), (3, vi i3), (4, vi i4), (5, vi i5)] [] σ := by
  refine G.iload_n (z := i3) dX11_fits_60 rfl ?_
  exact G.pick [0, 1, 2, 4, 5] k
theorem bX11_fits_61 {X : CT} {σ : St} {i1 i2 i4 i5 t0 : Int} 
    (k : G mdX11_fits X 65 [(0, vr 87), (1, vi i1), (2, vi (i2 + 1)), (3, vi t0), (4, vi i4), (5, vi i5)] [] σ) :
    G mdX11_fits X 61 [(0, vr 87), (1, vi i1), (2, vi i2), (4, vi i4), (5, vi i5)] [vi t0] σ := by
  refine G.istore_n dX11_fits_61 (by decide) rfl ?_
  refine G.iinc (z := i2) dX11_fits_62 rfl (by decide) rfl ?_
  exact G.pick [0, 1, 2, 3, 4, 5] k
theorem bX11_fits_65 {X : CT} {σ : St} {i1 i2 i3 i4 i5 : Int} 
    (k : G mdX11_fits X 29 [(0, vr 87), (1, vi i1), (2, vi i2), (3, vi i3), (4, vi i4), (5, vi (i5 + 1))] [] σ) :
    G mdX11_fits X 65 [(0, vr 87), (1, vi i1), (2, vi i2), (3, vi i3), (4, vi i4), (5, vi i5)] [] σ := by
  refine G.iinc (z := i5) dX11_fits_65 rfl (by decide) rfl ?_
  refine G.goto (tgt := 29) dX11_fits_68 (by decide) ?_
  exact G.pick [0, 1, 2, 3, 4, 5] k
theorem bX11_fits_71 {X : CT} {σ : St} {i1 i2 i3 i4 : Int} 
    (k : G mdX11_fits X 19 [(0, vr 87), (1, vi i1), (2, vi i2), (3, vi i3), (4, vi (i4 + 1))] [] σ) :
    G mdX11_fits X 71 [(0, vr 87), (1, vi i1), (2, vi i2), (3, vi i3), (4, vi i4)] [] σ := by
  refine G.iinc (z := i4) dX11_fits_71 rfl (by decide) rfl ?_
  refine G.goto (tgt := 19) dX11_fits_74 (by decide) ?_
  exact G.pick [0, 1, 2, 3, 4] k
theorem bX11_fits_77 {X : CT} {σ : St} {i1 i2 i3 : Int}  (s : (-2147483648 ≤ i1 ∧ i1 < 2147483648))
    (kt : ¬ i1 = 0 → G mdX11_fits X 85 [(3, vi i3)] [] σ)
    (kf : i1 = 0 → G mdX11_fits X 81 [(2, vi i2)] [] σ) :
    G mdX11_fits X 77 [(1, vi i1), (2, vi i2), (3, vi i3)] [] σ := by
  refine G.iload_n (z := i1) dX11_fits_77 rfl ?_
  exact G.if_ne (tgt := 85) dX11_fits_78 (by decide) s (fun q => G.pick [3] (kt q)) (fun q => G.pick [2] (kf q))
theorem bX11_fits_81 {X : CT} {σ : St} {i2 : Int} 
    (k : G mdX11_fits X 86 [] [vi i2] σ) :
    G mdX11_fits X 81 [(2, vi i2)] [] σ := by
  refine G.iload_n (z := i2) dX11_fits_81 rfl ?_
  refine G.goto (tgt := 86) dX11_fits_82 (by decide) ?_
  exact G.pick [] k
theorem bX11_fits_85 {X : CT} {σ : St} {i3 : Int} 
    (k : G mdX11_fits X 86 [] [vi i3] σ) :
    G mdX11_fits X 85 [(3, vi i3)] [] σ := by
  refine G.iload_n (z := i3) dX11_fits_85 rfl ?_
  exact G.pick [] k
theorem bX11_fits_86 {X : CT} {σ : St} {t0 : Int}  {P : Int → St → Prop} (hX : RI X P) (s : (-2147483648 ≤ t0 ∧ t0 < 2147483648))
    (k : P t0 σ) :
    G mdX11_fits X 86 [] [vi t0] σ := by
  exact G.iret hX dX11_fits_86 rfl s k
theorem bX11_odds_0 {X : CT} {σ : St} {i1 i2 i3 i4 : Int}  {P : Int → St → Prop} (hM : CI mdX11_in [vi i1, vi 0, vi 10] σ P)
    (k : ∀ z σ', inI z → P z σ' → G mdX11_odds X 7 [(1, vi i1), (2, vi i2), (3, vi i3), (4, vi i4)] [vi z] (σ')) :
    G mdX11_odds X 0 [(0, vr 87), (1, vi i1), (2, vi i2), (3, vi i3), (4, vi i4)] [] σ := by
  refine G.iload_n (z := i1) dX11_odds_0 rfl ?_
  refine G.iconst dX11_odds_1 ?_
  refine G.bipush dX11_odds_2 (by decide) ?_
  exact G.callSI (as := [vi i1, vi 0, vi 10]) (rest := []) dX11_odds_4 rfl vX11_82 (by decide) (Nat.le_of_ble_eq_true rfl) hM (fun z σ' hz q => G.pick [1, 2, 3, 4] (k z σ' hz q))
theorem bX11_odds_7 {X : CT} {σ : St} {i1 i2 i3 i4 t0 : Int}  (s : (-2147483648 ≤ t0 ∧ t0 < 2147483648))
    (kt : t0 = 0 → G mdX11_odds X 40 [] [] σ)
    (kf : ¬ t0 = 0 → G mdX11_odds X 10 [(1, vi i1), (2, vi i2), (3, vi i3), (4, vi i4)] [] σ) :
    G mdX11_odds X 7 [(1, vi i1), (2, vi i2), (3, vi i3), (4, vi i4)] [vi t0] σ := by
  exact G.if_eq (tgt := 40) dX11_odds_7 (by decide) s (fun q => G.pick [] (kt q)) (fun q => G.pick [1, 2, 3, 4] (kf q))
theorem bX11_odds_10 {X : CT} {σ : St} {i1 i2 i3 i4 : Int}  {P : Int → St → Prop} (hM : CI mdX11_in [vi i2, vi 0, vi 8] σ P)
    (k : ∀ z σ', inI z → P z σ' → G mdX11_odds X 17 [(1, vi i1), (2, vi i2), (3, vi i3), (4, vi i4)] [vi z] (σ')) :
    G mdX11_odds X 10 [(1, vi i1), (2, vi i2), (3, vi i3), (4, vi i4)] [] σ := by
  refine G.iload_n (z := i2) dX11_odds_10 rfl ?_
  refine G.iconst dX11_odds_11 ?_
  refine G.bipush dX11_odds_12 (by decide) ?_
  exact G.callSI (as := [vi i2, vi 0, vi 8]) (rest := []) dX11_odds_14 rfl vX11_82 (by decide) (Nat.le_of_ble_eq_true rfl) hM (fun z σ' hz q => G.pick [1, 2, 3, 4] (k z σ' hz q))
theorem bX11_odds_17 {X : CT} {σ : St} {i1 i2 i3 i4 t0 : Int}  (s : (-2147483648 ≤ t0 ∧ t0 < 2147483648))
    (kt : t0 = 0 → G mdX11_odds X 40 [] [] σ)
    (kf : ¬ t0 = 0 → G mdX11_odds X 20 [(1, vi i1), (2, vi i2), (3, vi i3), (4, vi i4)] [] σ) :
    G mdX11_odds X 17 [(1, vi i1), (2, vi i2), (3, vi i3), (4, vi i4)] [vi t0] σ := by
  exact G.if_eq (tgt := 40) dX11_odds_17 (by decide) s (fun q => G.pick [] (kt q)) (fun q => G.pick [1, 2, 3, 4] (kf q))
theorem bX11_odds_20 {X : CT} {σ : St} {i1 i2 i3 i4 : Int}  {P : Int → St → Prop} (hM : CI mdX11_in [vi i3, vi 0, vi 8] σ P)
    (k : ∀ z σ', inI z → P z σ' → G mdX11_odds X 27 [(1, vi i1), (2, vi i2), (3, vi i3), (4, vi i4)] [vi z] (σ')) :
    G mdX11_odds X 20 [(1, vi i1), (2, vi i2), (3, vi i3), (4, vi i4)] [] σ := by
  refine G.iload_n (z := i3) dX11_odds_20 rfl ?_
  refine G.iconst dX11_odds_21 ?_
  refine G.bipush dX11_odds_22 (by decide) ?_
  exact G.callSI (as := [vi i3, vi 0, vi 8]) (rest := []) dX11_odds_24 rfl vX11_82 (by decide) (Nat.le_of_ble_eq_true rfl) hM (fun z σ' hz q => G.pick [1, 2, 3, 4] (k z σ' hz q))
theorem bX11_odds_27 {X : CT} {σ : St} {i1 i2 i3 i4 t0 : Int}  (s : (-2147483648 ≤ t0 ∧ t0 < 2147483648))
    (kt : t0 = 0 → G mdX11_odds X 40 [] [] σ)
    (kf : ¬ t0 = 0 → G mdX11_odds X 30 [(1, vi i1), (2, vi i2), (3, vi i3), (4, vi i4)] [] σ) :
    G mdX11_odds X 27 [(1, vi i1), (2, vi i2), (3, vi i3), (4, vi i4)] [vi t0] σ := by
  exact G.if_eq (tgt := 40) dX11_odds_27 (by decide) s (fun q => G.pick [] (kt q)) (fun q => G.pick [1, 2, 3, 4] (kf q))
theorem bX11_odds_30 {X : CT} {σ : St} {i1 i2 i3 i4 : Int}  {P : Int → St → Prop} (hM : CI mdX11_in [vi i4, vi 0, vi 1] σ P)
    (k : ∀ z σ', inI z → P z σ' → G mdX11_odds X 37 [(1, vi i1), (2, vi i2), (3, vi i3), (4, vi i4)] [vi z] (σ')) :
    G mdX11_odds X 30 [(1, vi i1), (2, vi i2), (3, vi i3), (4, vi i4)] [] σ := by
  refine G.iload (z := i4) dX11_odds_30 rfl ?_
  refine G.iconst dX11_odds_32 ?_
  refine G.iconst dX11_odds_33 ?_
  exact G.callSI (as := [vi i4, vi 0, vi 1]) (rest := []) dX11_odds_34 rfl vX11_82 (by decide) (Nat.le_of_ble_eq_true rfl) hM (fun z σ' hz q => G.pick [1, 2, 3, 4] (k z σ' hz q))
theorem bX11_odds_37 {X : CT} {σ : St} {i1 i2 i3 i4 t0 : Int}  (s : (-2147483648 ≤ t0 ∧ t0 < 2147483648))
    (kt : ¬ t0 = 0 → G mdX11_odds X 42 [(1, vi i1), (2, vi i2), (3, vi i3), (4, vi i4)] [] σ)
    (kf : t0 = 0 → G mdX11_odds X 40 [] [] σ) :
    G mdX11_odds X 37 [(1, vi i1), (2, vi i2), (3, vi i3), (4, vi i4)] [vi t0] σ := by
  exact G.if_ne (tgt := 42) dX11_odds_37 (by decide) s (fun q => G.pick [1, 2, 3, 4] (kt q)) (fun q => G.pick [] (kf q))
theorem bX11_odds_40 {X : CT} {σ : St}  {P : Int → St → Prop} (hX : RI X P)
    (k : P (-1) σ) :
    G mdX11_odds X 40 [] [] σ := by
  refine G.iconst dX11_odds_40 ?_
  exact G.iret hX dX11_odds_41 rfl ⟨by decide, by decide⟩ k
theorem bX11_odds_42 {X : CT} {σ : St} {i1 i2 i3 i4 : Int} 
    (k : G mdX11_odds X 54 [(1, vi i1), (2, vi i2), (3, vi i3), (4, vi i4), (5, vi 0), (6, vi 1), (7, vi 1), (8, vi 0)] [] σ) :
    G mdX11_odds X 42 [(1, vi i1), (2, vi i2), (3, vi i3), (4, vi i4)] [] σ := by
  refine G.iconst dX11_odds_42 ?_
  refine G.istore dX11_odds_43 (by decide) rfl ?_
  refine G.iconst dX11_odds_45 ?_
  refine G.istore dX11_odds_46 (by decide) rfl ?_
  refine G.iconst dX11_odds_48 ?_
  refine G.istore dX11_odds_49 (by decide) rfl ?_
  refine G.iconst dX11_odds_51 ?_
  refine G.istore dX11_odds_52 (by decide) rfl ?_
  exact G.pick [1, 2, 3, 4, 5, 6, 7, 8] k
theorem bX11_odds_54 {X : CT} {σ : St} {i1 i2 i3 i4 i5 i6 i7 i8 : Int}  (s : (-2147483648 ≤ i8 ∧ i8 < 2147483648) ∧ (-2147483648 ≤ i2 ∧ i2 < 2147483648))
    (kt : i2 < i8 → G mdX11_odds X 132 [(2, vi i2), (4, vi i4), (5, vi i5), (6, vi i6)] [] σ)
    (kf : i8 ≤ i2 → G mdX11_odds X 60 [(1, vi i1), (2, vi i2), (3, vi i3), (4, vi i4), (5, vi i5), (6, vi i6), (7, vi i7), (8, vi i8)] [] σ) :
    G mdX11_odds X 54 [(1, vi i1), (2, vi i2), (3, vi i3), (4, vi i4), (5, vi i5), (6, vi i6), (7, vi i7), (8, vi i8)] [] σ := by
  refine G.iload (z := i8) dX11_odds_54 rfl ?_
  refine G.iload_n (z := i2) dX11_odds_56 rfl ?_
  exact G.icmp_gt (tgt := 132) dX11_odds_57 (by decide) s.1 s.2 (fun q => G.pick [2, 4, 5, 6] (kt q)) (fun q => G.pick [1, 2, 3, 4, 5, 6, 7, 8] (kf q))
theorem bX11_odds_60 {X : CT} {σ : St} {i1 i2 i3 i4 i5 i6 i7 i8 : Int}  (s : (-2147483648 ≤ i8 ∧ i8 < 2147483648) ∧ (-2147483648 ≤ i3 ∧ i3 < 2147483648))
    (kt : i3 < i8 → G mdX11_odds X 132 [(2, vi i2), (4, vi i4), (5, vi i5), (6, vi i6)] [] σ)
    (kf : i8 ≤ i3 → G mdX11_odds X 66 [(1, vi i1), (2, vi i2), (3, vi i3), (4, vi i4), (5, vi i5), (6, vi i6), (7, vi i7), (8, vi i8)] [] σ) :
    G mdX11_odds X 60 [(1, vi i1), (2, vi i2), (3, vi i3), (4, vi i4), (5, vi i5), (6, vi i6), (7, vi i7), (8, vi i8)] [] σ := by
  refine G.iload (z := i8) dX11_odds_60 rfl ?_
  refine G.iload_n (z := i3) dX11_odds_62 rfl ?_
  exact G.icmp_gt (tgt := 132) dX11_odds_63 (by decide) s.1 s.2 (fun q => G.pick [2, 4, 5, 6] (kt q)) (fun q => G.pick [1, 2, 3, 4, 5, 6, 7, 8] (kf q))
theorem bX11_odds_66 {X : CT} {σ : St} {i1 i2 i3 i4 i5 i6 i7 i8 : Int} 
    (k : G mdX11_odds X 73 [(1, vi i1), (2, vi i2), (3, vi i3), (4, vi i4), (5, vi i5), (6, vi i6), (7, vi i7), (8, vi i8), (9, vi i7), (10, vi 0)] [] σ) :
    G mdX11_odds X 66 [(1, vi i1), (2, vi i2), (3, vi i3), (4, vi i4), (5, vi i5), (6, vi i6), (7, vi i7), (8, vi i8)] [] σ := by
  refine G.iload (z := i7) dX11_odds_66 rfl ?_
  refine G.istore dX11_odds_68 (by decide) rfl ?_
  refine G.iconst dX11_odds_70 ?_
  refine G.istore dX11_odds_71 (by decide) rfl ?_
  exact G.pick [1, 2, 3, 4, 5, 6, 7, 8, 9, 10] k
theorem bX11_odds_73 {X : CT} {σ : St} {i1 i10 i2 i3 i4 i5 i6 i7 i8 i9 : Int}  (s : (-2147483648 ≤ i10 ∧ i10 < 2147483648) ∧ (-2147483648 ≤ i2 ∧ i2 < 2147483648))
    (kt : i2 ≤ i10 → G mdX11_odds X 105 [(1, vi i1), (2, vi i2), (3, vi i3), (4, vi i4), (5, vi i5), (6, vi i6), (7, vi i7), (8, vi i8), (9, vi i9)] [] σ)
    (kf : i10 < i2 → G mdX11_odds X 79 [(1, vi i1), (2, vi i2), (3, vi i3), (4, vi i4), (5, vi i5), (6, vi i6), (7, vi i7), (8, vi i8), (9, vi i9), (10, vi i10)] [] σ) :
    G mdX11_odds X 73 [(1, vi i1), (2, vi i2), (3, vi i3), (4, vi i4), (5, vi i5), (6, vi i6), (7, vi i7), (8, vi i8), (9, vi i9), (10, vi i10)] [] σ := by
  refine G.iload (z := i10) dX11_odds_73 rfl ?_
  refine G.iload_n (z := i2) dX11_odds_75 rfl ?_
  exact G.icmp_ge (tgt := 105) dX11_odds_76 (by decide) s.1 s.2 (fun q => G.pick [1, 2, 3, 4, 5, 6, 7, 8, 9] (kt q)) (fun q => G.pick [1, 2, 3, 4, 5, 6, 7, 8, 9, 10] (kf q))
theorem bX11_odds_79 {X : CT} {σ : St} {i1 i10 i2 i3 i4 i5 i6 i7 i8 i9 : Int}  (s : (-2147483648 ≤ i10 ∧ i10 < 2147483648) ∧ (-2147483648 ≤ i8 ∧ i8 < 2147483648))
    (kt : i8 ≤ i10 → G mdX11_odds X 92 [(1, vi i1), (2, vi i2), (3, vi i3), (4, vi i4), (5, vi i5), (6, vi i6), (7, vi i7), (8, vi i8), (10, vi i10)] [vi i9] σ)
    (kf : i10 < i8 → G mdX11_odds X 88 [(1, vi i1), (2, vi i2), (3, vi i3), (4, vi i4), (5, vi i5), (6, vi i6), (7, vi i7), (8, vi i8), (10, vi i10)] [vi i9] σ) :
    G mdX11_odds X 79 [(1, vi i1), (2, vi i2), (3, vi i3), (4, vi i4), (5, vi i5), (6, vi i6), (7, vi i7), (8, vi i8), (9, vi i9), (10, vi i10)] [] σ := by
  refine G.iload (z := i9) dX11_odds_79 rfl ?_
  refine G.iload (z := i10) dX11_odds_81 rfl ?_
  refine G.iload (z := i8) dX11_odds_83 rfl ?_
  exact G.icmp_ge (tgt := 92) dX11_odds_85 (by decide) s.1 s.2 (fun q => G.pick [1, 2, 3, 4, 5, 6, 7, 8, 10] (kt q)) (fun q => G.pick [1, 2, 3, 4, 5, 6, 7, 8, 10] (kf q))
theorem bX11_odds_88 {X : CT} {σ : St} {i1 i10 i2 i3 i4 i5 i6 i7 i8 t0 : Int} 
    (k : G mdX11_odds X 96 [(1, vi i1), (2, vi i2), (3, vi i3), (4, vi i4), (5, vi i5), (6, vi i6), (7, vi i7), (8, vi i8), (10, vi i10)] [vi i1, vi t0] σ) :
    G mdX11_odds X 88 [(1, vi i1), (2, vi i2), (3, vi i3), (4, vi i4), (5, vi i5), (6, vi i6), (7, vi i7), (8, vi i8), (10, vi i10)] [vi t0] σ := by
  refine G.iload_n (z := i1) dX11_odds_88 rfl ?_
  refine G.goto (tgt := 96) dX11_odds_89 (by decide) ?_
  exact G.pick [1, 2, 3, 4, 5, 6, 7, 8, 10] k
theorem bX11_odds_92 {X : CT} {σ : St} {i1 i10 i2 i3 i4 i5 i6 i7 i8 t0 : Int} 
    (k : G mdX11_odds X 96 [(1, vi i1), (2, vi i2), (3, vi i3), (4, vi i4), (5, vi i5), (6, vi i6), (7, vi i7), (8, vi i8), (10, vi i10)] [vi (10 - i1), vi t0] σ) :
    G mdX11_odds X 92 [(1, vi i1), (2, vi i2), (3, vi i3), (4, vi i4), (5, vi i5), (6, vi i6), (7, vi i7), (8, vi i8), (10, vi i10)] [vi t0] σ := by
  refine G.bipush dX11_odds_92 (by decide) ?_
  refine G.iload_n (z := i1) dX11_odds_94 rfl ?_
  refine G.isub dX11_odds_95 ?_
  exact G.pick [1, 2, 3, 4, 5, 6, 7, 8, 10] k
theorem bX11_odds_96 {X : CT} {σ : St} {i1 i10 i2 i3 i4 i5 i6 i7 i8 t0 t1 : Int} 
    (k : G mdX11_odds X 73 [(1, vi i1), (2, vi i2), (3, vi i3), (4, vi i4), (5, vi i5), (6, vi i6), (7, vi i7), (8, vi i8), (9, vi (t0 * t1)), (10, vi (i10 + 1))] [] σ) :
    G mdX11_odds X 96 [(1, vi i1), (2, vi i2), (3, vi i3), (4, vi i4), (5, vi i5), (6, vi i6), (7, vi i7), (8, vi i8), (10, vi i10)] [vi t1, vi t0] σ := by
  refine G.imul dX11_odds_96 ?_
  refine G.istore dX11_odds_97 (by decide) rfl ?_
  refine G.iinc (z := i10) dX11_odds_99 rfl (by decide) rfl ?_
  refine G.goto (tgt := 73) dX11_odds_102 (by decide) ?_
  exact G.pick [1, 2, 3, 4, 5, 6, 7, 8, 9, 10] k
theorem bX11_odds_105 {X : CT} {σ : St} {i1 i2 i3 i4 i5 i6 i7 i8 i9 : Int}  (s : (0 ≤ i7 * (i2 - i8) ∧ i7 * (i2 - i8) < 2147483648) ∧ (0 < i8 + 1 ∧ i8 + 1 < 2147483648))
    (k : G mdX11_odds X 54 [(1, vi i1), (2, vi i2), (3, vi i3), (4, vi i4), (5, vi (i5 + i9)), (6, vi i6), (7, vi ((i7 * (i2 - i8)) / (i8 + 1))), (8, vi (i8 + 1))] [] σ) :
    G mdX11_odds X 105 [(1, vi i1), (2, vi i2), (3, vi i3), (4, vi i4), (5, vi i5), (6, vi i6), (7, vi i7), (8, vi i8), (9, vi i9)] [] σ := by
  refine G.iload (z := i5) dX11_odds_105 rfl ?_
  refine G.iload (z := i9) dX11_odds_107 rfl ?_
  refine G.iadd dX11_odds_109 ?_
  refine G.istore dX11_odds_110 (by decide) rfl ?_
  refine G.iload (z := i7) dX11_odds_112 rfl ?_
  refine G.iload_n (z := i2) dX11_odds_114 rfl ?_
  refine G.iload (z := i8) dX11_odds_115 rfl ?_
  refine G.isub dX11_odds_117 ?_
  refine G.imul dX11_odds_118 ?_
  refine G.iload (z := i8) dX11_odds_119 rfl ?_
  refine G.iconst dX11_odds_121 ?_
  refine G.iadd dX11_odds_122 ?_
  refine G.idiv dX11_odds_123 s.1 s.2 ?_
  refine G.istore dX11_odds_124 (by decide) rfl ?_
  refine G.iinc (z := i8) dX11_odds_126 rfl (by decide) rfl ?_
  refine G.goto (tgt := 54) dX11_odds_129 (by decide) ?_
  exact G.pick [1, 2, 3, 4, 5, 6, 7, 8] k
theorem bX11_odds_132 {X : CT} {σ : St} {i2 i4 i5 i6 : Int} 
    (k : G mdX11_odds X 135 [(2, vi i2), (4, vi i4), (5, vi i5), (6, vi i6), (8, vi 0)] [] σ) :
    G mdX11_odds X 132 [(2, vi i2), (4, vi i4), (5, vi i5), (6, vi i6)] [] σ := by
  refine G.iconst dX11_odds_132 ?_
  refine G.istore dX11_odds_133 (by decide) rfl ?_
  exact G.pick [2, 4, 5, 6, 8] k
theorem bX11_odds_135 {X : CT} {σ : St} {i2 i4 i5 i6 i8 : Int}  (s : (-2147483648 ≤ i8 ∧ i8 < 2147483648) ∧ (-2147483648 ≤ i2 ∧ i2 < 2147483648))
    (kt : i2 ≤ i8 → G mdX11_odds X 154 [(4, vi i4), (5, vi i5), (6, vi i6)] [] σ)
    (kf : i8 < i2 → G mdX11_odds X 141 [(2, vi i2), (4, vi i4), (5, vi i5), (6, vi i6), (8, vi i8)] [] σ) :
    G mdX11_odds X 135 [(2, vi i2), (4, vi i4), (5, vi i5), (6, vi i6), (8, vi i8)] [] σ := by
  refine G.iload (z := i8) dX11_odds_135 rfl ?_
  refine G.iload_n (z := i2) dX11_odds_137 rfl ?_
  exact G.icmp_ge (tgt := 154) dX11_odds_138 (by decide) s.1 s.2 (fun q => G.pick [4, 5, 6] (kt q)) (fun q => G.pick [2, 4, 5, 6, 8] (kf q))
theorem bX11_odds_141 {X : CT} {σ : St} {i2 i4 i5 i6 i8 : Int} 
    (k : G mdX11_odds X 135 [(2, vi i2), (4, vi i4), (5, vi i5), (6, vi (i6 * 10)), (8, vi (i8 + 1))] [] σ) :
    G mdX11_odds X 141 [(2, vi i2), (4, vi i4), (5, vi i5), (6, vi i6), (8, vi i8)] [] σ := by
  refine G.iload (z := i6) dX11_odds_141 rfl ?_
  refine G.bipush dX11_odds_143 (by decide) ?_
  refine G.imul dX11_odds_145 ?_
  refine G.istore dX11_odds_146 (by decide) rfl ?_
  refine G.iinc (z := i8) dX11_odds_148 rfl (by decide) rfl ?_
  refine G.goto (tgt := 135) dX11_odds_151 (by decide) ?_
  exact G.pick [2, 4, 5, 6, 8] k
theorem bX11_odds_154 {X : CT} {σ : St} {i4 i5 i6 : Int} 
    (k : G mdX11_odds X 162 [(4, vi i4), (5, vi i5), (6, vi i6), (8, vi i5), (9, vi i6)] [] σ) :
    G mdX11_odds X 154 [(4, vi i4), (5, vi i5), (6, vi i6)] [] σ := by
  refine G.iload (z := i5) dX11_odds_154 rfl ?_
  refine G.istore dX11_odds_156 (by decide) rfl ?_
  refine G.iload (z := i6) dX11_odds_158 rfl ?_
  refine G.istore dX11_odds_160 (by decide) rfl ?_
  exact G.pick [4, 5, 6, 8, 9] k
theorem bX11_odds_162 {X : CT} {σ : St} {i4 i5 i6 i8 i9 : Int}  (s : (-2147483648 ≤ i9 ∧ i9 < 2147483648))
    (kt : i9 = 0 → G mdX11_odds X 185 [(4, vi i4), (5, vi i5), (6, vi i6), (8, vi i8)] [] σ)
    (kf : ¬ i9 = 0 → G mdX11_odds X 167 [(4, vi i4), (5, vi i5), (6, vi i6), (8, vi i8), (9, vi i9)] [] σ) :
    G mdX11_odds X 162 [(4, vi i4), (5, vi i5), (6, vi i6), (8, vi i8), (9, vi i9)] [] σ := by
  refine G.iload (z := i9) dX11_odds_162 rfl ?_
  exact G.if_eq (tgt := 185) dX11_odds_164 (by decide) s (fun q => G.pick [4, 5, 6, 8] (kt q)) (fun q => G.pick [4, 5, 6, 8, 9] (kf q))
theorem bX11_odds_167 {X : CT} {σ : St} {i4 i5 i6 i8 i9 : Int}  (s : (0 ≤ i8 ∧ i8 < 2147483648) ∧ (0 < i9 ∧ i9 < 2147483648))
    (k : G mdX11_odds X 162 [(4, vi i4), (5, vi i5), (6, vi i6), (8, vi i9), (9, vi (i8 % i9))] [] σ) :
    G mdX11_odds X 167 [(4, vi i4), (5, vi i5), (6, vi i6), (8, vi i8), (9, vi i9)] [] σ := by
  refine G.iload (z := i8) dX11_odds_167 rfl ?_
  refine G.iload (z := i9) dX11_odds_169 rfl ?_
  refine G.irem dX11_odds_171 s.1 s.2 ?_
  refine G.istore dX11_odds_172 (by decide) rfl ?_
  refine G.iload (z := i9) dX11_odds_174 rfl ?_
  refine G.istore dX11_odds_176 (by decide) rfl ?_
  refine G.iload (z := i8 % i9) dX11_odds_178 rfl ?_
  refine G.istore dX11_odds_180 (by decide) rfl ?_
  refine G.goto (tgt := 162) dX11_odds_182 (by decide) ?_
  exact G.pick [4, 5, 6, 8, 9] k
theorem bX11_odds_185 {X : CT} {σ : St} {i4 i5 i6 i8 : Int}  (s : (-2147483648 ≤ i4 ∧ i4 < 2147483648))
    (kt : ¬ i4 = 0 → G mdX11_odds X 198 [(6, vi i6), (8, vi i8)] [] σ)
    (kf : i4 = 0 → G mdX11_odds X 190 [(5, vi i5), (8, vi i8)] [] σ) :
    G mdX11_odds X 185 [(4, vi i4), (5, vi i5), (6, vi i6), (8, vi i8)] [] σ := by
  refine G.iload (z := i4) dX11_odds_185 rfl ?_
  exact G.if_ne (tgt := 198) dX11_odds_187 (by decide) s (fun q => G.pick [6, 8] (kt q)) (fun q => G.pick [5, 8] (kf q))
theorem bX11_odds_190 {X : CT} {σ : St} {i5 i8 : Int}  (s : (0 ≤ i5 ∧ i5 < 2147483648) ∧ (0 < i8 ∧ i8 < 2147483648))
    (k : G mdX11_odds X 203 [] [vi (i5 / i8)] σ) :
    G mdX11_odds X 190 [(5, vi i5), (8, vi i8)] [] σ := by
  refine G.iload (z := i5) dX11_odds_190 rfl ?_
  refine G.iload (z := i8) dX11_odds_192 rfl ?_
  refine G.idiv dX11_odds_194 s.1 s.2 ?_
  refine G.goto (tgt := 203) dX11_odds_195 (by decide) ?_
  exact G.pick [] k
theorem bX11_odds_198 {X : CT} {σ : St} {i6 i8 : Int}  (s : (0 ≤ i6 ∧ i6 < 2147483648) ∧ (0 < i8 ∧ i8 < 2147483648))
    (k : G mdX11_odds X 203 [] [vi (i6 / i8)] σ) :
    G mdX11_odds X 198 [(6, vi i6), (8, vi i8)] [] σ := by
  refine G.iload (z := i6) dX11_odds_198 rfl ?_
  refine G.iload (z := i8) dX11_odds_200 rfl ?_
  refine G.idiv dX11_odds_202 s.1 s.2 ?_
  exact G.pick [] k
theorem bX11_odds_203 {X : CT} {σ : St} {t0 : Int}  {P : Int → St → Prop} (hX : RI X P) (s : (-2147483648 ≤ t0 ∧ t0 < 2147483648))
    (k : P t0 σ) :
    G mdX11_odds X 203 [] [vi t0] σ := by
  exact G.iret hX dX11_odds_203 rfl s k
theorem bX11_keep_0 {X : CT} {σ : St} {i1 : Int}  {P : Int → St → Prop} (hM : CI mdX11_in [vi i1, vi 0, vi 1] σ P)
    (k : ∀ z σ', inI z → P z σ' → G mdX11_keep X 6 [(0, vr 87), (1, vi i1)] [vi z] (σ')) :
    G mdX11_keep X 0 [(0, vr 87), (1, vi i1)] [] σ := by
  refine G.iload_n (z := i1) dX11_keep_0 rfl ?_
  refine G.iconst dX11_keep_1 ?_
  refine G.iconst dX11_keep_2 ?_
  exact G.callSI (as := [vi i1, vi 0, vi 1]) (rest := []) dX11_keep_3 rfl vX11_82 (by decide) (Nat.le_of_ble_eq_true rfl) hM (fun z σ' hz q => G.pick [0, 1] (k z σ' hz q))
theorem bX11_keep_6 {X : CT} {σ : St} {i1 t0 : Int}  (s : (-2147483648 ≤ t0 ∧ t0 < 2147483648))
    (kt : ¬ t0 = 0 → G mdX11_keep X 11 [(0, vr 87), (1, vi i1)] [] σ)
    (kf : t0 = 0 → G mdX11_keep X 9 [] [] σ) :
    G mdX11_keep X 6 [(0, vr 87), (1, vi i1)] [vi t0] σ := by
  exact G.if_ne (tgt := 11) dX11_keep_6 (by decide) s (fun q => G.pick [0, 1] (kt q)) (fun q => G.pick [] (kf q))
theorem bX11_keep_9 {X : CT} {σ : St}  {P : Int → St → Prop} (hX : RI X P)
    (k : P (-1) σ) :
    G mdX11_keep X 9 [] [] σ := by
  refine G.iconst dX11_keep_9 ?_
  exact G.iret hX dX11_keep_10 rfl ⟨by decide, by decide⟩ k
theorem bX11_keep_11 {X : CT} {σ : St} {i1 : Int} 
    (k : G mdX11_keep X 13 [(0, vr 87), (1, vi i1), (2, vi 0)] [] σ) :
    G mdX11_keep X 11 [(0, vr 87), (1, vi i1)] [] σ := by
  refine G.iconst dX11_keep_11 ?_
  refine G.istore_n dX11_keep_12 (by decide) rfl ?_
  exact G.pick [0, 1, 2] k
theorem bX11_keep_13 {X : CT} {σ : St} {i1 i2 : Int}  (s : (-2147483648 ≤ i2 ∧ i2 < 2147483648))
    (kt : 86 ≤ i2 → G mdX11_keep X 42 [(0, vr 87), (1, vi i1)] [] σ)
    (kf : i2 < 86 → G mdX11_keep X 19 [(0, vr 87), (1, vi i1), (2, vi i2)] [] σ) :
    G mdX11_keep X 13 [(0, vr 87), (1, vi i1), (2, vi i2)] [] σ := by
  refine G.iload_n (z := i2) dX11_keep_13 rfl ?_
  refine G.bipush dX11_keep_14 (by decide) ?_
  exact G.icmp_ge (tgt := 42) dX11_keep_16 (by decide) s ⟨by decide, by decide⟩ (fun q => G.pick [0, 1] (kt q)) (fun q => G.pick [0, 1, 2] (kf q))
theorem bX11_keep_19 {X : CT} {σ : St} {i1 i2 : Int}  (s : (0 ≤ i2 ∧ i2 < 86) ∧ (0 ≤ (86 * i1) + i2 ∧ (86 * i1) + i2 < 172))
    (k : G mdX11_keep X 13 [(0, vr 87), (1, vi i1), (2, vi (i2 + 1))] [] (wr σ 91 ((86 * i1) + i2) (σ 88 i2))) :
    G mdX11_keep X 19 [(0, vr 87), (1, vi i1), (2, vi i2)] [] σ := by
  refine G.aload_n (o := 87) dX11_keep_19 rfl ?_
  refine G.getR (o' := 91) dX11_keep_20 fX11_20 sh87 rfl ?_
  refine G.bipush dX11_keep_23 (by decide) ?_
  refine G.iload_n (z := i1) dX11_keep_25 rfl ?_
  refine G.imul dX11_keep_26 ?_
  refine G.iload_n (z := i2) dX11_keep_27 rfl ?_
  refine G.iadd dX11_keep_28 ?_
  refine G.aload_n (o := 87) dX11_keep_29 rfl ?_
  refine G.getR (o' := 88) dX11_keep_30 fX11_7 sh87 rfl ?_
  refine G.iload_n (z := i2) dX11_keep_33 rfl ?_
  refine G.iald dX11_keep_34 sh88 s.1 ?_
  refine G.iast dX11_keep_35 sh91 s.2 ?_
  refine G.iinc (z := i2) dX11_keep_36 rfl (by decide) rfl ?_
  refine G.goto (tgt := 13) dX11_keep_39 (by decide) ?_
  exact G.pick [0, 1, 2] k
theorem bX11_keep_42 {X : CT} {σ : St} {i1 : Int}  {P : Int → St → Prop} (hX : RI X P) (s : (0 ≤ i1 ∧ i1 < 2) ∧ (-2147483648 ≤ (wr (wr σ 92 i1 (fl (σ 87 1)).toNat) 93 i1 1) 88 64 ∧ (wr (wr σ 92 i1 (fl (σ 87 1)).toNat) 93 i1 1) 88 64 < 2147483648))
    (k : P ((wr (wr σ 92 i1 (fl (σ 87 1)).toNat) 93 i1 1) 88 64) (wr (wr σ 92 i1 (fl (σ 87 1)).toNat) 93 i1 1)) :
    G mdX11_keep X 42 [(0, vr 87), (1, vi i1)] [] σ := by
  refine G.aload_n (o := 87) dX11_keep_42 rfl ?_
  refine G.getR (o' := 92) dX11_keep_43 fX11_23 sh87 rfl ?_
  refine G.iload_n (z := i1) dX11_keep_46 rfl ?_
  refine G.aload_n (o := 87) dX11_keep_47 rfl ?_
  refine G.getF (j := 1) dX11_keep_48 fX11_78 sh87 rfl rfl ?_
  refine G.fast dX11_keep_51 sh92 s.1 ?_
  refine G.aload_n (o := 87) dX11_keep_52 rfl ?_
  refine G.getR (o' := 93) dX11_keep_53 fX11_26 sh87 rfl ?_
  refine G.iload_n (z := i1) dX11_keep_56 rfl ?_
  refine G.iconst dX11_keep_57 ?_
  refine G.zast dX11_keep_58 sh93 s.1 (Or.inr rfl) ?_
  refine G.aload_n (o := 87) dX11_keep_59 rfl ?_
  refine G.getR (o' := 88) dX11_keep_60 fX11_7 sh87 rfl ?_
  refine G.bipush dX11_keep_63 (by decide) ?_
  refine G.iald dX11_keep_65 sh88 ⟨by decide, by decide⟩ ?_
  exact G.iret hX dX11_keep_66 rfl s.2 k
theorem bX11_back_0 {X : CT} {σ : St} {i1 : Int}  {P : Int → St → Prop} (hM : CI mdX11_in [vi i1, vi 0, vi 1] σ P)
    (k : ∀ z σ', inI z → P z σ' → G mdX11_back X 6 [(0, vr 87), (1, vi i1)] [vi z] (σ')) :
    G mdX11_back X 0 [(0, vr 87), (1, vi i1)] [] σ := by
  refine G.iload_n (z := i1) dX11_back_0 rfl ?_
  refine G.iconst dX11_back_1 ?_
  refine G.iconst dX11_back_2 ?_
  exact G.callSI (as := [vi i1, vi 0, vi 1]) (rest := []) dX11_back_3 rfl vX11_82 (by decide) (Nat.le_of_ble_eq_true rfl) hM (fun z σ' hz q => G.pick [0, 1] (k z σ' hz q))
theorem bX11_back_6 {X : CT} {σ : St} {i1 t0 : Int}  (s : (-2147483648 ≤ t0 ∧ t0 < 2147483648))
    (kt : ¬ t0 = 0 → G mdX11_back X 11 [(0, vr 87), (1, vi i1)] [] σ)
    (kf : t0 = 0 → G mdX11_back X 9 [] [] σ) :
    G mdX11_back X 6 [(0, vr 87), (1, vi i1)] [vi t0] σ := by
  exact G.if_ne (tgt := 11) dX11_back_6 (by decide) s (fun q => G.pick [0, 1] (kt q)) (fun q => G.pick [] (kf q))
theorem bX11_back_9 {X : CT} {σ : St}  {P : Int → St → Prop} (hX : RI X P)
    (k : P (-1) σ) :
    G mdX11_back X 9 [] [] σ := by
  refine G.iconst dX11_back_9 ?_
  exact G.iret hX dX11_back_10 rfl ⟨by decide, by decide⟩ k
theorem bX11_back_11 {X : CT} {σ : St} {i1 : Int}  (s : (0 ≤ i1 ∧ i1 < 2) ∧ (-2147483648 ≤ σ 93 i1 ∧ σ 93 i1 < 2147483648))
    (kt : ¬ σ 93 i1 = 0 → G mdX11_back X 23 [(0, vr 87), (1, vi i1)] [] σ)
    (kf : σ 93 i1 = 0 → G mdX11_back X 20 [] [] σ) :
    G mdX11_back X 11 [(0, vr 87), (1, vi i1)] [] σ := by
  refine G.aload_n (o := 87) dX11_back_11 rfl ?_
  refine G.getR (o' := 93) dX11_back_12 fX11_26 sh87 rfl ?_
  refine G.iload_n (z := i1) dX11_back_15 rfl ?_
  refine G.zald dX11_back_16 sh93 s.1 ?_
  exact G.if_ne (tgt := 23) dX11_back_17 (by decide) s.2 (fun q => G.pick [0, 1] (kt q)) (fun q => G.pick [] (kf q))
theorem bX11_back_20 {X : CT} {σ : St}  {P : Int → St → Prop} (hX : RI X P)
    (k : P (-2) σ) :
    G mdX11_back X 20 [] [] σ := by
  refine G.bipush dX11_back_20 (by decide) ?_
  exact G.iret hX dX11_back_22 rfl ⟨by decide, by decide⟩ k
theorem bX11_back_23 {X : CT} {σ : St} {i1 : Int} 
    (k : G mdX11_back X 25 [(0, vr 87), (1, vi i1), (2, vi 0)] [] σ) :
    G mdX11_back X 23 [(0, vr 87), (1, vi i1)] [] σ := by
  refine G.iconst dX11_back_23 ?_
  refine G.istore_n dX11_back_24 (by decide) rfl ?_
  exact G.pick [0, 1, 2] k
theorem bX11_back_25 {X : CT} {σ : St} {i1 i2 : Int}  (s : (-2147483648 ≤ i2 ∧ i2 < 2147483648))
    (kt : 86 ≤ i2 → G mdX11_back X 54 [(0, vr 87), (1, vi i1)] [] σ)
    (kf : i2 < 86 → G mdX11_back X 31 [(0, vr 87), (1, vi i1), (2, vi i2)] [] σ) :
    G mdX11_back X 25 [(0, vr 87), (1, vi i1), (2, vi i2)] [] σ := by
  refine G.iload_n (z := i2) dX11_back_25 rfl ?_
  refine G.bipush dX11_back_26 (by decide) ?_
  exact G.icmp_ge (tgt := 54) dX11_back_28 (by decide) s ⟨by decide, by decide⟩ (fun q => G.pick [0, 1] (kt q)) (fun q => G.pick [0, 1, 2] (kf q))
theorem bX11_back_31 {X : CT} {σ : St} {i1 i2 : Int}  (s : (0 ≤ (86 * i1) + i2 ∧ (86 * i1) + i2 < 172) ∧ (0 ≤ i2 ∧ i2 < 86))
    (k : G mdX11_back X 25 [(0, vr 87), (1, vi i1), (2, vi (i2 + 1))] [] (wr σ 88 i2 (σ 91 ((86 * i1) + i2)))) :
    G mdX11_back X 31 [(0, vr 87), (1, vi i1), (2, vi i2)] [] σ := by
  refine G.aload_n (o := 87) dX11_back_31 rfl ?_
  refine G.getR (o' := 88) dX11_back_32 fX11_7 sh87 rfl ?_
  refine G.iload_n (z := i2) dX11_back_35 rfl ?_
  refine G.aload_n (o := 87) dX11_back_36 rfl ?_
  refine G.getR (o' := 91) dX11_back_37 fX11_20 sh87 rfl ?_
  refine G.bipush dX11_back_40 (by decide) ?_
  refine G.iload_n (z := i1) dX11_back_42 rfl ?_
  refine G.imul dX11_back_43 ?_
  refine G.iload_n (z := i2) dX11_back_44 rfl ?_
  refine G.iadd dX11_back_45 ?_
  refine G.iald dX11_back_46 sh91 s.1 ?_
  refine G.iast dX11_back_47 sh88 s.2 ?_
  refine G.iinc (z := i2) dX11_back_48 rfl (by decide) rfl ?_
  refine G.goto (tgt := 25) dX11_back_51 (by decide) ?_
  exact G.pick [0, 1, 2] k
theorem bX11_back_54 {X : CT} {σ : St} {i1 : Int}  {P : Int → St → Prop} (hX : RI X P) (s : (0 ≤ i1 ∧ i1 < 2) ∧ (-2147483648 ≤ (wr (wr σ 87 1 (fl (σ 92 i1)).toNat) 87 4 0) 88 64 ∧ (wr (wr σ 87 1 (fl (σ 92 i1)).toNat) 87 4 0) 88 64 < 2147483648))
    (k : P ((wr (wr σ 87 1 (fl (σ 92 i1)).toNat) 87 4 0) 88 64) (wr (wr σ 87 1 (fl (σ 92 i1)).toNat) 87 4 0)) :
    G mdX11_back X 54 [(0, vr 87), (1, vi i1)] [] σ := by
  refine G.aload_n (o := 87) dX11_back_54 rfl ?_
  refine G.aload_n (o := 87) dX11_back_55 rfl ?_
  refine G.getR (o' := 92) dX11_back_56 fX11_23 sh87 rfl ?_
  refine G.iload_n (z := i1) dX11_back_59 rfl ?_
  refine G.fald dX11_back_60 sh92 s.1 ?_
  refine G.putF (j := 1) dX11_back_61 fX11_78 sh87 rfl rfl rfl rfl rfl ?_
  refine G.aload_n (o := 87) dX11_back_64 rfl ?_
  refine G.iconst dX11_back_65 ?_
  refine G.putI (j := 4) dX11_back_66 fX11_74 sh87 rfl rfl rfl rfl rfl ?_
  refine G.aload_n (o := 87) dX11_back_69 rfl ?_
  refine G.getR (o' := 88) dX11_back_70 fX11_7 sh87 rfl ?_
  refine G.bipush dX11_back_73 (by decide) ?_
  refine G.iald dX11_back_75 sh88 ⟨by decide, by decide⟩ ?_
  exact G.iret hX dX11_back_76 rfl s.2 k
theorem bX11_count_0 {X : CT} {σ : St} {i1 : Int}  (s : (-2147483648 ≤ i1 ∧ i1 < 2147483648))
    (k0 : i1 = 0 → G mdX11_count X 48 [(0, vr 87)] [] σ)
    (k1 : i1 = 1 → G mdX11_count X 56 [(0, vr 87)] [] σ)
    (k2 : i1 = 2 → G mdX11_count X 64 [(0, vr 87)] [] σ)
    (k3 : i1 = 3 → G mdX11_count X 69 [(0, vr 87)] [] σ)
    (k4 : i1 = 4 → G mdX11_count X 74 [(0, vr 87)] [] σ)
    (k5 : i1 = 5 → G mdX11_count X 82 [(0, vr 87)] [] σ)
    (k6 : i1 = 6 → G mdX11_count X 87 [(0, vr 87)] [] σ)
    (k7 : i1 = 7 → G mdX11_count X 92 [(0, vr 87)] [] σ)
    (kd : i1 < 0 ∨ 7 < i1 → G mdX11_count X 97 [] [] σ) :
    G mdX11_count X 0 [(0, vr 87), (1, vi i1)] [] σ := by
  refine G.iload_n (z := i1) dX11_count_0 rfl ?_
  have hsw : i1 = 0 ∨ i1 = 1 ∨ i1 = 2 ∨ i1 = 3 ∨ i1 = 4 ∨ i1 = 5 ∨ i1 = 6 ∨ i1 = 7 ∨ (i1 < 0 ∨ 7 < i1) := by omega
  rcases hsw with q | q | q | q | q | q | q | q | q
  · exact G.tswIn (v := 0) (tgt := 48) dX11_count_1 s q ⟨by decide, by decide⟩ (off := 47) rfl (by decide) (G.pick [0] (k0 q))
  · exact G.tswIn (v := 1) (tgt := 56) dX11_count_1 s q ⟨by decide, by decide⟩ (off := 55) rfl (by decide) (G.pick [0] (k1 q))
  · exact G.tswIn (v := 2) (tgt := 64) dX11_count_1 s q ⟨by decide, by decide⟩ (off := 63) rfl (by decide) (G.pick [0] (k2 q))
  · exact G.tswIn (v := 3) (tgt := 69) dX11_count_1 s q ⟨by decide, by decide⟩ (off := 68) rfl (by decide) (G.pick [0] (k3 q))
  · exact G.tswIn (v := 4) (tgt := 74) dX11_count_1 s q ⟨by decide, by decide⟩ (off := 73) rfl (by decide) (G.pick [0] (k4 q))
  · exact G.tswIn (v := 5) (tgt := 82) dX11_count_1 s q ⟨by decide, by decide⟩ (off := 81) rfl (by decide) (G.pick [0] (k5 q))
  · exact G.tswIn (v := 6) (tgt := 87) dX11_count_1 s q ⟨by decide, by decide⟩ (off := 86) rfl (by decide) (G.pick [0] (k6 q))
  · exact G.tswIn (v := 7) (tgt := 92) dX11_count_1 s q ⟨by decide, by decide⟩ (off := 91) rfl (by decide) (G.pick [0] (k7 q))
  · exact G.tswOut (tgt := 97) dX11_count_1 s q (by decide) (G.pick [] (kd q))
theorem bX11_count_48 {X : CT} {σ : St}  {P : Int → St → Prop} (hX : RI X P) (s : (-2147483648 ≤ σ 88 33 ∧ σ 88 33 < 2147483648))
    (k : P (σ 88 33) σ) :
    G mdX11_count X 48 [(0, vr 87)] [] σ := by
  refine G.aload_n (o := 87) dX11_count_48 rfl ?_
  refine G.getR (o' := 88) dX11_count_49 fX11_7 sh87 rfl ?_
  refine G.bipush dX11_count_52 (by decide) ?_
  refine G.iald dX11_count_54 sh88 ⟨by decide, by decide⟩ ?_
  exact G.iret hX dX11_count_55 rfl s k
theorem bX11_count_56 {X : CT} {σ : St}  {P : Int → St → Prop} (hX : RI X P) (s : (-2147483648 ≤ σ 88 64 ∧ σ 88 64 < 2147483648))
    (k : P (σ 88 64) σ) :
    G mdX11_count X 56 [(0, vr 87)] [] σ := by
  refine G.aload_n (o := 87) dX11_count_56 rfl ?_
  refine G.getR (o' := 88) dX11_count_57 fX11_7 sh87 rfl ?_
  refine G.bipush dX11_count_60 (by decide) ?_
  refine G.iald dX11_count_62 sh88 ⟨by decide, by decide⟩ ?_
  exact G.iret hX dX11_count_63 rfl s k
theorem bX11_count_64 {X : CT} {σ : St}  {P : Int → St → Prop} (hM : CI mdX11_marksMany [vr 87] σ P)
    (k : ∀ z σ', inI z → P z σ' → G mdX11_count X 68 [] [vi z] (σ')) :
    G mdX11_count X 64 [(0, vr 87)] [] σ := by
  refine G.aload_n (o := 87) dX11_count_64 rfl ?_
  exact G.callVI (as := []) (rest := []) dX11_count_65 rfl vX11_146 (by decide) sh87 rfl (by decide) (Nat.le_of_ble_eq_true rfl) hM (fun z σ' hz q => G.pick [] (k z σ' hz q))
theorem bX11_count_68 {X : CT} {σ : St} {t0 : Int}  {P : Int → St → Prop} (hX : RI X P) (s : (-2147483648 ≤ t0 ∧ t0 < 2147483648))
    (k : P t0 σ) :
    G mdX11_count X 68 [] [vi t0] σ := by
  exact G.iret hX dX11_count_68 rfl s k
theorem bX11_count_69 {X : CT} {σ : St}  {P : Int → St → Prop} (hM : CI mdX11_wrongReceived [vr 87] σ P)
    (k : ∀ z σ', inI z → P z σ' → G mdX11_count X 73 [] [vi z] (σ')) :
    G mdX11_count X 69 [(0, vr 87)] [] σ := by
  refine G.aload_n (o := 87) dX11_count_69 rfl ?_
  exact G.callVI (as := []) (rest := []) dX11_count_70 rfl vX11_244 (by decide) sh87 rfl (by decide) (Nat.le_of_ble_eq_true rfl) hM (fun z σ' hz q => G.pick [] (k z σ' hz q))
theorem bX11_count_73 {X : CT} {σ : St} {t0 : Int}  {P : Int → St → Prop} (hX : RI X P) (s : (-2147483648 ≤ t0 ∧ t0 < 2147483648))
    (k : P t0 σ) :
    G mdX11_count X 73 [] [vi t0] σ := by
  exact G.iret hX dX11_count_73 rfl s k
theorem bX11_count_74 {X : CT} {σ : St}  {P : Int → St → Prop} (hX : RI X P) (s : (-2147483648 ≤ σ 88 85 ∧ σ 88 85 < 2147483648))
    (k : P (σ 88 85) σ) :
    G mdX11_count X 74 [(0, vr 87)] [] σ := by
  refine G.aload_n (o := 87) dX11_count_74 rfl ?_
  refine G.getR (o' := 88) dX11_count_75 fX11_7 sh87 rfl ?_
  refine G.bipush dX11_count_78 (by decide) ?_
  refine G.iald dX11_count_80 sh88 ⟨by decide, by decide⟩ ?_
  exact G.iret hX dX11_count_81 rfl s k
theorem bX11_count_82 {X : CT} {σ : St}  {P : Int → St → Prop} (hX : RI X P) (s : (-2147483648 ≤ σ 87 27 ∧ σ 87 27 < 2147483648))
    (k : P (σ 87 27) σ) :
    G mdX11_count X 82 [(0, vr 87)] [] σ := by
  refine G.aload_n (o := 87) dX11_count_82 rfl ?_
  refine G.getI (j := 27) dX11_count_83 fX11_143 sh87 rfl rfl rfl ?_
  exact G.iret hX dX11_count_86 rfl s k
theorem bX11_count_87 {X : CT} {σ : St}  {P : Int → St → Prop} (hX : RI X P) (s : (-2147483648 ≤ σ 87 9 ∧ σ 87 9 < 2147483648))
    (k : P (σ 87 9) σ) :
    G mdX11_count X 87 [(0, vr 87)] [] σ := by
  refine G.aload_n (o := 87) dX11_count_87 rfl ?_
  refine G.getI (j := 9) dX11_count_88 fX11_94 sh87 rfl rfl rfl ?_
  exact G.iret hX dX11_count_91 rfl s k
theorem bX11_count_92 {X : CT} {σ : St}  {P : Int → St → Prop} (hX : RI X P) (s : (-2147483648 ≤ σ 87 4 ∧ σ 87 4 < 2147483648))
    (k : P (σ 87 4) σ) :
    G mdX11_count X 92 [(0, vr 87)] [] σ := by
  refine G.aload_n (o := 87) dX11_count_92 rfl ?_
  refine G.getI (j := 4) dX11_count_93 fX11_74 sh87 rfl rfl rfl ?_
  exact G.iret hX dX11_count_96 rfl s k
theorem bX11_count_97 {X : CT} {σ : St}  {P : Int → St → Prop} (hX : RI X P)
    (k : P (-1) σ) :
    G mdX11_count X 97 [] [] σ := by
  refine G.iconst dX11_count_97 ?_
  exact G.iret hX dX11_count_98 rfl ⟨by decide, by decide⟩ k
