/-! basic blocks of the class -/
theorem bX10_type_0 {X : CT} {σ : St} {i1 : Int}  (s : (-2147483648 ≤ i1 ∧ i1 < 2147483648))
    (kt : i1 < 0 → G mdX10_type X 11 [] [] σ)
    (kf : 0 ≤ i1 → G mdX10_type X 4 [(0, vr 60), (1, vi i1)] [] σ) :
    G mdX10_type X 0 [(0, vr 60), (1, vi i1)] [] σ := by
  refine G.iload_n (z := i1) dX10_type_0 rfl ?_
  exact G.if_lt (tgt := 11) dX10_type_1 (by decide) s (fun q => G.pick [] (kt q)) (fun q => G.pick [0, 1] (kf q))
theorem bX10_type_4 {X : CT} {σ : St} {i1 : Int}  (s : (-2147483648 ≤ i1 ∧ i1 < 2147483648))
    (kt : i1 ≤ 255 → G mdX10_type X 13 [(0, vr 60), (1, vi i1)] [] σ)
    (kf : 255 < i1 → G mdX10_type X 11 [] [] σ) :
    G mdX10_type X 4 [(0, vr 60), (1, vi i1)] [] σ := by
  refine G.iload_n (z := i1) dX10_type_4 rfl ?_
  refine G.sipush dX10_type_5 (by decide) ?_
  exact G.icmp_le (tgt := 13) dX10_type_8 (by decide) s ⟨by decide, by decide⟩ (fun q => G.pick [0, 1] (kt q)) (fun q => G.pick [] (kf q))
theorem bX10_type_11 {X : CT} {σ : St}  {P : Int → St → Prop} (hX : RI X P)
    (k : P (-1) σ) :
    G mdX10_type X 11 [] [] σ := by
  refine G.iconst dX10_type_11 ?_
  exact G.iret hX dX10_type_12 rfl ⟨by decide, by decide⟩ k
theorem bX10_type_13 {X : CT} {σ : St} {i1 : Int}  {P : Int → St → Prop} (hM : CI mdX9_append [vr 65, vi i1] σ P)
    (k : ∀ z σ', inI z → P z σ' → G mdX10_type X 21 [(0, vr 60)] [vi z] (σ')) :
    G mdX10_type X 13 [(0, vr 60), (1, vi i1)] [] σ := by
  refine G.aload_n (o := 60) dX10_type_13 rfl ?_
  refine G.getR (o' := 65) dX10_type_14 fX10_37 sh60 rfl ?_
  refine G.iload_n (z := i1) dX10_type_17 rfl ?_
  exact G.callVI (as := [vi i1]) (rest := []) dX10_type_18 rfl vX10_81 (by decide) sh65 rfl (by decide) (Nat.le_of_ble_eq_true rfl) hM (fun z σ' hz q => G.pick [0] (k z σ' hz q))
theorem bX10_type_21 {X : CT} {σ : St} {t0 : Int}  (s : (-2147483648 ≤ t0 ∧ t0 < 2147483648))
    (kt : t0 = 0 → G mdX10_type X 34 [] [] σ)
    (kf : ¬ t0 = 0 → G mdX10_type X 24 [(0, vr 60)] [] σ) :
    G mdX10_type X 21 [(0, vr 60)] [vi t0] σ := by
  exact G.if_eq (tgt := 34) dX10_type_21 (by decide) s (fun q => G.pick [] (kt q)) (fun q => G.pick [0] (kf q))
theorem bX10_type_24 {X : CT} {σ : St} 
    (k : G mdX10_type X 36 [] [vi (σ 65 2)] σ) :
    G mdX10_type X 24 [(0, vr 60)] [] σ := by
  refine G.aload_n (o := 60) dX10_type_24 rfl ?_
  refine G.getR (o' := 65) dX10_type_25 fX10_37 sh60 rfl ?_
  refine G.getI (j := 2) dX10_type_28 fX10_85 sh65 rfl rfl rfl ?_
  refine G.goto (tgt := 36) dX10_type_31 (by decide) ?_
  exact G.pick [] k
theorem bX10_type_34 {X : CT} {σ : St} 
    (k : G mdX10_type X 36 [] [vi (-3)] σ) :
    G mdX10_type X 34 [] [] σ := by
  refine G.bipush dX10_type_34 (by decide) ?_
  exact G.pick [] k
theorem bX10_type_36 {X : CT} {σ : St} {t0 : Int}  {P : Int → St → Prop} (hX : RI X P) (s : (-2147483648 ≤ t0 ∧ t0 < 2147483648))
    (k : P t0 σ) :
    G mdX10_type X 36 [] [vi t0] σ := by
  exact G.iret hX dX10_type_36 rfl s k
theorem bX10_clear_0 {X : CT} {σ : St}  {P : Int → St → Prop} (hX : RI X P) (s : (-2147483648 ≤ σ 65 2 ∧ σ 65 2 < 2147483648))
    (k : P (σ 65 2) (wr σ 65 2 0)) :
    G mdX10_clear X 0 [(0, vr 60)] [] σ := by
  refine G.aload_n (o := 60) dX10_clear_0 rfl ?_
  refine G.getR (o' := 65) dX10_clear_1 fX10_37 sh60 rfl ?_
  refine G.getI (j := 2) dX10_clear_4 fX10_85 sh65 rfl rfl rfl ?_
  refine G.istore_n dX10_clear_7 (by decide) rfl ?_
  refine G.aload_n (o := 60) dX10_clear_8 rfl ?_
  refine G.getR (o' := 65) dX10_clear_9 fX10_37 sh60 rfl ?_
  refine G.iconst dX10_clear_12 ?_
  refine G.putI (j := 2) dX10_clear_13 fX10_85 sh65 rfl rfl rfl rfl rfl ?_
  refine G.iload_n (z := σ 65 2) dX10_clear_16 rfl ?_
  exact G.iret hX dX10_clear_17 rfl s k
theorem bX10_block_0 {X : CT} {σ : St}  {P : St → Prop} (hM : CV mdX7_takeFrom [vr 6, vr 0] σ P)
    (k : ∀ σ', P σ' → G mdX10_block X 11 [(0, vr 60)] [] (σ')) :
    G mdX10_block X 0 [(0, vr 60)] [] σ := by
  refine G.aload_n (o := 60) dX10_block_0 rfl ?_
  refine G.getR (o' := 6) dX10_block_1 fX10_16 sh60 rfl ?_
  refine G.aload_n (o := 60) dX10_block_4 rfl ?_
  refine G.getR (o' := 0) dX10_block_5 fX10_12 sh60 rfl ?_
  exact G.callVV (as := [vr 0]) (rest := []) dX10_block_8 rfl vX10_89 (by decide) (sh_st st_6) rfl (by decide) (Nat.le_of_ble_eq_true rfl) hM (fun σ' q => G.pick [0] (k σ' q))
theorem bX10_block_11 {X : CT} {σ : St}  {P : Int → St → Prop} (hM : CI mdX9_readInto [vr 65, vr 6] σ P)
    (k : ∀ z σ', inI z → P z σ' → G mdX10_block X 22 [(0, vr 60)] [vi z] (σ')) :
    G mdX10_block X 11 [(0, vr 60)] [] σ := by
  refine G.aload_n (o := 60) dX10_block_11 rfl ?_
  refine G.getR (o' := 65) dX10_block_12 fX10_37 sh60 rfl ?_
  refine G.aload_n (o := 60) dX10_block_15 rfl ?_
  refine G.getR (o' := 6) dX10_block_16 fX10_16 sh60 rfl ?_
  exact G.callVI (as := [vr 6]) (rest := []) dX10_block_19 rfl vX10_93 (by decide) sh65 rfl (by decide) (Nat.le_of_ble_eq_true rfl) hM (fun z σ' hz q => G.pick [0] (k z σ' hz q))
theorem bX10_block_22 {X : CT} {σ : St} {t0 : Int}  (s : (-2147483648 ≤ t0 ∧ t0 < 2147483648))
    (kt : 0 ≤ t0 → G mdX10_block X 29 [(0, vr 60), (1, vi t0)] [] σ)
    (kf : t0 < 0 → G mdX10_block X 27 [(1, vi t0)] [] σ) :
    G mdX10_block X 22 [(0, vr 60)] [vi t0] σ := by
  refine G.istore_n dX10_block_22 (by decide) rfl ?_
  refine G.iload_n (z := t0) dX10_block_23 rfl ?_
  exact G.if_ge (tgt := 29) dX10_block_24 (by decide) s (fun q => G.pick [0, 1] (kt q)) (fun q => G.pick [1] (kf q))
theorem bX10_block_27 {X : CT} {σ : St} {i1 : Int}  {P : Int → St → Prop} (hX : RI X P) (s : (-2147483648 ≤ i1 ∧ i1 < 2147483648))
    (k : P i1 σ) :
    G mdX10_block X 27 [(1, vi i1)] [] σ := by
  refine G.iload_n (z := i1) dX10_block_27 rfl ?_
  exact G.iret hX dX10_block_28 rfl s k
theorem bX10_block_29 {X : CT} {σ : St} {i1 : Int}  {P : St → Prop} (hM : CV mdX3_remember [vr 63, vr 0] σ P)
    (k : ∀ σ', P σ' → G mdX10_block X 40 [(0, vr 60), (1, vi i1)] [] (σ')) :
    G mdX10_block X 29 [(0, vr 60), (1, vi i1)] [] σ := by
  refine G.aload_n (o := 60) dX10_block_29 rfl ?_
  refine G.getR (o' := 63) dX10_block_30 fX10_30 sh60 rfl ?_
  refine G.aload_n (o := 60) dX10_block_33 rfl ?_
  refine G.getR (o' := 0) dX10_block_34 fX10_12 sh60 rfl ?_
  exact G.callVV (as := [vr 0]) (rest := []) dX10_block_37 rfl vX10_97 (by decide) sh63 rfl (by decide) (Nat.le_of_ble_eq_true rfl) hM (fun σ' q => G.pick [0, 1] (k σ' q))
theorem bX10_block_40 {X : CT} {σ : St} {i1 : Int}  {P : St → Prop} (hM : CV mdX7_takeFrom [vr 0, vr 6] σ P)
    (k : ∀ σ', P σ' → G mdX10_block X 51 [(0, vr 60), (1, vi i1)] [] (σ')) :
    G mdX10_block X 40 [(0, vr 60), (1, vi i1)] [] σ := by
  refine G.aload_n (o := 60) dX10_block_40 rfl ?_
  refine G.getR (o' := 0) dX10_block_41 fX10_12 sh60 rfl ?_
  refine G.aload_n (o := 60) dX10_block_44 rfl ?_
  refine G.getR (o' := 6) dX10_block_45 fX10_16 sh60 rfl ?_
  exact G.callVV (as := [vr 6]) (rest := []) dX10_block_48 rfl vX10_89 (by decide) (sh_st st_0) rfl (by decide) (Nat.le_of_ble_eq_true rfl) hM (fun σ' q => G.pick [0, 1] (k σ' q))
theorem bX10_block_51 {X : CT} {σ : St} {i1 : Int}  {P : Int → St → Prop} (hX : RI X P) (s : (-2147483648 ≤ i1 ∧ i1 < 2147483648))
    (k : P i1 (wr (wr σ 65 2 0) 68 2 0)) :
    G mdX10_block X 51 [(0, vr 60), (1, vi i1)] [] σ := by
  refine G.aload_n (o := 60) dX10_block_51 rfl ?_
  refine G.getR (o' := 65) dX10_block_52 fX10_37 sh60 rfl ?_
  refine G.iconst dX10_block_55 ?_
  refine G.putI (j := 2) dX10_block_56 fX10_85 sh65 rfl rfl rfl rfl rfl ?_
  refine G.aload_n (o := 60) dX10_block_59 rfl ?_
  refine G.getR (o' := 68) dX10_block_60 fX10_44 sh60 rfl ?_
  refine G.iconst dX10_block_63 ?_
  refine G.putI (j := 2) dX10_block_64 fX10_100 sh68 rfl rfl rfl rfl rfl ?_
  refine G.iload_n (z := i1) dX10_block_67 rfl ?_
  exact G.iret hX dX10_block_68 rfl s k
theorem bX10_sends_0 {X : CT} {σ : St} {i1 i2 i3 : Int}  {P : Int → St → Prop} (hM : CI mdX10_isSpot [vi i1, vi i2] σ P)
    (k : ∀ z σ', inI z → P z σ' → G mdX10_sends X 5 [(0, vr 60), (1, vi i1), (2, vi i2), (3, vi i3)] [vi z] (σ')) :
    G mdX10_sends X 0 [(0, vr 60), (1, vi i1), (2, vi i2), (3, vi i3)] [] σ := by
  refine G.iload_n (z := i1) dX10_sends_0 rfl ?_
  refine G.iload_n (z := i2) dX10_sends_1 rfl ?_
  exact G.callSI (as := [vi i1, vi i2]) (rest := []) dX10_sends_2 rfl vX10_103 (by decide) (Nat.le_of_ble_eq_true rfl) hM (fun z σ' hz q => G.pick [0, 1, 2, 3] (k z σ' hz q))
theorem bX10_sends_5 {X : CT} {σ : St} {i1 i2 i3 t0 : Int}  (s : (-2147483648 ≤ t0 ∧ t0 < 2147483648))
    (kt : t0 = 0 → G mdX10_sends X 15 [] [] σ)
    (kf : ¬ t0 = 0 → G mdX10_sends X 8 [(0, vr 60), (1, vi i1), (2, vi i2), (3, vi i3)] [] σ) :
    G mdX10_sends X 5 [(0, vr 60), (1, vi i1), (2, vi i2), (3, vi i3)] [vi t0] σ := by
  exact G.if_eq (tgt := 15) dX10_sends_5 (by decide) s (fun q => G.pick [] (kt q)) (fun q => G.pick [0, 1, 2, 3] (kf q))
theorem bX10_sends_8 {X : CT} {σ : St} {i1 i2 i3 : Int}  {P : Int → St → Prop} (hM : CI mdX10_isSymbol [vi i3] σ P)
    (k : ∀ z σ', inI z → P z σ' → G mdX10_sends X 12 [(0, vr 60), (1, vi i1), (2, vi i2), (3, vi i3)] [vi z] (σ')) :
    G mdX10_sends X 8 [(0, vr 60), (1, vi i1), (2, vi i2), (3, vi i3)] [] σ := by
  refine G.iload_n (z := i3) dX10_sends_8 rfl ?_
  exact G.callSI (as := [vi i3]) (rest := []) dX10_sends_9 rfl vX10_107 (by decide) (Nat.le_of_ble_eq_true rfl) hM (fun z σ' hz q => G.pick [0, 1, 2, 3] (k z σ' hz q))
theorem bX10_sends_12 {X : CT} {σ : St} {i1 i2 i3 t0 : Int}  (s : (-2147483648 ≤ t0 ∧ t0 < 2147483648))
    (kt : ¬ t0 = 0 → G mdX10_sends X 17 [(0, vr 60), (1, vi i1), (2, vi i2), (3, vi i3)] [] σ)
    (kf : t0 = 0 → G mdX10_sends X 15 [] [] σ) :
    G mdX10_sends X 12 [(0, vr 60), (1, vi i1), (2, vi i2), (3, vi i3)] [vi t0] σ := by
  exact G.if_ne (tgt := 17) dX10_sends_12 (by decide) s (fun q => G.pick [0, 1, 2, 3] (kt q)) (fun q => G.pick [] (kf q))
theorem bX10_sends_15 {X : CT} {σ : St}  {P : Int → St → Prop} (hX : RI X P)
    (k : P (-1) σ) :
    G mdX10_sends X 15 [] [] σ := by
  refine G.iconst dX10_sends_15 ?_
  exact G.iret hX dX10_sends_16 rfl ⟨by decide, by decide⟩ k
theorem bX10_sends_17 {X : CT} {σ : St} {i1 i2 i3 : Int}  (s : (0 ≤ (i1 * 16) + i2 ∧ (i1 * 16) + i2 < 32) ∧ (-2147483648 ≤ σ 1 ((i1 * 16) + i2) ∧ σ 1 ((i1 * 16) + i2) < 2147483648) ∧ (-2147483648 ≤ i3 ∧ i3 < 2147483648))
    (kt : ¬ σ 1 ((i1 * 16) + i2) = i3 → G mdX10_sends X 42 [(0, vr 60), (1, vi i1), (2, vi i2), (3, vi i3), (4, vi (σ 1 ((i1 * 16) + i2)))] [] σ)
    (kf : σ 1 ((i1 * 16) + i2) = i3 → G mdX10_sends X 39 [] [] σ) :
    G mdX10_sends X 17 [(0, vr 60), (1, vi i1), (2, vi i2), (3, vi i3)] [] σ := by
  refine G.aload_n (o := 60) dX10_sends_17 rfl ?_
  refine G.getR (o' := 0) dX10_sends_18 fX10_12 sh60 rfl ?_
  refine G.getR (o' := 1) dX10_sends_21 fX10_110 (sh_st st_0) rfl ?_
  refine G.iload_n (z := i1) dX10_sends_24 rfl ?_
  refine G.bipush dX10_sends_25 (by decide) ?_
  refine G.imul dX10_sends_27 ?_
  refine G.iload_n (z := i2) dX10_sends_28 rfl ?_
  refine G.iadd dX10_sends_29 ?_
  refine G.iald dX10_sends_30 (sh_sent st_0) s.1 ?_
  refine G.istore dX10_sends_31 (by decide) rfl ?_
  refine G.iload (z := σ 1 ((i1 * 16) + i2)) dX10_sends_33 rfl ?_
  refine G.iload_n (z := i3) dX10_sends_35 rfl ?_
  exact G.icmp_ne (tgt := 42) dX10_sends_36 (by decide) s.2.1 s.2.2 (fun q => G.pick [0, 1, 2, 3, 4] (kt q)) (fun q => G.pick [] (kf q))
theorem bX10_sends_39 {X : CT} {σ : St}  {P : Int → St → Prop} (hX : RI X P)
    (k : P (-2) σ) :
    G mdX10_sends X 39 [] [] σ := by
  refine G.bipush dX10_sends_39 (by decide) ?_
  exact G.iret hX dX10_sends_41 rfl ⟨by decide, by decide⟩ k
theorem bX10_sends_42 {X : CT} {σ : St} {i1 i2 i3 i4 : Int}  {P : St → Prop} (hM : CV mdX3_remember [vr 63, vr 0] σ P)
    (k : ∀ σ', P σ' → G mdX10_sends X 53 [(0, vr 60), (1, vi i1), (2, vi i2), (3, vi i3), (4, vi i4)] [] (σ')) :
    G mdX10_sends X 42 [(0, vr 60), (1, vi i1), (2, vi i2), (3, vi i3), (4, vi i4)] [] σ := by
  refine G.aload_n (o := 60) dX10_sends_42 rfl ?_
  refine G.getR (o' := 63) dX10_sends_43 fX10_30 sh60 rfl ?_
  refine G.aload_n (o := 60) dX10_sends_46 rfl ?_
  refine G.getR (o' := 0) dX10_sends_47 fX10_12 sh60 rfl ?_
  exact G.callVV (as := [vr 0]) (rest := []) dX10_sends_50 rfl vX10_97 (by decide) sh63 rfl (by decide) (Nat.le_of_ble_eq_true rfl) hM (fun σ' q => G.pick [0, 1, 2, 3, 4] (k σ' q))
theorem bX10_sends_53 {X : CT} {σ : St} {i1 i2 i3 i4 : Int}  {P : Int → St → Prop} (hX : RI X P) (s : (0 ≤ (i1 * 16) + i2 ∧ (i1 * 16) + i2 < 32) ∧ (-2147483648 ≤ i4 ∧ i4 < 2147483648))
    (k : P i4 (wr σ 1 ((i1 * 16) + i2) i3)) :
    G mdX10_sends X 53 [(0, vr 60), (1, vi i1), (2, vi i2), (3, vi i3), (4, vi i4)] [] σ := by
  refine G.aload_n (o := 60) dX10_sends_53 rfl ?_
  refine G.getR (o' := 0) dX10_sends_54 fX10_12 sh60 rfl ?_
  refine G.getR (o' := 1) dX10_sends_57 fX10_110 (sh_st st_0) rfl ?_
  refine G.iload_n (z := i1) dX10_sends_60 rfl ?_
  refine G.bipush dX10_sends_61 (by decide) ?_
  refine G.imul dX10_sends_63 ?_
  refine G.iload_n (z := i2) dX10_sends_64 rfl ?_
  refine G.iadd dX10_sends_65 ?_
  refine G.iload_n (z := i3) dX10_sends_66 rfl ?_
  refine G.iast dX10_sends_67 (sh_sent st_0) s.1 ?_
  refine G.iload (z := i4) dX10_sends_68 rfl ?_
  exact G.iret hX dX10_sends_70 rfl s.2 k
theorem bX10_marks_0 {X : CT} {σ : St} {i1 i2 : Int}  {P : Int → St → Prop} (hM : CI mdX10_isPlace [vi i1] σ P)
    (k : ∀ z σ', inI z → P z σ' → G mdX10_marks X 4 [(0, vr 60), (1, vi i1), (2, vi i2)] [vi z] (σ')) :
    G mdX10_marks X 0 [(0, vr 60), (1, vi i1), (2, vi i2)] [] σ := by
  refine G.iload_n (z := i1) dX10_marks_0 rfl ?_
  exact G.callSI (as := [vi i1]) (rest := []) dX10_marks_1 rfl vX10_113 (by decide) (Nat.le_of_ble_eq_true rfl) hM (fun z σ' hz q => G.pick [0, 1, 2] (k z σ' hz q))
theorem bX10_marks_4 {X : CT} {σ : St} {i1 i2 t0 : Int}  (s : (-2147483648 ≤ t0 ∧ t0 < 2147483648))
    (kt : t0 = 0 → G mdX10_marks X 16 [] [] σ)
    (kf : ¬ t0 = 0 → G mdX10_marks X 7 [(0, vr 60), (1, vi i1), (2, vi i2)] [] σ) :
    G mdX10_marks X 4 [(0, vr 60), (1, vi i1), (2, vi i2)] [vi t0] σ := by
  exact G.if_eq (tgt := 16) dX10_marks_4 (by decide) s (fun q => G.pick [] (kt q)) (fun q => G.pick [0, 1, 2] (kf q))
theorem bX10_marks_7 {X : CT} {σ : St} {i1 i2 : Int}  (s : (-2147483648 ≤ i2 ∧ i2 < 2147483648))
    (kt : i2 < 0 → G mdX10_marks X 16 [] [] σ)
    (kf : 0 ≤ i2 → G mdX10_marks X 11 [(0, vr 60), (1, vi i1), (2, vi i2)] [] σ) :
    G mdX10_marks X 7 [(0, vr 60), (1, vi i1), (2, vi i2)] [] σ := by
  refine G.iload_n (z := i2) dX10_marks_7 rfl ?_
  exact G.if_lt (tgt := 16) dX10_marks_8 (by decide) s (fun q => G.pick [] (kt q)) (fun q => G.pick [0, 1, 2] (kf q))
theorem bX10_marks_11 {X : CT} {σ : St} {i1 i2 : Int}  (s : (-2147483648 ≤ i2 ∧ i2 < 2147483648))
    (kt : i2 ≤ 1 → G mdX10_marks X 18 [(0, vr 60), (1, vi i1), (2, vi i2)] [] σ)
    (kf : 1 < i2 → G mdX10_marks X 16 [] [] σ) :
    G mdX10_marks X 11 [(0, vr 60), (1, vi i1), (2, vi i2)] [] σ := by
  refine G.iload_n (z := i2) dX10_marks_11 rfl ?_
  refine G.iconst dX10_marks_12 ?_
  exact G.icmp_le (tgt := 18) dX10_marks_13 (by decide) s ⟨by decide, by decide⟩ (fun q => G.pick [0, 1, 2] (kt q)) (fun q => G.pick [] (kf q))
theorem bX10_marks_16 {X : CT} {σ : St}  {P : Int → St → Prop} (hX : RI X P)
    (k : P (-1) σ) :
    G mdX10_marks X 16 [] [] σ := by
  refine G.iconst dX10_marks_16 ?_
  exact G.iret hX dX10_marks_17 rfl ⟨by decide, by decide⟩ k
theorem bX10_marks_18 {X : CT} {σ : St} {i1 i2 : Int}  {P : Int → St → Prop} (hM : CI mdX7_isMarked [vr 0, vi i1] σ P)
    (k : ∀ z σ', inI z → P z σ' → G mdX10_marks X 26 [(0, vr 60), (1, vi i1), (2, vi i2)] [vi z] (σ')) :
    G mdX10_marks X 18 [(0, vr 60), (1, vi i1), (2, vi i2)] [] σ := by
  refine G.aload_n (o := 60) dX10_marks_18 rfl ?_
  refine G.getR (o' := 0) dX10_marks_19 fX10_12 sh60 rfl ?_
  refine G.iload_n (z := i1) dX10_marks_22 rfl ?_
  exact G.callVI (as := [vi i1]) (rest := []) dX10_marks_23 rfl vX10_116 (by decide) (sh_st st_0) rfl (by decide) (Nat.le_of_ble_eq_true rfl) hM (fun z σ' hz q => G.pick [0, 1, 2] (k z σ' hz q))
theorem bX10_marks_26 {X : CT} {σ : St} {i1 i2 t0 : Int}  (s : (-2147483648 ≤ i2 ∧ i2 < 2147483648))
    (kt : ¬ i2 = 1 → G mdX10_marks X 35 [(0, vr 60), (1, vi i1), (2, vi i2)] [vi t0] σ)
    (kf : i2 = 1 → G mdX10_marks X 31 [(0, vr 60), (1, vi i1), (2, vi i2)] [vi t0] σ) :
    G mdX10_marks X 26 [(0, vr 60), (1, vi i1), (2, vi i2)] [vi t0] σ := by
  refine G.iload_n (z := i2) dX10_marks_26 rfl ?_
  refine G.iconst dX10_marks_27 ?_
  exact G.icmp_ne (tgt := 35) dX10_marks_28 (by decide) s ⟨by decide, by decide⟩ (fun q => G.pick [0, 1, 2] (kt q)) (fun q => G.pick [0, 1, 2] (kf q))
theorem bX10_marks_31 {X : CT} {σ : St} {i1 i2 t0 : Int} 
    (k : G mdX10_marks X 36 [(0, vr 60), (1, vi i1), (2, vi i2)] [vi 1, vi t0] σ) :
    G mdX10_marks X 31 [(0, vr 60), (1, vi i1), (2, vi i2)] [vi t0] σ := by
  refine G.iconst dX10_marks_31 ?_
  refine G.goto (tgt := 36) dX10_marks_32 (by decide) ?_
  exact G.pick [0, 1, 2] k
theorem bX10_marks_35 {X : CT} {σ : St} {i1 i2 t0 : Int} 
    (k : G mdX10_marks X 36 [(0, vr 60), (1, vi i1), (2, vi i2)] [vi 0, vi t0] σ) :
    G mdX10_marks X 35 [(0, vr 60), (1, vi i1), (2, vi i2)] [vi t0] σ := by
  refine G.iconst dX10_marks_35 ?_
  exact G.pick [0, 1, 2] k
theorem bX10_marks_36 {X : CT} {σ : St} {i1 i2 t0 t1 : Int}  (s : (-2147483648 ≤ t0 ∧ t0 < 2147483648) ∧ (-2147483648 ≤ t1 ∧ t1 < 2147483648))
    (kt : ¬ t0 = t1 → G mdX10_marks X 42 [(0, vr 60), (1, vi i1), (2, vi i2)] [] σ)
    (kf : t0 = t1 → G mdX10_marks X 39 [] [] σ) :
    G mdX10_marks X 36 [(0, vr 60), (1, vi i1), (2, vi i2)] [vi t1, vi t0] σ := by
  exact G.icmp_ne (tgt := 42) dX10_marks_36 (by decide) s.1 s.2 (fun q => G.pick [0, 1, 2] (kt q)) (fun q => G.pick [] (kf q))
theorem bX10_marks_39 {X : CT} {σ : St}  {P : Int → St → Prop} (hX : RI X P)
    (k : P (-2) σ) :
    G mdX10_marks X 39 [] [] σ := by
  refine G.bipush dX10_marks_39 (by decide) ?_
  exact G.iret hX dX10_marks_41 rfl ⟨by decide, by decide⟩ k
theorem bX10_marks_42 {X : CT} {σ : St} {i1 i2 : Int}  {P : St → Prop} (hM : CV mdX3_remember [vr 63, vr 0] σ P)
    (k : ∀ σ', P σ' → G mdX10_marks X 53 [(0, vr 60), (1, vi i1), (2, vi i2)] [] (σ')) :
    G mdX10_marks X 42 [(0, vr 60), (1, vi i1), (2, vi i2)] [] σ := by
  refine G.aload_n (o := 60) dX10_marks_42 rfl ?_
  refine G.getR (o' := 63) dX10_marks_43 fX10_30 sh60 rfl ?_
  refine G.aload_n (o := 60) dX10_marks_46 rfl ?_
  refine G.getR (o' := 0) dX10_marks_47 fX10_12 sh60 rfl ?_
  exact G.callVV (as := [vr 0]) (rest := []) dX10_marks_50 rfl vX10_97 (by decide) sh63 rfl (by decide) (Nat.le_of_ble_eq_true rfl) hM (fun σ' q => G.pick [0, 1, 2] (k σ' q))
theorem bX10_marks_53 {X : CT} {σ : St} {i1 i2 : Int}  (s : (-2147483648 ≤ i2 ∧ i2 < 2147483648))
    (kt : ¬ i2 = 1 → G mdX10_marks X 67 [(0, vr 60)] [vi i1, vr 0] σ)
    (kf : i2 = 1 → G mdX10_marks X 63 [(0, vr 60)] [vi i1, vr 0] σ) :
    G mdX10_marks X 53 [(0, vr 60), (1, vi i1), (2, vi i2)] [] σ := by
  refine G.aload_n (o := 60) dX10_marks_53 rfl ?_
  refine G.getR (o' := 0) dX10_marks_54 fX10_12 sh60 rfl ?_
  refine G.iload_n (z := i1) dX10_marks_57 rfl ?_
  refine G.iload_n (z := i2) dX10_marks_58 rfl ?_
  refine G.iconst dX10_marks_59 ?_
  exact G.icmp_ne (tgt := 67) dX10_marks_60 (by decide) s ⟨by decide, by decide⟩ (fun q => G.pick [0] (kt q)) (fun q => G.pick [0] (kf q))
theorem bX10_marks_63 {X : CT} {σ : St} {t1 : Int} 
    (k : G mdX10_marks X 68 [(0, vr 60)] [vi 1, vi t1, vr 0] σ) :
    G mdX10_marks X 63 [(0, vr 60)] [vi t1, vr 0] σ := by
  refine G.iconst dX10_marks_63 ?_
  refine G.goto (tgt := 68) dX10_marks_64 (by decide) ?_
  exact G.pick [0] k
theorem bX10_marks_67 {X : CT} {σ : St} {t1 : Int} 
    (k : G mdX10_marks X 68 [(0, vr 60)] [vi 0, vi t1, vr 0] σ) :
    G mdX10_marks X 67 [(0, vr 60)] [vi t1, vr 0] σ := by
  refine G.iconst dX10_marks_67 ?_
  exact G.pick [0] k
theorem bX10_marks_68 {X : CT} {σ : St} {t1 t2 : Int}  {P : St → Prop} (hM : CV mdX7_mark [vr 0, vi t1, vi t2] σ P)
    (k : ∀ σ', P σ' → G mdX10_marks X 71 [(0, vr 60)] [] (σ')) :
    G mdX10_marks X 68 [(0, vr 60)] [vi t2, vi t1, vr 0] σ := by
  exact G.callVV (as := [vi t1, vi t2]) (rest := []) dX10_marks_68 rfl vX10_119 (by decide) (sh_st st_0) rfl (by decide) (Nat.le_of_ble_eq_true rfl) hM (fun σ' q => G.pick [0] (k σ' q))
theorem bX10_marks_71 {X : CT} {σ : St}  {P : Int → St → Prop} (hM : CI mdJ6_bitCount_0f7a4 [vi (σ 0 1)] σ P)
    (k : ∀ z σ', inI z → P z σ' → G mdX10_marks X 81 [] [vi z] (σ')) :
    G mdX10_marks X 71 [(0, vr 60)] [] σ := by
  refine G.aload_n (o := 60) dX10_marks_71 rfl ?_
  refine G.getR (o' := 0) dX10_marks_72 fX10_12 sh60 rfl ?_
  refine G.getI (j := 1) dX10_marks_75 fX10_123 (sh_st st_0) rfl rfl rfl ?_
  exact G.callSI (as := [vi (σ 0 1)]) (rest := []) dX10_marks_78 rfl vX10_126 (by decide) (Nat.le_of_ble_eq_true rfl) hM (fun z σ' hz q => G.pick [] (k z σ' hz q))
theorem bX10_marks_81 {X : CT} {σ : St} {t0 : Int}  {P : Int → St → Prop} (hX : RI X P) (s : (-2147483648 ≤ t0 ∧ t0 < 2147483648))
    (k : P t0 σ) :
    G mdX10_marks X 81 [] [vi t0] σ := by
  exact G.iret hX dX10_marks_81 rfl s k
theorem bX10_adds_0 {X : CT} {σ : St} {i1 i2 i3 i4 i5 : Int}  {P : St → Prop} (hM : CV mdX10_putStep [vr 60, vi i1, vi i2, vi i3, vi i4, vi i5] σ P)
    (k : ∀ σ', P σ' → G mdX10_adds X 11 [(0, vr 60)] [] (σ')) :
    G mdX10_adds X 0 [(0, vr 60), (1, vi i1), (2, vi i2), (3, vi i3), (4, vi i4), (5, vi i5)] [] σ := by
  refine G.aload_n (o := 60) dX10_adds_0 rfl ?_
  refine G.iload_n (z := i1) dX10_adds_1 rfl ?_
  refine G.iload_n (z := i2) dX10_adds_2 rfl ?_
  refine G.iload_n (z := i3) dX10_adds_3 rfl ?_
  refine G.iload (z := i4) dX10_adds_4 rfl ?_
  refine G.iload (z := i5) dX10_adds_6 rfl ?_
  exact G.callVV (as := [vi i1, vi i2, vi i3, vi i4, vi i5]) (rest := []) dX10_adds_8 rfl vX10_132 (by decide) sh60 rfl (by decide) (Nat.le_of_ble_eq_true rfl) hM (fun σ' q => G.pick [0] (k σ' q))
theorem bX10_adds_11 {X : CT} {σ : St}  {P : Int → St → Prop} (hM : CI mdX8_isPossible [vr 106, vr 84] σ P)
    (k : ∀ z σ', inI z → P z σ' → G mdX10_adds X 21 [(0, vr 60)] [vi z] (σ')) :
    G mdX10_adds X 11 [(0, vr 60)] [] σ := by
  refine G.getsD (i := 479) dX10_adds_11 (by decide +kernel) ?_
  refine G.aload_n (o := 60) dX10_adds_14 rfl ?_
  refine G.getR (o' := 84) dX10_adds_15 fX10_67 sh60 rfl ?_
  exact G.callSI (as := [vr 106, vr 84]) (rest := []) dX10_adds_18 rfl vX10_139 (by decide) (Nat.le_of_ble_eq_true rfl) hM (fun z σ' hz q => G.pick [0] (k z σ' hz q))
theorem bX10_adds_21 {X : CT} {σ : St} {t0 : Int}  (s : (-2147483648 ≤ t0 ∧ t0 < 2147483648))
    (kt : ¬ t0 = 0 → G mdX10_adds X 26 [(0, vr 60)] [] σ)
    (kf : t0 = 0 → G mdX10_adds X 24 [] [] σ) :
    G mdX10_adds X 21 [(0, vr 60)] [vi t0] σ := by
  exact G.if_ne (tgt := 26) dX10_adds_21 (by decide) s (fun q => G.pick [0] (kt q)) (fun q => G.pick [] (kf q))
theorem bX10_adds_24 {X : CT} {σ : St}  {P : Int → St → Prop} (hX : RI X P)
    (k : P (-1) σ) :
    G mdX10_adds X 24 [] [] σ := by
  refine G.iconst dX10_adds_24 ?_
  exact G.iret hX dX10_adds_25 rfl ⟨by decide, by decide⟩ k
theorem bX10_adds_26 {X : CT} {σ : St}  {P : Int → St → Prop} (hM : CI mdX10_appendStep [vr 60, vr 2] σ P)
    (k : ∀ z σ', inI z → P z σ' → G mdX10_adds X 37 [] [vi z] (σ')) :
    G mdX10_adds X 26 [(0, vr 60)] [] σ := by
  refine G.aload_n (o := 60) dX10_adds_26 rfl ?_
  refine G.aload_n (o := 60) dX10_adds_27 rfl ?_
  refine G.getR (o' := 0) dX10_adds_28 fX10_12 sh60 rfl ?_
  refine G.getR (o' := 2) dX10_adds_31 fX10_143 (sh_st st_0) rfl ?_
  exact G.callVI (as := [vr 2]) (rest := []) dX10_adds_34 rfl vX10_147 (by decide) sh60 rfl (by decide) (Nat.le_of_ble_eq_true rfl) hM (fun z σ' hz q => G.pick [] (k z σ' hz q))
theorem bX10_adds_37 {X : CT} {σ : St} {t0 : Int}  {P : Int → St → Prop} (hX : RI X P) (s : (-2147483648 ≤ t0 ∧ t0 < 2147483648))
    (k : P t0 σ) :
    G mdX10_adds X 37 [] [vi t0] σ := by
  exact G.iret hX dX10_adds_37 rfl s k
theorem bX10_cuts_0 {X : CT} {σ : St}  (s : (-2147483648 ≤ σ 2 2 ∧ σ 2 2 < 2147483648))
    (kt : ¬ σ 2 2 = 0 → G mdX10_cuts X 18 [(0, vr 60), (1, vi (σ 2 2))] [] σ)
    (kf : σ 2 2 = 0 → G mdX10_cuts X 15 [] [] σ) :
    G mdX10_cuts X 0 [(0, vr 60)] [] σ := by
  refine G.aload_n (o := 60) dX10_cuts_0 rfl ?_
  refine G.getR (o' := 0) dX10_cuts_1 fX10_12 sh60 rfl ?_
  refine G.getR (o' := 2) dX10_cuts_4 fX10_143 (sh_st st_0) rfl ?_
  refine G.getI (j := 2) dX10_cuts_7 fX10_151 (sh_sp (sp_line st_0)) rfl rfl rfl ?_
  refine G.istore_n dX10_cuts_10 (by decide) rfl ?_
  refine G.iload_n (z := σ 2 2) dX10_cuts_11 rfl ?_
  exact G.if_ne (tgt := 18) dX10_cuts_12 (by decide) s (fun q => G.pick [0, 1] (kt q)) (fun q => G.pick [] (kf q))
theorem bX10_cuts_15 {X : CT} {σ : St}  {P : Int → St → Prop} (hX : RI X P)
    (k : P (-2) σ) :
    G mdX10_cuts X 15 [] [] σ := by
  refine G.bipush dX10_cuts_15 (by decide) ?_
  exact G.iret hX dX10_cuts_17 rfl ⟨by decide, by decide⟩ k
theorem bX10_cuts_18 {X : CT} {σ : St} {i1 : Int}  {P : St → Prop} (hM : CV mdX3_remember [vr 63, vr 0] σ P)
    (k : ∀ σ', P σ' → G mdX10_cuts X 29 [(0, vr 60), (1, vi i1)] [] (σ')) :
    G mdX10_cuts X 18 [(0, vr 60), (1, vi i1)] [] σ := by
  refine G.aload_n (o := 60) dX10_cuts_18 rfl ?_
  refine G.getR (o' := 63) dX10_cuts_19 fX10_30 sh60 rfl ?_
  refine G.aload_n (o := 60) dX10_cuts_22 rfl ?_
  refine G.getR (o' := 0) dX10_cuts_23 fX10_12 sh60 rfl ?_
  exact G.callVV (as := [vr 0]) (rest := []) dX10_cuts_26 rfl vX10_97 (by decide) sh63 rfl (by decide) (Nat.le_of_ble_eq_true rfl) hM (fun σ' q => G.pick [0, 1] (k σ' q))
theorem bX10_cuts_29 {X : CT} {σ : St} {i1 : Int}  {P : St → Prop} (hM : CV mdX8_remove [vr 2, vi (i1 - 1)] σ P)
    (k : ∀ σ', P σ' → G mdX10_cuts X 42 [(1, vi i1)] [] (σ')) :
    G mdX10_cuts X 29 [(0, vr 60), (1, vi i1)] [] σ := by
  refine G.aload_n (o := 60) dX10_cuts_29 rfl ?_
  refine G.getR (o' := 0) dX10_cuts_30 fX10_12 sh60 rfl ?_
  refine G.getR (o' := 2) dX10_cuts_33 fX10_143 (sh_st st_0) rfl ?_
  refine G.iload_n (z := i1) dX10_cuts_36 rfl ?_
  refine G.iconst dX10_cuts_37 ?_
  refine G.isub dX10_cuts_38 ?_
  exact G.callVV (as := [vi (i1 - 1)]) (rest := []) dX10_cuts_39 rfl vX10_152 (by decide) (sh_sp (sp_line st_0)) rfl (by decide) (Nat.le_of_ble_eq_true rfl) hM (fun σ' q => G.pick [1] (k σ' q))
theorem bX10_cuts_42 {X : CT} {σ : St} {i1 : Int}  {P : Int → St → Prop} (hX : RI X P) (s : (-2147483648 ≤ i1 - 1 ∧ i1 - 1 < 2147483648))
    (k : P (i1 - 1) σ) :
    G mdX10_cuts X 42 [(1, vi i1)] [] σ := by
  refine G.iload_n (z := i1) dX10_cuts_42 rfl ?_
  refine G.iconst dX10_cuts_43 ?_
  refine G.isub dX10_cuts_44 ?_
  exact G.iret hX dX10_cuts_45 rfl s k
theorem bX10_stages_0 {X : CT} {σ : St} {i1 i2 i3 i4 i5 : Int}  {P : St → Prop} (hM : CV mdX10_putStep [vr 60, vi i1, vi i2, vi i3, vi i4, vi i5] σ P)
    (k : ∀ σ', P σ' → G mdX10_stages X 11 [(0, vr 60)] [] (σ')) :
    G mdX10_stages X 0 [(0, vr 60), (1, vi i1), (2, vi i2), (3, vi i3), (4, vi i4), (5, vi i5)] [] σ := by
  refine G.aload_n (o := 60) dX10_stages_0 rfl ?_
  refine G.iload_n (z := i1) dX10_stages_1 rfl ?_
  refine G.iload_n (z := i2) dX10_stages_2 rfl ?_
  refine G.iload_n (z := i3) dX10_stages_3 rfl ?_
  refine G.iload (z := i4) dX10_stages_4 rfl ?_
  refine G.iload (z := i5) dX10_stages_6 rfl ?_
  exact G.callVV (as := [vi i1, vi i2, vi i3, vi i4, vi i5]) (rest := []) dX10_stages_8 rfl vX10_132 (by decide) sh60 rfl (by decide) (Nat.le_of_ble_eq_true rfl) hM (fun σ' q => G.pick [0] (k σ' q))
theorem bX10_stages_11 {X : CT} {σ : St}  {P : Int → St → Prop} (hM : CI mdX8_isPossible [vr 107, vr 84] σ P)
    (k : ∀ z σ', inI z → P z σ' → G mdX10_stages X 21 [(0, vr 60)] [vi z] (σ')) :
    G mdX10_stages X 11 [(0, vr 60)] [] σ := by
  refine G.getsS (i := 502) dX10_stages_11 (by decide +kernel) ?_
  refine G.aload_n (o := 60) dX10_stages_14 rfl ?_
  refine G.getR (o' := 84) dX10_stages_15 fX10_67 sh60 rfl ?_
  exact G.callSI (as := [vr 107, vr 84]) (rest := []) dX10_stages_18 rfl vX10_139 (by decide) (Nat.le_of_ble_eq_true rfl) hM (fun z σ' hz q => G.pick [0] (k z σ' hz q))
theorem bX10_stages_21 {X : CT} {σ : St} {t0 : Int}  (s : (-2147483648 ≤ t0 ∧ t0 < 2147483648))
    (kt : ¬ t0 = 0 → G mdX10_stages X 26 [(0, vr 60)] [] σ)
    (kf : t0 = 0 → G mdX10_stages X 24 [] [] σ) :
    G mdX10_stages X 21 [(0, vr 60)] [vi t0] σ := by
  exact G.if_ne (tgt := 26) dX10_stages_21 (by decide) s (fun q => G.pick [0] (kt q)) (fun q => G.pick [] (kf q))
theorem bX10_stages_24 {X : CT} {σ : St}  {P : Int → St → Prop} (hX : RI X P)
    (k : P (-1) σ) :
    G mdX10_stages X 24 [] [] σ := by
  refine G.iconst dX10_stages_24 ?_
  exact G.iret hX dX10_stages_25 rfl ⟨by decide, by decide⟩ k
theorem bX10_stages_26 {X : CT} {σ : St}  {P : Int → St → Prop} (hM : CI mdX10_appendStep [vr 60, vr 4] σ P)
    (k : ∀ z σ', inI z → P z σ' → G mdX10_stages X 37 [] [vi z] (σ')) :
    G mdX10_stages X 26 [(0, vr 60)] [] σ := by
  refine G.aload_n (o := 60) dX10_stages_26 rfl ?_
  refine G.aload_n (o := 60) dX10_stages_27 rfl ?_
  refine G.getR (o' := 0) dX10_stages_28 fX10_12 sh60 rfl ?_
  refine G.getR (o' := 4) dX10_stages_31 fX10_159 (sh_st st_0) rfl ?_
  exact G.callVI (as := [vr 4]) (rest := []) dX10_stages_34 rfl vX10_147 (by decide) sh60 rfl (by decide) (Nat.le_of_ble_eq_true rfl) hM (fun z σ' hz q => G.pick [] (k z σ' hz q))
theorem bX10_stages_37 {X : CT} {σ : St} {t0 : Int}  {P : Int → St → Prop} (hX : RI X P) (s : (-2147483648 ≤ t0 ∧ t0 < 2147483648))
    (k : P t0 σ) :
    G mdX10_stages X 37 [] [vi t0] σ := by
  exact G.iret hX dX10_stages_37 rfl s k
theorem bX10_drops_0 {X : CT} {σ : St} {i1 : Int}  (s : (-2147483648 ≤ i1 ∧ i1 < 2147483648))
    (kt : i1 < 0 → G mdX10_drops X 20 [] [] σ)
    (kf : 0 ≤ i1 → G mdX10_drops X 15 [(0, vr 60), (1, vi i1), (2, vi (σ 4 2))] [] σ) :
    G mdX10_drops X 0 [(0, vr 60), (1, vi i1)] [] σ := by
  refine G.aload_n (o := 60) dX10_drops_0 rfl ?_
  refine G.getR (o' := 0) dX10_drops_1 fX10_12 sh60 rfl ?_
  refine G.getR (o' := 4) dX10_drops_4 fX10_159 (sh_st st_0) rfl ?_
  refine G.getI (j := 2) dX10_drops_7 fX10_151 (sh_sp (sp_chain st_0)) rfl rfl rfl ?_
  refine G.istore_n dX10_drops_10 (by decide) rfl ?_
  refine G.iload_n (z := i1) dX10_drops_11 rfl ?_
  exact G.if_lt (tgt := 20) dX10_drops_12 (by decide) s (fun q => G.pick [] (kt q)) (fun q => G.pick [0, 1, 2] (kf q))
theorem bX10_drops_15 {X : CT} {σ : St} {i1 i2 : Int}  (s : (-2147483648 ≤ i1 ∧ i1 < 2147483648) ∧ (-2147483648 ≤ i2 ∧ i2 < 2147483648))
    (kt : i1 < i2 → G mdX10_drops X 22 [(0, vr 60), (1, vi i1), (2, vi i2)] [] σ)
    (kf : i2 ≤ i1 → G mdX10_drops X 20 [] [] σ) :
    G mdX10_drops X 15 [(0, vr 60), (1, vi i1), (2, vi i2)] [] σ := by
  refine G.iload_n (z := i1) dX10_drops_15 rfl ?_
  refine G.iload_n (z := i2) dX10_drops_16 rfl ?_
  exact G.icmp_lt (tgt := 22) dX10_drops_17 (by decide) s.1 s.2 (fun q => G.pick [0, 1, 2] (kt q)) (fun q => G.pick [] (kf q))
theorem bX10_drops_20 {X : CT} {σ : St}  {P : Int → St → Prop} (hX : RI X P)
    (k : P (-1) σ) :
    G mdX10_drops X 20 [] [] σ := by
  refine G.iconst dX10_drops_20 ?_
  exact G.iret hX dX10_drops_21 rfl ⟨by decide, by decide⟩ k
theorem bX10_drops_22 {X : CT} {σ : St} {i1 i2 : Int}  {P : St → Prop} (hM : CV mdX3_remember [vr 63, vr 0] σ P)
    (k : ∀ σ', P σ' → G mdX10_drops X 33 [(0, vr 60), (1, vi i1), (2, vi i2)] [] (σ')) :
    G mdX10_drops X 22 [(0, vr 60), (1, vi i1), (2, vi i2)] [] σ := by
  refine G.aload_n (o := 60) dX10_drops_22 rfl ?_
  refine G.getR (o' := 63) dX10_drops_23 fX10_30 sh60 rfl ?_
  refine G.aload_n (o := 60) dX10_drops_26 rfl ?_
  refine G.getR (o' := 0) dX10_drops_27 fX10_12 sh60 rfl ?_
  exact G.callVV (as := [vr 0]) (rest := []) dX10_drops_30 rfl vX10_97 (by decide) sh63 rfl (by decide) (Nat.le_of_ble_eq_true rfl) hM (fun σ' q => G.pick [0, 1, 2] (k σ' q))
theorem bX10_drops_33 {X : CT} {σ : St} {i1 i2 : Int}  {P : St → Prop} (hM : CV mdX8_remove [vr 4, vi i1] σ P)
    (k : ∀ σ', P σ' → G mdX10_drops X 44 [(2, vi i2)] [] (σ')) :
    G mdX10_drops X 33 [(0, vr 60), (1, vi i1), (2, vi i2)] [] σ := by
  refine G.aload_n (o := 60) dX10_drops_33 rfl ?_
  refine G.getR (o' := 0) dX10_drops_34 fX10_12 sh60 rfl ?_
  refine G.getR (o' := 4) dX10_drops_37 fX10_159 (sh_st st_0) rfl ?_
  refine G.iload_n (z := i1) dX10_drops_40 rfl ?_
  exact G.callVV (as := [vi i1]) (rest := []) dX10_drops_41 rfl vX10_152 (by decide) (sh_sp (sp_chain st_0)) rfl (by decide) (Nat.le_of_ble_eq_true rfl) hM (fun σ' q => G.pick [2] (k σ' q))
theorem bX10_drops_44 {X : CT} {σ : St} {i2 : Int}  {P : Int → St → Prop} (hX : RI X P) (s : (-2147483648 ≤ i2 - 1 ∧ i2 - 1 < 2147483648))
    (k : P (i2 - 1) σ) :
    G mdX10_drops X 44 [(2, vi i2)] [] σ := by
  refine G.iload_n (z := i2) dX10_drops_44 rfl ?_
  refine G.iconst dX10_drops_45 ?_
  refine G.isub dX10_drops_46 ?_
  exact G.iret hX dX10_drops_47 rfl s k
theorem bX10_learns_0 {X : CT} {σ : St} {i1 i2 : Int}  {P : Int → St → Prop} (hM : CI mdX10_isPair [vi i1, vi i2] σ P)
    (k : ∀ z σ', inI z → P z σ' → G mdX10_learns X 5 [(0, vr 60), (1, vi i1), (2, vi i2)] [vi z] (σ')) :
    G mdX10_learns X 0 [(0, vr 60), (1, vi i1), (2, vi i2)] [] σ := by
  refine G.iload_n (z := i1) dX10_learns_0 rfl ?_
  refine G.iload_n (z := i2) dX10_learns_1 rfl ?_
  exact G.callSI (as := [vi i1, vi i2]) (rest := []) dX10_learns_2 rfl vX10_162 (by decide) (Nat.le_of_ble_eq_true rfl) hM (fun z σ' hz q => G.pick [0, 1, 2] (k z σ' hz q))
theorem bX10_learns_5 {X : CT} {σ : St} {i1 i2 t0 : Int}  (s : (-2147483648 ≤ t0 ∧ t0 < 2147483648))
    (kt : ¬ t0 = 0 → G mdX10_learns X 10 [(0, vr 60), (1, vi i1), (2, vi i2)] [] σ)
    (kf : t0 = 0 → G mdX10_learns X 8 [] [] σ) :
    G mdX10_learns X 5 [(0, vr 60), (1, vi i1), (2, vi i2)] [vi t0] σ := by
  exact G.if_ne (tgt := 10) dX10_learns_5 (by decide) s (fun q => G.pick [0, 1, 2] (kt q)) (fun q => G.pick [] (kf q))
theorem bX10_learns_8 {X : CT} {σ : St}  {P : Int → St → Prop} (hX : RI X P)
    (k : P (-1) σ) :
    G mdX10_learns X 8 [] [] σ := by
  refine G.iconst dX10_learns_8 ?_
  exact G.iret hX dX10_learns_9 rfl ⟨by decide, by decide⟩ k
theorem bX10_learns_10 {X : CT} {σ : St} {i1 i2 : Int}  {P : Int → St → Prop} (hM : CI mdX10_findTaps [vr 60, vi i1, vi i2] σ P)
    (k : ∀ z σ', inI z → P z σ' → G mdX10_learns X 16 [(0, vr 60)] [vi z] (σ')) :
    G mdX10_learns X 10 [(0, vr 60), (1, vi i1), (2, vi i2)] [] σ := by
  refine G.aload_n (o := 60) dX10_learns_10 rfl ?_
  refine G.iload_n (z := i1) dX10_learns_11 rfl ?_
  refine G.iload_n (z := i2) dX10_learns_12 rfl ?_
  exact G.callVI (as := [vi i1, vi i2]) (rest := []) dX10_learns_13 rfl vX10_165 (by decide) sh60 rfl (by decide) (Nat.le_of_ble_eq_true rfl) hM (fun z σ' hz q => G.pick [0] (k z σ' hz q))
theorem bX10_learns_16 {X : CT} {σ : St} {t0 : Int}  (s : (-2147483648 ≤ t0 ∧ t0 < 2147483648))
    (kt : ¬ t0 = 0 → G mdX10_learns X 22 [(0, vr 60)] [] σ)
    (kf : t0 = 0 → G mdX10_learns X 19 [] [] σ) :
    G mdX10_learns X 16 [(0, vr 60)] [vi t0] σ := by
  exact G.if_ne (tgt := 22) dX10_learns_16 (by decide) s (fun q => G.pick [0] (kt q)) (fun q => G.pick [] (kf q))
theorem bX10_learns_19 {X : CT} {σ : St}  {P : Int → St → Prop} (hX : RI X P)
    (k : P (-2) σ) :
    G mdX10_learns X 19 [] [] σ := by
  refine G.bipush dX10_learns_19 (by decide) ?_
  exact G.iret hX dX10_learns_21 rfl ⟨by decide, by decide⟩ k
theorem bX10_learns_22 {X : CT} {σ : St}  {P : St → Prop} (hM : CV mdX4_invert [vr 85] σ P)
    (k : ∀ σ', P σ' → G mdX10_learns X 29 [(0, vr 60)] [] (σ')) :
    G mdX10_learns X 22 [(0, vr 60)] [] σ := by
  refine G.aload_n (o := 60) dX10_learns_22 rfl ?_
  refine G.getR (o' := 85) dX10_learns_23 fX10_74 sh60 rfl ?_
  exact G.callVV (as := []) (rest := []) dX10_learns_26 rfl vX10_168 (by decide) (sh_mx mx_85) rfl (by decide) (Nat.le_of_ble_eq_true rfl) hM (fun σ' q => G.pick [0] (k σ' q))
theorem bX10_learns_29 {X : CT} {σ : St}  {P : St → Prop} (hM : CV mdX10_putStep [vr 60, vi 1, vi (σ 85 0), vi (σ 85 1), vi (σ 85 2), vi (σ 85 3)] σ P)
    (k : ∀ σ', P σ' → G mdX10_learns X 62 [(0, vr 60)] [] (σ')) :
    G mdX10_learns X 29 [(0, vr 60)] [] σ := by
  refine G.aload_n (o := 60) dX10_learns_29 rfl ?_
  refine G.iconst dX10_learns_30 ?_
  refine G.aload_n (o := 60) dX10_learns_31 rfl ?_
  refine G.getR (o' := 85) dX10_learns_32 fX10_74 sh60 rfl ?_
  refine G.getI (j := 0) dX10_learns_35 fX10_171 (sh_mx mx_85) rfl rfl rfl ?_
  refine G.aload_n (o := 60) dX10_learns_38 rfl ?_
  refine G.getR (o' := 85) dX10_learns_39 fX10_74 sh60 rfl ?_
  refine G.getI (j := 1) dX10_learns_42 fX10_174 (sh_mx mx_85) rfl rfl rfl ?_
  refine G.aload_n (o := 60) dX10_learns_45 rfl ?_
  refine G.getR (o' := 85) dX10_learns_46 fX10_74 sh60 rfl ?_
  refine G.getI (j := 2) dX10_learns_49 fX10_177 (sh_mx mx_85) rfl rfl rfl ?_
  refine G.aload_n (o := 60) dX10_learns_52 rfl ?_
  refine G.getR (o' := 85) dX10_learns_53 fX10_74 sh60 rfl ?_
  refine G.getI (j := 3) dX10_learns_56 fX10_180 (sh_mx mx_85) rfl rfl rfl ?_
  exact G.callVV (as := [vi 1, vi (σ 85 0), vi (σ 85 1), vi (σ 85 2), vi (σ 85 3)]) (rest := []) dX10_learns_59 rfl vX10_132 (by decide) sh60 rfl (by decide) (Nat.le_of_ble_eq_true rfl) hM (fun σ' q => G.pick [0] (k σ' q))
theorem bX10_learns_62 {X : CT} {σ : St}  {P : Int → St → Prop} (hM : CI mdX10_appendStep [vr 60, vr 4] σ P)
    (k : ∀ z σ', inI z → P z σ' → G mdX10_learns X 73 [] [vi z] (σ')) :
    G mdX10_learns X 62 [(0, vr 60)] [] σ := by
  refine G.aload_n (o := 60) dX10_learns_62 rfl ?_
  refine G.aload_n (o := 60) dX10_learns_63 rfl ?_
  refine G.getR (o' := 0) dX10_learns_64 fX10_12 sh60 rfl ?_
  refine G.getR (o' := 4) dX10_learns_67 fX10_159 (sh_st st_0) rfl ?_
  exact G.callVI (as := [vr 4]) (rest := []) dX10_learns_70 rfl vX10_147 (by decide) sh60 rfl (by decide) (Nat.le_of_ble_eq_true rfl) hM (fun z σ' hz q => G.pick [] (k z σ' hz q))
theorem bX10_learns_73 {X : CT} {σ : St} {t0 : Int}  {P : Int → St → Prop} (hX : RI X P) (s : (-2147483648 ≤ t0 ∧ t0 < 2147483648))
    (k : P t0 σ) :
    G mdX10_learns X 73 [] [vi t0] σ := by
  exact G.iret hX dX10_learns_73 rfl s k
theorem bX10_orders_0 {X : CT} {σ : St}  {P : Int → St → Prop} (hM : CI mdX10_findBestOrder [vr 60] σ P)
    (k : ∀ z σ', inI z → P z σ' → G mdX10_orders X 4 [(0, vr 60)] [vi z] (σ')) :
    G mdX10_orders X 0 [(0, vr 60)] [] σ := by
  refine G.aload_n (o := 60) dX10_orders_0 rfl ?_
  exact G.callVI (as := []) (rest := []) dX10_orders_1 rfl vX10_183 (by decide) sh60 rfl (by decide) (Nat.le_of_ble_eq_true rfl) hM (fun z σ' hz q => G.pick [0] (k z σ' hz q))
theorem bX10_orders_4 {X : CT} {σ : St} {t0 : Int}  {P : Int → St → Prop} (hM : CI mdX0_bestIsPresent [vr 81] σ P)
    (k : ∀ z σ', inI z → P z σ' → G mdX10_orders X 12 [(0, vr 60), (1, vi t0)] [vi z] (σ')) :
    G mdX10_orders X 4 [(0, vr 60)] [vi t0] σ := by
  refine G.istore_n dX10_orders_4 (by decide) rfl ?_
  refine G.aload_n (o := 60) dX10_orders_5 rfl ?_
  refine G.getR (o' := 81) dX10_orders_6 fX10_61 sh60 rfl ?_
  exact G.callVI (as := []) (rest := []) dX10_orders_9 rfl vX10_187 (by decide) sh81 rfl (by decide) (Nat.le_of_ble_eq_true rfl) hM (fun z σ' hz q => G.pick [0, 1] (k z σ' hz q))
theorem bX10_orders_12 {X : CT} {σ : St} {i1 t0 : Int}  (s : (-2147483648 ≤ t0 ∧ t0 < 2147483648))
    (kt : t0 = 0 → G mdX10_orders X 18 [(0, vr 60), (1, vi i1)] [] σ)
    (kf : ¬ t0 = 0 → G mdX10_orders X 15 [] [] σ) :
    G mdX10_orders X 12 [(0, vr 60), (1, vi i1)] [vi t0] σ := by
  exact G.if_eq (tgt := 18) dX10_orders_12 (by decide) s (fun q => G.pick [0, 1] (kt q)) (fun q => G.pick [] (kf q))
theorem bX10_orders_15 {X : CT} {σ : St}  {P : Int → St → Prop} (hX : RI X P)
    (k : P (-2) σ) :
    G mdX10_orders X 15 [] [] σ := by
  refine G.bipush dX10_orders_15 (by decide) ?_
  exact G.iret hX dX10_orders_17 rfl ⟨by decide, by decide⟩ k
theorem bX10_orders_18 {X : CT} {σ : St} {i1 : Int}  {P : St → Prop} (hM : CV mdX3_remember [vr 63, vr 0] σ P)
    (k : ∀ σ', P σ' → G mdX10_orders X 29 [(0, vr 60), (1, vi i1)] [] (σ')) :
    G mdX10_orders X 18 [(0, vr 60), (1, vi i1)] [] σ := by
  refine G.aload_n (o := 60) dX10_orders_18 rfl ?_
  refine G.getR (o' := 63) dX10_orders_19 fX10_30 sh60 rfl ?_
  refine G.aload_n (o := 60) dX10_orders_22 rfl ?_
  refine G.getR (o' := 0) dX10_orders_23 fX10_12 sh60 rfl ?_
  exact G.callVV (as := [vr 0]) (rest := []) dX10_orders_26 rfl vX10_97 (by decide) sh63 rfl (by decide) (Nat.le_of_ble_eq_true rfl) hM (fun σ' q => G.pick [0, 1] (k σ' q))
theorem bX10_orders_29 {X : CT} {σ : St} {i1 : Int}  {P : St → Prop} (hM : CV mdX8_takeFrom [vr 10, vr 4] σ P)
    (k : ∀ σ', P σ' → G mdX10_orders X 46 [(0, vr 60), (1, vi i1)] [] (σ')) :
    G mdX10_orders X 29 [(0, vr 60), (1, vi i1)] [] σ := by
  refine G.aload_n (o := 60) dX10_orders_29 rfl ?_
  refine G.getR (o' := 6) dX10_orders_30 fX10_16 sh60 rfl ?_
  refine G.getR (o' := 10) dX10_orders_33 fX10_159 (sh_st st_6) rfl ?_
  refine G.aload_n (o := 60) dX10_orders_36 rfl ?_
  refine G.getR (o' := 0) dX10_orders_37 fX10_12 sh60 rfl ?_
  refine G.getR (o' := 4) dX10_orders_40 fX10_159 (sh_st st_0) rfl ?_
  exact G.callVV (as := [vr 4]) (rest := []) dX10_orders_43 rfl vX10_191 (by decide) (sh_sp (sp_chain st_6)) rfl (by decide) (Nat.le_of_ble_eq_true rfl) hM (fun σ' q => G.pick [0, 1] (k σ' q))
theorem bX10_orders_46 {X : CT} {σ : St} {i1 : Int}  {P : St → Prop} (hM : CV mdX8_arrange [vr 4, vr 10, vr 83] σ P)
    (k : ∀ σ', P σ' → G mdX10_orders X 70 [(1, vi i1)] [] (σ')) :
    G mdX10_orders X 46 [(0, vr 60), (1, vi i1)] [] σ := by
  refine G.aload_n (o := 60) dX10_orders_46 rfl ?_
  refine G.getR (o' := 0) dX10_orders_47 fX10_12 sh60 rfl ?_
  refine G.getR (o' := 4) dX10_orders_50 fX10_159 (sh_st st_0) rfl ?_
  refine G.aload_n (o := 60) dX10_orders_53 rfl ?_
  refine G.getR (o' := 6) dX10_orders_54 fX10_16 sh60 rfl ?_
  refine G.getR (o' := 10) dX10_orders_57 fX10_159 (sh_st st_6) rfl ?_
  refine G.aload_n (o := 60) dX10_orders_60 rfl ?_
  refine G.getR (o' := 81) dX10_orders_61 fX10_61 sh60 rfl ?_
  refine G.getR (o' := 83) dX10_orders_64 fX10_194 sh81 rfl ?_
  exact G.callVV (as := [vr 10, vr 83]) (rest := []) dX10_orders_67 rfl vX10_197 (by decide) (sh_sp (sp_chain st_0)) rfl (by decide) (Nat.le_of_ble_eq_true rfl) hM (fun σ' q => G.pick [1] (k σ' q))
theorem bX10_orders_70 {X : CT} {σ : St} {i1 : Int}  {P : Int → St → Prop} (hX : RI X P) (s : (-2147483648 ≤ i1 ∧ i1 < 2147483648))
    (k : P i1 σ) :
    G mdX10_orders X 70 [(1, vi i1)] [] σ := by
  refine G.iload_n (z := i1) dX10_orders_70 rfl ?_
  exact G.iret hX dX10_orders_71 rfl s k
theorem bX10_hears_0 {X : CT} {σ : St}  {P : Int → St → Prop} (hM : CI mdX10_errorsAfter [vr 60, vi (σ 4 2)] σ P)
    (k : ∀ z σ', inI z → P z σ' → G mdX10_hears X 14 [(0, vr 60)] [vi z] (σ')) :
    G mdX10_hears X 0 [(0, vr 60)] [] σ := by
  refine G.aload_n (o := 60) dX10_hears_0 rfl ?_
  refine G.aload_n (o := 60) dX10_hears_1 rfl ?_
  refine G.getR (o' := 0) dX10_hears_2 fX10_12 sh60 rfl ?_
  refine G.getR (o' := 4) dX10_hears_5 fX10_159 (sh_st st_0) rfl ?_
  refine G.getI (j := 2) dX10_hears_8 fX10_151 (sh_sp (sp_chain st_0)) rfl rfl rfl ?_
  exact G.callVI (as := [vi (σ 4 2)]) (rest := []) dX10_hears_11 rfl vX10_201 (by decide) sh60 rfl (by decide) (Nat.le_of_ble_eq_true rfl) hM (fun z σ' hz q => G.pick [0] (k z σ' hz q))
theorem bX10_hears_14 {X : CT} {σ : St} {t0 : Int}  {P : St → Prop} (hM : CV mdX3_remember [vr 63, vr 0] σ P)
    (k : ∀ σ', P σ' → G mdX10_hears X 26 [(0, vr 60), (1, vi t0)] [] (σ')) :
    G mdX10_hears X 14 [(0, vr 60)] [vi t0] σ := by
  refine G.istore_n dX10_hears_14 (by decide) rfl ?_
  refine G.aload_n (o := 60) dX10_hears_15 rfl ?_
  refine G.getR (o' := 63) dX10_hears_16 fX10_30 sh60 rfl ?_
  refine G.aload_n (o := 60) dX10_hears_19 rfl ?_
  refine G.getR (o' := 0) dX10_hears_20 fX10_12 sh60 rfl ?_
  exact G.callVV (as := [vr 0]) (rest := []) dX10_hears_23 rfl vX10_97 (by decide) sh63 rfl (by decide) (Nat.le_of_ble_eq_true rfl) hM (fun σ' q => G.pick [0, 1] (k σ' q))
theorem bX10_hears_26 {X : CT} {σ : St} {i1 : Int}  (n0 : vf_n32 (FP.fmul 1061158912 (fl ((wr σ 0 5 ((σ 0 5) + 1)) 0 4)))) (n1 : vf_n32 (FP.fmul 1048576000 (FP.i2f (Int32.ofInt i1)))) (n2 : vf_n32 (FP.fadd (FP.fmul 1061158912 (fl ((wr σ 0 5 ((σ 0 5) + 1)) 0 4))) (FP.fmul 1048576000 (FP.i2f (Int32.ofInt i1))))) {P : Int → St → Prop} (hX : RI X P) (s : (-2147483648 ≤ i1 ∧ i1 < 2147483648))
    (k : P i1 (wr (wr σ 0 5 ((σ 0 5) + 1)) 0 4 (FP.fadd (FP.fmul 1061158912 (fl ((wr σ 0 5 ((σ 0 5) + 1)) 0 4))) (FP.fmul 1048576000 (FP.i2f (Int32.ofInt i1)))).toNat)) :
    G mdX10_hears X 26 [(0, vr 60), (1, vi i1)] [] σ := by
  refine G.aload_n (o := 60) dX10_hears_26 rfl ?_
  refine G.getR (o' := 0) dX10_hears_27 fX10_12 sh60 rfl ?_
  refine G.dup dX10_hears_30 ?_
  refine G.getI (j := 5) dX10_hears_31 fX10_204 (sh_st st_0) rfl rfl rfl ?_
  refine G.iconst dX10_hears_34 ?_
  refine G.iadd dX10_hears_35 ?_
  refine G.putI (j := 5) dX10_hears_36 fX10_204 (sh_st st_0) rfl rfl rfl rfl rfl ?_
  refine G.aload_n (o := 60) dX10_hears_39 rfl ?_
  refine G.getR (o' := 0) dX10_hears_40 fX10_12 sh60 rfl ?_
  refine G.ldcf (i := 687) (v := 1061158912) dX10_hears_43 (by decide +kernel) ?_
  refine G.aload_n (o := 60) dX10_hears_45 rfl ?_
  refine G.getR (o' := 0) dX10_hears_46 fX10_12 sh60 rfl ?_
  refine G.getF (j := 4) dX10_hears_49 fX10_208 (sh_st st_0) rfl rfl ?_
  refine G.fmul dX10_hears_52 n0 ?_
  refine G.ldcf (i := 688) (v := 1048576000) dX10_hears_53 (by decide +kernel) ?_
  refine G.iload_n (z := i1) dX10_hears_55 rfl ?_
  refine G.i2f dX10_hears_56 ?_
  refine G.fmul dX10_hears_57 n1 ?_
  refine G.fadd dX10_hears_58 n2 ?_
  refine G.putF (j := 4) dX10_hears_59 fX10_208 (sh_st st_0) rfl rfl rfl rfl rfl ?_
  refine G.iload_n (z := i1) dX10_hears_62 rfl ?_
  exact G.iret hX dX10_hears_63 rfl s k
theorem bX10_undo_0 {X : CT} {σ : St}  (s : (-2147483648 ≤ σ 63 2 ∧ σ 63 2 < 2147483648))
    (kt : ¬ σ 63 2 = 0 → G mdX10_undo X 13 [(0, vr 60)] [] σ)
    (kf : σ 63 2 = 0 → G mdX10_undo X 10 [] [] σ) :
    G mdX10_undo X 0 [(0, vr 60)] [] σ := by
  refine G.aload_n (o := 60) dX10_undo_0 rfl ?_
  refine G.getR (o' := 63) dX10_undo_1 fX10_30 sh60 rfl ?_
  refine G.getI (j := 2) dX10_undo_4 fX10_213 sh63 rfl rfl rfl ?_
  exact G.if_ne (tgt := 13) dX10_undo_7 (by decide) s (fun q => G.pick [0] (kt q)) (fun q => G.pick [] (kf q))
theorem bX10_undo_10 {X : CT} {σ : St}  {P : Int → St → Prop} (hX : RI X P)
    (k : P (-2) σ) :
    G mdX10_undo X 10 [] [] σ := by
  refine G.bipush dX10_undo_10 (by decide) ?_
  exact G.iret hX dX10_undo_12 rfl ⟨by decide, by decide⟩ k
theorem bX10_undo_13 {X : CT} {σ : St}  {P : St → Prop} (hM : CV mdX3_restore [vr 63, vr 0] σ P)
    (k : ∀ σ', P σ' → G mdX10_undo X 24 [(0, vr 60)] [] (σ')) :
    G mdX10_undo X 13 [(0, vr 60)] [] σ := by
  refine G.aload_n (o := 60) dX10_undo_13 rfl ?_
  refine G.getR (o' := 63) dX10_undo_14 fX10_30 sh60 rfl ?_
  refine G.aload_n (o := 60) dX10_undo_17 rfl ?_
  refine G.getR (o' := 0) dX10_undo_18 fX10_12 sh60 rfl ?_
  exact G.callVV (as := [vr 0]) (rest := []) dX10_undo_21 rfl vX10_214 (by decide) sh63 rfl (by decide) (Nat.le_of_ble_eq_true rfl) hM (fun σ' q => G.pick [0] (k σ' q))
theorem bX10_undo_24 {X : CT} {σ : St}  {P : Int → St → Prop} (hX : RI X P) (s : (-2147483648 ≤ σ 63 2 ∧ σ 63 2 < 2147483648))
    (k : P (σ 63 2) σ) :
    G mdX10_undo X 24 [(0, vr 60)] [] σ := by
  refine G.aload_n (o := 60) dX10_undo_24 rfl ?_
  refine G.getR (o' := 63) dX10_undo_25 fX10_30 sh60 rfl ?_
  refine G.getI (j := 2) dX10_undo_28 fX10_213 sh63 rfl rfl rfl ?_
  exact G.iret hX dX10_undo_31 rfl s k
theorem bX10_at_0 {X : CT} {σ : St} {i1 i2 i3 : Int}  {P : Int → St → Prop} (hM : CI mdX10_isSpot [vi i1, vi i2] σ P)
    (k : ∀ z σ', inI z → P z σ' → G mdX10_at X 5 [(0, vr 60), (1, vi i1), (2, vi i2), (3, vi i3)] [vi z] (σ')) :
    G mdX10_at X 0 [(0, vr 60), (1, vi i1), (2, vi i2), (3, vi i3)] [] σ := by
  refine G.iload_n (z := i1) dX10_at_0 rfl ?_
  refine G.iload_n (z := i2) dX10_at_1 rfl ?_
  exact G.callSI (as := [vi i1, vi i2]) (rest := []) dX10_at_2 rfl vX10_103 (by decide) (Nat.le_of_ble_eq_true rfl) hM (fun z σ' hz q => G.pick [0, 1, 2, 3] (k z σ' hz q))
theorem bX10_at_5 {X : CT} {σ : St} {i1 i2 i3 t0 : Int}  (s : (-2147483648 ≤ t0 ∧ t0 < 2147483648))
    (kt : t0 = 0 → G mdX10_at X 17 [] [] σ)
    (kf : ¬ t0 = 0 → G mdX10_at X 8 [(0, vr 60), (1, vi i1), (2, vi i2), (3, vi i3)] [] σ) :
    G mdX10_at X 5 [(0, vr 60), (1, vi i1), (2, vi i2), (3, vi i3)] [vi t0] σ := by
  exact G.if_eq (tgt := 17) dX10_at_5 (by decide) s (fun q => G.pick [] (kt q)) (fun q => G.pick [0, 1, 2, 3] (kf q))
theorem bX10_at_8 {X : CT} {σ : St} {i1 i2 i3 : Int}  (s : (-2147483648 ≤ i3 ∧ i3 < 2147483648))
    (kt : i3 < 0 → G mdX10_at X 17 [] [] σ)
    (kf : 0 ≤ i3 → G mdX10_at X 12 [(0, vr 60), (1, vi i1), (2, vi i2), (3, vi i3)] [] σ) :
    G mdX10_at X 8 [(0, vr 60), (1, vi i1), (2, vi i2), (3, vi i3)] [] σ := by
  refine G.iload_n (z := i3) dX10_at_8 rfl ?_
  exact G.if_lt (tgt := 17) dX10_at_9 (by decide) s (fun q => G.pick [] (kt q)) (fun q => G.pick [0, 1, 2, 3] (kf q))
theorem bX10_at_12 {X : CT} {σ : St} {i1 i2 i3 : Int}  (s : (-2147483648 ≤ i3 ∧ i3 < 2147483648))
    (kt : i3 ≤ 3 → G mdX10_at X 19 [(0, vr 60), (1, vi i1), (2, vi i2), (3, vi i3)] [] σ)
    (kf : 3 < i3 → G mdX10_at X 17 [] [] σ) :
    G mdX10_at X 12 [(0, vr 60), (1, vi i1), (2, vi i2), (3, vi i3)] [] σ := by
  refine G.iload_n (z := i3) dX10_at_12 rfl ?_
  refine G.iconst dX10_at_13 ?_
  exact G.icmp_le (tgt := 19) dX10_at_14 (by decide) s ⟨by decide, by decide⟩ (fun q => G.pick [0, 1, 2, 3] (kt q)) (fun q => G.pick [] (kf q))
theorem bX10_at_17 {X : CT} {σ : St}  {P : Int → St → Prop} (hX : RI X P)
    (k : P (-1) σ) :
    G mdX10_at X 17 [] [] σ := by
  refine G.iconst dX10_at_17 ?_
  exact G.iret hX dX10_at_18 rfl ⟨by decide, by decide⟩ k
theorem bX10_at_19 {X : CT} {σ : St} {i1 i2 i3 : Int}  (s : (-2147483648 ≤ i3 ∧ i3 < 2147483648))
    (kt : ¬ i3 = 0 → G mdX10_at X 42 [(0, vr 60), (3, vi i3), (4, vi ((i1 * 16) + i2))] [] σ)
    (kf : i3 = 0 → G mdX10_at X 31 [(0, vr 60), (4, vi ((i1 * 16) + i2))] [] σ) :
    G mdX10_at X 19 [(0, vr 60), (1, vi i1), (2, vi i2), (3, vi i3)] [] σ := by
  refine G.iload_n (z := i1) dX10_at_19 rfl ?_
  refine G.bipush dX10_at_20 (by decide) ?_
  refine G.imul dX10_at_22 ?_
  refine G.iload_n (z := i2) dX10_at_23 rfl ?_
  refine G.iadd dX10_at_24 ?_
  refine G.istore dX10_at_25 (by decide) rfl ?_
  refine G.iload_n (z := i3) dX10_at_27 rfl ?_
  exact G.if_ne (tgt := 42) dX10_at_28 (by decide) s (fun q => G.pick [0, 3, 4] (kt q)) (fun q => G.pick [0, 4] (kf q))
theorem bX10_at_31 {X : CT} {σ : St} {i4 : Int}  {P : Int → St → Prop} (hX : RI X P) (s : (0 ≤ i4 ∧ i4 < 32) ∧ (-2147483648 ≤ σ 1 i4 ∧ σ 1 i4 < 2147483648))
    (k : P (σ 1 i4) σ) :
    G mdX10_at X 31 [(0, vr 60), (4, vi i4)] [] σ := by
  refine G.aload_n (o := 60) dX10_at_31 rfl ?_
  refine G.getR (o' := 0) dX10_at_32 fX10_12 sh60 rfl ?_
  refine G.getR (o' := 1) dX10_at_35 fX10_110 (sh_st st_0) rfl ?_
  refine G.iload (z := i4) dX10_at_38 rfl ?_
  refine G.iald dX10_at_40 (sh_sent st_0) s.1 ?_
  exact G.iret hX dX10_at_41 rfl s.2 k
theorem bX10_at_42 {X : CT} {σ : St} {i3 i4 : Int}  (s : (-2147483648 ≤ i3 ∧ i3 < 2147483648))
    (kt : ¬ i3 = 1 → G mdX10_at X 59 [(0, vr 60), (3, vi i3), (4, vi i4)] [vr 0, vr 71] σ)
    (kf : i3 = 1 → G mdX10_at X 55 [(0, vr 60), (3, vi i3), (4, vi i4)] [vr 0, vr 71] σ) :
    G mdX10_at X 42 [(0, vr 60), (3, vi i3), (4, vi i4)] [] σ := by
  refine G.aload_n (o := 60) dX10_at_42 rfl ?_
  refine G.getR (o' := 71) dX10_at_43 fX10_51 sh60 rfl ?_
  refine G.aload_n (o := 60) dX10_at_46 rfl ?_
  refine G.getR (o' := 0) dX10_at_47 fX10_12 sh60 rfl ?_
  refine G.iload_n (z := i3) dX10_at_50 rfl ?_
  refine G.iconst dX10_at_51 ?_
  exact G.icmp_ne (tgt := 59) dX10_at_52 (by decide) s ⟨by decide, by decide⟩ (fun q => G.pick [0, 3, 4] (kt q)) (fun q => G.pick [0, 3, 4] (kf q))
theorem bX10_at_55 {X : CT} {σ : St} {i3 i4 : Int} 
    (k : G mdX10_at X 69 [(0, vr 60), (3, vi i3), (4, vi i4)] [vi 0, vr 0, vr 71] σ) :
    G mdX10_at X 55 [(0, vr 60), (3, vi i3), (4, vi i4)] [vr 0, vr 71] σ := by
  refine G.iconst dX10_at_55 ?_
  refine G.goto (tgt := 69) dX10_at_56 (by decide) ?_
  exact G.pick [0, 3, 4] k
theorem bX10_at_59 {X : CT} {σ : St} {i3 i4 : Int} 
    (k : G mdX10_at X 69 [(0, vr 60), (3, vi i3), (4, vi i4)] [vi (σ 4 2), vr 0, vr 71] σ) :
    G mdX10_at X 59 [(0, vr 60), (3, vi i3), (4, vi i4)] [vr 0, vr 71] σ := by
  refine G.aload_n (o := 60) dX10_at_59 rfl ?_
  refine G.getR (o' := 0) dX10_at_60 fX10_12 sh60 rfl ?_
  refine G.getR (o' := 4) dX10_at_63 fX10_159 (sh_st st_0) rfl ?_
  refine G.getI (j := 2) dX10_at_66 fX10_151 (sh_sp (sp_chain st_0)) rfl rfl rfl ?_
  exact G.pick [0, 3, 4] k
theorem bX10_at_69 {X : CT} {σ : St} {i3 i4 t2 : Int}  {P : St → Prop} (hM : CV mdX1_receive [vr 71, vr 0, vi t2] σ P)
    (k : ∀ σ', P σ' → G mdX10_at X 72 [(0, vr 60), (3, vi i3), (4, vi i4)] [] (σ')) :
    G mdX10_at X 69 [(0, vr 60), (3, vi i3), (4, vi i4)] [vi t2, vr 0, vr 71] σ := by
  exact G.callVV (as := [vr 0, vi t2]) (rest := []) dX10_at_69 rfl vX10_217 (by decide) (sh_bk bk_71) rfl (by decide) (Nat.le_of_ble_eq_true rfl) hM (fun σ' q => G.pick [0, 3, 4] (k σ' q))
theorem bX10_at_72 {X : CT} {σ : St} {i3 i4 : Int}  (s : (0 ≤ i4 ∧ i4 < 32) ∧ (-2147483648 ≤ i3 ∧ i3 < 2147483648))
    (kt : ¬ i3 = 3 → G mdX10_at X 97 [(5, vi (σ 72 i4))] [] σ)
    (kf : i3 = 3 → G mdX10_at X 89 [(5, vi (σ 72 i4))] [] σ) :
    G mdX10_at X 72 [(0, vr 60), (3, vi i3), (4, vi i4)] [] σ := by
  refine G.aload_n (o := 60) dX10_at_72 rfl ?_
  refine G.getR (o' := 71) dX10_at_73 fX10_51 sh60 rfl ?_
  refine G.getR (o' := 72) dX10_at_76 fX10_221 (sh_bk bk_71) rfl ?_
  refine G.iload (z := i4) dX10_at_79 rfl ?_
  refine G.iald dX10_at_81 (sh_bkn bk_71) s.1 ?_
  refine G.istore dX10_at_82 (by decide) rfl ?_
  refine G.iload_n (z := i3) dX10_at_84 rfl ?_
  refine G.iconst dX10_at_85 ?_
  exact G.icmp_ne (tgt := 97) dX10_at_86 (by decide) s.2 ⟨by decide, by decide⟩ (fun q => G.pick [5] (kt q)) (fun q => G.pick [5] (kf q))
theorem bX10_at_89 {X : CT} {σ : St} {i5 : Int}  {P : Int → St → Prop} (hM : CI mdX2_decided [vi i5] σ P)
    (k : ∀ z σ', inI z → P z σ' → G mdX10_at X 94 [] [vi z] (σ')) :
    G mdX10_at X 89 [(5, vi i5)] [] σ := by
  refine G.iload (z := i5) dX10_at_89 rfl ?_
  exact G.callSI (as := [vi i5]) (rest := []) dX10_at_91 rfl vX10_224 (by decide) (Nat.le_of_ble_eq_true rfl) hM (fun z σ' hz q => G.pick [] (k z σ' hz q))
theorem bX10_at_94 {X : CT} {σ : St} {t0 : Int} 
    (k : G mdX10_at X 99 [] [vi t0] σ) :
    G mdX10_at X 94 [] [vi t0] σ := by
  refine G.goto (tgt := 99) dX10_at_94 (by decide) ?_
  exact G.pick [] k
theorem bX10_at_97 {X : CT} {σ : St} {i5 : Int} 
    (k : G mdX10_at X 99 [] [vi i5] σ) :
    G mdX10_at X 97 [(5, vi i5)] [] σ := by
  refine G.iload (z := i5) dX10_at_97 rfl ?_
  exact G.pick [] k
theorem bX10_at_99 {X : CT} {σ : St} {t0 : Int}  {P : Int → St → Prop} (hX : RI X P) (s : (-2147483648 ≤ t0 ∧ t0 < 2147483648))
    (k : P t0 σ) :
    G mdX10_at X 99 [] [vi t0] σ := by
  exact G.iret hX dX10_at_99 rfl s k
theorem bX10_deed_0 {X : CT} {σ : St} {i1 i2 : Int}  {P : Int → St → Prop} (hM : CI mdX8_numberOf [vr 2, vi i1, vi i2] σ P)
    (k : ∀ z σ', inI z → P z σ' → G mdX10_deed X 12 [] [vi z] (σ')) :
    G mdX10_deed X 0 [(0, vr 60), (1, vi i1), (2, vi i2)] [] σ := by
  refine G.aload_n (o := 60) dX10_deed_0 rfl ?_
  refine G.getR (o' := 0) dX10_deed_1 fX10_12 sh60 rfl ?_
  refine G.getR (o' := 2) dX10_deed_4 fX10_143 (sh_st st_0) rfl ?_
  refine G.iload_n (z := i1) dX10_deed_7 rfl ?_
  refine G.iload_n (z := i2) dX10_deed_8 rfl ?_
  exact G.callVI (as := [vi i1, vi i2]) (rest := []) dX10_deed_9 rfl vX10_229 (by decide) (sh_sp (sp_line st_0)) rfl (by decide) (Nat.le_of_ble_eq_true rfl) hM (fun z σ' hz q => G.pick [] (k z σ' hz q))
theorem bX10_deed_12 {X : CT} {σ : St} {t0 : Int}  {P : Int → St → Prop} (hX : RI X P) (s : (-2147483648 ≤ t0 ∧ t0 < 2147483648))
    (k : P t0 σ) :
    G mdX10_deed X 12 [] [vi t0] σ := by
  exact G.iret hX dX10_deed_12 rfl s k
theorem bX10_stage_0 {X : CT} {σ : St} {i1 i2 : Int}  {P : Int → St → Prop} (hM : CI mdX8_numberOf [vr 4, vi i1, vi i2] σ P)
    (k : ∀ z σ', inI z → P z σ' → G mdX10_stage X 12 [] [vi z] (σ')) :
    G mdX10_stage X 0 [(0, vr 60), (1, vi i1), (2, vi i2)] [] σ := by
  refine G.aload_n (o := 60) dX10_stage_0 rfl ?_
  refine G.getR (o' := 0) dX10_stage_1 fX10_12 sh60 rfl ?_
  refine G.getR (o' := 4) dX10_stage_4 fX10_159 (sh_st st_0) rfl ?_
  refine G.iload_n (z := i1) dX10_stage_7 rfl ?_
  refine G.iload_n (z := i2) dX10_stage_8 rfl ?_
  exact G.callVI (as := [vi i1, vi i2]) (rest := []) dX10_stage_9 rfl vX10_229 (by decide) (sh_sp (sp_chain st_0)) rfl (by decide) (Nat.le_of_ble_eq_true rfl) hM (fun z σ' hz q => G.pick [] (k z σ' hz q))
theorem bX10_stage_12 {X : CT} {σ : St} {t0 : Int}  {P : Int → St → Prop} (hX : RI X P) (s : (-2147483648 ≤ t0 ∧ t0 < 2147483648))
    (k : P t0 σ) :
    G mdX10_stage X 12 [] [vi t0] σ := by
  exact G.iret hX dX10_stage_12 rfl s k
theorem bX10_wrong_0 {X : CT} {σ : St} {i1 : Int}  (s : (-2147483648 ≤ i1 ∧ i1 < 2147483648))
    (kt : i1 < 0 → G mdX10_wrong X 18 [] [] σ)
    (kf : 0 ≤ i1 → G mdX10_wrong X 4 [(0, vr 60), (1, vi i1)] [] σ) :
    G mdX10_wrong X 0 [(0, vr 60), (1, vi i1)] [] σ := by
  refine G.iload_n (z := i1) dX10_wrong_0 rfl ?_
  exact G.if_lt (tgt := 18) dX10_wrong_1 (by decide) s (fun q => G.pick [] (kt q)) (fun q => G.pick [0, 1] (kf q))
theorem bX10_wrong_4 {X : CT} {σ : St} {i1 : Int}  (s : (-2147483648 ≤ i1 ∧ i1 < 2147483648) ∧ (-2147483648 ≤ σ 4 2 ∧ σ 4 2 < 2147483648))
    (kt : i1 ≤ σ 4 2 → G mdX10_wrong X 20 [(0, vr 60), (1, vi i1)] [] σ)
    (kf : σ 4 2 < i1 → G mdX10_wrong X 18 [] [] σ) :
    G mdX10_wrong X 4 [(0, vr 60), (1, vi i1)] [] σ := by
  refine G.iload_n (z := i1) dX10_wrong_4 rfl ?_
  refine G.aload_n (o := 60) dX10_wrong_5 rfl ?_
  refine G.getR (o' := 0) dX10_wrong_6 fX10_12 sh60 rfl ?_
  refine G.getR (o' := 4) dX10_wrong_9 fX10_159 (sh_st st_0) rfl ?_
  refine G.getI (j := 2) dX10_wrong_12 fX10_151 (sh_sp (sp_chain st_0)) rfl rfl rfl ?_
  exact G.icmp_le (tgt := 20) dX10_wrong_15 (by decide) s.1 s.2 (fun q => G.pick [0, 1] (kt q)) (fun q => G.pick [] (kf q))
theorem bX10_wrong_18 {X : CT} {σ : St}  {P : Int → St → Prop} (hX : RI X P)
    (k : P (-1) σ) :
    G mdX10_wrong X 18 [] [] σ := by
  refine G.iconst dX10_wrong_18 ?_
  exact G.iret hX dX10_wrong_19 rfl ⟨by decide, by decide⟩ k
theorem bX10_wrong_20 {X : CT} {σ : St} {i1 : Int}  {P : Int → St → Prop} (hM : CI mdX10_errorsAfter [vr 60, vi i1] σ P)
    (k : ∀ z σ', inI z → P z σ' → G mdX10_wrong X 25 [] [vi z] (σ')) :
    G mdX10_wrong X 20 [(0, vr 60), (1, vi i1)] [] σ := by
  refine G.aload_n (o := 60) dX10_wrong_20 rfl ?_
  refine G.iload_n (z := i1) dX10_wrong_21 rfl ?_
  exact G.callVI (as := [vi i1]) (rest := []) dX10_wrong_22 rfl vX10_201 (by decide) sh60 rfl (by decide) (Nat.le_of_ble_eq_true rfl) hM (fun z σ' hz q => G.pick [] (k z σ' hz q))
theorem bX10_wrong_25 {X : CT} {σ : St} {t0 : Int}  {P : Int → St → Prop} (hX : RI X P) (s : (-2147483648 ≤ t0 ∧ t0 < 2147483648))
    (k : P t0 σ) :
    G mdX10_wrong X 25 [] [vi t0] σ := by
  exact G.iret hX dX10_wrong_25 rfl s k
theorem bX10_loss_0 {X : CT} {σ : St}  (n0 : vf_n32 (FP.fmul 1120403456 (fl (σ 0 4)))) {P : Int → St → Prop} (hX : RI X P) (s : (-2147483648 ≤ (FP.f2i (FP.fmul 1120403456 (fl (σ 0 4)))).toInt ∧ (FP.f2i (FP.fmul 1120403456 (fl (σ 0 4)))).toInt < 2147483648))
    (k : P ((FP.f2i (FP.fmul 1120403456 (fl (σ 0 4)))).toInt) σ) :
    G mdX10_loss X 0 [(0, vr 60)] [] σ := by
  refine G.ldcf (i := 722) (v := 1120403456) dX10_loss_0 (by decide +kernel) ?_
  refine G.aload_n (o := 60) dX10_loss_2 rfl ?_
  refine G.getR (o' := 0) dX10_loss_3 fX10_12 sh60 rfl ?_
  refine G.getF (j := 4) dX10_loss_6 fX10_208 (sh_st st_0) rfl rfl ?_
  refine G.fmul dX10_loss_9 n0 ?_
  refine G.f2i dX10_loss_10 ?_
  exact G.iret hX dX10_loss_11 rfl s k
theorem bX10_taps_0 {X : CT} {σ : St} {i1 i2 i3 : Int}  {P : Int → St → Prop} (hM : CI mdX10_isPair [vi i1, vi i2] σ P)
    (k : ∀ z σ', inI z → P z σ' → G mdX10_taps X 5 [(0, vr 60), (1, vi i1), (2, vi i2), (3, vi i3)] [vi z] (σ')) :
    G mdX10_taps X 0 [(0, vr 60), (1, vi i1), (2, vi i2), (3, vi i3)] [] σ := by
  refine G.iload_n (z := i1) dX10_taps_0 rfl ?_
  refine G.iload_n (z := i2) dX10_taps_1 rfl ?_
  exact G.callSI (as := [vi i1, vi i2]) (rest := []) dX10_taps_2 rfl vX10_162 (by decide) (Nat.le_of_ble_eq_true rfl) hM (fun z σ' hz q => G.pick [0, 1, 2, 3] (k z σ' hz q))
theorem bX10_taps_5 {X : CT} {σ : St} {i1 i2 i3 t0 : Int}  (s : (-2147483648 ≤ t0 ∧ t0 < 2147483648))
    (kt : t0 = 0 → G mdX10_taps X 17 [] [] σ)
    (kf : ¬ t0 = 0 → G mdX10_taps X 8 [(0, vr 60), (1, vi i1), (2, vi i2), (3, vi i3)] [] σ) :
    G mdX10_taps X 5 [(0, vr 60), (1, vi i1), (2, vi i2), (3, vi i3)] [vi t0] σ := by
  exact G.if_eq (tgt := 17) dX10_taps_5 (by decide) s (fun q => G.pick [] (kt q)) (fun q => G.pick [0, 1, 2, 3] (kf q))
theorem bX10_taps_8 {X : CT} {σ : St} {i1 i2 i3 : Int}  (s : (-2147483648 ≤ i3 ∧ i3 < 2147483648))
    (kt : i3 < 0 → G mdX10_taps X 17 [] [] σ)
    (kf : 0 ≤ i3 → G mdX10_taps X 12 [(0, vr 60), (1, vi i1), (2, vi i2), (3, vi i3)] [] σ) :
    G mdX10_taps X 8 [(0, vr 60), (1, vi i1), (2, vi i2), (3, vi i3)] [] σ := by
  refine G.iload_n (z := i3) dX10_taps_8 rfl ?_
  exact G.if_lt (tgt := 17) dX10_taps_9 (by decide) s (fun q => G.pick [] (kt q)) (fun q => G.pick [0, 1, 2, 3] (kf q))
theorem bX10_taps_12 {X : CT} {σ : St} {i1 i2 i3 : Int}  (s : (-2147483648 ≤ i3 ∧ i3 < 2147483648))
    (kt : i3 ≤ 3 → G mdX10_taps X 19 [(0, vr 60), (1, vi i1), (2, vi i2), (3, vi i3)] [] σ)
    (kf : 3 < i3 → G mdX10_taps X 17 [] [] σ) :
    G mdX10_taps X 12 [(0, vr 60), (1, vi i1), (2, vi i2), (3, vi i3)] [] σ := by
  refine G.iload_n (z := i3) dX10_taps_12 rfl ?_
  refine G.iconst dX10_taps_13 ?_
  exact G.icmp_le (tgt := 19) dX10_taps_14 (by decide) s ⟨by decide, by decide⟩ (fun q => G.pick [0, 1, 2, 3] (kt q)) (fun q => G.pick [] (kf q))
theorem bX10_taps_17 {X : CT} {σ : St}  {P : Int → St → Prop} (hX : RI X P)
    (k : P (-1) σ) :
    G mdX10_taps X 17 [] [] σ := by
  refine G.iconst dX10_taps_17 ?_
  exact G.iret hX dX10_taps_18 rfl ⟨by decide, by decide⟩ k
theorem bX10_taps_19 {X : CT} {σ : St} {i1 i2 i3 : Int}  {P : Int → St → Prop} (hM : CI mdX10_findTaps [vr 60, vi i1, vi i2] σ P)
    (k : ∀ z σ', inI z → P z σ' → G mdX10_taps X 25 [(0, vr 60), (3, vi i3)] [vi z] (σ')) :
    G mdX10_taps X 19 [(0, vr 60), (1, vi i1), (2, vi i2), (3, vi i3)] [] σ := by
  refine G.aload_n (o := 60) dX10_taps_19 rfl ?_
  refine G.iload_n (z := i1) dX10_taps_20 rfl ?_
  refine G.iload_n (z := i2) dX10_taps_21 rfl ?_
  exact G.callVI (as := [vi i1, vi i2]) (rest := []) dX10_taps_22 rfl vX10_165 (by decide) sh60 rfl (by decide) (Nat.le_of_ble_eq_true rfl) hM (fun z σ' hz q => G.pick [0, 3] (k z σ' hz q))
theorem bX10_taps_25 {X : CT} {σ : St} {i3 t0 : Int}  (s : (-2147483648 ≤ t0 ∧ t0 < 2147483648))
    (kt : t0 = 0 → G mdX10_taps X 39 [] [] σ)
    (kf : ¬ t0 = 0 → G mdX10_taps X 28 [(0, vr 60), (3, vi i3)] [] σ) :
    G mdX10_taps X 25 [(0, vr 60), (3, vi i3)] [vi t0] σ := by
  exact G.if_eq (tgt := 39) dX10_taps_25 (by decide) s (fun q => G.pick [] (kt q)) (fun q => G.pick [0, 3] (kf q))
theorem bX10_taps_28 {X : CT} {σ : St} {i3 : Int}  {P : Int → St → Prop} (hM : CI mdX4_entry [vr 85, vi i3] σ P)
    (k : ∀ z σ', inI z → P z σ' → G mdX10_taps X 36 [] [vi z] (σ')) :
    G mdX10_taps X 28 [(0, vr 60), (3, vi i3)] [] σ := by
  refine G.aload_n (o := 60) dX10_taps_28 rfl ?_
  refine G.getR (o' := 85) dX10_taps_29 fX10_74 sh60 rfl ?_
  refine G.iload_n (z := i3) dX10_taps_32 rfl ?_
  exact G.callVI (as := [vi i3]) (rest := []) dX10_taps_33 rfl vX10_234 (by decide) (sh_mx mx_85) rfl (by decide) (Nat.le_of_ble_eq_true rfl) hM (fun z σ' hz q => G.pick [] (k z σ' hz q))
theorem bX10_taps_36 {X : CT} {σ : St} {t0 : Int} 
    (k : G mdX10_taps X 41 [] [vi t0] σ) :
    G mdX10_taps X 36 [] [vi t0] σ := by
  refine G.goto (tgt := 41) dX10_taps_36 (by decide) ?_
  exact G.pick [] k
theorem bX10_taps_39 {X : CT} {σ : St} 
    (k : G mdX10_taps X 41 [] [vi (-9)] σ) :
    G mdX10_taps X 39 [] [] σ := by
  refine G.bipush dX10_taps_39 (by decide) ?_
  exact G.pick [] k
theorem bX10_taps_41 {X : CT} {σ : St} {t0 : Int}  {P : Int → St → Prop} (hX : RI X P) (s : (-2147483648 ≤ t0 ∧ t0 < 2147483648))
    (k : P t0 σ) :
    G mdX10_taps X 41 [] [vi t0] σ := by
  exact G.iret hX dX10_taps_41 rfl s k
theorem bX10_skew_0 {X : CT} {σ : St}  {P : St → Prop} (hM : CV mdX1_receive [vr 71, vr 0, vi (σ 4 2)] σ P)
    (k : ∀ σ', P σ' → G mdX10_skew X 21 [(0, vr 60)] [] (σ')) :
    G mdX10_skew X 0 [(0, vr 60)] [] σ := by
  refine G.aload_n (o := 60) dX10_skew_0 rfl ?_
  refine G.getR (o' := 71) dX10_skew_1 fX10_51 sh60 rfl ?_
  refine G.aload_n (o := 60) dX10_skew_4 rfl ?_
  refine G.getR (o' := 0) dX10_skew_5 fX10_12 sh60 rfl ?_
  refine G.aload_n (o := 60) dX10_skew_8 rfl ?_
  refine G.getR (o' := 0) dX10_skew_9 fX10_12 sh60 rfl ?_
  refine G.getR (o' := 4) dX10_skew_12 fX10_159 (sh_st st_0) rfl ?_
  refine G.getI (j := 2) dX10_skew_15 fX10_151 (sh_sp (sp_chain st_0)) rfl rfl rfl ?_
  exact G.callVV (as := [vr 0, vi (σ 4 2)]) (rest := []) dX10_skew_18 rfl vX10_217 (by decide) (sh_bk bk_71) rfl (by decide) (Nat.le_of_ble_eq_true rfl) hM (fun σ' q => G.pick [0] (k σ' q))
theorem bX10_skew_21 {X : CT} {σ : St} 
    (k : G mdX10_skew X 28 [(0, vr 60), (1, vi 0), (2, vi 33), (3, vi 0)] [] σ) :
    G mdX10_skew X 21 [(0, vr 60)] [] σ := by
  refine G.iconst dX10_skew_21 ?_
  refine G.istore_n dX10_skew_22 (by decide) rfl ?_
  refine G.bipush dX10_skew_23 (by decide) ?_
  refine G.istore_n dX10_skew_25 (by decide) rfl ?_
  refine G.iconst dX10_skew_26 ?_
  refine G.istore_n dX10_skew_27 (by decide) rfl ?_
  exact G.pick [0, 1, 2, 3] k
theorem bX10_skew_28 {X : CT} {σ : St} {i1 i2 i3 : Int}  (s : (-2147483648 ≤ i3 ∧ i3 < 2147483648))
    (kt : 16 ≤ i3 → G mdX10_skew X 86 [(1, vi i1)] [] σ)
    (kf : i3 < 16 → G mdX10_skew X 34 [(0, vr 60), (1, vi i1), (2, vi i2), (3, vi i3)] [] σ) :
    G mdX10_skew X 28 [(0, vr 60), (1, vi i1), (2, vi i2), (3, vi i3)] [] σ := by
  refine G.iload_n (z := i3) dX10_skew_28 rfl ?_
  refine G.bipush dX10_skew_29 (by decide) ?_
  exact G.icmp_ge (tgt := 86) dX10_skew_31 (by decide) s ⟨by decide, by decide⟩ (fun q => G.pick [1] (kt q)) (fun q => G.pick [0, 1, 2, 3] (kf q))
theorem bX10_skew_34 {X : CT} {σ : St} {i1 i2 i3 : Int}  {P : St → Prop} (hM : CV mdX1_takeFrom [vr 76, vr 71] σ P)
    (k : ∀ σ', P σ' → G mdX10_skew X 45 [(0, vr 60), (1, vi i1), (2, vi i2), (3, vi i3)] [] (σ')) :
    G mdX10_skew X 34 [(0, vr 60), (1, vi i1), (2, vi i2), (3, vi i3)] [] σ := by
  refine G.aload_n (o := 60) dX10_skew_34 rfl ?_
  refine G.getR (o' := 76) dX10_skew_35 fX10_55 sh60 rfl ?_
  refine G.aload_n (o := 60) dX10_skew_38 rfl ?_
  refine G.getR (o' := 71) dX10_skew_39 fX10_51 sh60 rfl ?_
  exact G.callVV (as := [vr 71]) (rest := []) dX10_skew_42 rfl vX10_237 (by decide) (sh_bk bk_76) rfl (by decide) (Nat.le_of_ble_eq_true rfl) hM (fun σ' q => G.pick [0, 1, 2, 3] (k σ' q))
theorem bX10_skew_45 {X : CT} {σ : St} {i1 i2 i3 : Int}  {P : St → Prop} (hM : CV mdX1_late [vr 76, vi (16 - i3)] σ P)
    (k : ∀ σ', P σ' → G mdX10_skew X 56 [(0, vr 60), (1, vi i1), (2, vi i2), (3, vi i3)] [] (σ')) :
    G mdX10_skew X 45 [(0, vr 60), (1, vi i1), (2, vi i2), (3, vi i3)] [] σ := by
  refine G.aload_n (o := 60) dX10_skew_45 rfl ?_
  refine G.getR (o' := 76) dX10_skew_46 fX10_55 sh60 rfl ?_
  refine G.bipush dX10_skew_49 (by decide) ?_
  refine G.iload_n (z := i3) dX10_skew_51 rfl ?_
  refine G.isub dX10_skew_52 ?_
  exact G.callVV (as := [vi (16 - i3)]) (rest := []) dX10_skew_53 rfl vX10_240 (by decide) (sh_bk bk_76) rfl (by decide) (Nat.le_of_ble_eq_true rfl) hM (fun σ' q => G.pick [0, 1, 2, 3] (k σ' q))
theorem bX10_skew_56 {X : CT} {σ : St} {i1 i2 i3 : Int}  {P : Int → St → Prop} (hM : CI mdX1_errorsAtMarks [vr 76, vr 0] σ P)
    (k : ∀ z σ', inI z → P z σ' → G mdX10_skew X 67 [(0, vr 60), (1, vi i1), (2, vi i2), (3, vi i3)] [vi z] (σ')) :
    G mdX10_skew X 56 [(0, vr 60), (1, vi i1), (2, vi i2), (3, vi i3)] [] σ := by
  refine G.aload_n (o := 60) dX10_skew_56 rfl ?_
  refine G.getR (o' := 76) dX10_skew_57 fX10_55 sh60 rfl ?_
  refine G.aload_n (o := 60) dX10_skew_60 rfl ?_
  refine G.getR (o' := 0) dX10_skew_61 fX10_12 sh60 rfl ?_
  exact G.callVI (as := [vr 0]) (rest := []) dX10_skew_64 rfl vX10_243 (by decide) (sh_bk bk_76) rfl (by decide) (Nat.le_of_ble_eq_true rfl) hM (fun z σ' hz q => G.pick [0, 1, 2, 3] (k z σ' hz q))
theorem bX10_skew_67 {X : CT} {σ : St} {i1 i2 i3 t0 : Int}  (s : (-2147483648 ≤ t0 ∧ t0 < 2147483648) ∧ (-2147483648 ≤ i2 ∧ i2 < 2147483648))
    (kt : i2 ≤ t0 → G mdX10_skew X 80 [(0, vr 60), (1, vi i1), (2, vi i2), (3, vi i3)] [] σ)
    (kf : t0 < i2 → G mdX10_skew X 75 [(0, vr 60), (3, vi i3), (4, vi t0)] [] σ) :
    G mdX10_skew X 67 [(0, vr 60), (1, vi i1), (2, vi i2), (3, vi i3)] [vi t0] σ := by
  refine G.istore dX10_skew_67 (by decide) rfl ?_
  refine G.iload (z := t0) dX10_skew_69 rfl ?_
  refine G.iload_n (z := i2) dX10_skew_71 rfl ?_
  exact G.icmp_ge (tgt := 80) dX10_skew_72 (by decide) s.1 s.2 (fun q => G.pick [0, 1, 2, 3] (kt q)) (fun q => G.pick [0, 3, 4] (kf q))
theorem bX10_skew_75 {X : CT} {σ : St} {i3 i4 : Int} 
    (k : G mdX10_skew X 80 [(0, vr 60), (1, vi i3), (2, vi i4), (3, vi i3)] [] σ) :
    G mdX10_skew X 75 [(0, vr 60), (3, vi i3), (4, vi i4)] [] σ := by
  refine G.iload (z := i4) dX10_skew_75 rfl ?_
  refine G.istore_n dX10_skew_77 (by decide) rfl ?_
  refine G.iload_n (z := i3) dX10_skew_78 rfl ?_
  refine G.istore_n dX10_skew_79 (by decide) rfl ?_
  exact G.pick [0, 1, 2, 3] k
theorem bX10_skew_80 {X : CT} {σ : St} {i1 i2 i3 : Int} 
    (k : G mdX10_skew X 28 [(0, vr 60), (1, vi i1), (2, vi i2), (3, vi (i3 + 1))] [] σ) :
    G mdX10_skew X 80 [(0, vr 60), (1, vi i1), (2, vi i2), (3, vi i3)] [] σ := by
  refine G.iinc (z := i3) dX10_skew_80 rfl (by decide) rfl ?_
  refine G.goto (tgt := 28) dX10_skew_83 (by decide) ?_
  exact G.pick [0, 1, 2, 3] k
theorem bX10_skew_86 {X : CT} {σ : St} {i1 : Int}  {P : Int → St → Prop} (hX : RI X P) (s : (-2147483648 ≤ i1 ∧ i1 < 2147483648))
    (k : P i1 σ) :
    G mdX10_skew X 86 [(1, vi i1)] [] σ := by
  refine G.iload_n (z := i1) dX10_skew_86 rfl ?_
  exact G.iret hX dX10_skew_87 rfl s k
theorem bX10_spreads_0 {X : CT} {σ : St} {i1 : Int}  (s : (-2147483648 ≤ i1 ∧ i1 < 2147483648))
    (kt : i1 < 0 → G mdX10_spreads X 9 [] [] σ)
    (kf : 0 ≤ i1 → G mdX10_spreads X 4 [(0, vr 60), (1, vi i1)] [] σ) :
    G mdX10_spreads X 0 [(0, vr 60), (1, vi i1)] [] σ := by
  refine G.iload_n (z := i1) dX10_spreads_0 rfl ?_
  exact G.if_lt (tgt := 9) dX10_spreads_1 (by decide) s (fun q => G.pick [] (kt q)) (fun q => G.pick [0, 1] (kf q))
theorem bX10_spreads_4 {X : CT} {σ : St} {i1 : Int}  (s : (-2147483648 ≤ i1 ∧ i1 < 2147483648))
    (kt : i1 ≤ 1 → G mdX10_spreads X 11 [(0, vr 60), (1, vi i1)] [] σ)
    (kf : 1 < i1 → G mdX10_spreads X 9 [] [] σ) :
    G mdX10_spreads X 4 [(0, vr 60), (1, vi i1)] [] σ := by
  refine G.iload_n (z := i1) dX10_spreads_4 rfl ?_
  refine G.iconst dX10_spreads_5 ?_
  exact G.icmp_le (tgt := 11) dX10_spreads_6 (by decide) s ⟨by decide, by decide⟩ (fun q => G.pick [0, 1] (kt q)) (fun q => G.pick [] (kf q))
theorem bX10_spreads_9 {X : CT} {σ : St}  {P : Int → St → Prop} (hX : RI X P)
    (k : P (-1) σ) :
    G mdX10_spreads X 9 [] [] σ := by
  refine G.iconst dX10_spreads_9 ?_
  exact G.iret hX dX10_spreads_10 rfl ⟨by decide, by decide⟩ k
theorem bX10_spreads_11 {X : CT} {σ : St} {i1 : Int}  {P : St → Prop} (hM : CV mdX1_receive [vr 71, vr 0, vi (σ 4 2)] σ P)
    (k : ∀ σ', P σ' → G mdX10_spreads X 32 [(0, vr 60), (1, vi i1)] [] (σ')) :
    G mdX10_spreads X 11 [(0, vr 60), (1, vi i1)] [] σ := by
  refine G.aload_n (o := 60) dX10_spreads_11 rfl ?_
  refine G.getR (o' := 71) dX10_spreads_12 fX10_51 sh60 rfl ?_
  refine G.aload_n (o := 60) dX10_spreads_15 rfl ?_
  refine G.getR (o' := 0) dX10_spreads_16 fX10_12 sh60 rfl ?_
  refine G.aload_n (o := 60) dX10_spreads_19 rfl ?_
  refine G.getR (o' := 0) dX10_spreads_20 fX10_12 sh60 rfl ?_
  refine G.getR (o' := 4) dX10_spreads_23 fX10_159 (sh_st st_0) rfl ?_
  refine G.getI (j := 2) dX10_spreads_26 fX10_151 (sh_sp (sp_chain st_0)) rfl rfl rfl ?_
  exact G.callVV (as := [vr 0, vi (σ 4 2)]) (rest := []) dX10_spreads_29 rfl vX10_217 (by decide) (sh_bk bk_71) rfl (by decide) (Nat.le_of_ble_eq_true rfl) hM (fun σ' q => G.pick [0, 1] (k σ' q))
theorem bX10_spreads_32 {X : CT} {σ : St} {i1 : Int} 
    (k : G mdX10_spreads X 40 [(0, vr 60), (1, vi i1), (2, vi 0), (3, vi (-9)), (4, vi 1)] [] σ) :
    G mdX10_spreads X 32 [(0, vr 60), (1, vi i1)] [] σ := by
  refine G.iconst dX10_spreads_32 ?_
  refine G.istore_n dX10_spreads_33 (by decide) rfl ?_
  refine G.bipush dX10_spreads_34 (by decide) ?_
  refine G.istore_n dX10_spreads_36 (by decide) rfl ?_
  refine G.iconst dX10_spreads_37 ?_
  refine G.istore dX10_spreads_38 (by decide) rfl ?_
  exact G.pick [0, 1, 2, 3, 4] k
theorem bX10_spreads_40 {X : CT} {σ : St} {i1 i2 i3 i4 : Int}  (s : (-2147483648 ≤ i4 ∧ i4 < 2147483648))
    (kt : 97 ≤ i4 → G mdX10_spreads X 89 [(1, vi i1), (2, vi i2), (3, vi i3)] [] σ)
    (kf : i4 < 97 → G mdX10_spreads X 47 [(0, vr 60), (1, vi i1), (2, vi i2), (3, vi i3), (4, vi i4)] [] σ) :
    G mdX10_spreads X 40 [(0, vr 60), (1, vi i1), (2, vi i2), (3, vi i3), (4, vi i4)] [] σ := by
  refine G.iload (z := i4) dX10_spreads_40 rfl ?_
  refine G.bipush dX10_spreads_42 (by decide) ?_
  exact G.icmp_ge (tgt := 89) dX10_spreads_44 (by decide) s ⟨by decide, by decide⟩ (fun q => G.pick [1, 2, 3] (kt q)) (fun q => G.pick [0, 1, 2, 3, 4] (kf q))
theorem bX10_spreads_47 {X : CT} {σ : St} {i1 i2 i3 i4 : Int}  {P : Int → St → Prop} (hM : CI mdX2_power [vi i4, vi 16] σ P)
    (k : ∀ z σ', inI z → P z σ' → G mdX10_spreads X 54 [(0, vr 60), (1, vi i1), (2, vi i2), (3, vi i3), (4, vi i4)] [vi z] (σ')) :
    G mdX10_spreads X 47 [(0, vr 60), (1, vi i1), (2, vi i2), (3, vi i3), (4, vi i4)] [] σ := by
  refine G.iload (z := i4) dX10_spreads_47 rfl ?_
  refine G.bipush dX10_spreads_49 (by decide) ?_
  exact G.callSI (as := [vi i4, vi 16]) (rest := []) dX10_spreads_51 rfl vX10_246 (by decide) (Nat.le_of_ble_eq_true rfl) hM (fun z σ' hz q => G.pick [0, 1, 2, 3, 4] (k z σ' hz q))
theorem bX10_spreads_54 {X : CT} {σ : St} {i1 i2 i3 i4 t0 : Int}  (s : (-2147483648 ≤ t0 ∧ t0 < 2147483648))
    (kt : t0 = 1 → G mdX10_spreads X 83 [(0, vr 60), (1, vi i1), (2, vi i2), (3, vi i3), (4, vi i4)] [] σ)
    (kf : ¬ t0 = 1 → G mdX10_spreads X 58 [(0, vr 60), (1, vi i1), (2, vi i2), (3, vi i3), (4, vi i4)] [] σ) :
    G mdX10_spreads X 54 [(0, vr 60), (1, vi i1), (2, vi i2), (3, vi i3), (4, vi i4)] [vi t0] σ := by
  refine G.iconst dX10_spreads_54 ?_
  exact G.icmp_eq (tgt := 83) dX10_spreads_55 (by decide) s ⟨by decide, by decide⟩ (fun q => G.pick [0, 1, 2, 3, 4] (kt q)) (fun q => G.pick [0, 1, 2, 3, 4] (kf q))
theorem bX10_spreads_58 {X : CT} {σ : St} {i1 i2 i3 i4 : Int}  {P : Int → St → Prop} (hM : CI mdX10_unspreadFits [vr 60, vi i4] σ P)
    (k : ∀ z σ', inI z → P z σ' → G mdX10_spreads X 64 [(0, vr 60), (1, vi i1), (2, vi i2), (3, vi i3), (4, vi i4)] [vi z] (σ')) :
    G mdX10_spreads X 58 [(0, vr 60), (1, vi i1), (2, vi i2), (3, vi i3), (4, vi i4)] [] σ := by
  refine G.aload_n (o := 60) dX10_spreads_58 rfl ?_
  refine G.iload (z := i4) dX10_spreads_59 rfl ?_
  exact G.callVI (as := [vi i4]) (rest := []) dX10_spreads_61 rfl vX10_249 (by decide) sh60 rfl (by decide) (Nat.le_of_ble_eq_true rfl) hM (fun z σ' hz q => G.pick [0, 1, 2, 3, 4] (k z σ' hz q))
theorem bX10_spreads_64 {X : CT} {σ : St} {i1 i2 i3 i4 t0 : Int}  (s : (-2147483648 ≤ t0 ∧ t0 < 2147483648))
    (kt : t0 = 0 → G mdX10_spreads X 83 [(0, vr 60), (1, vi i1), (2, vi i2), (3, vi i3), (4, vi i4)] [] σ)
    (kf : ¬ t0 = 0 → G mdX10_spreads X 67 [(0, vr 60), (1, vi i1), (2, vi i2), (3, vi i3), (4, vi i4)] [] σ) :
    G mdX10_spreads X 64 [(0, vr 60), (1, vi i1), (2, vi i2), (3, vi i3), (4, vi i4)] [vi t0] σ := by
  exact G.if_eq (tgt := 83) dX10_spreads_64 (by decide) s (fun q => G.pick [0, 1, 2, 3, 4] (kt q)) (fun q => G.pick [0, 1, 2, 3, 4] (kf q))
theorem bX10_spreads_67 {X : CT} {σ : St} {i1 i2 i3 i4 : Int}  (s : (-2147483648 ≤ i3 ∧ i3 < 2147483648))
    (kt : ¬ i3 = (-9) → G mdX10_spreads X 81 [(0, vr 60), (1, vi i1), (2, vi (i2 + 1)), (3, vi i3), (4, vi i4)] [] σ)
    (kf : i3 = (-9) → G mdX10_spreads X 76 [(0, vr 60), (1, vi i1), (2, vi (i2 + 1)), (4, vi i4)] [] σ) :
    G mdX10_spreads X 67 [(0, vr 60), (1, vi i1), (2, vi i2), (3, vi i3), (4, vi i4)] [] σ := by
  refine G.iinc (z := i2) dX10_spreads_67 rfl (by decide) rfl ?_
  refine G.iload_n (z := i3) dX10_spreads_70 rfl ?_
  refine G.bipush dX10_spreads_71 (by decide) ?_
  exact G.icmp_ne (tgt := 81) dX10_spreads_73 (by decide) s ⟨by decide, by decide⟩ (fun q => G.pick [0, 1, 2, 3, 4] (kt q)) (fun q => G.pick [0, 1, 2, 4] (kf q))
theorem bX10_spreads_76 {X : CT} {σ : St} {i1 i2 i4 : Int} 
    (k : G mdX10_spreads X 82 [(0, vr 60), (1, vi i1), (2, vi i2), (4, vi i4)] [vi i4] σ) :
    G mdX10_spreads X 76 [(0, vr 60), (1, vi i1), (2, vi i2), (4, vi i4)] [] σ := by
  refine G.iload (z := i4) dX10_spreads_76 rfl ?_
  refine G.goto (tgt := 82) dX10_spreads_78 (by decide) ?_
  exact G.pick [0, 1, 2, 4] k
theorem bX10_spreads_81 {X : CT} {σ : St} {i1 i2 i3 i4 : Int} 
    (k : G mdX10_spreads X 82 [(0, vr 60), (1, vi i1), (2, vi i2), (4, vi i4)] [vi i3] σ) :
    G mdX10_spreads X 81 [(0, vr 60), (1, vi i1), (2, vi i2), (3, vi i3), (4, vi i4)] [] σ := by
  refine G.iload_n (z := i3) dX10_spreads_81 rfl ?_
  exact G.pick [0, 1, 2, 4] k
theorem bX10_spreads_82 {X : CT} {σ : St} {i1 i2 i4 t0 : Int} 
    (k : G mdX10_spreads X 83 [(0, vr 60), (1, vi i1), (2, vi i2), (3, vi t0), (4, vi i4)] [] σ) :
    G mdX10_spreads X 82 [(0, vr 60), (1, vi i1), (2, vi i2), (4, vi i4)] [vi t0] σ := by
  refine G.istore_n dX10_spreads_82 (by decide) rfl ?_
  exact G.pick [0, 1, 2, 3, 4] k
theorem bX10_spreads_83 {X : CT} {σ : St} {i1 i2 i3 i4 : Int} 
    (k : G mdX10_spreads X 40 [(0, vr 60), (1, vi i1), (2, vi i2), (3, vi i3), (4, vi (i4 + 1))] [] σ) :
    G mdX10_spreads X 83 [(0, vr 60), (1, vi i1), (2, vi i2), (3, vi i3), (4, vi i4)] [] σ := by
  refine G.iinc (z := i4) dX10_spreads_83 rfl (by decide) rfl ?_
  refine G.goto (tgt := 40) dX10_spreads_86 (by decide) ?_
  exact G.pick [0, 1, 2, 3, 4] k
theorem bX10_spreads_89 {X : CT} {σ : St} {i1 i2 i3 : Int}  (s : (-2147483648 ≤ i1 ∧ i1 < 2147483648))
    (kt : ¬ i1 = 0 → G mdX10_spreads X 97 [(3, vi i3)] [] σ)
    (kf : i1 = 0 → G mdX10_spreads X 93 [(2, vi i2)] [] σ) :
    G mdX10_spreads X 89 [(1, vi i1), (2, vi i2), (3, vi i3)] [] σ := by
  refine G.iload_n (z := i1) dX10_spreads_89 rfl ?_
  exact G.if_ne (tgt := 97) dX10_spreads_90 (by decide) s (fun q => G.pick [3] (kt q)) (fun q => G.pick [2] (kf q))
theorem bX10_spreads_93 {X : CT} {σ : St} {i2 : Int} 
    (k : G mdX10_spreads X 98 [] [vi i2] σ) :
    G mdX10_spreads X 93 [(2, vi i2)] [] σ := by
  refine G.iload_n (z := i2) dX10_spreads_93 rfl ?_
  refine G.goto (tgt := 98) dX10_spreads_94 (by decide) ?_
  exact G.pick [] k
theorem bX10_spreads_97 {X : CT} {σ : St} {i3 : Int} 
    (k : G mdX10_spreads X 98 [] [vi i3] σ) :
    G mdX10_spreads X 97 [(3, vi i3)] [] σ := by
  refine G.iload_n (z := i3) dX10_spreads_97 rfl ?_
  exact G.pick [] k
theorem bX10_spreads_98 {X : CT} {σ : St} {t0 : Int}  {P : Int → St → Prop} (hX : RI X P) (s : (-2147483648 ≤ t0 ∧ t0 < 2147483648))
    (k : P t0 σ) :
    G mdX10_spreads X 98 [] [vi t0] σ := by
  exact G.iret hX dX10_spreads_98 rfl s k
theorem bX10_order_0 {X : CT} {σ : St} {i1 : Int}  (s : (-2147483648 ≤ i1 ∧ i1 < 2147483648))
    (kt : (-1) ≤ i1 → G mdX10_order X 7 [(0, vr 60), (1, vi i1)] [] σ)
    (kf : i1 < (-1) → G mdX10_order X 5 [] [] σ) :
    G mdX10_order X 0 [(0, vr 60), (1, vi i1)] [] σ := by
  refine G.iload_n (z := i1) dX10_order_0 rfl ?_
  refine G.iconst dX10_order_1 ?_
  exact G.icmp_ge (tgt := 7) dX10_order_2 (by decide) s ⟨by decide, by decide⟩ (fun q => G.pick [0, 1] (kt q)) (fun q => G.pick [] (kf q))
theorem bX10_order_5 {X : CT} {σ : St}  {P : Int → St → Prop} (hX : RI X P)
    (k : P (-1) σ) :
    G mdX10_order X 5 [] [] σ := by
  refine G.iconst dX10_order_5 ?_
  exact G.iret hX dX10_order_6 rfl ⟨by decide, by decide⟩ k
theorem bX10_order_7 {X : CT} {σ : St} {i1 : Int}  (s : (-2147483648 ≤ i1 ∧ i1 < 2147483648) ∧ (-2147483648 ≤ σ 4 2 ∧ σ 4 2 < 2147483648))
    (kt : i1 < σ 4 2 → G mdX10_order X 24 [(0, vr 60), (1, vi i1)] [] σ)
    (kf : σ 4 2 ≤ i1 → G mdX10_order X 21 [] [] σ) :
    G mdX10_order X 7 [(0, vr 60), (1, vi i1)] [] σ := by
  refine G.iload_n (z := i1) dX10_order_7 rfl ?_
  refine G.aload_n (o := 60) dX10_order_8 rfl ?_
  refine G.getR (o' := 0) dX10_order_9 fX10_12 sh60 rfl ?_
  refine G.getR (o' := 4) dX10_order_12 fX10_159 (sh_st st_0) rfl ?_
  refine G.getI (j := 2) dX10_order_15 fX10_151 (sh_sp (sp_chain st_0)) rfl rfl rfl ?_
  exact G.icmp_lt (tgt := 24) dX10_order_18 (by decide) s.1 s.2 (fun q => G.pick [0, 1] (kt q)) (fun q => G.pick [] (kf q))
theorem bX10_order_21 {X : CT} {σ : St}  {P : Int → St → Prop} (hX : RI X P)
    (k : P (-9) σ) :
    G mdX10_order X 21 [] [] σ := by
  refine G.bipush dX10_order_21 (by decide) ?_
  exact G.iret hX dX10_order_23 rfl ⟨by decide, by decide⟩ k
theorem bX10_order_24 {X : CT} {σ : St} {i1 : Int}  {P : Int → St → Prop} (hM : CI mdX10_findBestOrder [vr 60] σ P)
    (k : ∀ z σ', inI z → P z σ' → G mdX10_order X 28 [(0, vr 60), (1, vi i1)] [vi z] (σ')) :
    G mdX10_order X 24 [(0, vr 60), (1, vi i1)] [] σ := by
  refine G.aload_n (o := 60) dX10_order_24 rfl ?_
  exact G.callVI (as := []) (rest := []) dX10_order_25 rfl vX10_183 (by decide) sh60 rfl (by decide) (Nat.le_of_ble_eq_true rfl) hM (fun z σ' hz q => G.pick [0, 1] (k z σ' hz q))
theorem bX10_order_28 {X : CT} {σ : St} {i1 t0 : Int}  (s : (-2147483648 ≤ i1 ∧ i1 < 2147483648))
    (kt : ¬ i1 = (-1) → G mdX10_order X 38 [(0, vr 60), (1, vi i1)] [] σ)
    (kf : i1 = (-1) → G mdX10_order X 34 [(2, vi t0)] [] σ) :
    G mdX10_order X 28 [(0, vr 60), (1, vi i1)] [vi t0] σ := by
  refine G.istore_n dX10_order_28 (by decide) rfl ?_
  refine G.iload_n (z := i1) dX10_order_29 rfl ?_
  refine G.iconst dX10_order_30 ?_
  exact G.icmp_ne (tgt := 38) dX10_order_31 (by decide) s ⟨by decide, by decide⟩ (fun q => G.pick [0, 1] (kt q)) (fun q => G.pick [2] (kf q))
theorem bX10_order_34 {X : CT} {σ : St} {i2 : Int} 
    (k : G mdX10_order X 47 [] [vi i2] σ) :
    G mdX10_order X 34 [(2, vi i2)] [] σ := by
  refine G.iload_n (z := i2) dX10_order_34 rfl ?_
  refine G.goto (tgt := 47) dX10_order_35 (by decide) ?_
  exact G.pick [] k
theorem bX10_order_38 {X : CT} {σ : St} {i1 : Int}  (s : (0 ≤ i1 ∧ i1 < 4))
    (k : G mdX10_order X 47 [] [vi (σ 83 i1)] σ) :
    G mdX10_order X 38 [(0, vr 60), (1, vi i1)] [] σ := by
  refine G.aload_n (o := 60) dX10_order_38 rfl ?_
  refine G.getR (o' := 81) dX10_order_39 fX10_61 sh60 rfl ?_
  refine G.getR (o' := 83) dX10_order_42 fX10_194 sh81 rfl ?_
  refine G.iload_n (z := i1) dX10_order_45 rfl ?_
  refine G.iald dX10_order_46 sh83 s ?_
  exact G.pick [] k
theorem bX10_order_47 {X : CT} {σ : St} {t0 : Int}  {P : Int → St → Prop} (hX : RI X P) (s : (-2147483648 ≤ t0 ∧ t0 < 2147483648))
    (k : P t0 σ) :
    G mdX10_order X 47 [] [vi t0] σ := by
  exact G.iret hX dX10_order_47 rfl s k
theorem bX10_lag_0 {X : CT} {σ : St} {i1 : Int}  {P : Int → St → Prop} (hM : CI mdX10_isPlace [vi i1] σ P)
    (k : ∀ z σ', inI z → P z σ' → G mdX10_lag X 4 [(0, vr 60), (1, vi i1)] [vi z] (σ')) :
    G mdX10_lag X 0 [(0, vr 60), (1, vi i1)] [] σ := by
  refine G.iload_n (z := i1) dX10_lag_0 rfl ?_
  exact G.callSI (as := [vi i1]) (rest := []) dX10_lag_1 rfl vX10_113 (by decide) (Nat.le_of_ble_eq_true rfl) hM (fun z σ' hz q => G.pick [0, 1] (k z σ' hz q))
theorem bX10_lag_4 {X : CT} {σ : St} {i1 t0 : Int}  (s : (-2147483648 ≤ t0 ∧ t0 < 2147483648))
    (kt : ¬ t0 = 0 → G mdX10_lag X 9 [(0, vr 60), (1, vi i1)] [] σ)
    (kf : t0 = 0 → G mdX10_lag X 7 [] [] σ) :
    G mdX10_lag X 4 [(0, vr 60), (1, vi i1)] [vi t0] σ := by
  exact G.if_ne (tgt := 9) dX10_lag_4 (by decide) s (fun q => G.pick [0, 1] (kt q)) (fun q => G.pick [] (kf q))
theorem bX10_lag_7 {X : CT} {σ : St}  {P : Int → St → Prop} (hX : RI X P)
    (k : P (-1) σ) :
    G mdX10_lag X 7 [] [] σ := by
  refine G.iconst dX10_lag_7 ?_
  exact G.iret hX dX10_lag_8 rfl ⟨by decide, by decide⟩ k
theorem bX10_lag_9 {X : CT} {σ : St} {i1 : Int} 
    (k : G mdX10_lag X 11 [(0, vr 60), (1, vi i1), (2, vi 0)] [] σ) :
    G mdX10_lag X 9 [(0, vr 60), (1, vi i1)] [] σ := by
  refine G.iconst dX10_lag_9 ?_
  refine G.istore_n dX10_lag_10 (by decide) rfl ?_
  exact G.pick [0, 1, 2] k
theorem bX10_lag_11 {X : CT} {σ : St} {i1 i2 : Int}  (s : (-2147483648 ≤ i2 ∧ i2 < 2147483648))
    (kt : 16 ≤ i2 → G mdX10_lag X 39 [(2, vi i2)] [] σ)
    (kf : i2 < 16 → G mdX10_lag X 17 [(0, vr 60), (1, vi i1), (2, vi i2)] [] σ) :
    G mdX10_lag X 11 [(0, vr 60), (1, vi i1), (2, vi i2)] [] σ := by
  refine G.iload_n (z := i2) dX10_lag_11 rfl ?_
  refine G.bipush dX10_lag_12 (by decide) ?_
  exact G.icmp_ge (tgt := 39) dX10_lag_14 (by decide) s ⟨by decide, by decide⟩ (fun q => G.pick [2] (kt q)) (fun q => G.pick [0, 1, 2] (kf q))
theorem bX10_lag_17 {X : CT} {σ : St} {i1 i2 : Int}  {P : Int → St → Prop} (hM : CI mdX7_isMarked [vr 0, vi ((i1 + i2) % 16)] σ P) (s : (0 ≤ i1 + i2 ∧ i1 + i2 < 2147483648))
    (k : ∀ z σ', inI z → P z σ' → G mdX10_lag X 30 [(0, vr 60), (1, vi i1), (2, vi i2)] [vi z] (σ')) :
    G mdX10_lag X 17 [(0, vr 60), (1, vi i1), (2, vi i2)] [] σ := by
  refine G.aload_n (o := 60) dX10_lag_17 rfl ?_
  refine G.getR (o' := 0) dX10_lag_18 fX10_12 sh60 rfl ?_
  refine G.iload_n (z := i1) dX10_lag_21 rfl ?_
  refine G.iload_n (z := i2) dX10_lag_22 rfl ?_
  refine G.iadd dX10_lag_23 ?_
  refine G.bipush dX10_lag_24 (by decide) ?_
  refine G.irem dX10_lag_26 s ⟨by decide, by decide⟩ ?_
  exact G.callVI (as := [vi ((i1 + i2) % 16)]) (rest := []) dX10_lag_27 rfl vX10_116 (by decide) (sh_st st_0) rfl (by decide) (Nat.le_of_ble_eq_true rfl) hM (fun z σ' hz q => G.pick [0, 1, 2] (k z σ' hz q))
theorem bX10_lag_30 {X : CT} {σ : St} {i1 i2 t0 : Int}  (s : (-2147483648 ≤ t0 ∧ t0 < 2147483648))
    (kt : ¬ t0 = 0 → G mdX10_lag X 39 [(2, vi i2)] [] σ)
    (kf : t0 = 0 → G mdX10_lag X 33 [(0, vr 60), (1, vi i1), (2, vi i2)] [] σ) :
    G mdX10_lag X 30 [(0, vr 60), (1, vi i1), (2, vi i2)] [vi t0] σ := by
  exact G.if_ne (tgt := 39) dX10_lag_30 (by decide) s (fun q => G.pick [2] (kt q)) (fun q => G.pick [0, 1, 2] (kf q))
theorem bX10_lag_33 {X : CT} {σ : St} {i1 i2 : Int} 
    (k : G mdX10_lag X 11 [(0, vr 60), (1, vi i1), (2, vi (i2 + 1))] [] σ) :
    G mdX10_lag X 33 [(0, vr 60), (1, vi i1), (2, vi i2)] [] σ := by
  refine G.iinc (z := i2) dX10_lag_33 rfl (by decide) rfl ?_
  refine G.goto (tgt := 11) dX10_lag_36 (by decide) ?_
  exact G.pick [0, 1, 2] k
theorem bX10_lag_39 {X : CT} {σ : St} {i2 : Int}  {P : Int → St → Prop} (hX : RI X P) (s : (-2147483648 ≤ i2 ∧ i2 < 2147483648))
    (k : P i2 σ) :
    G mdX10_lag X 39 [(2, vi i2)] [] σ := by
  refine G.iload_n (z := i2) dX10_lag_39 rfl ?_
  exact G.iret hX dX10_lag_40 rfl s k
theorem bX10_sees_0 {X : CT} {σ : St} {i1 i2 i3 : Int}  {P : Int → St → Prop} (hM : CI mdX10_isSpot [vi i1, vi i2] σ P)
    (k : ∀ z σ', inI z → P z σ' → G mdX10_sees X 5 [(0, vr 60), (1, vi i1), (2, vi i2), (3, vi i3)] [vi z] (σ')) :
    G mdX10_sees X 0 [(0, vr 60), (1, vi i1), (2, vi i2), (3, vi i3)] [] σ := by
  refine G.iload_n (z := i1) dX10_sees_0 rfl ?_
  refine G.iload_n (z := i2) dX10_sees_1 rfl ?_
  exact G.callSI (as := [vi i1, vi i2]) (rest := []) dX10_sees_2 rfl vX10_103 (by decide) (Nat.le_of_ble_eq_true rfl) hM (fun z σ' hz q => G.pick [0, 1, 2, 3] (k z σ' hz q))
theorem bX10_sees_5 {X : CT} {σ : St} {i1 i2 i3 t0 : Int}  (s : (-2147483648 ≤ t0 ∧ t0 < 2147483648))
    (kt : t0 = 0 → G mdX10_sees X 15 [] [] σ)
    (kf : ¬ t0 = 0 → G mdX10_sees X 8 [(0, vr 60), (1, vi i1), (2, vi i2), (3, vi i3)] [] σ) :
    G mdX10_sees X 5 [(0, vr 60), (1, vi i1), (2, vi i2), (3, vi i3)] [vi t0] σ := by
  exact G.if_eq (tgt := 15) dX10_sees_5 (by decide) s (fun q => G.pick [] (kt q)) (fun q => G.pick [0, 1, 2, 3] (kf q))
theorem bX10_sees_8 {X : CT} {σ : St} {i1 i2 i3 : Int}  {P : Int → St → Prop} (hM : CI mdX10_isSymbol [vi i3] σ P)
    (k : ∀ z σ', inI z → P z σ' → G mdX10_sees X 12 [(0, vr 60), (1, vi i1), (2, vi i2), (3, vi i3)] [vi z] (σ')) :
    G mdX10_sees X 8 [(0, vr 60), (1, vi i1), (2, vi i2), (3, vi i3)] [] σ := by
  refine G.iload_n (z := i3) dX10_sees_8 rfl ?_
  exact G.callSI (as := [vi i3]) (rest := []) dX10_sees_9 rfl vX10_107 (by decide) (Nat.le_of_ble_eq_true rfl) hM (fun z σ' hz q => G.pick [0, 1, 2, 3] (k z σ' hz q))
theorem bX10_sees_12 {X : CT} {σ : St} {i1 i2 i3 t0 : Int}  (s : (-2147483648 ≤ t0 ∧ t0 < 2147483648))
    (kt : ¬ t0 = 0 → G mdX10_sees X 17 [(0, vr 60), (1, vi i1), (2, vi i2), (3, vi i3)] [] σ)
    (kf : t0 = 0 → G mdX10_sees X 15 [] [] σ) :
    G mdX10_sees X 12 [(0, vr 60), (1, vi i1), (2, vi i2), (3, vi i3)] [vi t0] σ := by
  exact G.if_ne (tgt := 17) dX10_sees_12 (by decide) s (fun q => G.pick [0, 1, 2, 3] (kt q)) (fun q => G.pick [] (kf q))
theorem bX10_sees_15 {X : CT} {σ : St}  {P : Int → St → Prop} (hX : RI X P)
    (k : P (-1) σ) :
    G mdX10_sees X 15 [] [] σ := by
  refine G.iconst dX10_sees_15 ?_
  exact G.iret hX dX10_sees_16 rfl ⟨by decide, by decide⟩ k
theorem bX10_sees_17 {X : CT} {σ : St} {i1 i2 i3 : Int}  {P : Int → St → Prop} (hM : CI mdX6_append [vr 68, vi ((i1 * 16) + i2), vi i3] σ P)
    (k : ∀ z σ', inI z → P z σ' → G mdX10_sees X 31 [(0, vr 60)] [vi z] (σ')) :
    G mdX10_sees X 17 [(0, vr 60), (1, vi i1), (2, vi i2), (3, vi i3)] [] σ := by
  refine G.aload_n (o := 60) dX10_sees_17 rfl ?_
  refine G.getR (o' := 68) dX10_sees_18 fX10_44 sh60 rfl ?_
  refine G.iload_n (z := i1) dX10_sees_21 rfl ?_
  refine G.bipush dX10_sees_22 (by decide) ?_
  refine G.imul dX10_sees_24 ?_
  refine G.iload_n (z := i2) dX10_sees_25 rfl ?_
  refine G.iadd dX10_sees_26 ?_
  refine G.iload_n (z := i3) dX10_sees_27 rfl ?_
  exact G.callVI (as := [vi ((i1 * 16) + i2), vi i3]) (rest := []) dX10_sees_28 rfl vX10_252 (by decide) sh68 rfl (by decide) (Nat.le_of_ble_eq_true rfl) hM (fun z σ' hz q => G.pick [0] (k z σ' hz q))
theorem bX10_sees_31 {X : CT} {σ : St} {t0 : Int}  (s : (-2147483648 ≤ t0 ∧ t0 < 2147483648))
    (kt : t0 = 0 → G mdX10_sees X 44 [] [] σ)
    (kf : ¬ t0 = 0 → G mdX10_sees X 34 [(0, vr 60)] [] σ) :
    G mdX10_sees X 31 [(0, vr 60)] [vi t0] σ := by
  exact G.if_eq (tgt := 44) dX10_sees_31 (by decide) s (fun q => G.pick [] (kt q)) (fun q => G.pick [0] (kf q))
theorem bX10_sees_34 {X : CT} {σ : St} 
    (k : G mdX10_sees X 46 [] [vi (σ 68 2)] σ) :
    G mdX10_sees X 34 [(0, vr 60)] [] σ := by
  refine G.aload_n (o := 60) dX10_sees_34 rfl ?_
  refine G.getR (o' := 68) dX10_sees_35 fX10_44 sh60 rfl ?_
  refine G.getI (j := 2) dX10_sees_38 fX10_100 sh68 rfl rfl rfl ?_
  refine G.goto (tgt := 46) dX10_sees_41 (by decide) ?_
  exact G.pick [] k
theorem bX10_sees_44 {X : CT} {σ : St} 
    (k : G mdX10_sees X 46 [] [vi (-3)] σ) :
    G mdX10_sees X 44 [] [] σ := by
  refine G.bipush dX10_sees_44 (by decide) ?_
  exact G.pick [] k
theorem bX10_sees_46 {X : CT} {σ : St} {t0 : Int}  {P : Int → St → Prop} (hX : RI X P) (s : (-2147483648 ≤ t0 ∧ t0 < 2147483648))
    (k : P t0 σ) :
    G mdX10_sees X 46 [] [vi t0] σ := by
  exact G.iret hX dX10_sees_46 rfl s k
theorem bX10_forget_0 {X : CT} {σ : St}  {P : Int → St → Prop} (hX : RI X P) (s : (-2147483648 ≤ σ 68 2 ∧ σ 68 2 < 2147483648))
    (k : P (σ 68 2) (wr σ 68 2 0)) :
    G mdX10_forget X 0 [(0, vr 60)] [] σ := by
  refine G.aload_n (o := 60) dX10_forget_0 rfl ?_
  refine G.getR (o' := 68) dX10_forget_1 fX10_44 sh60 rfl ?_
  refine G.getI (j := 2) dX10_forget_4 fX10_100 sh68 rfl rfl rfl ?_
  refine G.istore_n dX10_forget_7 (by decide) rfl ?_
  refine G.aload_n (o := 60) dX10_forget_8 rfl ?_
  refine G.getR (o' := 68) dX10_forget_9 fX10_44 sh60 rfl ?_
  refine G.iconst dX10_forget_12 ?_
  refine G.putI (j := 2) dX10_forget_13 fX10_100 sh68 rfl rfl rfl rfl rfl ?_
  refine G.iload_n (z := σ 68 2) dX10_forget_16 rfl ?_
  exact G.iret hX dX10_forget_17 rfl s k
theorem bX10_fits_0 {X : CT} {σ : St} {i1 : Int}  (s : (-2147483648 ≤ i1 ∧ i1 < 2147483648))
    (kt : i1 < 0 → G mdX10_fits X 9 [] [] σ)
    (kf : 0 ≤ i1 → G mdX10_fits X 4 [(0, vr 60), (1, vi i1)] [] σ) :
    G mdX10_fits X 0 [(0, vr 60), (1, vi i1)] [] σ := by
  refine G.iload_n (z := i1) dX10_fits_0 rfl ?_
  exact G.if_lt (tgt := 9) dX10_fits_1 (by decide) s (fun q => G.pick [] (kt q)) (fun q => G.pick [0, 1] (kf q))
theorem bX10_fits_4 {X : CT} {σ : St} {i1 : Int}  (s : (-2147483648 ≤ i1 ∧ i1 < 2147483648))
    (kt : i1 ≤ 1 → G mdX10_fits X 11 [(0, vr 60), (1, vi i1)] [] σ)
    (kf : 1 < i1 → G mdX10_fits X 9 [] [] σ) :
    G mdX10_fits X 4 [(0, vr 60), (1, vi i1)] [] σ := by
  refine G.iload_n (z := i1) dX10_fits_4 rfl ?_
  refine G.iconst dX10_fits_5 ?_
  exact G.icmp_le (tgt := 11) dX10_fits_6 (by decide) s ⟨by decide, by decide⟩ (fun q => G.pick [0, 1] (kt q)) (fun q => G.pick [] (kf q))
theorem bX10_fits_9 {X : CT} {σ : St}  {P : Int → St → Prop} (hX : RI X P)
    (k : P (-1) σ) :
    G mdX10_fits X 9 [] [] σ := by
  refine G.iconst dX10_fits_9 ?_
  exact G.iret hX dX10_fits_10 rfl ⟨by decide, by decide⟩ k
theorem bX10_fits_11 {X : CT} {σ : St} {i1 : Int}  {P : St → Prop} (hM : CV mdX1_receive [vr 71, vr 0, vi 0] σ P)
    (k : ∀ σ', P σ' → G mdX10_fits X 23 [(0, vr 60), (1, vi i1)] [] (σ')) :
    G mdX10_fits X 11 [(0, vr 60), (1, vi i1)] [] σ := by
  refine G.aload_n (o := 60) dX10_fits_11 rfl ?_
  refine G.getR (o' := 71) dX10_fits_12 fX10_51 sh60 rfl ?_
  refine G.aload_n (o := 60) dX10_fits_15 rfl ?_
  refine G.getR (o' := 0) dX10_fits_16 fX10_12 sh60 rfl ?_
  refine G.iconst dX10_fits_19 ?_
  exact G.callVV (as := [vr 0, vi 0]) (rest := []) dX10_fits_20 rfl vX10_217 (by decide) (sh_bk bk_71) rfl (by decide) (Nat.le_of_ble_eq_true rfl) hM (fun σ' q => G.pick [0, 1] (k σ' q))
theorem bX10_fits_23 {X : CT} {σ : St} {i1 : Int} 
    (k : G mdX10_fits X 31 [(0, vr 60), (1, vi i1), (2, vi 0), (3, vi (-9)), (4, vi 0)] [] σ) :
    G mdX10_fits X 23 [(0, vr 60), (1, vi i1)] [] σ := by
  refine G.iconst dX10_fits_23 ?_
  refine G.istore_n dX10_fits_24 (by decide) rfl ?_
  refine G.bipush dX10_fits_25 (by decide) ?_
  refine G.istore_n dX10_fits_27 (by decide) rfl ?_
  refine G.iconst dX10_fits_28 ?_
  refine G.istore dX10_fits_29 (by decide) rfl ?_
  exact G.pick [0, 1, 2, 3, 4] k
theorem bX10_fits_31 {X : CT} {σ : St} {i1 i2 i3 i4 : Int}  (s : (-2147483648 ≤ i4 ∧ i4 < 2147483648))
    (kt : 16 ≤ i4 → G mdX10_fits X 91 [(1, vi i1), (2, vi i2), (3, vi i3)] [] σ)
    (kf : i4 < 16 → G mdX10_fits X 38 [(0, vr 60), (1, vi i1), (2, vi i2), (3, vi i3), (4, vi i4)] [] σ) :
    G mdX10_fits X 31 [(0, vr 60), (1, vi i1), (2, vi i2), (3, vi i3), (4, vi i4)] [] σ := by
  refine G.iload (z := i4) dX10_fits_31 rfl ?_
  refine G.bipush dX10_fits_33 (by decide) ?_
  exact G.icmp_ge (tgt := 91) dX10_fits_35 (by decide) s ⟨by decide, by decide⟩ (fun q => G.pick [1, 2, 3] (kt q)) (fun q => G.pick [0, 1, 2, 3, 4] (kf q))
theorem bX10_fits_38 {X : CT} {σ : St} {i1 i2 i3 i4 : Int} 
    (k : G mdX10_fits X 41 [(0, vr 60), (1, vi i1), (2, vi i2), (3, vi i3), (4, vi i4), (5, vi 1)] [] σ) :
    G mdX10_fits X 38 [(0, vr 60), (1, vi i1), (2, vi i2), (3, vi i3), (4, vi i4)] [] σ := by
  refine G.iconst dX10_fits_38 ?_
  refine G.istore dX10_fits_39 (by decide) rfl ?_
  exact G.pick [0, 1, 2, 3, 4, 5] k
theorem bX10_fits_41 {X : CT} {σ : St} {i1 i2 i3 i4 i5 : Int}  (s : (-2147483648 ≤ i5 ∧ i5 < 2147483648))
    (kt : 4 ≤ i5 → G mdX10_fits X 85 [(0, vr 60), (1, vi i1), (2, vi i2), (3, vi i3), (4, vi i4)] [] σ)
    (kf : i5 < 4 → G mdX10_fits X 47 [(0, vr 60), (1, vi i1), (2, vi i2), (3, vi i3), (4, vi i4), (5, vi i5)] [] σ) :
    G mdX10_fits X 41 [(0, vr 60), (1, vi i1), (2, vi i2), (3, vi i3), (4, vi i4), (5, vi i5)] [] σ := by
  refine G.iload (z := i5) dX10_fits_41 rfl ?_
  refine G.iconst dX10_fits_43 ?_
  exact G.icmp_ge (tgt := 85) dX10_fits_44 (by decide) s ⟨by decide, by decide⟩ (fun q => G.pick [0, 1, 2, 3, 4] (kt q)) (fun q => G.pick [0, 1, 2, 3, 4, 5] (kf q))
theorem bX10_fits_47 {X : CT} {σ : St} {i1 i2 i3 i4 i5 : Int}  {P : Int → St → Prop} (hM : CI mdX10_slipFits [vr 60, vi i4, vi i5] σ P)
    (k : ∀ z σ', inI z → P z σ' → G mdX10_fits X 55 [(0, vr 60), (1, vi i1), (2, vi i2), (3, vi i3), (4, vi i4), (5, vi i5)] [vi z] (σ')) :
    G mdX10_fits X 47 [(0, vr 60), (1, vi i1), (2, vi i2), (3, vi i3), (4, vi i4), (5, vi i5)] [] σ := by
  refine G.aload_n (o := 60) dX10_fits_47 rfl ?_
  refine G.iload (z := i4) dX10_fits_48 rfl ?_
  refine G.iload (z := i5) dX10_fits_50 rfl ?_
  exact G.callVI (as := [vi i4, vi i5]) (rest := []) dX10_fits_52 rfl vX10_254 (by decide) sh60 rfl (by decide) (Nat.le_of_ble_eq_true rfl) hM (fun z σ' hz q => G.pick [0, 1, 2, 3, 4, 5] (k z σ' hz q))
theorem bX10_fits_55 {X : CT} {σ : St} {i1 i2 i3 i4 i5 t0 : Int}  (s : (-2147483648 ≤ t0 ∧ t0 < 2147483648))
    (kt : t0 = 0 → G mdX10_fits X 79 [(0, vr 60), (1, vi i1), (2, vi i2), (3, vi i3), (4, vi i4), (5, vi i5)] [] σ)
    (kf : ¬ t0 = 0 → G mdX10_fits X 58 [(0, vr 60), (1, vi i1), (2, vi i2), (3, vi i3), (4, vi i4), (5, vi i5)] [] σ) :
    G mdX10_fits X 55 [(0, vr 60), (1, vi i1), (2, vi i2), (3, vi i3), (4, vi i4), (5, vi i5)] [vi t0] σ := by
  exact G.if_eq (tgt := 79) dX10_fits_55 (by decide) s (fun q => G.pick [0, 1, 2, 3, 4, 5] (kt q)) (fun q => G.pick [0, 1, 2, 3, 4, 5] (kf q))
theorem bX10_fits_58 {X : CT} {σ : St} {i1 i2 i3 i4 i5 : Int}  (s : (-2147483648 ≤ i3 ∧ i3 < 2147483648))
    (kt : ¬ i3 = (-9) → G mdX10_fits X 77 [(0, vr 60), (1, vi i1), (2, vi (i2 + 1)), (3, vi i3), (4, vi i4), (5, vi i5)] [] σ)
    (kf : i3 = (-9) → G mdX10_fits X 67 [(0, vr 60), (1, vi i1), (2, vi (i2 + 1)), (4, vi i4), (5, vi i5)] [] σ) :
    G mdX10_fits X 58 [(0, vr 60), (1, vi i1), (2, vi i2), (3, vi i3), (4, vi i4), (5, vi i5)] [] σ := by
  refine G.iinc (z := i2) dX10_fits_58 rfl (by decide) rfl ?_
  refine G.iload_n (z := i3) dX10_fits_61 rfl ?_
  refine G.bipush dX10_fits_62 (by decide) ?_
  exact G.icmp_ne (tgt := 77) dX10_fits_64 (by decide) s ⟨by decide, by decide⟩ (fun q => G.pick [0, 1, 2, 3, 4, 5] (kt q)) (fun q => G.pick [0, 1, 2, 4, 5] (kf q))
theorem bX10_fits_67 {X : CT} {σ : St} {i1 i2 i4 i5 : Int} 
    (k : G mdX10_fits X 78 [(0, vr 60), (1, vi i1), (2, vi i2), (4, vi i4), (5, vi i5)] [vi ((4 * i4) + i5)] σ) :
    G mdX10_fits X 67 [(0, vr 60), (1, vi i1), (2, vi i2), (4, vi i4), (5, vi i5)] [] σ := by
  refine G.iconst dX10_fits_67 ?_
  refine G.iload (z := i4) dX10_fits_68 rfl ?_
  refine G.imul dX10_fits_70 ?_
  refine G.iload (z := i5) dX10_fits_71 rfl ?_
  refine G.iadd dX10_fits_73 ?_
  refine G.goto (tgt := 78) dX10_fits_74 (by decide) ?_
  exact G.pick [0, 1, 2, 4, 5] k
theorem bX10_fits_77 {X : CT} {σ : St} {i1 i2 i3 i4 i5 : Int} 
    (k : G mdX10_fits X 78 [(0, vr 60), (1, vi i1), (2, vi i2), (4, vi i4), (5, vi i5)] [vi i3] σ) :
    G mdX10_fits X 77 [(0, vr 60), (1, vi i1), (2, vi i2), (3, vi i3), (4, vi i4), (5, vi i5)] [] σ := by
  refine G.iload_n (z := i3) dX10_fits_77 rfl ?_
  exact G.pick [0, 1, 2, 4, 5] k
theorem bX10_fits_78 {X : CT} {σ : St} {i1 i2 i4 i5 t0 : Int} 
    (k : G mdX10_fits X 79 [(0, vr 60), (1, vi i1), (2, vi i2), (3, vi t0), (4, vi i4), (5, vi i5)] [] σ) :
    G mdX10_fits X 78 [(0, vr 60), (1, vi i1), (2, vi i2), (4, vi i4), (5, vi i5)] [vi t0] σ := by
  refine G.istore_n dX10_fits_78 (by decide) rfl ?_
  exact G.pick [0, 1, 2, 3, 4, 5] k
theorem bX10_fits_79 {X : CT} {σ : St} {i1 i2 i3 i4 i5 : Int} 
    (k : G mdX10_fits X 41 [(0, vr 60), (1, vi i1), (2, vi i2), (3, vi i3), (4, vi i4), (5, vi (i5 + 1))] [] σ) :
    G mdX10_fits X 79 [(0, vr 60), (1, vi i1), (2, vi i2), (3, vi i3), (4, vi i4), (5, vi i5)] [] σ := by
  refine G.iinc (z := i5) dX10_fits_79 rfl (by decide) rfl ?_
  refine G.goto (tgt := 41) dX10_fits_82 (by decide) ?_
  exact G.pick [0, 1, 2, 3, 4, 5] k
theorem bX10_fits_85 {X : CT} {σ : St} {i1 i2 i3 i4 : Int} 
    (k : G mdX10_fits X 31 [(0, vr 60), (1, vi i1), (2, vi i2), (3, vi i3), (4, vi (i4 + 1))] [] σ) :
    G mdX10_fits X 85 [(0, vr 60), (1, vi i1), (2, vi i2), (3, vi i3), (4, vi i4)] [] σ := by
  refine G.iinc (z := i4) dX10_fits_85 rfl (by decide) rfl ?_
  refine G.goto (tgt := 31) dX10_fits_88 (by decide) ?_
  exact G.pick [0, 1, 2, 3, 4] k
theorem bX10_fits_91 {X : CT} {σ : St} {i1 i2 i3 : Int}  (s : (-2147483648 ≤ i1 ∧ i1 < 2147483648))
    (kt : ¬ i1 = 0 → G mdX10_fits X 99 [(3, vi i3)] [] σ)
    (kf : i1 = 0 → G mdX10_fits X 95 [(2, vi i2)] [] σ) :
    G mdX10_fits X 91 [(1, vi i1), (2, vi i2), (3, vi i3)] [] σ := by
  refine G.iload_n (z := i1) dX10_fits_91 rfl ?_
  exact G.if_ne (tgt := 99) dX10_fits_92 (by decide) s (fun q => G.pick [3] (kt q)) (fun q => G.pick [2] (kf q))
theorem bX10_fits_95 {X : CT} {σ : St} {i2 : Int} 
    (k : G mdX10_fits X 100 [] [vi i2] σ) :
    G mdX10_fits X 95 [(2, vi i2)] [] σ := by
  refine G.iload_n (z := i2) dX10_fits_95 rfl ?_
  refine G.goto (tgt := 100) dX10_fits_96 (by decide) ?_
  exact G.pick [] k
theorem bX10_fits_99 {X : CT} {σ : St} {i3 : Int} 
    (k : G mdX10_fits X 100 [] [vi i3] σ) :
    G mdX10_fits X 99 [(3, vi i3)] [] σ := by
  refine G.iload_n (z := i3) dX10_fits_99 rfl ?_
  exact G.pick [] k
theorem bX10_fits_100 {X : CT} {σ : St} {t0 : Int}  {P : Int → St → Prop} (hX : RI X P) (s : (-2147483648 ≤ t0 ∧ t0 < 2147483648))
    (k : P t0 σ) :
    G mdX10_fits X 100 [] [vi t0] σ := by
  exact G.iret hX dX10_fits_100 rfl s k
theorem bX10_odds_0 {X : CT} {σ : St} {i1 i2 i3 i4 : Int}  (s : (-2147483648 ≤ i1 ∧ i1 < 2147483648))
    (kt : i1 < 0 → G mdX10_odds X 41 [] [] σ)
    (kf : 0 ≤ i1 → G mdX10_odds X 4 [(1, vi i1), (2, vi i2), (3, vi i3), (4, vi i4)] [] σ) :
    G mdX10_odds X 0 [(0, vr 60), (1, vi i1), (2, vi i2), (3, vi i3), (4, vi i4)] [] σ := by
  refine G.iload_n (z := i1) dX10_odds_0 rfl ?_
  exact G.if_lt (tgt := 41) dX10_odds_1 (by decide) s (fun q => G.pick [] (kt q)) (fun q => G.pick [1, 2, 3, 4] (kf q))
theorem bX10_odds_4 {X : CT} {σ : St} {i1 i2 i3 i4 : Int}  (s : (-2147483648 ≤ i1 ∧ i1 < 2147483648))
    (kt : 10 < i1 → G mdX10_odds X 41 [] [] σ)
    (kf : i1 ≤ 10 → G mdX10_odds X 10 [(1, vi i1), (2, vi i2), (3, vi i3), (4, vi i4)] [] σ) :
    G mdX10_odds X 4 [(1, vi i1), (2, vi i2), (3, vi i3), (4, vi i4)] [] σ := by
  refine G.iload_n (z := i1) dX10_odds_4 rfl ?_
  refine G.bipush dX10_odds_5 (by decide) ?_
  exact G.icmp_gt (tgt := 41) dX10_odds_7 (by decide) s ⟨by decide, by decide⟩ (fun q => G.pick [] (kt q)) (fun q => G.pick [1, 2, 3, 4] (kf q))
theorem bX10_odds_10 {X : CT} {σ : St} {i1 i2 i3 i4 : Int}  (s : (-2147483648 ≤ i2 ∧ i2 < 2147483648))
    (kt : i2 < 0 → G mdX10_odds X 41 [] [] σ)
    (kf : 0 ≤ i2 → G mdX10_odds X 14 [(1, vi i1), (2, vi i2), (3, vi i3), (4, vi i4)] [] σ) :
    G mdX10_odds X 10 [(1, vi i1), (2, vi i2), (3, vi i3), (4, vi i4)] [] σ := by
  refine G.iload_n (z := i2) dX10_odds_10 rfl ?_
  exact G.if_lt (tgt := 41) dX10_odds_11 (by decide) s (fun q => G.pick [] (kt q)) (fun q => G.pick [1, 2, 3, 4] (kf q))
theorem bX10_odds_14 {X : CT} {σ : St} {i1 i2 i3 i4 : Int}  (s : (-2147483648 ≤ i2 ∧ i2 < 2147483648))
    (kt : 8 < i2 → G mdX10_odds X 41 [] [] σ)
    (kf : i2 ≤ 8 → G mdX10_odds X 20 [(1, vi i1), (2, vi i2), (3, vi i3), (4, vi i4)] [] σ) :
    G mdX10_odds X 14 [(1, vi i1), (2, vi i2), (3, vi i3), (4, vi i4)] [] σ := by
  refine G.iload_n (z := i2) dX10_odds_14 rfl ?_
  refine G.bipush dX10_odds_15 (by decide) ?_
  exact G.icmp_gt (tgt := 41) dX10_odds_17 (by decide) s ⟨by decide, by decide⟩ (fun q => G.pick [] (kt q)) (fun q => G.pick [1, 2, 3, 4] (kf q))
theorem bX10_odds_20 {X : CT} {σ : St} {i1 i2 i3 i4 : Int}  (s : (-2147483648 ≤ i3 ∧ i3 < 2147483648))
    (kt : i3 < 0 → G mdX10_odds X 41 [] [] σ)
    (kf : 0 ≤ i3 → G mdX10_odds X 24 [(1, vi i1), (2, vi i2), (3, vi i3), (4, vi i4)] [] σ) :
    G mdX10_odds X 20 [(1, vi i1), (2, vi i2), (3, vi i3), (4, vi i4)] [] σ := by
  refine G.iload_n (z := i3) dX10_odds_20 rfl ?_
  exact G.if_lt (tgt := 41) dX10_odds_21 (by decide) s (fun q => G.pick [] (kt q)) (fun q => G.pick [1, 2, 3, 4] (kf q))
theorem bX10_odds_24 {X : CT} {σ : St} {i1 i2 i3 i4 : Int}  (s : (-2147483648 ≤ i3 ∧ i3 < 2147483648))
    (kt : 8 < i3 → G mdX10_odds X 41 [] [] σ)
    (kf : i3 ≤ 8 → G mdX10_odds X 30 [(1, vi i1), (2, vi i2), (3, vi i3), (4, vi i4)] [] σ) :
    G mdX10_odds X 24 [(1, vi i1), (2, vi i2), (3, vi i3), (4, vi i4)] [] σ := by
  refine G.iload_n (z := i3) dX10_odds_24 rfl ?_
  refine G.bipush dX10_odds_25 (by decide) ?_
  exact G.icmp_gt (tgt := 41) dX10_odds_27 (by decide) s ⟨by decide, by decide⟩ (fun q => G.pick [] (kt q)) (fun q => G.pick [1, 2, 3, 4] (kf q))
theorem bX10_odds_30 {X : CT} {σ : St} {i1 i2 i3 i4 : Int}  (s : (-2147483648 ≤ i4 ∧ i4 < 2147483648))
    (kt : i4 < 0 → G mdX10_odds X 41 [] [] σ)
    (kf : 0 ≤ i4 → G mdX10_odds X 35 [(1, vi i1), (2, vi i2), (3, vi i3), (4, vi i4)] [] σ) :
    G mdX10_odds X 30 [(1, vi i1), (2, vi i2), (3, vi i3), (4, vi i4)] [] σ := by
  refine G.iload (z := i4) dX10_odds_30 rfl ?_
  exact G.if_lt (tgt := 41) dX10_odds_32 (by decide) s (fun q => G.pick [] (kt q)) (fun q => G.pick [1, 2, 3, 4] (kf q))
theorem bX10_odds_35 {X : CT} {σ : St} {i1 i2 i3 i4 : Int}  (s : (-2147483648 ≤ i4 ∧ i4 < 2147483648))
    (kt : i4 ≤ 1 → G mdX10_odds X 43 [(1, vi i1), (2, vi i2), (3, vi i3), (4, vi i4)] [] σ)
    (kf : 1 < i4 → G mdX10_odds X 41 [] [] σ) :
    G mdX10_odds X 35 [(1, vi i1), (2, vi i2), (3, vi i3), (4, vi i4)] [] σ := by
  refine G.iload (z := i4) dX10_odds_35 rfl ?_
  refine G.iconst dX10_odds_37 ?_
  exact G.icmp_le (tgt := 43) dX10_odds_38 (by decide) s ⟨by decide, by decide⟩ (fun q => G.pick [1, 2, 3, 4] (kt q)) (fun q => G.pick [] (kf q))
theorem bX10_odds_41 {X : CT} {σ : St}  {P : Int → St → Prop} (hX : RI X P)
    (k : P (-1) σ) :
    G mdX10_odds X 41 [] [] σ := by
  refine G.iconst dX10_odds_41 ?_
  exact G.iret hX dX10_odds_42 rfl ⟨by decide, by decide⟩ k
theorem bX10_odds_43 {X : CT} {σ : St} {i1 i2 i3 i4 : Int}  {P : Int → St → Prop} (hM : CI mdX5_power [vi 10, vi i2] σ P)
    (k : ∀ z σ', inI z → P z σ' → G mdX10_odds X 49 [(1, vi i1), (2, vi i2), (3, vi i3), (4, vi i4)] [vi z] (σ')) :
    G mdX10_odds X 43 [(1, vi i1), (2, vi i2), (3, vi i3), (4, vi i4)] [] σ := by
  refine G.bipush dX10_odds_43 (by decide) ?_
  refine G.iload_n (z := i2) dX10_odds_45 rfl ?_
  exact G.callSI (as := [vi 10, vi i2]) (rest := []) dX10_odds_46 rfl vX10_257 (by decide) (Nat.le_of_ble_eq_true rfl) hM (fun z σ' hz q => G.pick [1, 2, 3, 4] (k z σ' hz q))
theorem bX10_odds_49 {X : CT} {σ : St} {i1 i2 i3 i4 t0 : Int}  {P : Int → St → Prop} (hM : CI mdX5_atMost [vi i1, vi i2, vi i3] σ P)
    (k : ∀ z σ', inI z → P z σ' → G mdX10_odds X 57 [(2, vi i2), (4, vi i4), (5, vi t0)] [vi z] (σ')) :
    G mdX10_odds X 49 [(1, vi i1), (2, vi i2), (3, vi i3), (4, vi i4)] [vi t0] σ := by
  refine G.istore dX10_odds_49 (by decide) rfl ?_
  refine G.iload_n (z := i1) dX10_odds_51 rfl ?_
  refine G.iload_n (z := i2) dX10_odds_52 rfl ?_
  refine G.iload_n (z := i3) dX10_odds_53 rfl ?_
  exact G.callSI (as := [vi i1, vi i2, vi i3]) (rest := []) dX10_odds_54 rfl vX10_260 (by decide) (Nat.le_of_ble_eq_true rfl) hM (fun z σ' hz q => G.pick [2, 4, 5] (k z σ' hz q))
theorem bX10_odds_57 {X : CT} {σ : St} {i2 i4 i5 t0 : Int}  {P : Int → St → Prop} (hM : CI mdX5_commonDivisor [vi t0, vi i2] σ P)
    (k : ∀ z σ', inI z → P z σ' → G mdX10_odds X 65 [(4, vi i4), (5, vi i5), (6, vi t0)] [vi z] (σ')) :
    G mdX10_odds X 57 [(2, vi i2), (4, vi i4), (5, vi i5)] [vi t0] σ := by
  refine G.istore dX10_odds_57 (by decide) rfl ?_
  refine G.iload (z := t0) dX10_odds_59 rfl ?_
  refine G.iload_n (z := i2) dX10_odds_61 rfl ?_
  exact G.callSI (as := [vi t0, vi i2]) (rest := []) dX10_odds_62 rfl vX10_264 (by decide) (Nat.le_of_ble_eq_true rfl) hM (fun z σ' hz q => G.pick [4, 5, 6] (k z σ' hz q))
theorem bX10_odds_65 {X : CT} {σ : St} {i4 i5 i6 t0 : Int}  (s : (-2147483648 ≤ i4 ∧ i4 < 2147483648))
    (kt : ¬ i4 = 0 → G mdX10_odds X 77 [(5, vi i5), (7, vi t0)] [] σ)
    (kf : i4 = 0 → G mdX10_odds X 72 [(6, vi i6), (7, vi t0)] [] σ) :
    G mdX10_odds X 65 [(4, vi i4), (5, vi i5), (6, vi i6)] [vi t0] σ := by
  refine G.istore dX10_odds_65 (by decide) rfl ?_
  refine G.iload (z := i4) dX10_odds_67 rfl ?_
  exact G.if_ne (tgt := 77) dX10_odds_69 (by decide) s (fun q => G.pick [5, 7] (kt q)) (fun q => G.pick [6, 7] (kf q))
theorem bX10_odds_72 {X : CT} {σ : St} {i6 i7 : Int} 
    (k : G mdX10_odds X 79 [(7, vi i7)] [vi i6] σ) :
    G mdX10_odds X 72 [(6, vi i6), (7, vi i7)] [] σ := by
  refine G.iload (z := i6) dX10_odds_72 rfl ?_
  refine G.goto (tgt := 79) dX10_odds_74 (by decide) ?_
  exact G.pick [7] k
theorem bX10_odds_77 {X : CT} {σ : St} {i5 i7 : Int} 
    (k : G mdX10_odds X 79 [(7, vi i7)] [vi i5] σ) :
    G mdX10_odds X 77 [(5, vi i5), (7, vi i7)] [] σ := by
  refine G.iload (z := i5) dX10_odds_77 rfl ?_
  exact G.pick [7] k
theorem bX10_odds_79 {X : CT} {σ : St} {i7 t0 : Int}  {P : Int → St → Prop} (hM : CI mdJ9_max_7cf53 [vi 1, vi i7] σ P)
    (k : ∀ z σ', inI z → P z σ' → G mdX10_odds X 85 [] [vi z, vi t0] (σ')) :
    G mdX10_odds X 79 [(7, vi i7)] [vi t0] σ := by
  refine G.iconst dX10_odds_79 ?_
  refine G.iload (z := i7) dX10_odds_80 rfl ?_
  exact G.callSI (as := [vi 1, vi i7]) (rest := [vi t0]) dX10_odds_82 rfl vX10_267 (by decide) (Nat.le_of_ble_eq_true rfl) hM (fun z σ' hz q => G.pick [] (k z σ' hz q))
theorem bX10_odds_85 {X : CT} {σ : St} {t0 t1 : Int}  {P : Int → St → Prop} (hX : RI X P) (s : (0 ≤ t0 ∧ t0 < 2147483648) ∧ (0 < t1 ∧ t1 < 2147483648) ∧ (-2147483648 ≤ t0 / t1 ∧ t0 / t1 < 2147483648))
    (k : P (t0 / t1) σ) :
    G mdX10_odds X 85 [] [vi t1, vi t0] σ := by
  refine G.idiv dX10_odds_85 s.1 s.2.1 ?_
  exact G.iret hX dX10_odds_86 rfl s.2.2 k
theorem bX10_keep_0 {X : CT} {σ : St} {i1 : Int}  (s : (-2147483648 ≤ i1 ∧ i1 < 2147483648))
    (kt : i1 < 0 → G mdX10_keep X 9 [] [] σ)
    (kf : 0 ≤ i1 → G mdX10_keep X 4 [(0, vr 60), (1, vi i1)] [] σ) :
    G mdX10_keep X 0 [(0, vr 60), (1, vi i1)] [] σ := by
  refine G.iload_n (z := i1) dX10_keep_0 rfl ?_
  exact G.if_lt (tgt := 9) dX10_keep_1 (by decide) s (fun q => G.pick [] (kt q)) (fun q => G.pick [0, 1] (kf q))
theorem bX10_keep_4 {X : CT} {σ : St} {i1 : Int}  (s : (-2147483648 ≤ i1 ∧ i1 < 2147483648))
    (kt : i1 < 2 → G mdX10_keep X 11 [(0, vr 60), (1, vi i1)] [] σ)
    (kf : 2 ≤ i1 → G mdX10_keep X 9 [] [] σ) :
    G mdX10_keep X 4 [(0, vr 60), (1, vi i1)] [] σ := by
  refine G.iload_n (z := i1) dX10_keep_4 rfl ?_
  refine G.iconst dX10_keep_5 ?_
  exact G.icmp_lt (tgt := 11) dX10_keep_6 (by decide) s ⟨by decide, by decide⟩ (fun q => G.pick [0, 1] (kt q)) (fun q => G.pick [] (kf q))
theorem bX10_keep_9 {X : CT} {σ : St}  {P : Int → St → Prop} (hX : RI X P)
    (k : P (-1) σ) :
    G mdX10_keep X 9 [] [] σ := by
  refine G.iconst dX10_keep_9 ?_
  exact G.iret hX dX10_keep_10 rfl ⟨by decide, by decide⟩ k
theorem bX10_keep_11 {X : CT} {σ : St} {i1 : Int}  {P : St → Prop} (hM : CV mdX7_takeFrom [vr (6 * (i1).toNat + 12), vr 0] σ P) (s : (0 ≤ i1 ∧ i1 < 2))
    (k : ∀ σ', P σ' → G mdX10_keep X 24 [(0, vr 60), (1, vi i1)] [] (σ')) :
    G mdX10_keep X 11 [(0, vr 60), (1, vi i1)] [] σ := by
  refine G.aload_n (o := 60) dX10_keep_11 rfl ?_
  refine G.getR (o' := 61) dX10_keep_12 fX10_19 sh60 rfl ?_
  refine G.iload_n (z := i1) dX10_keep_15 rfl ?_
  refine G.aald dX10_keep_16 sh61 s ?_
  refine G.aload_n (o := 60) dX10_keep_17 rfl ?_
  refine G.getR (o' := 0) dX10_keep_18 fX10_12 sh60 rfl ?_
  exact G.callVV (as := [vr 0]) (rest := []) dX10_keep_21 rfl vX10_89 (by decide) (sh_st (st_im s)) rfl (by decide) (Nat.le_of_ble_eq_true rfl) hM (fun σ' q => G.pick [0, 1] (k σ' q))
theorem bX10_keep_24 {X : CT} {σ : St} {i1 : Int}  {P : Int → St → Prop} (hX : RI X P) (s : (0 ≤ i1 ∧ i1 < 2) ∧ (-2147483648 ≤ (wr σ 62 i1 1) 4 2 ∧ (wr σ 62 i1 1) 4 2 < 2147483648))
    (k : P ((wr σ 62 i1 1) 4 2) (wr σ 62 i1 1)) :
    G mdX10_keep X 24 [(0, vr 60), (1, vi i1)] [] σ := by
  refine G.aload_n (o := 60) dX10_keep_24 rfl ?_
  refine G.getR (o' := 62) dX10_keep_25 fX10_23 sh60 rfl ?_
  refine G.iload_n (z := i1) dX10_keep_28 rfl ?_
  refine G.iconst dX10_keep_29 ?_
  refine G.zast dX10_keep_30 sh62 s.1 (Or.inr rfl) ?_
  refine G.aload_n (o := 60) dX10_keep_31 rfl ?_
  refine G.getR (o' := 0) dX10_keep_32 fX10_12 sh60 rfl ?_
  refine G.getR (o' := 4) dX10_keep_35 fX10_159 (sh_st st_0) rfl ?_
  refine G.getI (j := 2) dX10_keep_38 fX10_151 (sh_sp (sp_chain st_0)) rfl rfl rfl ?_
  exact G.iret hX dX10_keep_41 rfl s.2 k
theorem bX10_back_0 {X : CT} {σ : St} {i1 : Int}  (s : (-2147483648 ≤ i1 ∧ i1 < 2147483648))
    (kt : i1 < 0 → G mdX10_back X 9 [] [] σ)
    (kf : 0 ≤ i1 → G mdX10_back X 4 [(0, vr 60), (1, vi i1)] [] σ) :
    G mdX10_back X 0 [(0, vr 60), (1, vi i1)] [] σ := by
  refine G.iload_n (z := i1) dX10_back_0 rfl ?_
  exact G.if_lt (tgt := 9) dX10_back_1 (by decide) s (fun q => G.pick [] (kt q)) (fun q => G.pick [0, 1] (kf q))
theorem bX10_back_4 {X : CT} {σ : St} {i1 : Int}  (s : (-2147483648 ≤ i1 ∧ i1 < 2147483648))
    (kt : i1 < 2 → G mdX10_back X 11 [(0, vr 60), (1, vi i1)] [] σ)
    (kf : 2 ≤ i1 → G mdX10_back X 9 [] [] σ) :
    G mdX10_back X 4 [(0, vr 60), (1, vi i1)] [] σ := by
  refine G.iload_n (z := i1) dX10_back_4 rfl ?_
  refine G.iconst dX10_back_5 ?_
  exact G.icmp_lt (tgt := 11) dX10_back_6 (by decide) s ⟨by decide, by decide⟩ (fun q => G.pick [0, 1] (kt q)) (fun q => G.pick [] (kf q))
theorem bX10_back_9 {X : CT} {σ : St}  {P : Int → St → Prop} (hX : RI X P)
    (k : P (-1) σ) :
    G mdX10_back X 9 [] [] σ := by
  refine G.iconst dX10_back_9 ?_
  exact G.iret hX dX10_back_10 rfl ⟨by decide, by decide⟩ k
theorem bX10_back_11 {X : CT} {σ : St} {i1 : Int}  (s : (0 ≤ i1 ∧ i1 < 2) ∧ (-2147483648 ≤ σ 62 i1 ∧ σ 62 i1 < 2147483648))
    (kt : ¬ σ 62 i1 = 0 → G mdX10_back X 23 [(0, vr 60), (1, vi i1)] [] σ)
    (kf : σ 62 i1 = 0 → G mdX10_back X 20 [] [] σ) :
    G mdX10_back X 11 [(0, vr 60), (1, vi i1)] [] σ := by
  refine G.aload_n (o := 60) dX10_back_11 rfl ?_
  refine G.getR (o' := 62) dX10_back_12 fX10_23 sh60 rfl ?_
  refine G.iload_n (z := i1) dX10_back_15 rfl ?_
  refine G.zald dX10_back_16 sh62 s.1 ?_
  exact G.if_ne (tgt := 23) dX10_back_17 (by decide) s.2 (fun q => G.pick [0, 1] (kt q)) (fun q => G.pick [] (kf q))
theorem bX10_back_20 {X : CT} {σ : St}  {P : Int → St → Prop} (hX : RI X P)
    (k : P (-2) σ) :
    G mdX10_back X 20 [] [] σ := by
  refine G.bipush dX10_back_20 (by decide) ?_
  exact G.iret hX dX10_back_22 rfl ⟨by decide, by decide⟩ k
theorem bX10_back_23 {X : CT} {σ : St} {i1 : Int}  {P : St → Prop} (hM : CV mdX7_takeFrom [vr 0, vr (6 * (i1).toNat + 12)] σ P) (s : (0 ≤ i1 ∧ i1 < 2))
    (k : ∀ σ', P σ' → G mdX10_back X 36 [(0, vr 60)] [] (σ')) :
    G mdX10_back X 23 [(0, vr 60), (1, vi i1)] [] σ := by
  refine G.aload_n (o := 60) dX10_back_23 rfl ?_
  refine G.getR (o' := 0) dX10_back_24 fX10_12 sh60 rfl ?_
  refine G.aload_n (o := 60) dX10_back_27 rfl ?_
  refine G.getR (o' := 61) dX10_back_28 fX10_19 sh60 rfl ?_
  refine G.iload_n (z := i1) dX10_back_31 rfl ?_
  refine G.aald dX10_back_32 sh61 s ?_
  exact G.callVV (as := [vr (6 * (i1).toNat + 12)]) (rest := []) dX10_back_33 rfl vX10_89 (by decide) (sh_st st_0) rfl (by decide) (Nat.le_of_ble_eq_true rfl) hM (fun σ' q => G.pick [0] (k σ' q))
theorem bX10_back_36 {X : CT} {σ : St}  {P : Int → St → Prop} (hX : RI X P) (s : (-2147483648 ≤ (wr σ 63 2 0) 4 2 ∧ (wr σ 63 2 0) 4 2 < 2147483648))
    (k : P ((wr σ 63 2 0) 4 2) (wr σ 63 2 0)) :
    G mdX10_back X 36 [(0, vr 60)] [] σ := by
  refine G.aload_n (o := 60) dX10_back_36 rfl ?_
  refine G.getR (o' := 63) dX10_back_37 fX10_30 sh60 rfl ?_
  refine G.iconst dX10_back_40 ?_
  refine G.putI (j := 2) dX10_back_41 fX10_213 sh63 rfl rfl rfl rfl rfl ?_
  refine G.aload_n (o := 60) dX10_back_44 rfl ?_
  refine G.getR (o' := 0) dX10_back_45 fX10_12 sh60 rfl ?_
  refine G.getR (o' := 4) dX10_back_48 fX10_159 (sh_st st_0) rfl ?_
  refine G.getI (j := 2) dX10_back_51 fX10_151 (sh_sp (sp_chain st_0)) rfl rfl rfl ?_
  exact G.iret hX dX10_back_54 rfl s k
theorem bX10_count_0 {X : CT} {σ : St} {i1 : Int}  (s : (-2147483648 ≤ i1 ∧ i1 < 2147483648))
    (k0 : i1 = 0 → G mdX10_count X 48 [(0, vr 60)] [] σ)
    (k1 : i1 = 1 → G mdX10_count X 59 [(0, vr 60)] [] σ)
    (k2 : i1 = 2 → G mdX10_count X 70 [(0, vr 60)] [] σ)
    (k3 : i1 = 3 → G mdX10_count X 81 [(0, vr 60)] [] σ)
    (k4 : i1 = 4 → G mdX10_count X 96 [(0, vr 60)] [] σ)
    (k5 : i1 = 5 → G mdX10_count X 104 [(0, vr 60)] [] σ)
    (k6 : i1 = 6 → G mdX10_count X 112 [(0, vr 60)] [] σ)
    (k7 : i1 = 7 → G mdX10_count X 120 [(0, vr 60)] [] σ)
    (kd : i1 < 0 ∨ 7 < i1 → G mdX10_count X 128 [] [] σ) :
    G mdX10_count X 0 [(0, vr 60), (1, vi i1)] [] σ := by
  refine G.iload_n (z := i1) dX10_count_0 rfl ?_
  have hsw : i1 = 0 ∨ i1 = 1 ∨ i1 = 2 ∨ i1 = 3 ∨ i1 = 4 ∨ i1 = 5 ∨ i1 = 6 ∨ i1 = 7 ∨ (i1 < 0 ∨ 7 < i1) := by omega
  rcases hsw with q | q | q | q | q | q | q | q | q
  · exact G.tswIn (v := 0) (tgt := 48) dX10_count_1 s q ⟨by decide, by decide⟩ (off := 47) rfl (by decide) (G.pick [0] (k0 q))
  · exact G.tswIn (v := 1) (tgt := 59) dX10_count_1 s q ⟨by decide, by decide⟩ (off := 58) rfl (by decide) (G.pick [0] (k1 q))
  · exact G.tswIn (v := 2) (tgt := 70) dX10_count_1 s q ⟨by decide, by decide⟩ (off := 69) rfl (by decide) (G.pick [0] (k2 q))
  · exact G.tswIn (v := 3) (tgt := 81) dX10_count_1 s q ⟨by decide, by decide⟩ (off := 80) rfl (by decide) (G.pick [0] (k3 q))
  · exact G.tswIn (v := 4) (tgt := 96) dX10_count_1 s q ⟨by decide, by decide⟩ (off := 95) rfl (by decide) (G.pick [0] (k4 q))
  · exact G.tswIn (v := 5) (tgt := 104) dX10_count_1 s q ⟨by decide, by decide⟩ (off := 103) rfl (by decide) (G.pick [0] (k5 q))
  · exact G.tswIn (v := 6) (tgt := 112) dX10_count_1 s q ⟨by decide, by decide⟩ (off := 111) rfl (by decide) (G.pick [0] (k6 q))
  · exact G.tswIn (v := 7) (tgt := 120) dX10_count_1 s q ⟨by decide, by decide⟩ (off := 119) rfl (by decide) (G.pick [0] (k7 q))
  · exact G.tswOut (tgt := 128) dX10_count_1 s q (by decide) (G.pick [] (kd q))
theorem bX10_count_48 {X : CT} {σ : St}  {P : Int → St → Prop} (hX : RI X P) (s : (-2147483648 ≤ σ 2 2 ∧ σ 2 2 < 2147483648))
    (k : P (σ 2 2) σ) :
    G mdX10_count X 48 [(0, vr 60)] [] σ := by
  refine G.aload_n (o := 60) dX10_count_48 rfl ?_
  refine G.getR (o' := 0) dX10_count_49 fX10_12 sh60 rfl ?_
  refine G.getR (o' := 2) dX10_count_52 fX10_143 (sh_st st_0) rfl ?_
  refine G.getI (j := 2) dX10_count_55 fX10_151 (sh_sp (sp_line st_0)) rfl rfl rfl ?_
  exact G.iret hX dX10_count_58 rfl s k
theorem bX10_count_59 {X : CT} {σ : St}  {P : Int → St → Prop} (hX : RI X P) (s : (-2147483648 ≤ σ 4 2 ∧ σ 4 2 < 2147483648))
    (k : P (σ 4 2) σ) :
    G mdX10_count X 59 [(0, vr 60)] [] σ := by
  refine G.aload_n (o := 60) dX10_count_59 rfl ?_
  refine G.getR (o' := 0) dX10_count_60 fX10_12 sh60 rfl ?_
  refine G.getR (o' := 4) dX10_count_63 fX10_159 (sh_st st_0) rfl ?_
  refine G.getI (j := 2) dX10_count_66 fX10_151 (sh_sp (sp_chain st_0)) rfl rfl rfl ?_
  exact G.iret hX dX10_count_69 rfl s k
theorem bX10_count_70 {X : CT} {σ : St}  {P : Int → St → Prop} (hM : CI mdJ6_bitCount_0f7a4 [vi (σ 0 1)] σ P)
    (k : ∀ z σ', inI z → P z σ' → G mdX10_count X 80 [] [vi z] (σ')) :
    G mdX10_count X 70 [(0, vr 60)] [] σ := by
  refine G.aload_n (o := 60) dX10_count_70 rfl ?_
  refine G.getR (o' := 0) dX10_count_71 fX10_12 sh60 rfl ?_
  refine G.getI (j := 1) dX10_count_74 fX10_123 (sh_st st_0) rfl rfl rfl ?_
  exact G.callSI (as := [vi (σ 0 1)]) (rest := []) dX10_count_77 rfl vX10_126 (by decide) (Nat.le_of_ble_eq_true rfl) hM (fun z σ' hz q => G.pick [] (k z σ' hz q))
theorem bX10_count_80 {X : CT} {σ : St} {t0 : Int}  {P : Int → St → Prop} (hX : RI X P) (s : (-2147483648 ≤ t0 ∧ t0 < 2147483648))
    (k : P t0 σ) :
    G mdX10_count X 80 [] [vi t0] σ := by
  exact G.iret hX dX10_count_80 rfl s k
theorem bX10_count_81 {X : CT} {σ : St}  {P : Int → St → Prop} (hM : CI mdX10_errorsAfter [vr 60, vi (σ 4 2)] σ P)
    (k : ∀ z σ', inI z → P z σ' → G mdX10_count X 95 [] [vi z] (σ')) :
    G mdX10_count X 81 [(0, vr 60)] [] σ := by
  refine G.aload_n (o := 60) dX10_count_81 rfl ?_
  refine G.aload_n (o := 60) dX10_count_82 rfl ?_
  refine G.getR (o' := 0) dX10_count_83 fX10_12 sh60 rfl ?_
  refine G.getR (o' := 4) dX10_count_86 fX10_159 (sh_st st_0) rfl ?_
  refine G.getI (j := 2) dX10_count_89 fX10_151 (sh_sp (sp_chain st_0)) rfl rfl rfl ?_
  exact G.callVI (as := [vi (σ 4 2)]) (rest := []) dX10_count_92 rfl vX10_201 (by decide) sh60 rfl (by decide) (Nat.le_of_ble_eq_true rfl) hM (fun z σ' hz q => G.pick [] (k z σ' hz q))
theorem bX10_count_95 {X : CT} {σ : St} {t0 : Int}  {P : Int → St → Prop} (hX : RI X P) (s : (-2147483648 ≤ t0 ∧ t0 < 2147483648))
    (k : P t0 σ) :
    G mdX10_count X 95 [] [vi t0] σ := by
  exact G.iret hX dX10_count_95 rfl s k
theorem bX10_count_96 {X : CT} {σ : St}  {P : Int → St → Prop} (hX : RI X P) (s : (-2147483648 ≤ σ 0 5 ∧ σ 0 5 < 2147483648))
    (k : P (σ 0 5) σ) :
    G mdX10_count X 96 [(0, vr 60)] [] σ := by
  refine G.aload_n (o := 60) dX10_count_96 rfl ?_
  refine G.getR (o' := 0) dX10_count_97 fX10_12 sh60 rfl ?_
  refine G.getI (j := 5) dX10_count_100 fX10_204 (sh_st st_0) rfl rfl rfl ?_
  exact G.iret hX dX10_count_103 rfl s k
theorem bX10_count_104 {X : CT} {σ : St}  {P : Int → St → Prop} (hX : RI X P) (s : (-2147483648 ≤ σ 68 2 ∧ σ 68 2 < 2147483648))
    (k : P (σ 68 2) σ) :
    G mdX10_count X 104 [(0, vr 60)] [] σ := by
  refine G.aload_n (o := 60) dX10_count_104 rfl ?_
  refine G.getR (o' := 68) dX10_count_105 fX10_44 sh60 rfl ?_
  refine G.getI (j := 2) dX10_count_108 fX10_100 sh68 rfl rfl rfl ?_
  exact G.iret hX dX10_count_111 rfl s k
theorem bX10_count_112 {X : CT} {σ : St}  {P : Int → St → Prop} (hX : RI X P) (s : (-2147483648 ≤ σ 65 2 ∧ σ 65 2 < 2147483648))
    (k : P (σ 65 2) σ) :
    G mdX10_count X 112 [(0, vr 60)] [] σ := by
  refine G.aload_n (o := 60) dX10_count_112 rfl ?_
  refine G.getR (o' := 65) dX10_count_113 fX10_37 sh60 rfl ?_
  refine G.getI (j := 2) dX10_count_116 fX10_85 sh65 rfl rfl rfl ?_
  exact G.iret hX dX10_count_119 rfl s k
theorem bX10_count_120 {X : CT} {σ : St}  {P : Int → St → Prop} (hX : RI X P) (s : (-2147483648 ≤ σ 63 2 ∧ σ 63 2 < 2147483648))
    (k : P (σ 63 2) σ) :
    G mdX10_count X 120 [(0, vr 60)] [] σ := by
  refine G.aload_n (o := 60) dX10_count_120 rfl ?_
  refine G.getR (o' := 63) dX10_count_121 fX10_30 sh60 rfl ?_
  refine G.getI (j := 2) dX10_count_124 fX10_213 sh63 rfl rfl rfl ?_
  exact G.iret hX dX10_count_127 rfl s k
theorem bX10_count_128 {X : CT} {σ : St}  {P : Int → St → Prop} (hX : RI X P)
    (k : P (-1) σ) :
    G mdX10_count X 128 [] [] σ := by
  refine G.iconst dX10_count_128 ?_
  exact G.iret hX dX10_count_129 rfl ⟨by decide, by decide⟩ k
theorem bX10_isPlace_0 {X : CT} {σ : St} {i0 : Int}  (s : (-2147483648 ≤ i0 ∧ i0 < 2147483648))
    (kt : i0 < 0 → G mdX10_isPlace X 14 [] [] σ)
    (kf : 0 ≤ i0 → G mdX10_isPlace X 4 [(0, vi i0)] [] σ) :
    G mdX10_isPlace X 0 [(0, vi i0)] [] σ := by
  refine G.iload_n (z := i0) dX10_isPlace_0 rfl ?_
  exact G.if_lt (tgt := 14) dX10_isPlace_1 (by decide) s (fun q => G.pick [] (kt q)) (fun q => G.pick [0] (kf q))
theorem bX10_isPlace_4 {X : CT} {σ : St} {i0 : Int}  (s : (-2147483648 ≤ i0 ∧ i0 < 2147483648))
    (kt : 16 ≤ i0 → G mdX10_isPlace X 14 [] [] σ)
    (kf : i0 < 16 → G mdX10_isPlace X 10 [] [] σ) :
    G mdX10_isPlace X 4 [(0, vi i0)] [] σ := by
  refine G.iload_n (z := i0) dX10_isPlace_4 rfl ?_
  refine G.bipush dX10_isPlace_5 (by decide) ?_
  exact G.icmp_ge (tgt := 14) dX10_isPlace_7 (by decide) s ⟨by decide, by decide⟩ (fun q => G.pick [] (kt q)) (fun q => G.pick [] (kf q))
theorem bX10_isPlace_10 {X : CT} {σ : St} 
    (k : G mdX10_isPlace X 15 [] [vi 1] σ) :
    G mdX10_isPlace X 10 [] [] σ := by
  refine G.iconst dX10_isPlace_10 ?_
  refine G.goto (tgt := 15) dX10_isPlace_11 (by decide) ?_
  exact G.pick [] k
theorem bX10_isPlace_14 {X : CT} {σ : St} 
    (k : G mdX10_isPlace X 15 [] [vi 0] σ) :
    G mdX10_isPlace X 14 [] [] σ := by
  refine G.iconst dX10_isPlace_14 ?_
  exact G.pick [] k
theorem bX10_isPlace_15 {X : CT} {σ : St} {t0 : Int}  {P : Int → St → Prop} (hX : RI X P) (s : (t0 = 0 ∨ t0 = 1))
    (k : P t0 σ) :
    G mdX10_isPlace X 15 [] [vi t0] σ := by
  exact G.zret hX dX10_isPlace_15 rfl s k
theorem bX10_isSpot_0 {X : CT} {σ : St} {i0 i1 : Int}  (s : (-2147483648 ≤ i0 ∧ i0 < 2147483648))
    (kt : i0 < 0 → G mdX10_isSpot X 20 [] [] σ)
    (kf : 0 ≤ i0 → G mdX10_isSpot X 4 [(0, vi i0), (1, vi i1)] [] σ) :
    G mdX10_isSpot X 0 [(0, vi i0), (1, vi i1)] [] σ := by
  refine G.iload_n (z := i0) dX10_isSpot_0 rfl ?_
  exact G.if_lt (tgt := 20) dX10_isSpot_1 (by decide) s (fun q => G.pick [] (kt q)) (fun q => G.pick [0, 1] (kf q))
theorem bX10_isSpot_4 {X : CT} {σ : St} {i0 i1 : Int}  (s : (-2147483648 ≤ i0 ∧ i0 < 2147483648))
    (kt : 2 ≤ i0 → G mdX10_isSpot X 20 [] [] σ)
    (kf : i0 < 2 → G mdX10_isSpot X 9 [(1, vi i1)] [] σ) :
    G mdX10_isSpot X 4 [(0, vi i0), (1, vi i1)] [] σ := by
  refine G.iload_n (z := i0) dX10_isSpot_4 rfl ?_
  refine G.iconst dX10_isSpot_5 ?_
  exact G.icmp_ge (tgt := 20) dX10_isSpot_6 (by decide) s ⟨by decide, by decide⟩ (fun q => G.pick [] (kt q)) (fun q => G.pick [1] (kf q))
theorem bX10_isSpot_9 {X : CT} {σ : St} {i1 : Int}  {P : Int → St → Prop} (hM : CI mdX10_isPlace [vi i1] σ P)
    (k : ∀ z σ', inI z → P z σ' → G mdX10_isSpot X 13 [] [vi z] (σ')) :
    G mdX10_isSpot X 9 [(1, vi i1)] [] σ := by
  refine G.iload_n (z := i1) dX10_isSpot_9 rfl ?_
  exact G.callSI (as := [vi i1]) (rest := []) dX10_isSpot_10 rfl vX10_113 (by decide) (Nat.le_of_ble_eq_true rfl) hM (fun z σ' hz q => G.pick [] (k z σ' hz q))
theorem bX10_isSpot_13 {X : CT} {σ : St} {t0 : Int}  (s : (-2147483648 ≤ t0 ∧ t0 < 2147483648))
    (kt : t0 = 0 → G mdX10_isSpot X 20 [] [] σ)
    (kf : ¬ t0 = 0 → G mdX10_isSpot X 16 [] [] σ) :
    G mdX10_isSpot X 13 [] [vi t0] σ := by
  exact G.if_eq (tgt := 20) dX10_isSpot_13 (by decide) s (fun q => G.pick [] (kt q)) (fun q => G.pick [] (kf q))
theorem bX10_isSpot_16 {X : CT} {σ : St} 
    (k : G mdX10_isSpot X 21 [] [vi 1] σ) :
    G mdX10_isSpot X 16 [] [] σ := by
  refine G.iconst dX10_isSpot_16 ?_
  refine G.goto (tgt := 21) dX10_isSpot_17 (by decide) ?_
  exact G.pick [] k
theorem bX10_isSpot_20 {X : CT} {σ : St} 
    (k : G mdX10_isSpot X 21 [] [vi 0] σ) :
    G mdX10_isSpot X 20 [] [] σ := by
  refine G.iconst dX10_isSpot_20 ?_
  exact G.pick [] k
theorem bX10_isSpot_21 {X : CT} {σ : St} {t0 : Int}  {P : Int → St → Prop} (hX : RI X P) (s : (t0 = 0 ∨ t0 = 1))
    (k : P t0 σ) :
    G mdX10_isSpot X 21 [] [vi t0] σ := by
  exact G.zret hX dX10_isSpot_21 rfl s k
theorem bX10_isSymbol_0 {X : CT} {σ : St} {i0 : Int}  (s : (-2147483648 ≤ i0 ∧ i0 < 2147483648))
    (kt : i0 < 0 → G mdX10_isSymbol X 13 [] [] σ)
    (kf : 0 ≤ i0 → G mdX10_isSymbol X 4 [(0, vi i0)] [] σ) :
    G mdX10_isSymbol X 0 [(0, vi i0)] [] σ := by
  refine G.iload_n (z := i0) dX10_isSymbol_0 rfl ?_
  exact G.if_lt (tgt := 13) dX10_isSymbol_1 (by decide) s (fun q => G.pick [] (kt q)) (fun q => G.pick [0] (kf q))
theorem bX10_isSymbol_4 {X : CT} {σ : St} {i0 : Int}  (s : (-2147483648 ≤ i0 ∧ i0 < 2147483648))
    (kt : 4 ≤ i0 → G mdX10_isSymbol X 13 [] [] σ)
    (kf : i0 < 4 → G mdX10_isSymbol X 9 [] [] σ) :
    G mdX10_isSymbol X 4 [(0, vi i0)] [] σ := by
  refine G.iload_n (z := i0) dX10_isSymbol_4 rfl ?_
  refine G.iconst dX10_isSymbol_5 ?_
  exact G.icmp_ge (tgt := 13) dX10_isSymbol_6 (by decide) s ⟨by decide, by decide⟩ (fun q => G.pick [] (kt q)) (fun q => G.pick [] (kf q))
theorem bX10_isSymbol_9 {X : CT} {σ : St} 
    (k : G mdX10_isSymbol X 14 [] [vi 1] σ) :
    G mdX10_isSymbol X 9 [] [] σ := by
  refine G.iconst dX10_isSymbol_9 ?_
  refine G.goto (tgt := 14) dX10_isSymbol_10 (by decide) ?_
  exact G.pick [] k
theorem bX10_isSymbol_13 {X : CT} {σ : St} 
    (k : G mdX10_isSymbol X 14 [] [vi 0] σ) :
    G mdX10_isSymbol X 13 [] [] σ := by
  refine G.iconst dX10_isSymbol_13 ?_
  exact G.pick [] k
theorem bX10_isSymbol_14 {X : CT} {σ : St} {t0 : Int}  {P : Int → St → Prop} (hX : RI X P) (s : (t0 = 0 ∨ t0 = 1))
    (k : P t0 σ) :
    G mdX10_isSymbol X 14 [] [vi t0] σ := by
  exact G.zret hX dX10_isSymbol_14 rfl s k
theorem bX10_isPair_0 {X : CT} {σ : St} {i0 i1 : Int}  {P : Int → St → Prop} (hM : CI mdX10_isPlace [vi i0] σ P)
    (k : ∀ z σ', inI z → P z σ' → G mdX10_isPair X 4 [(0, vi i0), (1, vi i1)] [vi z] (σ')) :
    G mdX10_isPair X 0 [(0, vi i0), (1, vi i1)] [] σ := by
  refine G.iload_n (z := i0) dX10_isPair_0 rfl ?_
  exact G.callSI (as := [vi i0]) (rest := []) dX10_isPair_1 rfl vX10_113 (by decide) (Nat.le_of_ble_eq_true rfl) hM (fun z σ' hz q => G.pick [0, 1] (k z σ' hz q))
theorem bX10_isPair_4 {X : CT} {σ : St} {i0 i1 t0 : Int}  (s : (-2147483648 ≤ t0 ∧ t0 < 2147483648))
    (kt : t0 = 0 → G mdX10_isPair X 23 [] [] σ)
    (kf : ¬ t0 = 0 → G mdX10_isPair X 7 [(0, vi i0), (1, vi i1)] [] σ) :
    G mdX10_isPair X 4 [(0, vi i0), (1, vi i1)] [vi t0] σ := by
  exact G.if_eq (tgt := 23) dX10_isPair_4 (by decide) s (fun q => G.pick [] (kt q)) (fun q => G.pick [0, 1] (kf q))
theorem bX10_isPair_7 {X : CT} {σ : St} {i0 i1 : Int}  {P : Int → St → Prop} (hM : CI mdX10_isPlace [vi i1] σ P)
    (k : ∀ z σ', inI z → P z σ' → G mdX10_isPair X 11 [(0, vi i0), (1, vi i1)] [vi z] (σ')) :
    G mdX10_isPair X 7 [(0, vi i0), (1, vi i1)] [] σ := by
  refine G.iload_n (z := i1) dX10_isPair_7 rfl ?_
  exact G.callSI (as := [vi i1]) (rest := []) dX10_isPair_8 rfl vX10_113 (by decide) (Nat.le_of_ble_eq_true rfl) hM (fun z σ' hz q => G.pick [0, 1] (k z σ' hz q))
theorem bX10_isPair_11 {X : CT} {σ : St} {i0 i1 t0 : Int}  (s : (-2147483648 ≤ t0 ∧ t0 < 2147483648))
    (kt : t0 = 0 → G mdX10_isPair X 23 [] [] σ)
    (kf : ¬ t0 = 0 → G mdX10_isPair X 14 [(0, vi i0), (1, vi i1)] [] σ) :
    G mdX10_isPair X 11 [(0, vi i0), (1, vi i1)] [vi t0] σ := by
  exact G.if_eq (tgt := 23) dX10_isPair_11 (by decide) s (fun q => G.pick [] (kt q)) (fun q => G.pick [0, 1] (kf q))
theorem bX10_isPair_14 {X : CT} {σ : St} {i0 i1 : Int}  (s : (-2147483648 ≤ i0 ∧ i0 < 2147483648) ∧ (-2147483648 ≤ i1 ∧ i1 < 2147483648))
    (kt : i0 = i1 → G mdX10_isPair X 23 [] [] σ)
    (kf : ¬ i0 = i1 → G mdX10_isPair X 19 [] [] σ) :
    G mdX10_isPair X 14 [(0, vi i0), (1, vi i1)] [] σ := by
  refine G.iload_n (z := i0) dX10_isPair_14 rfl ?_
  refine G.iload_n (z := i1) dX10_isPair_15 rfl ?_
  exact G.icmp_eq (tgt := 23) dX10_isPair_16 (by decide) s.1 s.2 (fun q => G.pick [] (kt q)) (fun q => G.pick [] (kf q))
theorem bX10_isPair_19 {X : CT} {σ : St} 
    (k : G mdX10_isPair X 24 [] [vi 1] σ) :
    G mdX10_isPair X 19 [] [] σ := by
  refine G.iconst dX10_isPair_19 ?_
  refine G.goto (tgt := 24) dX10_isPair_20 (by decide) ?_
  exact G.pick [] k
theorem bX10_isPair_23 {X : CT} {σ : St} 
    (k : G mdX10_isPair X 24 [] [vi 0] σ) :
    G mdX10_isPair X 23 [] [] σ := by
  refine G.iconst dX10_isPair_23 ?_
  exact G.pick [] k
theorem bX10_isPair_24 {X : CT} {σ : St} {t0 : Int}  {P : Int → St → Prop} (hX : RI X P) (s : (t0 = 0 ∨ t0 = 1))
    (k : P t0 σ) :
    G mdX10_isPair X 24 [] [vi t0] σ := by
  exact G.zret hX dX10_isPair_24 rfl s k
theorem bX10_putStep_0 {X : CT} {σ : St} {i1 i2 i3 i4 i5 : Int}  {P : St → Prop} (hX : RV X P)
    (k : P (wr (wr (wr (wr (wr σ 84 0 i1) 84 1 i2) 84 2 i3) 84 3 i4) 84 4 i5)) :
    G mdX10_putStep X 0 [(0, vr 60), (1, vi i1), (2, vi i2), (3, vi i3), (4, vi i4), (5, vi i5)] [] σ := by
  refine G.aload_n (o := 60) dX10_putStep_0 rfl ?_
  refine G.getR (o' := 84) dX10_putStep_1 fX10_67 sh60 rfl ?_
  refine G.iconst dX10_putStep_4 ?_
  refine G.iload_n (z := i1) dX10_putStep_5 rfl ?_
  refine G.iast dX10_putStep_6 sh84 ⟨by decide, by decide⟩ ?_
  refine G.aload_n (o := 60) dX10_putStep_7 rfl ?_
  refine G.getR (o' := 84) dX10_putStep_8 fX10_67 sh60 rfl ?_
  refine G.iconst dX10_putStep_11 ?_
  refine G.iload_n (z := i2) dX10_putStep_12 rfl ?_
  refine G.iast dX10_putStep_13 sh84 ⟨by decide, by decide⟩ ?_
  refine G.aload_n (o := 60) dX10_putStep_14 rfl ?_
  refine G.getR (o' := 84) dX10_putStep_15 fX10_67 sh60 rfl ?_
  refine G.iconst dX10_putStep_18 ?_
  refine G.iload_n (z := i3) dX10_putStep_19 rfl ?_
  refine G.iast dX10_putStep_20 sh84 ⟨by decide, by decide⟩ ?_
  refine G.aload_n (o := 60) dX10_putStep_21 rfl ?_
  refine G.getR (o' := 84) dX10_putStep_22 fX10_67 sh60 rfl ?_
  refine G.iconst dX10_putStep_25 ?_
  refine G.iload (z := i4) dX10_putStep_26 rfl ?_
  refine G.iast dX10_putStep_28 sh84 ⟨by decide, by decide⟩ ?_
  refine G.aload_n (o := 60) dX10_putStep_29 rfl ?_
  refine G.getR (o' := 84) dX10_putStep_30 fX10_67 sh60 rfl ?_
  refine G.iconst dX10_putStep_33 ?_
  refine G.iload (z := i5) dX10_putStep_34 rfl ?_
  refine G.iast dX10_putStep_36 sh84 ⟨by decide, by decide⟩ ?_
  exact G.vret hX dX10_putStep_37 rfl k
theorem bX10_appendStep_0 {X : CT} {σ : St} {o1 : Nat} (h1 : isSp o1) {P : Int → St → Prop} (hM : CI mdX8_isFull [vr o1] σ P)
    (k : ∀ z σ', inI z → P z σ' → G mdX10_appendStep X 4 [(0, vr 60), (1, vr o1)] [vi z] (σ')) :
    G mdX10_appendStep X 0 [(0, vr 60), (1, vr o1)] [] σ := by
  refine G.aload_n (o := o1) dX10_appendStep_0 rfl ?_
  exact G.callVI (as := []) (rest := []) dX10_appendStep_1 rfl vX10_272 (by decide) (sh_sp h1) rfl (by decide) (Nat.le_of_ble_eq_true rfl) hM (fun z σ' hz q => G.pick [0, 1] (k z σ' hz q))
theorem bX10_appendStep_4 {X : CT} {σ : St} {o1 : Nat} {t0 : Int} (h1 : isSp o1) (s : (-2147483648 ≤ t0 ∧ t0 < 2147483648))
    (kt : t0 = 0 → G mdX10_appendStep X 10 [(0, vr 60), (1, vr o1)] [] σ)
    (kf : ¬ t0 = 0 → G mdX10_appendStep X 7 [] [] σ) :
    G mdX10_appendStep X 4 [(0, vr 60), (1, vr o1)] [vi t0] σ := by
  exact G.if_eq (tgt := 10) dX10_appendStep_4 (by decide) s (fun q => G.pick [0, 1] (kt q)) (fun q => G.pick [] (kf q))
theorem bX10_appendStep_7 {X : CT} {σ : St}  {P : Int → St → Prop} (hX : RI X P)
    (k : P (-3) σ) :
    G mdX10_appendStep X 7 [] [] σ := by
  refine G.bipush dX10_appendStep_7 (by decide) ?_
  exact G.iret hX dX10_appendStep_9 rfl ⟨by decide, by decide⟩ k
theorem bX10_appendStep_10 {X : CT} {σ : St} {o1 : Nat} (h1 : isSp o1) {P : St → Prop} (hM : CV mdX3_remember [vr 63, vr 0] σ P)
    (k : ∀ σ', P σ' → G mdX10_appendStep X 21 [(0, vr 60), (1, vr o1)] [] (σ')) :
    G mdX10_appendStep X 10 [(0, vr 60), (1, vr o1)] [] σ := by
  refine G.aload_n (o := 60) dX10_appendStep_10 rfl ?_
  refine G.getR (o' := 63) dX10_appendStep_11 fX10_30 sh60 rfl ?_
  refine G.aload_n (o := 60) dX10_appendStep_14 rfl ?_
  refine G.getR (o' := 0) dX10_appendStep_15 fX10_12 sh60 rfl ?_
  exact G.callVV (as := [vr 0]) (rest := []) dX10_appendStep_18 rfl vX10_97 (by decide) sh63 rfl (by decide) (Nat.le_of_ble_eq_true rfl) hM (fun σ' q => G.pick [0, 1] (k σ' q))
theorem bX10_appendStep_21 {X : CT} {σ : St} {o1 : Nat} (h1 : isSp o1) {P : St → Prop} (hM : CV mdX8_append [vr o1, vr 84] σ P)
    (k : ∀ σ', P σ' → G mdX10_appendStep X 29 [(1, vr o1)] [] (σ')) :
    G mdX10_appendStep X 21 [(0, vr 60), (1, vr o1)] [] σ := by
  refine G.aload_n (o := o1) dX10_appendStep_21 rfl ?_
  refine G.aload_n (o := 60) dX10_appendStep_22 rfl ?_
  refine G.getR (o' := 84) dX10_appendStep_23 fX10_67 sh60 rfl ?_
  exact G.callVV (as := [vr 84]) (rest := []) dX10_appendStep_26 rfl vX10_275 (by decide) (sh_sp h1) rfl (by decide) (Nat.le_of_ble_eq_true rfl) hM (fun σ' q => G.pick [1] (k σ' q))
theorem bX10_appendStep_29 {X : CT} {σ : St} {o1 : Nat} (h1 : isSp o1) {P : Int → St → Prop} (hX : RI X P) (s : (-2147483648 ≤ σ o1 2 ∧ σ o1 2 < 2147483648))
    (k : P (σ o1 2) σ) :
    G mdX10_appendStep X 29 [(1, vr o1)] [] σ := by
  refine G.aload_n (o := o1) dX10_appendStep_29 rfl ?_
  refine G.getI (j := 2) dX10_appendStep_30 fX10_151 (sh_sp h1) rfl rfl rfl ?_
  exact G.iret hX dX10_appendStep_33 rfl s k
theorem bX10_errorsAfter_0 {X : CT} {σ : St} {i1 : Int}  {P : St → Prop} (hM : CV mdX1_receive [vr 71, vr 0, vi i1] σ P)
    (k : ∀ σ', P σ' → G mdX10_errorsAfter X 12 [(0, vr 60)] [] (σ')) :
    G mdX10_errorsAfter X 0 [(0, vr 60), (1, vi i1)] [] σ := by
  refine G.aload_n (o := 60) dX10_errorsAfter_0 rfl ?_
  refine G.getR (o' := 71) dX10_errorsAfter_1 fX10_51 sh60 rfl ?_
  refine G.aload_n (o := 60) dX10_errorsAfter_4 rfl ?_
  refine G.getR (o' := 0) dX10_errorsAfter_5 fX10_12 sh60 rfl ?_
  refine G.iload_n (z := i1) dX10_errorsAfter_8 rfl ?_
  exact G.callVV (as := [vr 0, vi i1]) (rest := []) dX10_errorsAfter_9 rfl vX10_217 (by decide) (sh_bk bk_71) rfl (by decide) (Nat.le_of_ble_eq_true rfl) hM (fun σ' q => G.pick [0] (k σ' q))
theorem bX10_errorsAfter_12 {X : CT} {σ : St}  {P : Int → St → Prop} (hM : CI mdX1_errors [vr 71, vr 0] σ P)
    (k : ∀ z σ', inI z → P z σ' → G mdX10_errorsAfter X 23 [] [vi z] (σ')) :
    G mdX10_errorsAfter X 12 [(0, vr 60)] [] σ := by
  refine G.aload_n (o := 60) dX10_errorsAfter_12 rfl ?_
  refine G.getR (o' := 71) dX10_errorsAfter_13 fX10_51 sh60 rfl ?_
  refine G.aload_n (o := 60) dX10_errorsAfter_16 rfl ?_
  refine G.getR (o' := 0) dX10_errorsAfter_17 fX10_12 sh60 rfl ?_
  exact G.callVI (as := [vr 0]) (rest := []) dX10_errorsAfter_20 rfl vX10_278 (by decide) (sh_bk bk_71) rfl (by decide) (Nat.le_of_ble_eq_true rfl) hM (fun z σ' hz q => G.pick [] (k z σ' hz q))
theorem bX10_errorsAfter_23 {X : CT} {σ : St} {t0 : Int}  {P : Int → St → Prop} (hX : RI X P) (s : (-2147483648 ≤ t0 ∧ t0 < 2147483648))
    (k : P t0 σ) :
    G mdX10_errorsAfter X 23 [] [vi t0] σ := by
  exact G.iret hX dX10_errorsAfter_23 rfl s k
theorem bX10_unspreadFits_0 {X : CT} {σ : St} {i1 : Int}  {P : St → Prop} (hM : CV mdX1_takeFrom [vr 76, vr 71] σ P)
    (k : ∀ σ', P σ' → G mdX10_unspreadFits X 11 [(0, vr 60), (1, vi i1)] [] (σ')) :
    G mdX10_unspreadFits X 0 [(0, vr 60), (1, vi i1)] [] σ := by
  refine G.aload_n (o := 60) dX10_unspreadFits_0 rfl ?_
  refine G.getR (o' := 76) dX10_unspreadFits_1 fX10_55 sh60 rfl ?_
  refine G.aload_n (o := 60) dX10_unspreadFits_4 rfl ?_
  refine G.getR (o' := 71) dX10_unspreadFits_5 fX10_51 sh60 rfl ?_
  exact G.callVV (as := [vr 71]) (rest := []) dX10_unspreadFits_8 rfl vX10_237 (by decide) (sh_bk bk_76) rfl (by decide) (Nat.le_of_ble_eq_true rfl) hM (fun σ' q => G.pick [0, 1] (k σ' q))
theorem bX10_unspreadFits_11 {X : CT} {σ : St} {i1 : Int}  {P : St → Prop} (hM : CV mdX1_unspread [vr 76, vi i1] σ P)
    (k : ∀ σ', P σ' → G mdX10_unspreadFits X 19 [(0, vr 60)] [] (σ')) :
    G mdX10_unspreadFits X 11 [(0, vr 60), (1, vi i1)] [] σ := by
  refine G.aload_n (o := 60) dX10_unspreadFits_11 rfl ?_
  refine G.getR (o' := 76) dX10_unspreadFits_12 fX10_55 sh60 rfl ?_
  refine G.iload_n (z := i1) dX10_unspreadFits_15 rfl ?_
  exact G.callVV (as := [vi i1]) (rest := []) dX10_unspreadFits_16 rfl vX10_281 (by decide) (sh_bk bk_76) rfl (by decide) (Nat.le_of_ble_eq_true rfl) hM (fun σ' q => G.pick [0] (k σ' q))
theorem bX10_unspreadFits_19 {X : CT} {σ : St}  {P : Int → St → Prop} (hM : CI mdX1_errorsAtMarks [vr 76, vr 0] σ P)
    (k : ∀ z σ', inI z → P z σ' → G mdX10_unspreadFits X 30 [] [vi z] (σ')) :
    G mdX10_unspreadFits X 19 [(0, vr 60)] [] σ := by
  refine G.aload_n (o := 60) dX10_unspreadFits_19 rfl ?_
  refine G.getR (o' := 76) dX10_unspreadFits_20 fX10_55 sh60 rfl ?_
  refine G.aload_n (o := 60) dX10_unspreadFits_23 rfl ?_
  refine G.getR (o' := 0) dX10_unspreadFits_24 fX10_12 sh60 rfl ?_
  exact G.callVI (as := [vr 0]) (rest := []) dX10_unspreadFits_27 rfl vX10_243 (by decide) (sh_bk bk_76) rfl (by decide) (Nat.le_of_ble_eq_true rfl) hM (fun z σ' hz q => G.pick [] (k z σ' hz q))
theorem bX10_unspreadFits_30 {X : CT} {σ : St} {t0 : Int}  (s : (-2147483648 ≤ t0 ∧ t0 < 2147483648))
    (kt : ¬ t0 = 0 → G mdX10_unspreadFits X 37 [] [] σ)
    (kf : t0 = 0 → G mdX10_unspreadFits X 33 [] [] σ) :
    G mdX10_unspreadFits X 30 [] [vi t0] σ := by
  exact G.if_ne (tgt := 37) dX10_unspreadFits_30 (by decide) s (fun q => G.pick [] (kt q)) (fun q => G.pick [] (kf q))
theorem bX10_unspreadFits_33 {X : CT} {σ : St} 
    (k : G mdX10_unspreadFits X 38 [] [vi 1] σ) :
    G mdX10_unspreadFits X 33 [] [] σ := by
  refine G.iconst dX10_unspreadFits_33 ?_
  refine G.goto (tgt := 38) dX10_unspreadFits_34 (by decide) ?_
  exact G.pick [] k
theorem bX10_unspreadFits_37 {X : CT} {σ : St} 
    (k : G mdX10_unspreadFits X 38 [] [vi 0] σ) :
    G mdX10_unspreadFits X 37 [] [] σ := by
  refine G.iconst dX10_unspreadFits_37 ?_
  exact G.pick [] k
theorem bX10_unspreadFits_38 {X : CT} {σ : St} {t0 : Int}  {P : Int → St → Prop} (hX : RI X P) (s : (t0 = 0 ∨ t0 = 1))
    (k : P t0 σ) :
    G mdX10_unspreadFits X 38 [] [vi t0] σ := by
  exact G.zret hX dX10_unspreadFits_38 rfl s k
theorem bX10_slipFits_0 {X : CT} {σ : St} {i1 i2 : Int}  {P : St → Prop} (hM : CV mdX1_takeFrom [vr 76, vr 71] σ P)
    (k : ∀ σ', P σ' → G mdX10_slipFits X 11 [(0, vr 60), (1, vi i1), (2, vi i2)] [] (σ')) :
    G mdX10_slipFits X 0 [(0, vr 60), (1, vi i1), (2, vi i2)] [] σ := by
  refine G.aload_n (o := 60) dX10_slipFits_0 rfl ?_
  refine G.getR (o' := 76) dX10_slipFits_1 fX10_55 sh60 rfl ?_
  refine G.aload_n (o := 60) dX10_slipFits_4 rfl ?_
  refine G.getR (o' := 71) dX10_slipFits_5 fX10_51 sh60 rfl ?_
  exact G.callVV (as := [vr 71]) (rest := []) dX10_slipFits_8 rfl vX10_237 (by decide) (sh_bk bk_76) rfl (by decide) (Nat.le_of_ble_eq_true rfl) hM (fun σ' q => G.pick [0, 1, 2] (k σ' q))
theorem bX10_slipFits_11 {X : CT} {σ : St} {i1 i2 : Int}  {P : St → Prop} (hM : CV mdX1_slip [vr 76, vi i1, vi i2] σ P)
    (k : ∀ σ', P σ' → G mdX10_slipFits X 20 [(0, vr 60)] [] (σ')) :
    G mdX10_slipFits X 11 [(0, vr 60), (1, vi i1), (2, vi i2)] [] σ := by
  refine G.aload_n (o := 60) dX10_slipFits_11 rfl ?_
  refine G.getR (o' := 76) dX10_slipFits_12 fX10_55 sh60 rfl ?_
  refine G.iload_n (z := i1) dX10_slipFits_15 rfl ?_
  refine G.iload_n (z := i2) dX10_slipFits_16 rfl ?_
  exact G.callVV (as := [vi i1, vi i2]) (rest := []) dX10_slipFits_17 rfl vX10_284 (by decide) (sh_bk bk_76) rfl (by decide) (Nat.le_of_ble_eq_true rfl) hM (fun σ' q => G.pick [0] (k σ' q))
theorem bX10_slipFits_20 {X : CT} {σ : St} 
    (k : G mdX10_slipFits X 22 [(0, vr 60), (3, vi 0)] [] σ) :
    G mdX10_slipFits X 20 [(0, vr 60)] [] σ := by
  refine G.iconst dX10_slipFits_20 ?_
  refine G.istore_n dX10_slipFits_21 (by decide) rfl ?_
  exact G.pick [0, 3] k
theorem bX10_slipFits_22 {X : CT} {σ : St} {i3 : Int}  (s : (-2147483648 ≤ i3 ∧ i3 < 2147483648) ∧ (-2147483648 ≤ σ 4 2 ∧ σ 4 2 < 2147483648))
    (kt : σ 4 2 ≤ i3 → G mdX10_slipFits X 54 [(0, vr 60)] [] σ)
    (kf : i3 < σ 4 2 → G mdX10_slipFits X 36 [(0, vr 60), (3, vi i3)] [] σ) :
    G mdX10_slipFits X 22 [(0, vr 60), (3, vi i3)] [] σ := by
  refine G.iload_n (z := i3) dX10_slipFits_22 rfl ?_
  refine G.aload_n (o := 60) dX10_slipFits_23 rfl ?_
  refine G.getR (o' := 0) dX10_slipFits_24 fX10_12 sh60 rfl ?_
  refine G.getR (o' := 4) dX10_slipFits_27 fX10_159 (sh_st st_0) rfl ?_
  refine G.getI (j := 2) dX10_slipFits_30 fX10_151 (sh_sp (sp_chain st_0)) rfl rfl rfl ?_
  exact G.icmp_ge (tgt := 54) dX10_slipFits_33 (by decide) s.1 s.2 (fun q => G.pick [0] (kt q)) (fun q => G.pick [0, 3] (kf q))
theorem bX10_slipFits_36 {X : CT} {σ : St} {i3 : Int}  {P : St → Prop} (hM : CV mdX1_passStage [vr 76, vr 0, vi i3] σ P)
    (k : ∀ σ', P σ' → G mdX10_slipFits X 48 [(0, vr 60), (3, vi i3)] [] (σ')) :
    G mdX10_slipFits X 36 [(0, vr 60), (3, vi i3)] [] σ := by
  refine G.aload_n (o := 60) dX10_slipFits_36 rfl ?_
  refine G.getR (o' := 76) dX10_slipFits_37 fX10_55 sh60 rfl ?_
  refine G.aload_n (o := 60) dX10_slipFits_40 rfl ?_
  refine G.getR (o' := 0) dX10_slipFits_41 fX10_12 sh60 rfl ?_
  refine G.iload_n (z := i3) dX10_slipFits_44 rfl ?_
  exact G.callVV (as := [vr 0, vi i3]) (rest := []) dX10_slipFits_45 rfl vX10_288 (by decide) (sh_bk bk_76) rfl (by decide) (Nat.le_of_ble_eq_true rfl) hM (fun σ' q => G.pick [0, 3] (k σ' q))
theorem bX10_slipFits_48 {X : CT} {σ : St} {i3 : Int} 
    (k : G mdX10_slipFits X 22 [(0, vr 60), (3, vi (i3 + 1))] [] σ) :
    G mdX10_slipFits X 48 [(0, vr 60), (3, vi i3)] [] σ := by
  refine G.iinc (z := i3) dX10_slipFits_48 rfl (by decide) rfl ?_
  refine G.goto (tgt := 22) dX10_slipFits_51 (by decide) ?_
  exact G.pick [0, 3] k
theorem bX10_slipFits_54 {X : CT} {σ : St}  {P : Int → St → Prop} (hM : CI mdX6_areTrueOf [vr 68, vr 76] σ P)
    (k : ∀ z σ', inI z → P z σ' → G mdX10_slipFits X 65 [] [vi z] (σ')) :
    G mdX10_slipFits X 54 [(0, vr 60)] [] σ := by
  refine G.aload_n (o := 60) dX10_slipFits_54 rfl ?_
  refine G.getR (o' := 68) dX10_slipFits_55 fX10_44 sh60 rfl ?_
  refine G.aload_n (o := 60) dX10_slipFits_58 rfl ?_
  refine G.getR (o' := 76) dX10_slipFits_59 fX10_55 sh60 rfl ?_
  exact G.callVI (as := [vr 76]) (rest := []) dX10_slipFits_62 rfl vX10_291 (by decide) sh68 rfl (by decide) (Nat.le_of_ble_eq_true rfl) hM (fun z σ' hz q => G.pick [] (k z σ' hz q))
theorem bX10_slipFits_65 {X : CT} {σ : St} {t0 : Int}  {P : Int → St → Prop} (hX : RI X P) (s : (t0 = 0 ∨ t0 = 1))
    (k : P t0 σ) :
    G mdX10_slipFits X 65 [] [vi t0] σ := by
  exact G.zret hX dX10_slipFits_65 rfl s k
theorem bX10_findTaps_0 {X : CT} {σ : St} {i1 i2 : Int}  {P : St → Prop} (hM : CV mdX1_receive [vr 71, vr 0, vi (σ 4 2)] σ P)
    (k : ∀ σ', P σ' → G mdX10_findTaps X 21 [(0, vr 60), (1, vi i1), (2, vi i2)] [] (σ')) :
    G mdX10_findTaps X 0 [(0, vr 60), (1, vi i1), (2, vi i2)] [] σ := by
  refine G.aload_n (o := 60) dX10_findTaps_0 rfl ?_
  refine G.getR (o' := 71) dX10_findTaps_1 fX10_51 sh60 rfl ?_
  refine G.aload_n (o := 60) dX10_findTaps_4 rfl ?_
  refine G.getR (o' := 0) dX10_findTaps_5 fX10_12 sh60 rfl ?_
  refine G.aload_n (o := 60) dX10_findTaps_8 rfl ?_
  refine G.getR (o' := 0) dX10_findTaps_9 fX10_12 sh60 rfl ?_
  refine G.getR (o' := 4) dX10_findTaps_12 fX10_159 (sh_st st_0) rfl ?_
  refine G.getI (j := 2) dX10_findTaps_15 fX10_151 (sh_sp (sp_chain st_0)) rfl rfl rfl ?_
  exact G.callVV (as := [vr 0, vi (σ 4 2)]) (rest := []) dX10_findTaps_18 rfl vX10_217 (by decide) (sh_bk bk_71) rfl (by decide) (Nat.le_of_ble_eq_true rfl) hM (fun σ' q => G.pick [0, 1, 2] (k σ' q))
theorem bX10_findTaps_21 {X : CT} {σ : St} {i1 i2 : Int}  {P : St → Prop} (hM : CV mdX4_put [vr 85, vi (σ 72 i1), vi (σ 72 i2), vi (σ 72 (16 + i1)), vi (σ 72 (16 + i2))] σ P) (s : (0 ≤ i1 ∧ i1 < 32) ∧ (0 ≤ i2 ∧ i2 < 32) ∧ (0 ≤ 16 + i1 ∧ 16 + i1 < 32) ∧ (0 ≤ 16 + i2 ∧ 16 + i2 < 32))
    (k : ∀ σ', P σ' → G mdX10_findTaps X 63 [(0, vr 60), (1, vi i1), (2, vi i2), (4, vr 1)] [] (σ')) :
    G mdX10_findTaps X 21 [(0, vr 60), (1, vi i1), (2, vi i2)] [] σ := by
  refine G.aload_n (o := 60) dX10_findTaps_21 rfl ?_
  refine G.getR (o' := 71) dX10_findTaps_22 fX10_51 sh60 rfl ?_
  refine G.getR (o' := 72) dX10_findTaps_25 fX10_221 (sh_bk bk_71) rfl ?_
  refine G.astore_n dX10_findTaps_28 (by decide) rfl ?_
  refine G.aload_n (o := 60) dX10_findTaps_29 rfl ?_
  refine G.getR (o' := 0) dX10_findTaps_30 fX10_12 sh60 rfl ?_
  refine G.getR (o' := 1) dX10_findTaps_33 fX10_110 (sh_st st_0) rfl ?_
  refine G.astore dX10_findTaps_36 (by decide) rfl ?_
  refine G.aload_n (o := 60) dX10_findTaps_38 rfl ?_
  refine G.getR (o' := 85) dX10_findTaps_39 fX10_74 sh60 rfl ?_
  refine G.aload_n (o := 72) dX10_findTaps_42 rfl ?_
  refine G.iload_n (z := i1) dX10_findTaps_43 rfl ?_
  refine G.iald dX10_findTaps_44 (sh_bkn bk_71) s.1 ?_
  refine G.aload_n (o := 72) dX10_findTaps_45 rfl ?_
  refine G.iload_n (z := i2) dX10_findTaps_46 rfl ?_
  refine G.iald dX10_findTaps_47 (sh_bkn bk_71) s.2.1 ?_
  refine G.aload_n (o := 72) dX10_findTaps_48 rfl ?_
  refine G.bipush dX10_findTaps_49 (by decide) ?_
  refine G.iload_n (z := i1) dX10_findTaps_51 rfl ?_
  refine G.iadd dX10_findTaps_52 ?_
  refine G.iald dX10_findTaps_53 (sh_bkn bk_71) s.2.2.1 ?_
  refine G.aload_n (o := 72) dX10_findTaps_54 rfl ?_
  refine G.bipush dX10_findTaps_55 (by decide) ?_
  refine G.iload_n (z := i2) dX10_findTaps_57 rfl ?_
  refine G.iadd dX10_findTaps_58 ?_
  refine G.iald dX10_findTaps_59 (sh_bkn bk_71) s.2.2.2 ?_
  exact G.callVV (as := [vi (σ 72 i1), vi (σ 72 i2), vi (σ 72 (16 + i1)), vi (σ 72 (16 + i2))]) (rest := []) dX10_findTaps_60 rfl vX10_295 (by decide) (sh_mx mx_85) rfl (by decide) (Nat.le_of_ble_eq_true rfl) hM (fun σ' q => G.pick [0, 1, 2, 4] (k σ' q))
theorem bX10_findTaps_63 {X : CT} {σ : St} {i1 i2 : Int}  {P : Int → St → Prop} (hM : CI mdX2_light [vi (σ 1 i1)] σ P) (s : (0 ≤ i1 ∧ i1 < 32))
    (k : ∀ z σ', inI z → P z σ' → G mdX10_findTaps X 74 [(0, vr 60), (1, vi i1), (2, vi i2), (4, vr 1)] [vi z, vr 86] (σ')) :
    G mdX10_findTaps X 63 [(0, vr 60), (1, vi i1), (2, vi i2), (4, vr 1)] [] σ := by
  refine G.aload_n (o := 60) dX10_findTaps_63 rfl ?_
  refine G.getR (o' := 86) dX10_findTaps_64 fX10_78 sh60 rfl ?_
  refine G.aload (o := 1) dX10_findTaps_67 rfl ?_
  refine G.iload_n (z := i1) dX10_findTaps_69 rfl ?_
  refine G.iald dX10_findTaps_70 (sh_sent st_0) s ?_
  exact G.callSI (as := [vi (σ 1 i1)]) (rest := [vr 86]) dX10_findTaps_71 rfl vX10_299 (by decide) (Nat.le_of_ble_eq_true rfl) hM (fun z σ' hz q => G.pick [0, 1, 2, 4] (k z σ' hz q))
theorem bX10_findTaps_74 {X : CT} {σ : St} {i1 i2 t1 : Int}  {P : Int → St → Prop} (hM : CI mdX2_light [vi (σ 1 i2)] σ P) (s : (0 ≤ i2 ∧ i2 < 32))
    (k : ∀ z σ', inI z → P z σ' → G mdX10_findTaps X 81 [(0, vr 60), (1, vi i1), (2, vi i2), (4, vr 1)] [vi z, vi t1, vr 86] (σ')) :
    G mdX10_findTaps X 74 [(0, vr 60), (1, vi i1), (2, vi i2), (4, vr 1)] [vi t1, vr 86] σ := by
  refine G.aload (o := 1) dX10_findTaps_74 rfl ?_
  refine G.iload_n (z := i2) dX10_findTaps_76 rfl ?_
  refine G.iald dX10_findTaps_77 (sh_sent st_0) s ?_
  exact G.callSI (as := [vi (σ 1 i2)]) (rest := [vi t1, vr 86]) dX10_findTaps_78 rfl vX10_299 (by decide) (Nat.le_of_ble_eq_true rfl) hM (fun z σ' hz q => G.pick [0, 1, 2, 4] (k z σ' hz q))
theorem bX10_findTaps_81 {X : CT} {σ : St} {i1 i2 t1 t2 : Int}  {P : Int → St → Prop} (hM : CI mdX2_light [vi (σ 1 (16 + i1))] σ P) (s : (0 ≤ 16 + i1 ∧ 16 + i1 < 32))
    (k : ∀ z σ', inI z → P z σ' → G mdX10_findTaps X 91 [(0, vr 60), (2, vi i2), (4, vr 1)] [vi z, vi t2, vi t1, vr 86] (σ')) :
    G mdX10_findTaps X 81 [(0, vr 60), (1, vi i1), (2, vi i2), (4, vr 1)] [vi t2, vi t1, vr 86] σ := by
  refine G.aload (o := 1) dX10_findTaps_81 rfl ?_
  refine G.bipush dX10_findTaps_83 (by decide) ?_
  refine G.iload_n (z := i1) dX10_findTaps_85 rfl ?_
  refine G.iadd dX10_findTaps_86 ?_
  refine G.iald dX10_findTaps_87 (sh_sent st_0) s ?_
  exact G.callSI (as := [vi (σ 1 (16 + i1))]) (rest := [vi t2, vi t1, vr 86]) dX10_findTaps_88 rfl vX10_299 (by decide) (Nat.le_of_ble_eq_true rfl) hM (fun z σ' hz q => G.pick [0, 2, 4] (k z σ' hz q))
theorem bX10_findTaps_91 {X : CT} {σ : St} {i2 t1 t2 t3 : Int}  {P : Int → St → Prop} (hM : CI mdX2_light [vi (σ 1 (16 + i2))] σ P) (s : (0 ≤ 16 + i2 ∧ 16 + i2 < 32))
    (k : ∀ z σ', inI z → P z σ' → G mdX10_findTaps X 101 [(0, vr 60)] [vi z, vi t3, vi t2, vi t1, vr 86] (σ')) :
    G mdX10_findTaps X 91 [(0, vr 60), (2, vi i2), (4, vr 1)] [vi t3, vi t2, vi t1, vr 86] σ := by
  refine G.aload (o := 1) dX10_findTaps_91 rfl ?_
  refine G.bipush dX10_findTaps_93 (by decide) ?_
  refine G.iload_n (z := i2) dX10_findTaps_95 rfl ?_
  refine G.iadd dX10_findTaps_96 ?_
  refine G.iald dX10_findTaps_97 (sh_sent st_0) s ?_
  exact G.callSI (as := [vi (σ 1 (16 + i2))]) (rest := [vi t3, vi t2, vi t1, vr 86]) dX10_findTaps_98 rfl vX10_299 (by decide) (Nat.le_of_ble_eq_true rfl) hM (fun z σ' hz q => G.pick [0] (k z σ' hz q))
theorem bX10_findTaps_101 {X : CT} {σ : St} {t1 t2 t3 t4 : Int}  {P : St → Prop} (hM : CV mdX4_put [vr 86, vi t1, vi t2, vi t3, vi t4] σ P)
    (k : ∀ σ', P σ' → G mdX10_findTaps X 104 [(0, vr 60)] [] (σ')) :
    G mdX10_findTaps X 101 [(0, vr 60)] [vi t4, vi t3, vi t2, vi t1, vr 86] σ := by
  exact G.callVV (as := [vi t1, vi t2, vi t3, vi t4]) (rest := []) dX10_findTaps_101 rfl vX10_295 (by decide) (sh_mx mx_86) rfl (by decide) (Nat.le_of_ble_eq_true rfl) hM (fun σ' q => G.pick [0] (k σ' q))
theorem bX10_findTaps_104 {X : CT} {σ : St}  {P : Int → St → Prop} (hM : CI mdX4_determinant [vr 85] σ P)
    (k : ∀ z σ', inI z → P z σ' → G mdX10_findTaps X 111 [(0, vr 60)] [vi z] (σ')) :
    G mdX10_findTaps X 104 [(0, vr 60)] [] σ := by
  refine G.aload_n (o := 60) dX10_findTaps_104 rfl ?_
  refine G.getR (o' := 85) dX10_findTaps_105 fX10_74 sh60 rfl ?_
  exact G.callVI (as := []) (rest := []) dX10_findTaps_108 rfl vX10_302 (by decide) (sh_mx mx_85) rfl (by decide) (Nat.le_of_ble_eq_true rfl) hM (fun z σ' hz q => G.pick [0] (k z σ' hz q))
theorem bX10_findTaps_111 {X : CT} {σ : St} {t0 : Int}  (s : (-2147483648 ≤ t0 ∧ t0 < 2147483648))
    (kt : t0 = 0 → G mdX10_findTaps X 124 [] [] σ)
    (kf : ¬ t0 = 0 → G mdX10_findTaps X 114 [(0, vr 60)] [] σ) :
    G mdX10_findTaps X 111 [(0, vr 60)] [vi t0] σ := by
  exact G.if_eq (tgt := 124) dX10_findTaps_111 (by decide) s (fun q => G.pick [] (kt q)) (fun q => G.pick [0] (kf q))
theorem bX10_findTaps_114 {X : CT} {σ : St}  {P : Int → St → Prop} (hM : CI mdX4_determinant [vr 86] σ P)
    (k : ∀ z σ', inI z → P z σ' → G mdX10_findTaps X 121 [(0, vr 60)] [vi z] (σ')) :
    G mdX10_findTaps X 114 [(0, vr 60)] [] σ := by
  refine G.aload_n (o := 60) dX10_findTaps_114 rfl ?_
  refine G.getR (o' := 86) dX10_findTaps_115 fX10_78 sh60 rfl ?_
  exact G.callVI (as := []) (rest := []) dX10_findTaps_118 rfl vX10_302 (by decide) (sh_mx mx_86) rfl (by decide) (Nat.le_of_ble_eq_true rfl) hM (fun z σ' hz q => G.pick [0] (k z σ' hz q))
theorem bX10_findTaps_121 {X : CT} {σ : St} {t0 : Int}  (s : (-2147483648 ≤ t0 ∧ t0 < 2147483648))
    (kt : ¬ t0 = 0 → G mdX10_findTaps X 126 [(0, vr 60)] [] σ)
    (kf : t0 = 0 → G mdX10_findTaps X 124 [] [] σ) :
    G mdX10_findTaps X 121 [(0, vr 60)] [vi t0] σ := by
  exact G.if_ne (tgt := 126) dX10_findTaps_121 (by decide) s (fun q => G.pick [0] (kt q)) (fun q => G.pick [] (kf q))
theorem bX10_findTaps_124 {X : CT} {σ : St}  {P : Int → St → Prop} (hX : RI X P)
    (k : P 0 σ) :
    G mdX10_findTaps X 124 [] [] σ := by
  refine G.iconst dX10_findTaps_124 ?_
  exact G.zret hX dX10_findTaps_125 rfl (Or.inl rfl) k
theorem bX10_findTaps_126 {X : CT} {σ : St}  {P : St → Prop} (hM : CV mdX4_invert [vr 85] σ P)
    (k : ∀ σ', P σ' → G mdX10_findTaps X 133 [(0, vr 60)] [] (σ')) :
    G mdX10_findTaps X 126 [(0, vr 60)] [] σ := by
  refine G.aload_n (o := 60) dX10_findTaps_126 rfl ?_
  refine G.getR (o' := 85) dX10_findTaps_127 fX10_74 sh60 rfl ?_
  exact G.callVV (as := []) (rest := []) dX10_findTaps_130 rfl vX10_168 (by decide) (sh_mx mx_85) rfl (by decide) (Nat.le_of_ble_eq_true rfl) hM (fun σ' q => G.pick [0] (k σ' q))
theorem bX10_findTaps_133 {X : CT} {σ : St}  {P : St → Prop} (hM : CV mdX4_multiplyFromLeft [vr 85, vr 86] σ P)
    (k : ∀ σ', P σ' → G mdX10_findTaps X 144 [] [] (σ')) :
    G mdX10_findTaps X 133 [(0, vr 60)] [] σ := by
  refine G.aload_n (o := 60) dX10_findTaps_133 rfl ?_
  refine G.getR (o' := 85) dX10_findTaps_134 fX10_74 sh60 rfl ?_
  refine G.aload_n (o := 60) dX10_findTaps_137 rfl ?_
  refine G.getR (o' := 86) dX10_findTaps_138 fX10_78 sh60 rfl ?_
  exact G.callVV (as := [vr 86]) (rest := []) dX10_findTaps_141 rfl vX10_305 (by decide) (sh_mx mx_85) rfl (by decide) (Nat.le_of_ble_eq_true rfl) hM (fun σ' q => G.pick [] (k σ' q))
theorem bX10_findTaps_144 {X : CT} {σ : St}  {P : Int → St → Prop} (hX : RI X P)
    (k : P 1 σ) :
    G mdX10_findTaps X 144 [] [] σ := by
  refine G.iconst dX10_findTaps_144 ?_
  exact G.zret hX dX10_findTaps_145 rfl (Or.inr rfl) k
theorem bX10_findBestOrder_0 {X : CT} {σ : St}  {P : St → Prop} (hM : CV mdX1_receive [vr 71, vr 0, vi 0] σ P)
    (k : ∀ σ', P σ' → G mdX10_findBestOrder X 12 [(0, vr 60)] [] (σ')) :
    G mdX10_findBestOrder X 0 [(0, vr 60)] [] σ := by
  refine G.aload_n (o := 60) dX10_findBestOrder_0 rfl ?_
  refine G.getR (o' := 71) dX10_findBestOrder_1 fX10_51 sh60 rfl ?_
  refine G.aload_n (o := 60) dX10_findBestOrder_4 rfl ?_
  refine G.getR (o' := 0) dX10_findBestOrder_5 fX10_12 sh60 rfl ?_
  refine G.iconst dX10_findBestOrder_8 ?_
  exact G.callVV (as := [vr 0, vi 0]) (rest := []) dX10_findBestOrder_9 rfl vX10_217 (by decide) (sh_bk bk_71) rfl (by decide) (Nat.le_of_ble_eq_true rfl) hM (fun σ' q => G.pick [0] (k σ' q))
theorem bX10_findBestOrder_12 {X : CT} {σ : St}  {P : St → Prop} (hM : CV mdX0_start [vr 81, vi (σ 4 2)] σ P)
    (k : ∀ σ', P σ' → G mdX10_findBestOrder X 32 [(0, vr 60), (1, vi 33)] [] (σ')) :
    G mdX10_findBestOrder X 12 [(0, vr 60)] [] σ := by
  refine G.bipush dX10_findBestOrder_12 (by decide) ?_
  refine G.istore_n dX10_findBestOrder_14 (by decide) rfl ?_
  refine G.aload_n (o := 60) dX10_findBestOrder_15 rfl ?_
  refine G.getR (o' := 81) dX10_findBestOrder_16 fX10_61 sh60 rfl ?_
  refine G.aload_n (o := 60) dX10_findBestOrder_19 rfl ?_
  refine G.getR (o' := 0) dX10_findBestOrder_20 fX10_12 sh60 rfl ?_
  refine G.getR (o' := 4) dX10_findBestOrder_23 fX10_159 (sh_st st_0) rfl ?_
  refine G.getI (j := 2) dX10_findBestOrder_26 fX10_151 (sh_sp (sp_chain st_0)) rfl rfl rfl ?_
  exact G.callVV (as := [vi (σ 4 2)]) (rest := []) dX10_findBestOrder_29 rfl vX10_309 (by decide) sh81 rfl (by decide) (Nat.le_of_ble_eq_true rfl) hM (fun σ' q => G.pick [0, 1] (k σ' q))
theorem bX10_findBestOrder_32 {X : CT} {σ : St} {i1 : Int} 
    (k : G mdX10_findBestOrder X 34 [(0, vr 60), (1, vi i1), (2, vi 0)] [] σ) :
    G mdX10_findBestOrder X 32 [(0, vr 60), (1, vi i1)] [] σ := by
  refine G.iconst dX10_findBestOrder_32 ?_
  refine G.istore_n dX10_findBestOrder_33 (by decide) rfl ?_
  exact G.pick [0, 1, 2] k
theorem bX10_findBestOrder_34 {X : CT} {σ : St} {i1 i2 : Int}  (s : (-2147483648 ≤ i2 ∧ i2 < 2147483648))
    (kt : 24 ≤ i2 → G mdX10_findBestOrder X 85 [(1, vi i1)] [] σ)
    (kf : i2 < 24 → G mdX10_findBestOrder X 40 [(0, vr 60), (1, vi i1), (2, vi i2)] [] σ) :
    G mdX10_findBestOrder X 34 [(0, vr 60), (1, vi i1), (2, vi i2)] [] σ := by
  refine G.iload_n (z := i2) dX10_findBestOrder_34 rfl ?_
  refine G.bipush dX10_findBestOrder_35 (by decide) ?_
  exact G.icmp_ge (tgt := 85) dX10_findBestOrder_37 (by decide) s ⟨by decide, by decide⟩ (fun q => G.pick [1] (kt q)) (fun q => G.pick [0, 1, 2] (kf q))
theorem bX10_findBestOrder_40 {X : CT} {σ : St} {i1 i2 : Int}  {P : Int → St → Prop} (hM : CI mdX10_errorsInOrder [vr 60, vr 82] σ P)
    (k : ∀ z σ', inI z → P z σ' → G mdX10_findBestOrder X 51 [(0, vr 60), (1, vi i1), (2, vi i2)] [vi z] (σ')) :
    G mdX10_findBestOrder X 40 [(0, vr 60), (1, vi i1), (2, vi i2)] [] σ := by
  refine G.aload_n (o := 60) dX10_findBestOrder_40 rfl ?_
  refine G.aload_n (o := 60) dX10_findBestOrder_41 rfl ?_
  refine G.getR (o' := 81) dX10_findBestOrder_42 fX10_61 sh60 rfl ?_
  refine G.getR (o' := 82) dX10_findBestOrder_45 fX10_312 sh81 rfl ?_
  exact G.callVI (as := [vr 82]) (rest := []) dX10_findBestOrder_48 rfl vX10_315 (by decide) sh60 rfl (by decide) (Nat.le_of_ble_eq_true rfl) hM (fun z σ' hz q => G.pick [0, 1, 2] (k z σ' hz q))
theorem bX10_findBestOrder_51 {X : CT} {σ : St} {i1 i2 t0 : Int}  (s : (-2147483648 ≤ t0 ∧ t0 < 2147483648) ∧ (-2147483648 ≤ i1 ∧ i1 < 2147483648))
    (kt : i1 ≤ t0 → G mdX10_findBestOrder X 66 [(0, vr 60), (1, vi i1), (2, vi i2)] [] σ)
    (kf : t0 < i1 → G mdX10_findBestOrder X 57 [(0, vr 60), (2, vi i2), (3, vi t0)] [] σ) :
    G mdX10_findBestOrder X 51 [(0, vr 60), (1, vi i1), (2, vi i2)] [vi t0] σ := by
  refine G.istore_n dX10_findBestOrder_51 (by decide) rfl ?_
  refine G.iload_n (z := t0) dX10_findBestOrder_52 rfl ?_
  refine G.iload_n (z := i1) dX10_findBestOrder_53 rfl ?_
  exact G.icmp_ge (tgt := 66) dX10_findBestOrder_54 (by decide) s.1 s.2 (fun q => G.pick [0, 1, 2] (kt q)) (fun q => G.pick [0, 2, 3] (kf q))
theorem bX10_findBestOrder_57 {X : CT} {σ : St} {i2 i3 : Int}  {P : St → Prop} (hM : CV mdX0_keepCurrent [vr 81] σ P)
    (k : ∀ σ', P σ' → G mdX10_findBestOrder X 66 [(0, vr 60), (1, vi i3), (2, vi i2)] [] (σ')) :
    G mdX10_findBestOrder X 57 [(0, vr 60), (2, vi i2), (3, vi i3)] [] σ := by
  refine G.iload_n (z := i3) dX10_findBestOrder_57 rfl ?_
  refine G.istore_n dX10_findBestOrder_58 (by decide) rfl ?_
  refine G.aload_n (o := 60) dX10_findBestOrder_59 rfl ?_
  refine G.getR (o' := 81) dX10_findBestOrder_60 fX10_61 sh60 rfl ?_
  exact G.callVV (as := []) (rest := []) dX10_findBestOrder_63 rfl vX10_319 (by decide) sh81 rfl (by decide) (Nat.le_of_ble_eq_true rfl) hM (fun σ' q => G.pick [0, 1, 2] (k σ' q))
theorem bX10_findBestOrder_66 {X : CT} {σ : St} {i1 i2 : Int}  {P : Int → St → Prop} (hM : CI mdX0_moveOn [vr 81] σ P)
    (k : ∀ z σ', inI z → P z σ' → G mdX10_findBestOrder X 73 [(0, vr 60), (1, vi i1), (2, vi i2)] [vi z] (σ')) :
    G mdX10_findBestOrder X 66 [(0, vr 60), (1, vi i1), (2, vi i2)] [] σ := by
  refine G.aload_n (o := 60) dX10_findBestOrder_66 rfl ?_
  refine G.getR (o' := 81) dX10_findBestOrder_67 fX10_61 sh60 rfl ?_
  exact G.callVI (as := []) (rest := []) dX10_findBestOrder_70 rfl vX10_322 (by decide) sh81 rfl (by decide) (Nat.le_of_ble_eq_true rfl) hM (fun z σ' hz q => G.pick [0, 1, 2] (k z σ' hz q))
theorem bX10_findBestOrder_73 {X : CT} {σ : St} {i1 i2 t0 : Int}  (s : (-2147483648 ≤ t0 ∧ t0 < 2147483648))
    (kt : ¬ t0 = 0 → G mdX10_findBestOrder X 79 [(0, vr 60), (1, vi i1), (2, vi i2)] [] σ)
    (kf : t0 = 0 → G mdX10_findBestOrder X 76 [(1, vi i1)] [] σ) :
    G mdX10_findBestOrder X 73 [(0, vr 60), (1, vi i1), (2, vi i2)] [vi t0] σ := by
  exact G.if_ne (tgt := 79) dX10_findBestOrder_73 (by decide) s (fun q => G.pick [0, 1, 2] (kt q)) (fun q => G.pick [1] (kf q))
theorem bX10_findBestOrder_76 {X : CT} {σ : St} {i1 : Int} 
    (k : G mdX10_findBestOrder X 85 [(1, vi i1)] [] σ) :
    G mdX10_findBestOrder X 76 [(1, vi i1)] [] σ := by
  refine G.goto (tgt := 85) dX10_findBestOrder_76 (by decide) ?_
  exact G.pick [1] k
theorem bX10_findBestOrder_79 {X : CT} {σ : St} {i1 i2 : Int} 
    (k : G mdX10_findBestOrder X 34 [(0, vr 60), (1, vi i1), (2, vi (i2 + 1))] [] σ) :
    G mdX10_findBestOrder X 79 [(0, vr 60), (1, vi i1), (2, vi i2)] [] σ := by
  refine G.iinc (z := i2) dX10_findBestOrder_79 rfl (by decide) rfl ?_
  refine G.goto (tgt := 34) dX10_findBestOrder_82 (by decide) ?_
  exact G.pick [0, 1, 2] k
theorem bX10_findBestOrder_85 {X : CT} {σ : St} {i1 : Int}  {P : Int → St → Prop} (hX : RI X P) (s : (-2147483648 ≤ i1 ∧ i1 < 2147483648))
    (k : P i1 σ) :
    G mdX10_findBestOrder X 85 [(1, vi i1)] [] σ := by
  refine G.iload_n (z := i1) dX10_findBestOrder_85 rfl ?_
  exact G.iret hX dX10_findBestOrder_86 rfl s k
theorem bX10_errorsInOrder_0 {X : CT} {σ : St} {o1 : Nat} (h1 : shp o1 = (1, 4, [])) {P : St → Prop} (hM : CV mdX1_takeFrom [vr 76, vr 71] σ P)
    (k : ∀ σ', P σ' → G mdX10_errorsInOrder X 11 [(0, vr 60), (1, vr o1)] [] (σ')) :
    G mdX10_errorsInOrder X 0 [(0, vr 60), (1, vr o1)] [] σ := by
  refine G.aload_n (o := 60) dX10_errorsInOrder_0 rfl ?_
  refine G.getR (o' := 76) dX10_errorsInOrder_1 fX10_55 sh60 rfl ?_
  refine G.aload_n (o := 60) dX10_errorsInOrder_4 rfl ?_
  refine G.getR (o' := 71) dX10_errorsInOrder_5 fX10_51 sh60 rfl ?_
  exact G.callVV (as := [vr 71]) (rest := []) dX10_errorsInOrder_8 rfl vX10_237 (by decide) (sh_bk bk_76) rfl (by decide) (Nat.le_of_ble_eq_true rfl) hM (fun σ' q => G.pick [0, 1] (k σ' q))
theorem bX10_errorsInOrder_11 {X : CT} {σ : St} {o1 : Nat} (h1 : shp o1 = (1, 4, []))
    (k : G mdX10_errorsInOrder X 13 [(0, vr 60), (1, vr o1), (2, vi 0)] [] σ) :
    G mdX10_errorsInOrder X 11 [(0, vr 60), (1, vr o1)] [] σ := by
  refine G.iconst dX10_errorsInOrder_11 ?_
  refine G.istore_n dX10_errorsInOrder_12 (by decide) rfl ?_
  exact G.pick [0, 1, 2] k
theorem bX10_errorsInOrder_13 {X : CT} {σ : St} {o1 : Nat} {i2 : Int} (h1 : shp o1 = (1, 4, [])) (s : (-2147483648 ≤ i2 ∧ i2 < 2147483648) ∧ (-2147483648 ≤ σ 4 2 ∧ σ 4 2 < 2147483648))
    (kt : σ 4 2 ≤ i2 → G mdX10_errorsInOrder X 47 [(0, vr 60)] [] σ)
    (kf : i2 < σ 4 2 → G mdX10_errorsInOrder X 27 [(0, vr 60), (1, vr o1), (2, vi i2)] [] σ) :
    G mdX10_errorsInOrder X 13 [(0, vr 60), (1, vr o1), (2, vi i2)] [] σ := by
  refine G.iload_n (z := i2) dX10_errorsInOrder_13 rfl ?_
  refine G.aload_n (o := 60) dX10_errorsInOrder_14 rfl ?_
  refine G.getR (o' := 0) dX10_errorsInOrder_15 fX10_12 sh60 rfl ?_
  refine G.getR (o' := 4) dX10_errorsInOrder_18 fX10_159 (sh_st st_0) rfl ?_
  refine G.getI (j := 2) dX10_errorsInOrder_21 fX10_151 (sh_sp (sp_chain st_0)) rfl rfl rfl ?_
  exact G.icmp_ge (tgt := 47) dX10_errorsInOrder_24 (by decide) s.1 s.2 (fun q => G.pick [0] (kt q)) (fun q => G.pick [0, 1, 2] (kf q))
theorem bX10_errorsInOrder_27 {X : CT} {σ : St} {o1 : Nat} {i2 : Int} (h1 : shp o1 = (1, 4, [])) {P : St → Prop} (hM : CV mdX1_passStage [vr 76, vr 0, vi (σ o1 i2)] σ P) (s : (0 ≤ i2 ∧ i2 < 4))
    (k : ∀ σ', P σ' → G mdX10_errorsInOrder X 41 [(0, vr 60), (1, vr o1), (2, vi i2)] [] (σ')) :
    G mdX10_errorsInOrder X 27 [(0, vr 60), (1, vr o1), (2, vi i2)] [] σ := by
  refine G.aload_n (o := 60) dX10_errorsInOrder_27 rfl ?_
  refine G.getR (o' := 76) dX10_errorsInOrder_28 fX10_55 sh60 rfl ?_
  refine G.aload_n (o := 60) dX10_errorsInOrder_31 rfl ?_
  refine G.getR (o' := 0) dX10_errorsInOrder_32 fX10_12 sh60 rfl ?_
  refine G.aload_n (o := o1) dX10_errorsInOrder_35 rfl ?_
  refine G.iload_n (z := i2) dX10_errorsInOrder_36 rfl ?_
  refine G.iald dX10_errorsInOrder_37 h1 s ?_
  exact G.callVV (as := [vr 0, vi (σ o1 i2)]) (rest := []) dX10_errorsInOrder_38 rfl vX10_288 (by decide) (sh_bk bk_76) rfl (by decide) (Nat.le_of_ble_eq_true rfl) hM (fun σ' q => G.pick [0, 1, 2] (k σ' q))
theorem bX10_errorsInOrder_41 {X : CT} {σ : St} {o1 : Nat} {i2 : Int} (h1 : shp o1 = (1, 4, []))
    (k : G mdX10_errorsInOrder X 13 [(0, vr 60), (1, vr o1), (2, vi (i2 + 1))] [] σ) :
    G mdX10_errorsInOrder X 41 [(0, vr 60), (1, vr o1), (2, vi i2)] [] σ := by
  refine G.iinc (z := i2) dX10_errorsInOrder_41 rfl (by decide) rfl ?_
  refine G.goto (tgt := 13) dX10_errorsInOrder_44 (by decide) ?_
  exact G.pick [0, 1, 2] k
theorem bX10_errorsInOrder_47 {X : CT} {σ : St}  {P : Int → St → Prop} (hM : CI mdX1_errors [vr 76, vr 0] σ P)
    (k : ∀ z σ', inI z → P z σ' → G mdX10_errorsInOrder X 58 [] [vi z] (σ')) :
    G mdX10_errorsInOrder X 47 [(0, vr 60)] [] σ := by
  refine G.aload_n (o := 60) dX10_errorsInOrder_47 rfl ?_
  refine G.getR (o' := 76) dX10_errorsInOrder_48 fX10_55 sh60 rfl ?_
  refine G.aload_n (o := 60) dX10_errorsInOrder_51 rfl ?_
  refine G.getR (o' := 0) dX10_errorsInOrder_52 fX10_12 sh60 rfl ?_
  exact G.callVI (as := [vr 0]) (rest := []) dX10_errorsInOrder_55 rfl vX10_278 (by decide) (sh_bk bk_76) rfl (by decide) (Nat.le_of_ble_eq_true rfl) hM (fun z σ' hz q => G.pick [] (k z σ' hz q))
theorem bX10_errorsInOrder_58 {X : CT} {σ : St} {t0 : Int}  {P : Int → St → Prop} (hX : RI X P) (s : (-2147483648 ≤ t0 ∧ t0 < 2147483648))
    (k : P t0 σ) :
    G mdX10_errorsInOrder X 58 [] [vi t0] σ := by
  exact G.iret hX dX10_errorsInOrder_58 rfl s k
theorem bX0_start_0 {X : CT} {σ : St} {i1 : Int}  {P : Int → St → Prop} (hM : CI mdJ9_min_7cf53 [vi i1, vi 4] σ P)
    (k : ∀ z σ', inI z → P z σ' → G mdX0_start X 6 [(0, vr 81)] [vi z, vr 81] (σ')) :
    G mdX0_start X 0 [(0, vr 81), (1, vi i1)] [] σ := by
  refine G.aload_n (o := 81) dX0_start_0 rfl ?_
  refine G.iload_n (z := i1) dX0_start_1 rfl ?_
  refine G.iconst dX0_start_2 ?_
  exact G.callSI (as := [vi i1, vi 4]) (rest := [vr 81]) dX0_start_3 rfl vX0_18 (by decide) (Nat.le_of_ble_eq_true rfl) hM (fun z σ' hz q => G.pick [0] (k z σ' hz q))
theorem bX0_start_6 {X : CT} {σ : St} {t1 : Int} 
    (k : G mdX0_start X 11 [(0, vr 81), (2, vi 0)] [] (wr σ 81 2 t1)) :
    G mdX0_start X 6 [(0, vr 81)] [vi t1, vr 81] σ := by
  refine G.putI (j := 2) dX0_start_6 fX0_24 sh81 rfl rfl rfl rfl rfl ?_
  refine G.iconst dX0_start_9 ?_
  refine G.istore_n dX0_start_10 (by decide) rfl ?_
  exact G.pick [0, 2] k
theorem bX0_start_11 {X : CT} {σ : St} {i2 : Int}  (s : (-2147483648 ≤ i2 ∧ i2 < 2147483648) ∧ (-2147483648 ≤ σ 81 2 ∧ σ 81 2 < 2147483648))
    (kt : σ 81 2 ≤ i2 → G mdX0_start X 32 [] [] σ)
    (kf : i2 < σ 81 2 → G mdX0_start X 19 [(0, vr 81), (2, vi i2)] [] σ) :
    G mdX0_start X 11 [(0, vr 81), (2, vi i2)] [] σ := by
  refine G.iload_n (z := i2) dX0_start_11 rfl ?_
  refine G.aload_n (o := 81) dX0_start_12 rfl ?_
  refine G.getI (j := 2) dX0_start_13 fX0_24 sh81 rfl rfl rfl ?_
  exact G.icmp_ge (tgt := 32) dX0_start_16 (by decide) s.1 s.2 (fun q => G.pick [] (kt q)) (fun q => G.pick [0, 2] (kf q))
theorem bX0_start_19 {X : CT} {σ : St} {i2 : Int}  (s : (0 ≤ i2 ∧ i2 < 4))
    (k : G mdX0_start X 11 [(0, vr 81), (2, vi (i2 + 1))] [] (wr σ 82 i2 i2)) :
    G mdX0_start X 19 [(0, vr 81), (2, vi i2)] [] σ := by
  refine G.aload_n (o := 81) dX0_start_19 rfl ?_
  refine G.getR (o' := 82) dX0_start_20 fX0_9 sh81 rfl ?_
  refine G.iload_n (z := i2) dX0_start_23 rfl ?_
  refine G.iload_n (z := i2) dX0_start_24 rfl ?_
  refine G.iast dX0_start_25 sh82 s ?_
  refine G.iinc (z := i2) dX0_start_26 rfl (by decide) rfl ?_
  refine G.goto (tgt := 11) dX0_start_29 (by decide) ?_
  exact G.pick [0, 2] k
theorem bX0_start_32 {X : CT} {σ : St}  {P : St → Prop} (hX : RV X P)
    (k : P σ) :
    G mdX0_start X 32 [] [] σ := by
  exact G.vret hX dX0_start_32 rfl k
theorem bX0_keepCurrent_0 {X : CT} {σ : St}  {P : St → Prop} (hX : RV X P) (s : 0 ≤ σ 81 2 ∧ 0 + (σ 81 2) ≤ 4)
    (k : P (cp σ 82 0 83 0 (σ 81 2))) :
    G mdX0_keepCurrent X 0 [(0, vr 81)] [] σ := by
  refine G.aload_n (o := 81) dX0_keepCurrent_0 rfl ?_
  refine G.getR (o' := 82) dX0_keepCurrent_1 fX0_9 sh81 rfl ?_
  refine G.iconst dX0_keepCurrent_4 ?_
  refine G.aload_n (o := 81) dX0_keepCurrent_5 rfl ?_
  refine G.getR (o' := 83) dX0_keepCurrent_6 fX0_15 sh81 rfl ?_
  refine G.iconst dX0_keepCurrent_9 ?_
  refine G.aload_n (o := 81) dX0_keepCurrent_10 rfl ?_
  refine G.getI (j := 2) dX0_keepCurrent_11 fX0_24 sh81 rfl rfl rfl ?_
  refine G.acopy (i0 := 661) dX0_keepCurrent_14 (by decide +kernel) (by decide) sh82 sh83 (by decide) (by decide) s.1 s.2 s.2 (Nat.le_of_ble_eq_true rfl) ?_
  exact G.vret hX dX0_keepCurrent_17 rfl k
theorem bX0_bestIsPresent_0 {X : CT} {σ : St} 
    (k : G mdX0_bestIsPresent X 2 [(0, vr 81), (1, vi 0)] [] σ) :
    G mdX0_bestIsPresent X 0 [(0, vr 81)] [] σ := by
  refine G.iconst dX0_bestIsPresent_0 ?_
  refine G.istore_n dX0_bestIsPresent_1 (by decide) rfl ?_
  exact G.pick [0, 1] k
theorem bX0_bestIsPresent_2 {X : CT} {σ : St} {i1 : Int}  (s : (-2147483648 ≤ i1 ∧ i1 < 2147483648) ∧ (-2147483648 ≤ σ 81 2 ∧ σ 81 2 < 2147483648))
    (kt : σ 81 2 ≤ i1 → G mdX0_bestIsPresent X 28 [] [] σ)
    (kf : i1 < σ 81 2 → G mdX0_bestIsPresent X 10 [(0, vr 81), (1, vi i1)] [] σ) :
    G mdX0_bestIsPresent X 2 [(0, vr 81), (1, vi i1)] [] σ := by
  refine G.iload_n (z := i1) dX0_bestIsPresent_2 rfl ?_
  refine G.aload_n (o := 81) dX0_bestIsPresent_3 rfl ?_
  refine G.getI (j := 2) dX0_bestIsPresent_4 fX0_24 sh81 rfl rfl rfl ?_
  exact G.icmp_ge (tgt := 28) dX0_bestIsPresent_7 (by decide) s.1 s.2 (fun q => G.pick [] (kt q)) (fun q => G.pick [0, 1] (kf q))
theorem bX0_bestIsPresent_10 {X : CT} {σ : St} {i1 : Int}  (s : (0 ≤ i1 ∧ i1 < 4) ∧ (-2147483648 ≤ σ 83 i1 ∧ σ 83 i1 < 2147483648) ∧ (-2147483648 ≤ i1 ∧ i1 < 2147483648))
    (kt : σ 83 i1 = i1 → G mdX0_bestIsPresent X 22 [(0, vr 81), (1, vi i1)] [] σ)
    (kf : ¬ σ 83 i1 = i1 → G mdX0_bestIsPresent X 20 [] [] σ) :
    G mdX0_bestIsPresent X 10 [(0, vr 81), (1, vi i1)] [] σ := by
  refine G.aload_n (o := 81) dX0_bestIsPresent_10 rfl ?_
  refine G.getR (o' := 83) dX0_bestIsPresent_11 fX0_15 sh81 rfl ?_
  refine G.iload_n (z := i1) dX0_bestIsPresent_14 rfl ?_
  refine G.iald dX0_bestIsPresent_15 sh83 s.1 ?_
  refine G.iload_n (z := i1) dX0_bestIsPresent_16 rfl ?_
  exact G.icmp_eq (tgt := 22) dX0_bestIsPresent_17 (by decide) s.2.1 s.2.2 (fun q => G.pick [0, 1] (kt q)) (fun q => G.pick [] (kf q))
theorem bX0_bestIsPresent_20 {X : CT} {σ : St}  {P : Int → St → Prop} (hX : RI X P)
    (k : P 0 σ) :
    G mdX0_bestIsPresent X 20 [] [] σ := by
  refine G.iconst dX0_bestIsPresent_20 ?_
  exact G.zret hX dX0_bestIsPresent_21 rfl (Or.inl rfl) k
theorem bX0_bestIsPresent_22 {X : CT} {σ : St} {i1 : Int} 
    (k : G mdX0_bestIsPresent X 2 [(0, vr 81), (1, vi (i1 + 1))] [] σ) :
    G mdX0_bestIsPresent X 22 [(0, vr 81), (1, vi i1)] [] σ := by
  refine G.iinc (z := i1) dX0_bestIsPresent_22 rfl (by decide) rfl ?_
  refine G.goto (tgt := 2) dX0_bestIsPresent_25 (by decide) ?_
  exact G.pick [0, 1] k
theorem bX0_bestIsPresent_28 {X : CT} {σ : St}  {P : Int → St → Prop} (hX : RI X P)
    (k : P 1 σ) :
    G mdX0_bestIsPresent X 28 [] [] σ := by
  refine G.iconst dX0_bestIsPresent_28 ?_
  exact G.zret hX dX0_bestIsPresent_29 rfl (Or.inr rfl) k
theorem bX0_moveOn_0 {X : CT} {σ : St} 
    (k : G mdX0_moveOn X 7 [(0, vr 81), (1, vi ((σ 81 2) - 2))] [] σ) :
    G mdX0_moveOn X 0 [(0, vr 81)] [] σ := by
  refine G.aload_n (o := 81) dX0_moveOn_0 rfl ?_
  refine G.getI (j := 2) dX0_moveOn_1 fX0_24 sh81 rfl rfl rfl ?_
  refine G.iconst dX0_moveOn_4 ?_
  refine G.isub dX0_moveOn_5 ?_
  refine G.istore_n dX0_moveOn_6 (by decide) rfl ?_
  exact G.pick [0, 1] k
theorem bX0_moveOn_7 {X : CT} {σ : St} {i1 : Int}  (s : (-2147483648 ≤ i1 ∧ i1 < 2147483648))
    (kt : i1 < 0 → G mdX0_moveOn X 34 [(0, vr 81), (1, vi i1)] [] σ)
    (kf : 0 ≤ i1 → G mdX0_moveOn X 11 [(0, vr 81), (1, vi i1)] [] σ) :
    G mdX0_moveOn X 7 [(0, vr 81), (1, vi i1)] [] σ := by
  refine G.iload_n (z := i1) dX0_moveOn_7 rfl ?_
  exact G.if_lt (tgt := 34) dX0_moveOn_8 (by decide) s (fun q => G.pick [0, 1] (kt q)) (fun q => G.pick [0, 1] (kf q))
theorem bX0_moveOn_11 {X : CT} {σ : St} {i1 : Int}  (s : (0 ≤ i1 ∧ i1 < 4) ∧ (0 ≤ i1 + 1 ∧ i1 + 1 < 4) ∧ (-2147483648 ≤ σ 82 i1 ∧ σ 82 i1 < 2147483648) ∧ (-2147483648 ≤ σ 82 (i1 + 1) ∧ σ 82 (i1 + 1) < 2147483648))
    (kt : σ 82 i1 ≤ σ 82 (i1 + 1) → G mdX0_moveOn X 34 [(0, vr 81), (1, vi i1)] [] σ)
    (kf : σ 82 (i1 + 1) < σ 82 i1 → G mdX0_moveOn X 28 [(0, vr 81), (1, vi i1)] [] σ) :
    G mdX0_moveOn X 11 [(0, vr 81), (1, vi i1)] [] σ := by
  refine G.aload_n (o := 81) dX0_moveOn_11 rfl ?_
  refine G.getR (o' := 82) dX0_moveOn_12 fX0_9 sh81 rfl ?_
  refine G.iload_n (z := i1) dX0_moveOn_15 rfl ?_
  refine G.iald dX0_moveOn_16 sh82 s.1 ?_
  refine G.aload_n (o := 81) dX0_moveOn_17 rfl ?_
  refine G.getR (o' := 82) dX0_moveOn_18 fX0_9 sh81 rfl ?_
  refine G.iload_n (z := i1) dX0_moveOn_21 rfl ?_
  refine G.iconst dX0_moveOn_22 ?_
  refine G.iadd dX0_moveOn_23 ?_
  refine G.iald dX0_moveOn_24 sh82 s.2.1 ?_
  exact G.icmp_le (tgt := 34) dX0_moveOn_25 (by decide) s.2.2.1 s.2.2.2 (fun q => G.pick [0, 1] (kt q)) (fun q => G.pick [0, 1] (kf q))
theorem bX0_moveOn_28 {X : CT} {σ : St} {i1 : Int} 
    (k : G mdX0_moveOn X 7 [(0, vr 81), (1, vi (i1 + (-1)))] [] σ) :
    G mdX0_moveOn X 28 [(0, vr 81), (1, vi i1)] [] σ := by
  refine G.iinc (z := i1) dX0_moveOn_28 rfl (by decide) rfl ?_
  refine G.goto (tgt := 7) dX0_moveOn_31 (by decide) ?_
  exact G.pick [0, 1] k
theorem bX0_moveOn_34 {X : CT} {σ : St} {i1 : Int}  (s : (-2147483648 ≤ i1 ∧ i1 < 2147483648))
    (kt : 0 ≤ i1 → G mdX0_moveOn X 40 [(0, vr 81), (1, vi i1)] [] σ)
    (kf : i1 < 0 → G mdX0_moveOn X 38 [] [] σ) :
    G mdX0_moveOn X 34 [(0, vr 81), (1, vi i1)] [] σ := by
  refine G.iload_n (z := i1) dX0_moveOn_34 rfl ?_
  exact G.if_ge (tgt := 40) dX0_moveOn_35 (by decide) s (fun q => G.pick [0, 1] (kt q)) (fun q => G.pick [] (kf q))
theorem bX0_moveOn_38 {X : CT} {σ : St}  {P : Int → St → Prop} (hX : RI X P)
    (k : P 0 σ) :
    G mdX0_moveOn X 38 [] [] σ := by
  refine G.iconst dX0_moveOn_38 ?_
  exact G.zret hX dX0_moveOn_39 rfl (Or.inl rfl) k
theorem bX0_moveOn_40 {X : CT} {σ : St} {i1 : Int} 
    (k : G mdX0_moveOn X 47 [(0, vr 81), (1, vi i1), (2, vi ((σ 81 2) - 1))] [] σ) :
    G mdX0_moveOn X 40 [(0, vr 81), (1, vi i1)] [] σ := by
  refine G.aload_n (o := 81) dX0_moveOn_40 rfl ?_
  refine G.getI (j := 2) dX0_moveOn_41 fX0_24 sh81 rfl rfl rfl ?_
  refine G.iconst dX0_moveOn_44 ?_
  refine G.isub dX0_moveOn_45 ?_
  refine G.istore_n dX0_moveOn_46 (by decide) rfl ?_
  exact G.pick [0, 1, 2] k
theorem bX0_moveOn_47 {X : CT} {σ : St} {i1 i2 : Int}  (s : (-2147483648 ≤ i2 ∧ i2 < 2147483648) ∧ (-2147483648 ≤ i1 ∧ i1 < 2147483648))
    (kt : i2 ≤ i1 → G mdX0_moveOn X 73 [(0, vr 81), (1, vi i1), (2, vi i2)] [] σ)
    (kf : i1 < i2 → G mdX0_moveOn X 52 [(0, vr 81), (1, vi i1), (2, vi i2)] [] σ) :
    G mdX0_moveOn X 47 [(0, vr 81), (1, vi i1), (2, vi i2)] [] σ := by
  refine G.iload_n (z := i2) dX0_moveOn_47 rfl ?_
  refine G.iload_n (z := i1) dX0_moveOn_48 rfl ?_
  exact G.icmp_le (tgt := 73) dX0_moveOn_49 (by decide) s.1 s.2 (fun q => G.pick [0, 1, 2] (kt q)) (fun q => G.pick [0, 1, 2] (kf q))
theorem bX0_moveOn_52 {X : CT} {σ : St} {i1 i2 : Int}  (s : (0 ≤ i2 ∧ i2 < 4) ∧ (0 ≤ i1 ∧ i1 < 4) ∧ (-2147483648 ≤ σ 82 i2 ∧ σ 82 i2 < 2147483648) ∧ (-2147483648 ≤ σ 82 i1 ∧ σ 82 i1 < 2147483648))
    (kt : σ 82 i1 ≤ σ 82 i2 → G mdX0_moveOn X 73 [(0, vr 81), (1, vi i1), (2, vi i2)] [] σ)
    (kf : σ 82 i2 < σ 82 i1 → G mdX0_moveOn X 67 [(0, vr 81), (1, vi i1), (2, vi i2)] [] σ) :
    G mdX0_moveOn X 52 [(0, vr 81), (1, vi i1), (2, vi i2)] [] σ := by
  refine G.aload_n (o := 81) dX0_moveOn_52 rfl ?_
  refine G.getR (o' := 82) dX0_moveOn_53 fX0_9 sh81 rfl ?_
  refine G.iload_n (z := i2) dX0_moveOn_56 rfl ?_
  refine G.iald dX0_moveOn_57 sh82 s.1 ?_
  refine G.aload_n (o := 81) dX0_moveOn_58 rfl ?_
  refine G.getR (o' := 82) dX0_moveOn_59 fX0_9 sh81 rfl ?_
  refine G.iload_n (z := i1) dX0_moveOn_62 rfl ?_
  refine G.iald dX0_moveOn_63 sh82 s.2.1 ?_
  exact G.icmp_ge (tgt := 73) dX0_moveOn_64 (by decide) s.2.2.1 s.2.2.2 (fun q => G.pick [0, 1, 2] (kt q)) (fun q => G.pick [0, 1, 2] (kf q))
theorem bX0_moveOn_67 {X : CT} {σ : St} {i1 i2 : Int} 
    (k : G mdX0_moveOn X 47 [(0, vr 81), (1, vi i1), (2, vi (i2 + (-1)))] [] σ) :
    G mdX0_moveOn X 67 [(0, vr 81), (1, vi i1), (2, vi i2)] [] σ := by
  refine G.iinc (z := i2) dX0_moveOn_67 rfl (by decide) rfl ?_
  refine G.goto (tgt := 47) dX0_moveOn_70 (by decide) ?_
  exact G.pick [0, 1, 2] k
theorem bX0_moveOn_73 {X : CT} {σ : St} {i1 i2 : Int}  {P : St → Prop} (hM : CV mdX0_swap [vr 81, vi i1, vi i2] σ P)
    (k : ∀ σ', P σ' → G mdX0_moveOn X 79 [(0, vr 81), (1, vi i1)] [] (σ')) :
    G mdX0_moveOn X 73 [(0, vr 81), (1, vi i1), (2, vi i2)] [] σ := by
  refine G.aload_n (o := 81) dX0_moveOn_73 rfl ?_
  refine G.iload_n (z := i1) dX0_moveOn_74 rfl ?_
  refine G.iload_n (z := i2) dX0_moveOn_75 rfl ?_
  exact G.callVV (as := [vi i1, vi i2]) (rest := []) dX0_moveOn_76 rfl vX0_34 (by decide) sh81 rfl (by decide) (Nat.le_of_ble_eq_true rfl) hM (fun σ' q => G.pick [0, 1] (k σ' q))
theorem bX0_moveOn_79 {X : CT} {σ : St} {i1 : Int} 
    (k : G mdX0_moveOn X 91 [(0, vr 81), (3, vi (i1 + 1)), (4, vi ((σ 81 2) - 1))] [] σ) :
    G mdX0_moveOn X 79 [(0, vr 81), (1, vi i1)] [] σ := by
  refine G.iload_n (z := i1) dX0_moveOn_79 rfl ?_
  refine G.iconst dX0_moveOn_80 ?_
  refine G.iadd dX0_moveOn_81 ?_
  refine G.istore_n dX0_moveOn_82 (by decide) rfl ?_
  refine G.aload_n (o := 81) dX0_moveOn_83 rfl ?_
  refine G.getI (j := 2) dX0_moveOn_84 fX0_24 sh81 rfl rfl rfl ?_
  refine G.iconst dX0_moveOn_87 ?_
  refine G.isub dX0_moveOn_88 ?_
  refine G.istore dX0_moveOn_89 (by decide) rfl ?_
  exact G.pick [0, 3, 4] k
theorem bX0_moveOn_91 {X : CT} {σ : St} {i3 i4 : Int}  (s : (-2147483648 ≤ i3 ∧ i3 < 2147483648) ∧ (-2147483648 ≤ i4 ∧ i4 < 2147483648))
    (kt : i4 ≤ i3 → G mdX0_moveOn X 113 [] [] σ)
    (kf : i3 < i4 → G mdX0_moveOn X 97 [(0, vr 81), (3, vi i3), (4, vi i4)] [] σ) :
    G mdX0_moveOn X 91 [(0, vr 81), (3, vi i3), (4, vi i4)] [] σ := by
  refine G.iload_n (z := i3) dX0_moveOn_91 rfl ?_
  refine G.iload (z := i4) dX0_moveOn_92 rfl ?_
  exact G.icmp_ge (tgt := 113) dX0_moveOn_94 (by decide) s.1 s.2 (fun q => G.pick [] (kt q)) (fun q => G.pick [0, 3, 4] (kf q))
theorem bX0_moveOn_97 {X : CT} {σ : St} {i3 i4 : Int}  {P : St → Prop} (hM : CV mdX0_swap [vr 81, vi i3, vi i4] σ P)
    (k : ∀ σ', P σ' → G mdX0_moveOn X 104 [(0, vr 81), (3, vi i3), (4, vi i4)] [] (σ')) :
    G mdX0_moveOn X 97 [(0, vr 81), (3, vi i3), (4, vi i4)] [] σ := by
  refine G.aload_n (o := 81) dX0_moveOn_97 rfl ?_
  refine G.iload_n (z := i3) dX0_moveOn_98 rfl ?_
  refine G.iload (z := i4) dX0_moveOn_99 rfl ?_
  exact G.callVV (as := [vi i3, vi i4]) (rest := []) dX0_moveOn_101 rfl vX0_34 (by decide) sh81 rfl (by decide) (Nat.le_of_ble_eq_true rfl) hM (fun σ' q => G.pick [0, 3, 4] (k σ' q))
theorem bX0_moveOn_104 {X : CT} {σ : St} {i3 i4 : Int} 
    (k : G mdX0_moveOn X 91 [(0, vr 81), (3, vi (i3 + 1)), (4, vi (i4 + (-1)))] [] σ) :
    G mdX0_moveOn X 104 [(0, vr 81), (3, vi i3), (4, vi i4)] [] σ := by
  refine G.iinc (z := i3) dX0_moveOn_104 rfl (by decide) rfl ?_
  refine G.iinc (z := i4) dX0_moveOn_107 rfl (by decide) rfl ?_
  refine G.goto (tgt := 91) dX0_moveOn_110 (by decide) ?_
  exact G.pick [0, 3, 4] k
theorem bX0_moveOn_113 {X : CT} {σ : St}  {P : Int → St → Prop} (hX : RI X P)
    (k : P 1 σ) :
    G mdX0_moveOn X 113 [] [] σ := by
  refine G.iconst dX0_moveOn_113 ?_
  exact G.zret hX dX0_moveOn_114 rfl (Or.inr rfl) k
theorem bX0_swap_0 {X : CT} {σ : St} {i1 i2 : Int}  {P : St → Prop} (hX : RV X P) (s : (0 ≤ i1 ∧ i1 < 4) ∧ (0 ≤ i2 ∧ i2 < 4))
    (k : P (wr (wr σ 82 i1 (σ 82 i2)) 82 i2 (σ 82 i1))) :
    G mdX0_swap X 0 [(0, vr 81), (1, vi i1), (2, vi i2)] [] σ := by
  refine G.aload_n (o := 81) dX0_swap_0 rfl ?_
  refine G.getR (o' := 82) dX0_swap_1 fX0_9 sh81 rfl ?_
  refine G.iload_n (z := i1) dX0_swap_4 rfl ?_
  refine G.iald dX0_swap_5 sh82 s.1 ?_
  refine G.istore_n dX0_swap_6 (by decide) rfl ?_
  refine G.aload_n (o := 81) dX0_swap_7 rfl ?_
  refine G.getR (o' := 82) dX0_swap_8 fX0_9 sh81 rfl ?_
  refine G.iload_n (z := i1) dX0_swap_11 rfl ?_
  refine G.aload_n (o := 81) dX0_swap_12 rfl ?_
  refine G.getR (o' := 82) dX0_swap_13 fX0_9 sh81 rfl ?_
  refine G.iload_n (z := i2) dX0_swap_16 rfl ?_
  refine G.iald dX0_swap_17 sh82 s.2 ?_
  refine G.iast dX0_swap_18 sh82 s.1 ?_
  refine G.aload_n (o := 81) dX0_swap_19 rfl ?_
  refine G.getR (o' := 82) dX0_swap_20 fX0_9 sh81 rfl ?_
  refine G.iload_n (z := i2) dX0_swap_23 rfl ?_
  refine G.iload_n (z := σ 82 i1) dX0_swap_24 rfl ?_
  refine G.iast dX0_swap_25 sh82 s.2 ?_
  exact G.vret hX dX0_swap_26 rfl k
theorem bX1_takeFrom_0 {X : CT} {σ : St} {o0 o1 : Nat} (h0 : isBk o0) (h1 : isBk o1) {P : St → Prop} (hX : RV X P)
    (k : P (cp σ (o1 + 1) 0 (o0 + 1) 0 32)) :
    G mdX1_takeFrom X 0 [(0, vr o0), (1, vr o1)] [] σ := by
  refine G.aload_n (o := o1) dX1_takeFrom_0 rfl ?_
  refine G.getR (o' := (o1 + 1)) dX1_takeFrom_1 fX1_9 (sh_bk h1) rfl ?_
  refine G.iconst dX1_takeFrom_4 ?_
  refine G.aload_n (o := o0) dX1_takeFrom_5 rfl ?_
  refine G.getR (o' := (o0 + 1)) dX1_takeFrom_6 fX1_9 (sh_bk h0) rfl ?_
  refine G.iconst dX1_takeFrom_9 ?_
  refine G.bipush dX1_takeFrom_10 (by decide) ?_
  refine G.acopy (i0 := 568) dX1_takeFrom_12 (by decide +kernel) (by decide) (sh_bkn h1) (sh_bkn h0) (by decide) (by decide) (by decide) (by decide) (by decide) (Nat.le_of_ble_eq_true rfl) ?_
  exact G.vret hX dX1_takeFrom_15 rfl k
theorem bX1_receive_0 {X : CT} {σ : St} {o0 o1 : Nat} {i2 : Int} (h0 : isBk o0) (h1 : isSt o1) {P : St → Prop} (hM : CV mdX1_shine [vr o0, vr o1] σ P)
    (k : ∀ σ', P σ' → G mdX1_receive X 5 [(0, vr o0), (1, vr o1), (2, vi i2)] [] (σ')) :
    G mdX1_receive X 0 [(0, vr o0), (1, vr o1), (2, vi i2)] [] σ := by
  refine G.aload_n (o := o0) dX1_receive_0 rfl ?_
  refine G.aload_n (o := o1) dX1_receive_1 rfl ?_
  exact G.callVV (as := [vr o1]) (rest := []) dX1_receive_2 rfl vX1_34 (by decide) (sh_bk h0) rfl (by decide) (Nat.le_of_ble_eq_true rfl) hM (fun σ' q => G.pick [0, 1, 2] (k σ' q))
theorem bX1_receive_5 {X : CT} {σ : St} {o0 o1 : Nat} {i2 : Int} (h0 : isBk o0) (h1 : isSt o1)
    (k : G mdX1_receive X 7 [(0, vr o0), (1, vr o1), (2, vi i2), (3, vi 0)] [] σ) :
    G mdX1_receive X 5 [(0, vr o0), (1, vr o1), (2, vi i2)] [] σ := by
  refine G.iconst dX1_receive_5 ?_
  refine G.istore_n dX1_receive_6 (by decide) rfl ?_
  exact G.pick [0, 1, 2, 3] k
theorem bX1_receive_7 {X : CT} {σ : St} {o0 o1 : Nat} {i2 i3 : Int} (h0 : isBk o0) (h1 : isSt o1) (s : (-2147483648 ≤ i3 ∧ i3 < 2147483648) ∧ (-2147483648 ≤ σ (o1 + 2) 2 ∧ σ (o1 + 2) 2 < 2147483648))
    (kt : σ (o1 + 2) 2 ≤ i3 → G mdX1_receive X 33 [(0, vr o0), (1, vr o1), (2, vi i2)] [] σ)
    (kf : i3 < σ (o1 + 2) 2 → G mdX1_receive X 18 [(0, vr o0), (1, vr o1), (2, vi i2), (3, vi i3)] [] σ) :
    G mdX1_receive X 7 [(0, vr o0), (1, vr o1), (2, vi i2), (3, vi i3)] [] σ := by
  refine G.iload_n (z := i3) dX1_receive_7 rfl ?_
  refine G.aload_n (o := o1) dX1_receive_8 rfl ?_
  refine G.getR (o' := (o1 + 2)) dX1_receive_9 fX1_38 (sh_st h1) rfl ?_
  refine G.getI (j := 2) dX1_receive_12 fX1_44 (sh_sp (sp_line h1)) rfl rfl rfl ?_
  exact G.icmp_ge (tgt := 33) dX1_receive_15 (by decide) s.1 s.2 (fun q => G.pick [0, 1, 2] (kt q)) (fun q => G.pick [0, 1, 2, 3] (kf q))
theorem bX1_receive_18 {X : CT} {σ : St} {o0 o1 : Nat} {i2 i3 : Int} (h0 : isBk o0) (h1 : isSt o1) {P : St → Prop} (hM : CV mdX1_passDeed [vr o0, vr (o1 + 2), vi i3] σ P)
    (k : ∀ σ', P σ' → G mdX1_receive X 27 [(0, vr o0), (1, vr o1), (2, vi i2), (3, vi i3)] [] (σ')) :
    G mdX1_receive X 18 [(0, vr o0), (1, vr o1), (2, vi i2), (3, vi i3)] [] σ := by
  refine G.aload_n (o := o0) dX1_receive_18 rfl ?_
  refine G.aload_n (o := o1) dX1_receive_19 rfl ?_
  refine G.getR (o' := (o1 + 2)) dX1_receive_20 fX1_38 (sh_st h1) rfl ?_
  refine G.iload_n (z := i3) dX1_receive_23 rfl ?_
  exact G.callVV (as := [vr (o1 + 2), vi i3]) (rest := []) dX1_receive_24 rfl vX1_50 (by decide) (sh_bk h0) rfl (by decide) (Nat.le_of_ble_eq_true rfl) hM (fun σ' q => G.pick [0, 1, 2, 3] (k σ' q))
theorem bX1_receive_27 {X : CT} {σ : St} {o0 o1 : Nat} {i2 i3 : Int} (h0 : isBk o0) (h1 : isSt o1)
    (k : G mdX1_receive X 7 [(0, vr o0), (1, vr o1), (2, vi i2), (3, vi (i3 + 1))] [] σ) :
    G mdX1_receive X 27 [(0, vr o0), (1, vr o1), (2, vi i2), (3, vi i3)] [] σ := by
  refine G.iinc (z := i3) dX1_receive_27 rfl (by decide) rfl ?_
  refine G.goto (tgt := 7) dX1_receive_30 (by decide) ?_
  exact G.pick [0, 1, 2, 3] k
theorem bX1_receive_33 {X : CT} {σ : St} {o0 o1 : Nat} {i2 : Int} (h0 : isBk o0) (h1 : isSt o1)
    (k : G mdX1_receive X 35 [(0, vr o0), (1, vr o1), (2, vi i2), (3, vi 0)] [] σ) :
    G mdX1_receive X 33 [(0, vr o0), (1, vr o1), (2, vi i2)] [] σ := by
  refine G.iconst dX1_receive_33 ?_
  refine G.istore_n dX1_receive_34 (by decide) rfl ?_
  exact G.pick [0, 1, 2, 3] k
theorem bX1_receive_35 {X : CT} {σ : St} {o0 o1 : Nat} {i2 i3 : Int} (h0 : isBk o0) (h1 : isSt o1) (s : (-2147483648 ≤ i3 ∧ i3 < 2147483648) ∧ (-2147483648 ≤ i2 ∧ i2 < 2147483648))
    (kt : i2 ≤ i3 → G mdX1_receive X 52 [] [] σ)
    (kf : i3 < i2 → G mdX1_receive X 40 [(0, vr o0), (1, vr o1), (2, vi i2), (3, vi i3)] [] σ) :
    G mdX1_receive X 35 [(0, vr o0), (1, vr o1), (2, vi i2), (3, vi i3)] [] σ := by
  refine G.iload_n (z := i3) dX1_receive_35 rfl ?_
  refine G.iload_n (z := i2) dX1_receive_36 rfl ?_
  exact G.icmp_ge (tgt := 52) dX1_receive_37 (by decide) s.1 s.2 (fun q => G.pick [] (kt q)) (fun q => G.pick [0, 1, 2, 3] (kf q))
theorem bX1_receive_40 {X : CT} {σ : St} {o0 o1 : Nat} {i2 i3 : Int} (h0 : isBk o0) (h1 : isSt o1) {P : St → Prop} (hM : CV mdX1_passStage [vr o0, vr o1, vi i3] σ P)
    (k : ∀ σ', P σ' → G mdX1_receive X 46 [(0, vr o0), (1, vr o1), (2, vi i2), (3, vi i3)] [] (σ')) :
    G mdX1_receive X 40 [(0, vr o0), (1, vr o1), (2, vi i2), (3, vi i3)] [] σ := by
  refine G.aload_n (o := o0) dX1_receive_40 rfl ?_
  refine G.aload_n (o := o1) dX1_receive_41 rfl ?_
  refine G.iload_n (z := i3) dX1_receive_42 rfl ?_
  exact G.callVV (as := [vr o1, vi i3]) (rest := []) dX1_receive_43 rfl vX1_54 (by decide) (sh_bk h0) rfl (by decide) (Nat.le_of_ble_eq_true rfl) hM (fun σ' q => G.pick [0, 1, 2, 3] (k σ' q))
theorem bX1_receive_46 {X : CT} {σ : St} {o0 o1 : Nat} {i2 i3 : Int} (h0 : isBk o0) (h1 : isSt o1)
    (k : G mdX1_receive X 35 [(0, vr o0), (1, vr o1), (2, vi i2), (3, vi (i3 + 1))] [] σ) :
    G mdX1_receive X 46 [(0, vr o0), (1, vr o1), (2, vi i2), (3, vi i3)] [] σ := by
  refine G.iinc (z := i3) dX1_receive_46 rfl (by decide) rfl ?_
  refine G.goto (tgt := 35) dX1_receive_49 (by decide) ?_
  exact G.pick [0, 1, 2, 3] k
theorem bX1_receive_52 {X : CT} {σ : St}  {P : St → Prop} (hX : RV X P)
    (k : P σ) :
    G mdX1_receive X 52 [] [] σ := by
  exact G.vret hX dX1_receive_52 rfl k
theorem bX1_shine_0 {X : CT} {σ : St} {o0 o1 : Nat} (h0 : isBk o0) (h1 : isSt o1)
    (k : G mdX1_shine X 2 [(0, vr o0), (1, vr o1), (2, vi 0)] [] σ) :
    G mdX1_shine X 0 [(0, vr o0), (1, vr o1)] [] σ := by
  refine G.iconst dX1_shine_0 ?_
  refine G.istore_n dX1_shine_1 (by decide) rfl ?_
  exact G.pick [0, 1, 2] k
theorem bX1_shine_2 {X : CT} {σ : St} {o0 o1 : Nat} {i2 : Int} (h0 : isBk o0) (h1 : isSt o1) (s : (-2147483648 ≤ i2 ∧ i2 < 2147483648))
    (kt : 32 ≤ i2 → G mdX1_shine X 29 [] [] σ)
    (kf : i2 < 32 → G mdX1_shine X 8 [(0, vr o0), (1, vr o1), (2, vi i2)] [] σ) :
    G mdX1_shine X 2 [(0, vr o0), (1, vr o1), (2, vi i2)] [] σ := by
  refine G.iload_n (z := i2) dX1_shine_2 rfl ?_
  refine G.bipush dX1_shine_3 (by decide) ?_
  exact G.icmp_ge (tgt := 29) dX1_shine_5 (by decide) s ⟨by decide, by decide⟩ (fun q => G.pick [] (kt q)) (fun q => G.pick [0, 1, 2] (kf q))
theorem bX1_shine_8 {X : CT} {σ : St} {o0 o1 : Nat} {i2 : Int} (h0 : isBk o0) (h1 : isSt o1) {P : Int → St → Prop} (hM : CI mdX2_light [vi (σ (o1 + 1) i2)] σ P) (s : (0 ≤ i2 ∧ i2 < 32))
    (k : ∀ z σ', inI z → P z σ' → G mdX1_shine X 22 [(0, vr o0), (1, vr o1), (2, vi i2)] [vi z, vi i2, vr (o0 + 1)] (σ')) :
    G mdX1_shine X 8 [(0, vr o0), (1, vr o1), (2, vi i2)] [] σ := by
  refine G.aload_n (o := o0) dX1_shine_8 rfl ?_
  refine G.getR (o' := (o0 + 1)) dX1_shine_9 fX1_9 (sh_bk h0) rfl ?_
  refine G.iload_n (z := i2) dX1_shine_12 rfl ?_
  refine G.aload_n (o := o1) dX1_shine_13 rfl ?_
  refine G.getR (o' := (o1 + 1)) dX1_shine_14 fX1_58 (sh_st h1) rfl ?_
  refine G.iload_n (z := i2) dX1_shine_17 rfl ?_
  refine G.iald dX1_shine_18 (sh_sent h1) s ?_
  exact G.callSI (as := [vi (σ (o1 + 1) i2)]) (rest := [vi i2, vr (o0 + 1)]) dX1_shine_19 rfl vX1_61 (by decide) (Nat.le_of_ble_eq_true rfl) hM (fun z σ' hz q => G.pick [0, 1, 2] (k z σ' hz q))
theorem bX1_shine_22 {X : CT} {σ : St} {o0 o1 : Nat} {i2 t1 t2 : Int} (h0 : isBk o0) (h1 : isSt o1) (s : (0 ≤ t1 ∧ t1 < 32))
    (k : G mdX1_shine X 2 [(0, vr o0), (1, vr o1), (2, vi (i2 + 1))] [] (wr σ (o0 + 1) t1 t2)) :
    G mdX1_shine X 22 [(0, vr o0), (1, vr o1), (2, vi i2)] [vi t2, vi t1, vr (o0 + 1)] σ := by
  refine G.iast dX1_shine_22 (sh_bkn h0) s ?_
  refine G.iinc (z := i2) dX1_shine_23 rfl (by decide) rfl ?_
  refine G.goto (tgt := 2) dX1_shine_26 (by decide) ?_
  exact G.pick [0, 1, 2] k
theorem bX1_shine_29 {X : CT} {σ : St}  {P : St → Prop} (hX : RV X P)
    (k : P σ) :
    G mdX1_shine X 29 [] [] σ := by
  exact G.vret hX dX1_shine_29 rfl k
theorem bX1_passDeed_0 {X : CT} {σ : St} {o0 o1 : Nat} {i2 : Int} (h0 : isBk o0) (h1 : isSp o1) {P : Int → St → Prop} (hM : CI mdX8_numberOf [vr o1, vi i2, vi 1] σ P)
    (k : ∀ z σ', inI z → P z σ' → G mdX1_passDeed X 6 [(0, vr o0), (1, vr o1), (2, vi i2)] [vi z] (σ')) :
    G mdX1_passDeed X 0 [(0, vr o0), (1, vr o1), (2, vi i2)] [] σ := by
  refine G.aload_n (o := o1) dX1_passDeed_0 rfl ?_
  refine G.iload_n (z := i2) dX1_passDeed_1 rfl ?_
  refine G.iconst dX1_passDeed_2 ?_
  exact G.callVI (as := [vi i2, vi 1]) (rest := []) dX1_passDeed_3 rfl vX1_67 (by decide) (sh_sp h1) rfl (by decide) (Nat.le_of_ble_eq_true rfl) hM (fun z σ' hz q => G.pick [0, 1, 2] (k z σ' hz q))
theorem bX1_passDeed_6 {X : CT} {σ : St} {o0 o1 : Nat} {i2 t0 : Int} (h0 : isBk o0) (h1 : isSp o1) {P : Int → St → Prop} (hM : CI mdX8_numberOf [vr o1, vi i2, vi 2] σ P)
    (k : ∀ z σ', inI z → P z σ' → G mdX1_passDeed X 13 [(0, vr o0), (1, vr o1), (2, vi i2), (3, vi t0)] [vi z] (σ')) :
    G mdX1_passDeed X 6 [(0, vr o0), (1, vr o1), (2, vi i2)] [vi t0] σ := by
  refine G.istore_n dX1_passDeed_6 (by decide) rfl ?_
  refine G.aload_n (o := o1) dX1_passDeed_7 rfl ?_
  refine G.iload_n (z := i2) dX1_passDeed_8 rfl ?_
  refine G.iconst dX1_passDeed_9 ?_
  exact G.callVI (as := [vi i2, vi 2]) (rest := []) dX1_passDeed_10 rfl vX1_67 (by decide) (sh_sp h1) rfl (by decide) (Nat.le_of_ble_eq_true rfl) hM (fun z σ' hz q => G.pick [0, 1, 2, 3] (k z σ' hz q))
theorem bX1_passDeed_13 {X : CT} {σ : St} {o0 o1 : Nat} {i2 i3 t0 : Int} (h0 : isBk o0) (h1 : isSp o1) {P : Int → St → Prop} (hM : CI mdX8_numberOf [vr o1, vi i2, vi 3] σ P)
    (k : ∀ z σ', inI z → P z σ' → G mdX1_passDeed X 21 [(0, vr o0), (1, vr o1), (2, vi i2), (3, vi i3), (4, vi t0)] [vi z] (σ')) :
    G mdX1_passDeed X 13 [(0, vr o0), (1, vr o1), (2, vi i2), (3, vi i3)] [vi t0] σ := by
  refine G.istore dX1_passDeed_13 (by decide) rfl ?_
  refine G.aload_n (o := o1) dX1_passDeed_15 rfl ?_
  refine G.iload_n (z := i2) dX1_passDeed_16 rfl ?_
  refine G.iconst dX1_passDeed_17 ?_
  exact G.callVI (as := [vi i2, vi 3]) (rest := []) dX1_passDeed_18 rfl vX1_67 (by decide) (sh_sp h1) rfl (by decide) (Nat.le_of_ble_eq_true rfl) hM (fun z σ' hz q => G.pick [0, 1, 2, 3, 4] (k z σ' hz q))
theorem bX1_passDeed_21 {X : CT} {σ : St} {o0 o1 : Nat} {i2 i3 i4 t0 : Int} (h0 : isBk o0) (h1 : isSp o1) {P : Int → St → Prop} (hM : CI mdX8_numberOf [vr o1, vi i2, vi 0] σ P)
    (k : ∀ z σ', inI z → P z σ' → G mdX1_passDeed X 29 [(0, vr o0), (1, vr o1), (2, vi i2), (3, vi i3), (4, vi i4), (5, vi t0)] [vi z] (σ')) :
    G mdX1_passDeed X 21 [(0, vr o0), (1, vr o1), (2, vi i2), (3, vi i3), (4, vi i4)] [vi t0] σ := by
  refine G.istore dX1_passDeed_21 (by decide) rfl ?_
  refine G.aload_n (o := o1) dX1_passDeed_23 rfl ?_
  refine G.iload_n (z := i2) dX1_passDeed_24 rfl ?_
  refine G.iconst dX1_passDeed_25 ?_
  exact G.callVI (as := [vi i2, vi 0]) (rest := []) dX1_passDeed_26 rfl vX1_67 (by decide) (sh_sp h1) rfl (by decide) (Nat.le_of_ble_eq_true rfl) hM (fun z σ' hz q => G.pick [0, 1, 2, 3, 4, 5] (k z σ' hz q))
theorem bX1_passDeed_29 {X : CT} {σ : St} {o0 o1 : Nat} {i2 i3 i4 i5 t0 : Int} (h0 : isBk o0) (h1 : isSp o1) (s : (-2147483648 ≤ t0 ∧ t0 < 2147483648))
    (k0 : t0 = 0 → G mdX1_passDeed X 64 [(0, vr o0), (3, vi i3)] [] σ)
    (k1 : t0 = 1 → G mdX1_passDeed X 72 [(0, vr o0), (1, vr o1), (2, vi i2), (3, vi i3), (4, vi i4), (5, vi i5)] [] σ)
    (k2 : t0 = 2 → G mdX1_passDeed X 97 [(0, vr o0), (3, vi i3), (4, vi i4)] [] σ)
    (k3 : t0 = 3 → G mdX1_passDeed X 107 [(0, vr o0), (3, vi i3)] [] σ)
    (k4 : t0 = 4 → G mdX1_passDeed X 115 [(0, vr o0), (3, vi i3), (4, vi i4), (5, vi i5)] [] σ)
    (kd : t0 < 0 ∨ 4 < t0 → G mdX1_passDeed X 131 [] [] σ) :
    G mdX1_passDeed X 29 [(0, vr o0), (1, vr o1), (2, vi i2), (3, vi i3), (4, vi i4), (5, vi i5)] [vi t0] σ := by
  have hsw : t0 = 0 ∨ t0 = 1 ∨ t0 = 2 ∨ t0 = 3 ∨ t0 = 4 ∨ (t0 < 0 ∨ 4 < t0) := by omega
  rcases hsw with q | q | q | q | q | q
  · exact G.tswIn (v := 0) (tgt := 64) dX1_passDeed_29 s q ⟨by decide, by decide⟩ (off := 35) rfl (by decide) (G.pick [0, 3] (k0 q))
  · exact G.tswIn (v := 1) (tgt := 72) dX1_passDeed_29 s q ⟨by decide, by decide⟩ (off := 43) rfl (by decide) (G.pick [0, 1, 2, 3, 4, 5] (k1 q))
  · exact G.tswIn (v := 2) (tgt := 97) dX1_passDeed_29 s q ⟨by decide, by decide⟩ (off := 68) rfl (by decide) (G.pick [0, 3, 4] (k2 q))
  · exact G.tswIn (v := 3) (tgt := 107) dX1_passDeed_29 s q ⟨by decide, by decide⟩ (off := 78) rfl (by decide) (G.pick [0, 3] (k3 q))
  · exact G.tswIn (v := 4) (tgt := 115) dX1_passDeed_29 s q ⟨by decide, by decide⟩ (off := 86) rfl (by decide) (G.pick [0, 3, 4, 5] (k4 q))
  · exact G.tswOut (tgt := 131) dX1_passDeed_29 s q (by decide) (G.pick [] (kd q))
theorem bX1_passDeed_64 {X : CT} {σ : St} {o0 : Nat} {i3 : Int} (h0 : isBk o0) {P : St → Prop} (hM : CV mdX1_spread [vr o0, vi i3] σ P)
    (k : ∀ σ', P σ' → G mdX1_passDeed X 69 [] [] (σ')) :
    G mdX1_passDeed X 64 [(0, vr o0), (3, vi i3)] [] σ := by
  refine G.aload_n (o := o0) dX1_passDeed_64 rfl ?_
  refine G.iload_n (z := i3) dX1_passDeed_65 rfl ?_
  exact G.callVV (as := [vi i3]) (rest := []) dX1_passDeed_66 rfl vX1_71 (by decide) (sh_bk h0) rfl (by decide) (Nat.le_of_ble_eq_true rfl) hM (fun σ' q => G.pick [] (k σ' q))
theorem bX1_passDeed_69 {X : CT} {σ : St} 
    (k : G mdX1_passDeed X 131 [] [] σ) :
    G mdX1_passDeed X 69 [] [] σ := by
  refine G.goto (tgt := 131) dX1_passDeed_69 (by decide) ?_
  exact G.pick [] k
theorem bX1_passDeed_72 {X : CT} {σ : St} {o0 o1 : Nat} {i2 i3 i4 i5 : Int} (h0 : isBk o0) (h1 : isSp o1) {P : Int → St → Prop} (hM : CI mdX8_numberOf [vr o1, vi i2, vi 4] σ P)
    (k : ∀ z σ', inI z → P z σ' → G mdX1_passDeed X 87 [(0, vr o0)] [vi z, vi i5, vi i4, vi i3, vr (o0 + 4)] (σ')) :
    G mdX1_passDeed X 72 [(0, vr o0), (1, vr o1), (2, vi i2), (3, vi i3), (4, vi i4), (5, vi i5)] [] σ := by
  refine G.aload_n (o := o0) dX1_passDeed_72 rfl ?_
  refine G.getR (o' := (o0 + 4)) dX1_passDeed_73 fX1_24 (sh_bk h0) rfl ?_
  refine G.iload_n (z := i3) dX1_passDeed_76 rfl ?_
  refine G.iload (z := i4) dX1_passDeed_77 rfl ?_
  refine G.iload (z := i5) dX1_passDeed_79 rfl ?_
  refine G.aload_n (o := o1) dX1_passDeed_81 rfl ?_
  refine G.iload_n (z := i2) dX1_passDeed_82 rfl ?_
  refine G.iconst dX1_passDeed_83 ?_
  exact G.callVI (as := [vi i2, vi 4]) (rest := [vi i5, vi i4, vi i3, vr (o0 + 4)]) dX1_passDeed_84 rfl vX1_67 (by decide) (sh_sp h1) rfl (by decide) (Nat.le_of_ble_eq_true rfl) hM (fun z σ' hz q => G.pick [0] (k z σ' hz q))
theorem bX1_passDeed_87 {X : CT} {σ : St} {o0 : Nat} {t1 t2 t3 t4 : Int} (h0 : isBk o0) {P : St → Prop} (hM : CV mdX4_put [vr (o0 + 4), vi t1, vi t2, vi t3, vi t4] σ P)
    (k : ∀ σ', P σ' → G mdX1_passDeed X 90 [(0, vr o0)] [] (σ')) :
    G mdX1_passDeed X 87 [(0, vr o0)] [vi t4, vi t3, vi t2, vi t1, vr (o0 + 4)] σ := by
  exact G.callVV (as := [vi t1, vi t2, vi t3, vi t4]) (rest := []) dX1_passDeed_87 rfl vX1_75 (by decide) (sh_mx (mx_bk h0)) rfl (by decide) (Nat.le_of_ble_eq_true rfl) hM (fun σ' q => G.pick [0] (k σ' q))
theorem bX1_passDeed_90 {X : CT} {σ : St} {o0 : Nat} (h0 : isBk o0) {P : St → Prop} (hM : CV mdX1_twist [vr o0] σ P)
    (k : ∀ σ', P σ' → G mdX1_passDeed X 94 [] [] (σ')) :
    G mdX1_passDeed X 90 [(0, vr o0)] [] σ := by
  refine G.aload_n (o := o0) dX1_passDeed_90 rfl ?_
  exact G.callVV (as := []) (rest := []) dX1_passDeed_91 rfl vX1_79 (by decide) (sh_bk h0) rfl (by decide) (Nat.le_of_ble_eq_true rfl) hM (fun σ' q => G.pick [] (k σ' q))
theorem bX1_passDeed_94 {X : CT} {σ : St} 
    (k : G mdX1_passDeed X 131 [] [] σ) :
    G mdX1_passDeed X 94 [] [] σ := by
  refine G.goto (tgt := 131) dX1_passDeed_94 (by decide) ?_
  exact G.pick [] k
theorem bX1_passDeed_97 {X : CT} {σ : St} {o0 : Nat} {i3 i4 : Int} (h0 : isBk o0) {P : St → Prop} (hM : CV mdX1_slip [vr o0, vi i3, vi i4] σ P)
    (k : ∀ σ', P σ' → G mdX1_passDeed X 104 [] [] (σ')) :
    G mdX1_passDeed X 97 [(0, vr o0), (3, vi i3), (4, vi i4)] [] σ := by
  refine G.aload_n (o := o0) dX1_passDeed_97 rfl ?_
  refine G.iload_n (z := i3) dX1_passDeed_98 rfl ?_
  refine G.iload (z := i4) dX1_passDeed_99 rfl ?_
  exact G.callVV (as := [vi i3, vi i4]) (rest := []) dX1_passDeed_101 rfl vX1_82 (by decide) (sh_bk h0) rfl (by decide) (Nat.le_of_ble_eq_true rfl) hM (fun σ' q => G.pick [] (k σ' q))
theorem bX1_passDeed_104 {X : CT} {σ : St} 
    (k : G mdX1_passDeed X 131 [] [] σ) :
    G mdX1_passDeed X 104 [] [] σ := by
  refine G.goto (tgt := 131) dX1_passDeed_104 (by decide) ?_
  exact G.pick [] k
theorem bX1_passDeed_107 {X : CT} {σ : St} {o0 : Nat} {i3 : Int} (h0 : isBk o0) {P : St → Prop} (hM : CV mdX1_late [vr o0, vi i3] σ P)
    (k : ∀ σ', P σ' → G mdX1_passDeed X 112 [] [] (σ')) :
    G mdX1_passDeed X 107 [(0, vr o0), (3, vi i3)] [] σ := by
  refine G.aload_n (o := o0) dX1_passDeed_107 rfl ?_
  refine G.iload_n (z := i3) dX1_passDeed_108 rfl ?_
  exact G.callVV (as := [vi i3]) (rest := []) dX1_passDeed_109 rfl vX1_86 (by decide) (sh_bk h0) rfl (by decide) (Nat.le_of_ble_eq_true rfl) hM (fun σ' q => G.pick [] (k σ' q))
theorem bX1_passDeed_112 {X : CT} {σ : St} 
    (k : G mdX1_passDeed X 131 [] [] σ) :
    G mdX1_passDeed X 112 [] [] σ := by
  refine G.goto (tgt := 131) dX1_passDeed_112 (by decide) ?_
  exact G.pick [] k
theorem bX1_passDeed_115 {X : CT} {σ : St} {o0 : Nat} {i3 i4 i5 : Int} (h0 : isBk o0) {P : St → Prop} (hM : CV mdX1_hit [vr o0, vi ((i3 * 16) + i4), vi i5] σ P)
    (k : ∀ σ', P σ' → G mdX1_passDeed X 128 [] [] (σ')) :
    G mdX1_passDeed X 115 [(0, vr o0), (3, vi i3), (4, vi i4), (5, vi i5)] [] σ := by
  refine G.aload_n (o := o0) dX1_passDeed_115 rfl ?_
  refine G.iload_n (z := i3) dX1_passDeed_116 rfl ?_
  refine G.bipush dX1_passDeed_117 (by decide) ?_
  refine G.imul dX1_passDeed_119 ?_
  refine G.iload (z := i4) dX1_passDeed_120 rfl ?_
  refine G.iadd dX1_passDeed_122 ?_
  refine G.iload (z := i5) dX1_passDeed_123 rfl ?_
  exact G.callVV (as := [vi ((i3 * 16) + i4), vi i5]) (rest := []) dX1_passDeed_125 rfl vX1_89 (by decide) (sh_bk h0) rfl (by decide) (Nat.le_of_ble_eq_true rfl) hM (fun σ' q => G.pick [] (k σ' q))
theorem bX1_passDeed_128 {X : CT} {σ : St} 
    (k : G mdX1_passDeed X 131 [] [] σ) :
    G mdX1_passDeed X 128 [] [] σ := by
  refine G.goto (tgt := 131) dX1_passDeed_128 (by decide) ?_
  exact G.pick [] k
theorem bX1_passDeed_131 {X : CT} {σ : St}  {P : St → Prop} (hX : RV X P)
    (k : P σ) :
    G mdX1_passDeed X 131 [] [] σ := by
  exact G.vret hX dX1_passDeed_131 rfl k
theorem bX1_passStage_0 {X : CT} {σ : St} {o0 o1 : Nat} {i2 : Int} (h0 : isBk o0) (h1 : isSt o1) {P : Int → St → Prop} (hM : CI mdX8_numberOf [vr (o1 + 4), vi i2, vi 1] σ P)
    (k : ∀ z σ', inI z → P z σ' → G mdX1_passStage X 11 [(0, vr o0), (1, vr o1), (2, vi i2), (3, vr (o1 + 4))] [vi z] (σ')) :
    G mdX1_passStage X 0 [(0, vr o0), (1, vr o1), (2, vi i2)] [] σ := by
  refine G.aload_n (o := o1) dX1_passStage_0 rfl ?_
  refine G.getR (o' := (o1 + 4)) dX1_passStage_1 fX1_92 (sh_st h1) rfl ?_
  refine G.astore_n dX1_passStage_4 (by decide) rfl ?_
  refine G.aload_n (o := (o1 + 4)) dX1_passStage_5 rfl ?_
  refine G.iload_n (z := i2) dX1_passStage_6 rfl ?_
  refine G.iconst dX1_passStage_7 ?_
  exact G.callVI (as := [vi i2, vi 1]) (rest := []) dX1_passStage_8 rfl vX1_67 (by decide) (sh_sp (sp_chain h1)) rfl (by decide) (Nat.le_of_ble_eq_true rfl) hM (fun z σ' hz q => G.pick [0, 1, 2, 3] (k z σ' hz q))
theorem bX1_passStage_11 {X : CT} {σ : St} {o0 o1 : Nat} {i2 t0 : Int} (h0 : isBk o0) (h1 : isSt o1) {P : Int → St → Prop} (hM : CI mdX8_numberOf [vr (o1 + 4), vi i2, vi 0] σ P)
    (k : ∀ z σ', inI z → P z σ' → G mdX1_passStage X 19 [(0, vr o0), (1, vr o1), (2, vi i2), (3, vr (o1 + 4)), (4, vi t0)] [vi z] (σ')) :
    G mdX1_passStage X 11 [(0, vr o0), (1, vr o1), (2, vi i2), (3, vr (o1 + 4))] [vi t0] σ := by
  refine G.istore dX1_passStage_11 (by decide) rfl ?_
  refine G.aload_n (o := (o1 + 4)) dX1_passStage_13 rfl ?_
  refine G.iload_n (z := i2) dX1_passStage_14 rfl ?_
  refine G.iconst dX1_passStage_15 ?_
  exact G.callVI (as := [vi i2, vi 0]) (rest := []) dX1_passStage_16 rfl vX1_67 (by decide) (sh_sp (sp_chain h1)) rfl (by decide) (Nat.le_of_ble_eq_true rfl) hM (fun z σ' hz q => G.pick [0, 1, 2, 3, 4] (k z σ' hz q))
theorem bX1_passStage_19 {X : CT} {σ : St} {o0 o1 : Nat} {i2 i4 t0 : Int} (h0 : isBk o0) (h1 : isSt o1) (s : (-2147483648 ≤ t0 ∧ t0 < 2147483648))
    (k0 : t0 = 0 → G mdX1_passStage X 52 [(0, vr o0), (4, vi i4)] [] σ)
    (k1 : t0 = 1 → G mdX1_passStage X 61 [(0, vr o0), (2, vi i2), (3, vr (o1 + 4)), (4, vi i4)] [] σ)
    (k2 : t0 = 2 → G mdX1_passStage X 102 [(0, vr o0), (4, vi i4)] [] σ)
    (k3 : t0 = 3 → G mdX1_passStage X 114 [(0, vr o0)] [] σ)
    (k4 : t0 = 4 → G mdX1_passStage X 125 [(0, vr o0), (1, vr o1)] [] σ)
    (kd : t0 < 0 ∨ 4 < t0 → G mdX1_passStage X 133 [] [] σ) :
    G mdX1_passStage X 19 [(0, vr o0), (1, vr o1), (2, vi i2), (3, vr (o1 + 4)), (4, vi i4)] [vi t0] σ := by
  have hsw : t0 = 0 ∨ t0 = 1 ∨ t0 = 2 ∨ t0 = 3 ∨ t0 = 4 ∨ (t0 < 0 ∨ 4 < t0) := by omega
  rcases hsw with q | q | q | q | q | q
  · exact G.tswIn (v := 0) (tgt := 52) dX1_passStage_19 s q ⟨by decide, by decide⟩ (off := 33) rfl (by decide) (G.pick [0, 4] (k0 q))
  · exact G.tswIn (v := 1) (tgt := 61) dX1_passStage_19 s q ⟨by decide, by decide⟩ (off := 42) rfl (by decide) (G.pick [0, 2, 3, 4] (k1 q))
  · exact G.tswIn (v := 2) (tgt := 102) dX1_passStage_19 s q ⟨by decide, by decide⟩ (off := 83) rfl (by decide) (G.pick [0, 4] (k2 q))
  · exact G.tswIn (v := 3) (tgt := 114) dX1_passStage_19 s q ⟨by decide, by decide⟩ (off := 95) rfl (by decide) (G.pick [0] (k3 q))
  · exact G.tswIn (v := 4) (tgt := 125) dX1_passStage_19 s q ⟨by decide, by decide⟩ (off := 106) rfl (by decide) (G.pick [0, 1] (k4 q))
  · exact G.tswOut (tgt := 133) dX1_passStage_19 s q (by decide) (G.pick [] (kd q))
theorem bX1_passStage_52 {X : CT} {σ : St} {o0 : Nat} {i4 : Int} (h0 : isBk o0) {P : St → Prop} (hM : CV mdX1_unspread [vr o0, vi i4] σ P)
    (k : ∀ σ', P σ' → G mdX1_passStage X 58 [] [] (σ')) :
    G mdX1_passStage X 52 [(0, vr o0), (4, vi i4)] [] σ := by
  refine G.aload_n (o := o0) dX1_passStage_52 rfl ?_
  refine G.iload (z := i4) dX1_passStage_53 rfl ?_
  exact G.callVV (as := [vi i4]) (rest := []) dX1_passStage_55 rfl vX1_95 (by decide) (sh_bk h0) rfl (by decide) (Nat.le_of_ble_eq_true rfl) hM (fun σ' q => G.pick [] (k σ' q))
theorem bX1_passStage_58 {X : CT} {σ : St} 
    (k : G mdX1_passStage X 133 [] [] σ) :
    G mdX1_passStage X 58 [] [] σ := by
  refine G.goto (tgt := 133) dX1_passStage_58 (by decide) ?_
  exact G.pick [] k
theorem bX1_passStage_61 {X : CT} {σ : St} {o0 o1 : Nat} {i2 i4 : Int} (h0 : isBk o0) (h1 : isSt o1) {P : Int → St → Prop} (hM : CI mdX8_numberOf [vr (o1 + 4), vi i2, vi 2] σ P)
    (k : ∀ z σ', inI z → P z σ' → G mdX1_passStage X 73 [(0, vr o0), (2, vi i2), (3, vr (o1 + 4))] [vi z, vi i4, vr (o0 + 4)] (σ')) :
    G mdX1_passStage X 61 [(0, vr o0), (2, vi i2), (3, vr (o1 + 4)), (4, vi i4)] [] σ := by
  refine G.aload_n (o := o0) dX1_passStage_61 rfl ?_
  refine G.getR (o' := (o0 + 4)) dX1_passStage_62 fX1_24 (sh_bk h0) rfl ?_
  refine G.iload (z := i4) dX1_passStage_65 rfl ?_
  refine G.aload_n (o := (o1 + 4)) dX1_passStage_67 rfl ?_
  refine G.iload_n (z := i2) dX1_passStage_68 rfl ?_
  refine G.iconst dX1_passStage_69 ?_
  exact G.callVI (as := [vi i2, vi 2]) (rest := [vi i4, vr (o0 + 4)]) dX1_passStage_70 rfl vX1_67 (by decide) (sh_sp (sp_chain h1)) rfl (by decide) (Nat.le_of_ble_eq_true rfl) hM (fun z σ' hz q => G.pick [0, 2, 3] (k z σ' hz q))
theorem bX1_passStage_73 {X : CT} {σ : St} {o0 o1 : Nat} {i2 t1 t2 : Int} (h0 : isBk o0) (h1 : isSt o1) {P : Int → St → Prop} (hM : CI mdX8_numberOf [vr (o1 + 4), vi i2, vi 3] σ P)
    (k : ∀ z σ', inI z → P z σ' → G mdX1_passStage X 79 [(0, vr o0), (2, vi i2), (3, vr (o1 + 4))] [vi z, vi t2, vi t1, vr (o0 + 4)] (σ')) :
    G mdX1_passStage X 73 [(0, vr o0), (2, vi i2), (3, vr (o1 + 4))] [vi t2, vi t1, vr (o0 + 4)] σ := by
  refine G.aload_n (o := (o1 + 4)) dX1_passStage_73 rfl ?_
  refine G.iload_n (z := i2) dX1_passStage_74 rfl ?_
  refine G.iconst dX1_passStage_75 ?_
  exact G.callVI (as := [vi i2, vi 3]) (rest := [vi t2, vi t1, vr (o0 + 4)]) dX1_passStage_76 rfl vX1_67 (by decide) (sh_sp (sp_chain h1)) rfl (by decide) (Nat.le_of_ble_eq_true rfl) hM (fun z σ' hz q => G.pick [0, 2, 3] (k z σ' hz q))
theorem bX1_passStage_79 {X : CT} {σ : St} {o0 o1 : Nat} {i2 t1 t2 t3 : Int} (h0 : isBk o0) (h1 : isSt o1) {P : Int → St → Prop} (hM : CI mdX8_numberOf [vr (o1 + 4), vi i2, vi 4] σ P)
    (k : ∀ z σ', inI z → P z σ' → G mdX1_passStage X 85 [(0, vr o0)] [vi z, vi t3, vi t2, vi t1, vr (o0 + 4)] (σ')) :
    G mdX1_passStage X 79 [(0, vr o0), (2, vi i2), (3, vr (o1 + 4))] [vi t3, vi t2, vi t1, vr (o0 + 4)] σ := by
  refine G.aload_n (o := (o1 + 4)) dX1_passStage_79 rfl ?_
  refine G.iload_n (z := i2) dX1_passStage_80 rfl ?_
  refine G.iconst dX1_passStage_81 ?_
  exact G.callVI (as := [vi i2, vi 4]) (rest := [vi t3, vi t2, vi t1, vr (o0 + 4)]) dX1_passStage_82 rfl vX1_67 (by decide) (sh_sp (sp_chain h1)) rfl (by decide) (Nat.le_of_ble_eq_true rfl) hM (fun z σ' hz q => G.pick [0] (k z σ' hz q))
theorem bX1_passStage_85 {X : CT} {σ : St} {o0 : Nat} {t1 t2 t3 t4 : Int} (h0 : isBk o0) {P : St → Prop} (hM : CV mdX4_put [vr (o0 + 4), vi t1, vi t2, vi t3, vi t4] σ P)
    (k : ∀ σ', P σ' → G mdX1_passStage X 88 [(0, vr o0)] [] (σ')) :
    G mdX1_passStage X 85 [(0, vr o0)] [vi t4, vi t3, vi t2, vi t1, vr (o0 + 4)] σ := by
  exact G.callVV (as := [vi t1, vi t2, vi t3, vi t4]) (rest := []) dX1_passStage_85 rfl vX1_75 (by decide) (sh_mx (mx_bk h0)) rfl (by decide) (Nat.le_of_ble_eq_true rfl) hM (fun σ' q => G.pick [0] (k σ' q))
theorem bX1_passStage_88 {X : CT} {σ : St} {o0 : Nat} (h0 : isBk o0) {P : St → Prop} (hM : CV mdX4_invert [vr (o0 + 4)] σ P)
    (k : ∀ σ', P σ' → G mdX1_passStage X 95 [(0, vr o0)] [] (σ')) :
    G mdX1_passStage X 88 [(0, vr o0)] [] σ := by
  refine G.aload_n (o := o0) dX1_passStage_88 rfl ?_
  refine G.getR (o' := (o0 + 4)) dX1_passStage_89 fX1_24 (sh_bk h0) rfl ?_
  exact G.callVV (as := []) (rest := []) dX1_passStage_92 rfl vX1_98 (by decide) (sh_mx (mx_bk h0)) rfl (by decide) (Nat.le_of_ble_eq_true rfl) hM (fun σ' q => G.pick [0] (k σ' q))
theorem bX1_passStage_95 {X : CT} {σ : St} {o0 : Nat} (h0 : isBk o0) {P : St → Prop} (hM : CV mdX1_twist [vr o0] σ P)
    (k : ∀ σ', P σ' → G mdX1_passStage X 99 [] [] (σ')) :
    G mdX1_passStage X 95 [(0, vr o0)] [] σ := by
  refine G.aload_n (o := o0) dX1_passStage_95 rfl ?_
  exact G.callVV (as := []) (rest := []) dX1_passStage_96 rfl vX1_79 (by decide) (sh_bk h0) rfl (by decide) (Nat.le_of_ble_eq_true rfl) hM (fun σ' q => G.pick [] (k σ' q))
theorem bX1_passStage_99 {X : CT} {σ : St} 
    (k : G mdX1_passStage X 133 [] [] σ) :
    G mdX1_passStage X 99 [] [] σ := by
  refine G.goto (tgt := 133) dX1_passStage_99 (by decide) ?_
  exact G.pick [] k
theorem bX1_passStage_102 {X : CT} {σ : St} {o0 : Nat} {i4 : Int} (h0 : isBk o0) {P : St → Prop} (hM : CV mdX1_late [vr o0, vi (16 - i4)] σ P)
    (k : ∀ σ', P σ' → G mdX1_passStage X 111 [] [] (σ')) :
    G mdX1_passStage X 102 [(0, vr o0), (4, vi i4)] [] σ := by
  refine G.aload_n (o := o0) dX1_passStage_102 rfl ?_
  refine G.bipush dX1_passStage_103 (by decide) ?_
  refine G.iload (z := i4) dX1_passStage_105 rfl ?_
  refine G.isub dX1_passStage_107 ?_
  exact G.callVV (as := [vi (16 - i4)]) (rest := []) dX1_passStage_108 rfl vX1_86 (by decide) (sh_bk h0) rfl (by decide) (Nat.le_of_ble_eq_true rfl) hM (fun σ' q => G.pick [] (k σ' q))
theorem bX1_passStage_111 {X : CT} {σ : St} 
    (k : G mdX1_passStage X 133 [] [] σ) :
    G mdX1_passStage X 111 [] [] σ := by
  refine G.goto (tgt := 133) dX1_passStage_111 (by decide) ?_
  exact G.pick [] k
theorem bX1_passStage_114 {X : CT} {σ : St} {o0 : Nat} (h0 : isBk o0) {P : Int → St → Prop} (hM : CI mdX1_brightestFactor [vr o0] σ P)
    (k : ∀ z σ', inI z → P z σ' → G mdX1_passStage X 119 [] [vi z, vr o0] (σ')) :
    G mdX1_passStage X 114 [(0, vr o0)] [] σ := by
  refine G.aload_n (o := o0) dX1_passStage_114 rfl ?_
  refine G.aload_n (o := o0) dX1_passStage_115 rfl ?_
  exact G.callVI (as := []) (rest := [vr o0]) dX1_passStage_116 rfl vX1_101 (by decide) (sh_bk h0) rfl (by decide) (Nat.le_of_ble_eq_true rfl) hM (fun z σ' hz q => G.pick [] (k z σ' hz q))
theorem bX1_passStage_119 {X : CT} {σ : St} {o0 : Nat} {t1 : Int} (h0 : isBk o0) {P : St → Prop} (hM : CV mdX1_multiply [vr o0, vi t1] σ P)
    (k : ∀ σ', P σ' → G mdX1_passStage X 122 [] [] (σ')) :
    G mdX1_passStage X 119 [] [vi t1, vr o0] σ := by
  exact G.callVV (as := [vi t1]) (rest := []) dX1_passStage_119 rfl vX1_105 (by decide) (sh_bk h0) rfl (by decide) (Nat.le_of_ble_eq_true rfl) hM (fun σ' q => G.pick [] (k σ' q))
theorem bX1_passStage_122 {X : CT} {σ : St} 
    (k : G mdX1_passStage X 133 [] [] σ) :
    G mdX1_passStage X 122 [] [] σ := by
  refine G.goto (tgt := 133) dX1_passStage_122 (by decide) ?_
  exact G.pick [] k
theorem bX1_passStage_125 {X : CT} {σ : St} {o0 o1 : Nat} (h0 : isBk o0) (h1 : isSt o1) {P : St → Prop} (hM : CV mdX1_mend [vr o0, vr o1] σ P)
    (k : ∀ σ', P σ' → G mdX1_passStage X 130 [] [] (σ')) :
    G mdX1_passStage X 125 [(0, vr o0), (1, vr o1)] [] σ := by
  refine G.aload_n (o := o0) dX1_passStage_125 rfl ?_
  refine G.aload_n (o := o1) dX1_passStage_126 rfl ?_
  exact G.callVV (as := [vr o1]) (rest := []) dX1_passStage_127 rfl vX1_108 (by decide) (sh_bk h0) rfl (by decide) (Nat.le_of_ble_eq_true rfl) hM (fun σ' q => G.pick [] (k σ' q))
theorem bX1_passStage_130 {X : CT} {σ : St} 
    (k : G mdX1_passStage X 133 [] [] σ) :
    G mdX1_passStage X 130 [] [] σ := by
  refine G.goto (tgt := 133) dX1_passStage_130 (by decide) ?_
  exact G.pick [] k
theorem bX1_passStage_133 {X : CT} {σ : St}  {P : St → Prop} (hX : RV X P)
    (k : P σ) :
    G mdX1_passStage X 133 [] [] σ := by
  exact G.vret hX dX1_passStage_133 rfl k
theorem bX1_spread_0 {X : CT} {σ : St} {o0 : Nat} {i1 : Int} (h0 : isBk o0)
    (k : G mdX1_spread X 2 [(0, vr o0), (1, vi i1), (2, vi 0)] [] σ) :
    G mdX1_spread X 0 [(0, vr o0), (1, vi i1)] [] σ := by
  refine G.iconst dX1_spread_0 ?_
  refine G.istore_n dX1_spread_1 (by decide) rfl ?_
  exact G.pick [0, 1, 2] k
theorem bX1_spread_2 {X : CT} {σ : St} {o0 : Nat} {i1 i2 : Int} (h0 : isBk o0) (s : (-2147483648 ≤ i2 ∧ i2 < 2147483648))
    (kt : 32 ≤ i2 → G mdX1_spread X 99 [] [] σ)
    (kf : i2 < 32 → G mdX1_spread X 8 [(0, vr o0), (1, vi i1), (2, vi i2)] [] σ) :
    G mdX1_spread X 2 [(0, vr o0), (1, vi i1), (2, vi i2)] [] σ := by
  refine G.iload_n (z := i2) dX1_spread_2 rfl ?_
  refine G.bipush dX1_spread_3 (by decide) ?_
  exact G.icmp_ge (tgt := 99) dX1_spread_5 (by decide) s ⟨by decide, by decide⟩ (fun q => G.pick [] (kt q)) (fun q => G.pick [0, 1, 2] (kf q))
theorem bX1_spread_8 {X : CT} {σ : St} {o0 : Nat} {i1 i2 : Int} (h0 : isBk o0) (s : (0 ≤ (i2 + 16) - 1 ∧ (i2 + 16) - 1 < 32))
    (k : G mdX1_spread X 24 [(0, vr o0), (1, vi i1), (2, vi i2), (3, vi (σ (o0 + 1) ((i2 + 16) - 1))), (4, vi 15)] [] σ) :
    G mdX1_spread X 8 [(0, vr o0), (1, vi i1), (2, vi i2)] [] σ := by
  refine G.aload_n (o := o0) dX1_spread_8 rfl ?_
  refine G.getR (o' := (o0 + 1)) dX1_spread_9 fX1_9 (sh_bk h0) rfl ?_
  refine G.iload_n (z := i2) dX1_spread_12 rfl ?_
  refine G.bipush dX1_spread_13 (by decide) ?_
  refine G.iadd dX1_spread_15 ?_
  refine G.iconst dX1_spread_16 ?_
  refine G.isub dX1_spread_17 ?_
  refine G.iald dX1_spread_18 (sh_bkn h0) s ?_
  refine G.istore_n dX1_spread_19 (by decide) rfl ?_
  refine G.bipush dX1_spread_20 (by decide) ?_
  refine G.istore dX1_spread_22 (by decide) rfl ?_
  exact G.pick [0, 1, 2, 3, 4] k
theorem bX1_spread_24 {X : CT} {σ : St} {o0 : Nat} {i1 i2 i3 i4 : Int} (h0 : isBk o0) (s : (-2147483648 ≤ i4 ∧ i4 < 2147483648))
    (kt : i4 ≤ 0 → G mdX1_spread X 74 [(0, vr o0), (1, vi i1), (2, vi i2), (3, vi i3)] [] σ)
    (kf : 0 < i4 → G mdX1_spread X 29 [(0, vr o0), (1, vi i1), (2, vi i2), (3, vi i3), (4, vi i4)] [] σ) :
    G mdX1_spread X 24 [(0, vr o0), (1, vi i1), (2, vi i2), (3, vi i3), (4, vi i4)] [] σ := by
  refine G.iload (z := i4) dX1_spread_24 rfl ?_
  exact G.if_le (tgt := 74) dX1_spread_26 (by decide) s (fun q => G.pick [0, 1, 2, 3] (kt q)) (fun q => G.pick [0, 1, 2, 3, 4] (kf q))
theorem bX1_spread_29 {X : CT} {σ : St} {o0 : Nat} {i1 i2 i3 i4 : Int} (h0 : isBk o0) (s : (0 ≤ (i2 + i4) - 1 ∧ (i2 + i4) - 1 < 32) ∧ (0 ≤ i2 + i4 ∧ i2 + i4 < 32) ∧ (0 ≤ (σ (o0 + 1) (i2 + i4)) + (i1 * (σ (o0 + 1) ((i2 + i4) - 1))) ∧ (σ (o0 + 1) (i2 + i4)) + (i1 * (σ (o0 + 1) ((i2 + i4) - 1))) < 2147483648))
    (k : G mdX1_spread X 24 [(0, vr o0), (1, vi i1), (2, vi i2), (3, vi i3), (4, vi (i4 + (-1)))] [] (wr σ (o0 + 1) (i2 + i4) (((σ (o0 + 1) (i2 + i4)) + (i1 * (σ (o0 + 1) ((i2 + i4) - 1)))) % 97))) :
    G mdX1_spread X 29 [(0, vr o0), (1, vi i1), (2, vi i2), (3, vi i3), (4, vi i4)] [] σ := by
  refine G.aload_n (o := o0) dX1_spread_29 rfl ?_
  refine G.getR (o' := (o0 + 1)) dX1_spread_30 fX1_9 (sh_bk h0) rfl ?_
  refine G.iload_n (z := i2) dX1_spread_33 rfl ?_
  refine G.iload (z := i4) dX1_spread_34 rfl ?_
  refine G.iadd dX1_spread_36 ?_
  refine G.iconst dX1_spread_37 ?_
  refine G.isub dX1_spread_38 ?_
  refine G.iald dX1_spread_39 (sh_bkn h0) s.1 ?_
  refine G.istore dX1_spread_40 (by decide) rfl ?_
  refine G.aload_n (o := o0) dX1_spread_42 rfl ?_
  refine G.getR (o' := (o0 + 1)) dX1_spread_43 fX1_9 (sh_bk h0) rfl ?_
  refine G.iload_n (z := i2) dX1_spread_46 rfl ?_
  refine G.iload (z := i4) dX1_spread_47 rfl ?_
  refine G.iadd dX1_spread_49 ?_
  refine G.aload_n (o := o0) dX1_spread_50 rfl ?_
  refine G.getR (o' := (o0 + 1)) dX1_spread_51 fX1_9 (sh_bk h0) rfl ?_
  refine G.iload_n (z := i2) dX1_spread_54 rfl ?_
  refine G.iload (z := i4) dX1_spread_55 rfl ?_
  refine G.iadd dX1_spread_57 ?_
  refine G.iald dX1_spread_58 (sh_bkn h0) s.2.1 ?_
  refine G.iload_n (z := i1) dX1_spread_59 rfl ?_
  refine G.iload (z := σ (o0 + 1) ((i2 + i4) - 1)) dX1_spread_60 rfl ?_
  refine G.imul dX1_spread_62 ?_
  refine G.iadd dX1_spread_63 ?_
  refine G.bipush dX1_spread_64 (by decide) ?_
  refine G.irem dX1_spread_66 s.2.2 ⟨by decide, by decide⟩ ?_
  refine G.iast dX1_spread_67 (sh_bkn h0) s.2.1 ?_
  refine G.iinc (z := i4) dX1_spread_68 rfl (by decide) rfl ?_
  refine G.goto (tgt := 24) dX1_spread_71 (by decide) ?_
  exact G.pick [0, 1, 2, 3, 4] k
theorem bX1_spread_74 {X : CT} {σ : St} {o0 : Nat} {i1 i2 i3 : Int} (h0 : isBk o0) (s : (0 ≤ i2 ∧ i2 < 32) ∧ (0 ≤ (σ (o0 + 1) i2) + (i1 * i3) ∧ (σ (o0 + 1) i2) + (i1 * i3) < 2147483648))
    (k : G mdX1_spread X 2 [(0, vr o0), (1, vi i1), (2, vi (i2 + 16))] [] (wr σ (o0 + 1) i2 (((σ (o0 + 1) i2) + (i1 * i3)) % 97))) :
    G mdX1_spread X 74 [(0, vr o0), (1, vi i1), (2, vi i2), (3, vi i3)] [] σ := by
  refine G.aload_n (o := o0) dX1_spread_74 rfl ?_
  refine G.getR (o' := (o0 + 1)) dX1_spread_75 fX1_9 (sh_bk h0) rfl ?_
  refine G.iload_n (z := i2) dX1_spread_78 rfl ?_
  refine G.aload_n (o := o0) dX1_spread_79 rfl ?_
  refine G.getR (o' := (o0 + 1)) dX1_spread_80 fX1_9 (sh_bk h0) rfl ?_
  refine G.iload_n (z := i2) dX1_spread_83 rfl ?_
  refine G.iald dX1_spread_84 (sh_bkn h0) s.1 ?_
  refine G.iload_n (z := i1) dX1_spread_85 rfl ?_
  refine G.iload_n (z := i3) dX1_spread_86 rfl ?_
  refine G.imul dX1_spread_87 ?_
  refine G.iadd dX1_spread_88 ?_
  refine G.bipush dX1_spread_89 (by decide) ?_
  refine G.irem dX1_spread_91 s.2 ⟨by decide, by decide⟩ ?_
  refine G.iast dX1_spread_92 (sh_bkn h0) s.1 ?_
  refine G.iinc (z := i2) dX1_spread_93 rfl (by decide) rfl ?_
  refine G.goto (tgt := 2) dX1_spread_96 (by decide) ?_
  exact G.pick [0, 1, 2] k
theorem bX1_spread_99 {X : CT} {σ : St}  {P : St → Prop} (hX : RV X P)
    (k : P σ) :
    G mdX1_spread X 99 [] [] σ := by
  exact G.vret hX dX1_spread_99 rfl k
theorem bX1_unspread_0 {X : CT} {σ : St} {o0 : Nat} {i1 : Int} (h0 : isBk o0) {P : Int → St → Prop} (hM : CI mdX2_power [vi i1, vi 16] σ P)
    (k : ∀ z σ', inI z → P z σ' → G mdX1_unspread X 12 [(0, vr o0), (2, vi (97 - i1))] [vi z, vi 1] (σ')) :
    G mdX1_unspread X 0 [(0, vr o0), (1, vi i1)] [] σ := by
  refine G.bipush dX1_unspread_0 (by decide) ?_
  refine G.iload_n (z := i1) dX1_unspread_2 rfl ?_
  refine G.isub dX1_unspread_3 ?_
  refine G.istore_n dX1_unspread_4 (by decide) rfl ?_
  refine G.iconst dX1_unspread_5 ?_
  refine G.iload_n (z := i1) dX1_unspread_6 rfl ?_
  refine G.bipush dX1_unspread_7 (by decide) ?_
  exact G.callSI (as := [vi i1, vi 16]) (rest := [vi 1]) dX1_unspread_9 rfl vX1_111 (by decide) (Nat.le_of_ble_eq_true rfl) hM (fun z σ' hz q => G.pick [0, 2] (k z σ' hz q))
theorem bX1_unspread_12 {X : CT} {σ : St} {o0 : Nat} {i2 t0 t1 : Int} (h0 : isBk o0) {P : Int → St → Prop} (hM : CI mdJ9_floorMod_7cf53 [vi (t0 - t1), vi 97] σ P)
    (k : ∀ z σ', inI z → P z σ' → G mdX1_unspread X 18 [(0, vr o0), (2, vi i2)] [vi z] (σ')) :
    G mdX1_unspread X 12 [(0, vr o0), (2, vi i2)] [vi t1, vi t0] σ := by
  refine G.isub dX1_unspread_12 ?_
  refine G.bipush dX1_unspread_13 (by decide) ?_
  exact G.callSI (as := [vi (t0 - t1), vi 97]) (rest := []) dX1_unspread_15 rfl vX1_114 (by decide) (Nat.le_of_ble_eq_true rfl) hM (fun z σ' hz q => G.pick [0, 2] (k z σ' hz q))
theorem bX1_unspread_18 {X : CT} {σ : St} {o0 : Nat} {i2 t0 : Int} (h0 : isBk o0) {P : Int → St → Prop} (hM : CI mdX2_inverse [vi t0] σ P)
    (k : ∀ z σ', inI z → P z σ' → G mdX1_unspread X 21 [(0, vr o0), (2, vi i2)] [vi z] (σ')) :
    G mdX1_unspread X 18 [(0, vr o0), (2, vi i2)] [vi t0] σ := by
  exact G.callSI (as := [vi t0]) (rest := []) dX1_unspread_18 rfl vX1_119 (by decide) (Nat.le_of_ble_eq_true rfl) hM (fun z σ' hz q => G.pick [0, 2] (k z σ' hz q))
theorem bX1_unspread_21 {X : CT} {σ : St} {o0 : Nat} {i2 t0 : Int} (h0 : isBk o0)
    (k : G mdX1_unspread X 25 [(0, vr o0), (2, vi i2), (3, vi t0), (4, vi 0)] [] σ) :
    G mdX1_unspread X 21 [(0, vr o0), (2, vi i2)] [vi t0] σ := by
  refine G.istore_n dX1_unspread_21 (by decide) rfl ?_
  refine G.iconst dX1_unspread_22 ?_
  refine G.istore dX1_unspread_23 (by decide) rfl ?_
  exact G.pick [0, 2, 3, 4] k
theorem bX1_unspread_25 {X : CT} {σ : St} {o0 : Nat} {i2 i3 i4 : Int} (h0 : isBk o0) (s : (-2147483648 ≤ i4 ∧ i4 < 2147483648))
    (kt : 32 ≤ i4 → G mdX1_unspread X 152 [] [] σ)
    (kf : i4 < 32 → G mdX1_unspread X 32 [(0, vr o0), (2, vi i2), (3, vi i3), (4, vi i4)] [] σ) :
    G mdX1_unspread X 25 [(0, vr o0), (2, vi i2), (3, vi i3), (4, vi i4)] [] σ := by
  refine G.iload (z := i4) dX1_unspread_25 rfl ?_
  refine G.bipush dX1_unspread_27 (by decide) ?_
  exact G.icmp_ge (tgt := 152) dX1_unspread_29 (by decide) s ⟨by decide, by decide⟩ (fun q => G.pick [] (kt q)) (fun q => G.pick [0, 2, 3, 4] (kf q))
theorem bX1_unspread_32 {X : CT} {σ : St} {o0 : Nat} {i2 i3 i4 : Int} (h0 : isBk o0)
    (k : G mdX1_unspread X 38 [(0, vr o0), (2, vi i2), (3, vi i3), (4, vi i4), (5, vi 0), (6, vi 1)] [] σ) :
    G mdX1_unspread X 32 [(0, vr o0), (2, vi i2), (3, vi i3), (4, vi i4)] [] σ := by
  refine G.iconst dX1_unspread_32 ?_
  refine G.istore dX1_unspread_33 (by decide) rfl ?_
  refine G.iconst dX1_unspread_35 ?_
  refine G.istore dX1_unspread_36 (by decide) rfl ?_
  exact G.pick [0, 2, 3, 4, 5, 6] k
theorem bX1_unspread_38 {X : CT} {σ : St} {o0 : Nat} {i2 i3 i4 i5 i6 : Int} (h0 : isBk o0) (s : (-2147483648 ≤ i6 ∧ i6 < 2147483648))
    (kt : 16 < i6 → G mdX1_unspread X 74 [(0, vr o0), (2, vi i2), (3, vi i3), (4, vi i4), (5, vi i5)] [] σ)
    (kf : i6 ≤ 16 → G mdX1_unspread X 45 [(0, vr o0), (2, vi i2), (3, vi i3), (4, vi i4), (5, vi i5), (6, vi i6)] [] σ) :
    G mdX1_unspread X 38 [(0, vr o0), (2, vi i2), (3, vi i3), (4, vi i4), (5, vi i5), (6, vi i6)] [] σ := by
  refine G.iload (z := i6) dX1_unspread_38 rfl ?_
  refine G.bipush dX1_unspread_40 (by decide) ?_
  exact G.icmp_gt (tgt := 74) dX1_unspread_42 (by decide) s ⟨by decide, by decide⟩ (fun q => G.pick [0, 2, 3, 4, 5] (kt q)) (fun q => G.pick [0, 2, 3, 4, 5, 6] (kf q))
theorem bX1_unspread_45 {X : CT} {σ : St} {o0 : Nat} {i2 i3 i4 i5 i6 : Int} (h0 : isBk o0) (s : (0 ≤ i6 ∧ i6 < 2147483648) ∧ (0 ≤ i4 + (i6 % 16) ∧ i4 + (i6 % 16) < 32) ∧ (0 ≤ (i5 * i2) + (σ (o0 + 1) (i4 + (i6 % 16))) ∧ (i5 * i2) + (σ (o0 + 1) (i4 + (i6 % 16))) < 2147483648))
    (k : G mdX1_unspread X 38 [(0, vr o0), (2, vi i2), (3, vi i3), (4, vi i4), (5, vi (((i5 * i2) + (σ (o0 + 1) (i4 + (i6 % 16)))) % 97)), (6, vi (i6 + 1))] [] σ) :
    G mdX1_unspread X 45 [(0, vr o0), (2, vi i2), (3, vi i3), (4, vi i4), (5, vi i5), (6, vi i6)] [] σ := by
  refine G.iload (z := i5) dX1_unspread_45 rfl ?_
  refine G.iload_n (z := i2) dX1_unspread_47 rfl ?_
  refine G.imul dX1_unspread_48 ?_
  refine G.aload_n (o := o0) dX1_unspread_49 rfl ?_
  refine G.getR (o' := (o0 + 1)) dX1_unspread_50 fX1_9 (sh_bk h0) rfl ?_
  refine G.iload (z := i4) dX1_unspread_53 rfl ?_
  refine G.iload (z := i6) dX1_unspread_55 rfl ?_
  refine G.bipush dX1_unspread_57 (by decide) ?_
  refine G.irem dX1_unspread_59 s.1 ⟨by decide, by decide⟩ ?_
  refine G.iadd dX1_unspread_60 ?_
  refine G.iald dX1_unspread_61 (sh_bkn h0) s.2.1 ?_
  refine G.iadd dX1_unspread_62 ?_
  refine G.bipush dX1_unspread_63 (by decide) ?_
  refine G.irem dX1_unspread_65 s.2.2 ⟨by decide, by decide⟩ ?_
  refine G.istore dX1_unspread_66 (by decide) rfl ?_
  refine G.iinc (z := i6) dX1_unspread_68 rfl (by decide) rfl ?_
  refine G.goto (tgt := 38) dX1_unspread_71 (by decide) ?_
  exact G.pick [0, 2, 3, 4, 5, 6] k
theorem bX1_unspread_74 {X : CT} {σ : St} {o0 : Nat} {i2 i3 i4 i5 : Int} (h0 : isBk o0) (s : (0 ≤ i5 * i3 ∧ i5 * i3 < 2147483648) ∧ (0 ≤ i4 ∧ i4 < 32))
    (k : G mdX1_unspread X 91 [(0, vr o0), (2, vi i2), (3, vi i3), (4, vi i4), (6, vi 1)] [] (wr σ (o0 + 1) i4 ((i5 * i3) % 97))) :
    G mdX1_unspread X 74 [(0, vr o0), (2, vi i2), (3, vi i3), (4, vi i4), (5, vi i5)] [] σ := by
  refine G.aload_n (o := o0) dX1_unspread_74 rfl ?_
  refine G.getR (o' := (o0 + 1)) dX1_unspread_75 fX1_9 (sh_bk h0) rfl ?_
  refine G.iload (z := i4) dX1_unspread_78 rfl ?_
  refine G.iload (z := i5) dX1_unspread_80 rfl ?_
  refine G.iload_n (z := i3) dX1_unspread_82 rfl ?_
  refine G.imul dX1_unspread_83 ?_
  refine G.bipush dX1_unspread_84 (by decide) ?_
  refine G.irem dX1_unspread_86 s.1 ⟨by decide, by decide⟩ ?_
  refine G.iast dX1_unspread_87 (sh_bkn h0) s.2 ?_
  refine G.iconst dX1_unspread_88 ?_
  refine G.istore dX1_unspread_89 (by decide) rfl ?_
  exact G.pick [0, 2, 3, 4, 6] k
theorem bX1_unspread_91 {X : CT} {σ : St} {o0 : Nat} {i2 i3 i4 i6 : Int} (h0 : isBk o0) (s : (-2147483648 ≤ i6 ∧ i6 < 2147483648))
    (kt : 16 ≤ i6 → G mdX1_unspread X 146 [(0, vr o0), (2, vi i2), (3, vi i3), (4, vi i4)] [] σ)
    (kf : i6 < 16 → G mdX1_unspread X 98 [(0, vr o0), (2, vi i2), (3, vi i3), (4, vi i4), (6, vi i6)] [] σ) :
    G mdX1_unspread X 91 [(0, vr o0), (2, vi i2), (3, vi i3), (4, vi i4), (6, vi i6)] [] σ := by
  refine G.iload (z := i6) dX1_unspread_91 rfl ?_
  refine G.bipush dX1_unspread_93 (by decide) ?_
  exact G.icmp_ge (tgt := 146) dX1_unspread_95 (by decide) s ⟨by decide, by decide⟩ (fun q => G.pick [0, 2, 3, 4] (kt q)) (fun q => G.pick [0, 2, 3, 4, 6] (kf q))
theorem bX1_unspread_98 {X : CT} {σ : St} {o0 : Nat} {i2 i3 i4 i6 : Int} (h0 : isBk o0) (s : (0 ≤ (i4 + i6) - 1 ∧ (i4 + i6) - 1 < 32) ∧ (0 ≤ i4 + i6 ∧ i4 + i6 < 32) ∧ (0 ≤ (σ (o0 + 1) (i4 + i6)) + (i2 * (σ (o0 + 1) ((i4 + i6) - 1))) ∧ (σ (o0 + 1) (i4 + i6)) + (i2 * (σ (o0 + 1) ((i4 + i6) - 1))) < 2147483648))
    (k : G mdX1_unspread X 91 [(0, vr o0), (2, vi i2), (3, vi i3), (4, vi i4), (6, vi (i6 + 1))] [] (wr σ (o0 + 1) (i4 + i6) (((σ (o0 + 1) (i4 + i6)) + (i2 * (σ (o0 + 1) ((i4 + i6) - 1)))) % 97))) :
    G mdX1_unspread X 98 [(0, vr o0), (2, vi i2), (3, vi i3), (4, vi i4), (6, vi i6)] [] σ := by
  refine G.aload_n (o := o0) dX1_unspread_98 rfl ?_
  refine G.getR (o' := (o0 + 1)) dX1_unspread_99 fX1_9 (sh_bk h0) rfl ?_
  refine G.iload (z := i4) dX1_unspread_102 rfl ?_
  refine G.iload (z := i6) dX1_unspread_104 rfl ?_
  refine G.iadd dX1_unspread_106 ?_
  refine G.iconst dX1_unspread_107 ?_
  refine G.isub dX1_unspread_108 ?_
  refine G.iald dX1_unspread_109 (sh_bkn h0) s.1 ?_
  refine G.istore dX1_unspread_110 (by decide) rfl ?_
  refine G.aload_n (o := o0) dX1_unspread_112 rfl ?_
  refine G.getR (o' := (o0 + 1)) dX1_unspread_113 fX1_9 (sh_bk h0) rfl ?_
  refine G.iload (z := i4) dX1_unspread_116 rfl ?_
  refine G.iload (z := i6) dX1_unspread_118 rfl ?_
  refine G.iadd dX1_unspread_120 ?_
  refine G.aload_n (o := o0) dX1_unspread_121 rfl ?_
  refine G.getR (o' := (o0 + 1)) dX1_unspread_122 fX1_9 (sh_bk h0) rfl ?_
  refine G.iload (z := i4) dX1_unspread_125 rfl ?_
  refine G.iload (z := i6) dX1_unspread_127 rfl ?_
  refine G.iadd dX1_unspread_129 ?_
  refine G.iald dX1_unspread_130 (sh_bkn h0) s.2.1 ?_
  refine G.iload_n (z := i2) dX1_unspread_131 rfl ?_
  refine G.iload (z := σ (o0 + 1) ((i4 + i6) - 1)) dX1_unspread_132 rfl ?_
  refine G.imul dX1_unspread_134 ?_
  refine G.iadd dX1_unspread_135 ?_
  refine G.bipush dX1_unspread_136 (by decide) ?_
  refine G.irem dX1_unspread_138 s.2.2 ⟨by decide, by decide⟩ ?_
  refine G.iast dX1_unspread_139 (sh_bkn h0) s.2.1 ?_
  refine G.iinc (z := i6) dX1_unspread_140 rfl (by decide) rfl ?_
  refine G.goto (tgt := 91) dX1_unspread_143 (by decide) ?_
  exact G.pick [0, 2, 3, 4, 6] k
theorem bX1_unspread_146 {X : CT} {σ : St} {o0 : Nat} {i2 i3 i4 : Int} (h0 : isBk o0)
    (k : G mdX1_unspread X 25 [(0, vr o0), (2, vi i2), (3, vi i3), (4, vi (i4 + 16))] [] σ) :
    G mdX1_unspread X 146 [(0, vr o0), (2, vi i2), (3, vi i3), (4, vi i4)] [] σ := by
  refine G.iinc (z := i4) dX1_unspread_146 rfl (by decide) rfl ?_
  refine G.goto (tgt := 25) dX1_unspread_149 (by decide) ?_
  exact G.pick [0, 2, 3, 4] k
theorem bX1_unspread_152 {X : CT} {σ : St}  {P : St → Prop} (hX : RV X P)
    (k : P σ) :
    G mdX1_unspread X 152 [] [] σ := by
  exact G.vret hX dX1_unspread_152 rfl k
theorem bX1_twist_0 {X : CT} {σ : St} {o0 : Nat} (h0 : isBk o0)
    (k : G mdX1_twist X 2 [(0, vr o0), (1, vi 0)] [] σ) :
    G mdX1_twist X 0 [(0, vr o0)] [] σ := by
  refine G.iconst dX1_twist_0 ?_
  refine G.istore_n dX1_twist_1 (by decide) rfl ?_
  exact G.pick [0, 1] k
theorem bX1_twist_2 {X : CT} {σ : St} {o0 : Nat} {i1 : Int} (h0 : isBk o0) (s : (-2147483648 ≤ i1 ∧ i1 < 2147483648))
    (kt : 16 ≤ i1 → G mdX1_twist X 90 [] [] σ)
    (kf : i1 < 16 → G mdX1_twist X 8 [(0, vr o0), (1, vi i1)] [] σ) :
    G mdX1_twist X 2 [(0, vr o0), (1, vi i1)] [] σ := by
  refine G.iload_n (z := i1) dX1_twist_2 rfl ?_
  refine G.bipush dX1_twist_3 (by decide) ?_
  exact G.icmp_ge (tgt := 90) dX1_twist_5 (by decide) s ⟨by decide, by decide⟩ (fun q => G.pick [] (kt q)) (fun q => G.pick [0, 1] (kf q))
theorem bX1_twist_8 {X : CT} {σ : St} {o0 : Nat} {i1 : Int} (h0 : isBk o0) (s : (0 ≤ i1 ∧ i1 < 32) ∧ (0 ≤ 16 + i1 ∧ 16 + i1 < 32) ∧ (0 ≤ ((σ (o0 + 4) 0) * (σ (o0 + 1) i1)) + ((σ (o0 + 4) 1) * (σ (o0 + 1) (16 + i1))) ∧ ((σ (o0 + 4) 0) * (σ (o0 + 1) i1)) + ((σ (o0 + 4) 1) * (σ (o0 + 1) (16 + i1))) < 2147483648) ∧ (0 ≤ (((wr σ (o0 + 1) i1 ((((σ (o0 + 4) 0) * (σ (o0 + 1) i1)) + ((σ (o0 + 4) 1) * (σ (o0 + 1) (16 + i1)))) % 97)) (o0 + 4) 2) * (σ (o0 + 1) i1)) + (((wr σ (o0 + 1) i1 ((((σ (o0 + 4) 0) * (σ (o0 + 1) i1)) + ((σ (o0 + 4) 1) * (σ (o0 + 1) (16 + i1)))) % 97)) (o0 + 4) 3) * (σ (o0 + 1) (16 + i1))) ∧ (((wr σ (o0 + 1) i1 ((((σ (o0 + 4) 0) * (σ (o0 + 1) i1)) + ((σ (o0 + 4) 1) * (σ (o0 + 1) (16 + i1)))) % 97)) (o0 + 4) 2) * (σ (o0 + 1) i1)) + (((wr σ (o0 + 1) i1 ((((σ (o0 + 4) 0) * (σ (o0 + 1) i1)) + ((σ (o0 + 4) 1) * (σ (o0 + 1) (16 + i1)))) % 97)) (o0 + 4) 3) * (σ (o0 + 1) (16 + i1))) < 2147483648))
    (k : G mdX1_twist X 2 [(0, vr o0), (1, vi (i1 + 1))] [] (wr (wr σ (o0 + 1) i1 ((((σ (o0 + 4) 0) * (σ (o0 + 1) i1)) + ((σ (o0 + 4) 1) * (σ (o0 + 1) (16 + i1)))) % 97)) (o0 + 1) (16 + i1) (((((wr σ (o0 + 1) i1 ((((σ (o0 + 4) 0) * (σ (o0 + 1) i1)) + ((σ (o0 + 4) 1) * (σ (o0 + 1) (16 + i1)))) % 97)) (o0 + 4) 2) * (σ (o0 + 1) i1)) + (((wr σ (o0 + 1) i1 ((((σ (o0 + 4) 0) * (σ (o0 + 1) i1)) + ((σ (o0 + 4) 1) * (σ (o0 + 1) (16 + i1)))) % 97)) (o0 + 4) 3) * (σ (o0 + 1) (16 + i1)))) % 97))) :
    G mdX1_twist X 8 [(0, vr o0), (1, vi i1)] [] σ := by
  refine G.aload_n (o := o0) dX1_twist_8 rfl ?_
  refine G.getR (o' := (o0 + 1)) dX1_twist_9 fX1_9 (sh_bk h0) rfl ?_
  refine G.iload_n (z := i1) dX1_twist_12 rfl ?_
  refine G.iald dX1_twist_13 (sh_bkn h0) s.1 ?_
  refine G.istore_n dX1_twist_14 (by decide) rfl ?_
  refine G.aload_n (o := o0) dX1_twist_15 rfl ?_
  refine G.getR (o' := (o0 + 1)) dX1_twist_16 fX1_9 (sh_bk h0) rfl ?_
  refine G.bipush dX1_twist_19 (by decide) ?_
  refine G.iload_n (z := i1) dX1_twist_21 rfl ?_
  refine G.iadd dX1_twist_22 ?_
  refine G.iald dX1_twist_23 (sh_bkn h0) s.2.1 ?_
  refine G.istore_n dX1_twist_24 (by decide) rfl ?_
  refine G.aload_n (o := o0) dX1_twist_25 rfl ?_
  refine G.getR (o' := (o0 + 1)) dX1_twist_26 fX1_9 (sh_bk h0) rfl ?_
  refine G.iload_n (z := i1) dX1_twist_29 rfl ?_
  refine G.aload_n (o := o0) dX1_twist_30 rfl ?_
  refine G.getR (o' := (o0 + 4)) dX1_twist_31 fX1_24 (sh_bk h0) rfl ?_
  refine G.getI (j := 0) dX1_twist_34 fX1_122 (sh_mx (mx_bk h0)) rfl rfl rfl ?_
  refine G.iload_n (z := σ (o0 + 1) i1) dX1_twist_37 rfl ?_
  refine G.imul dX1_twist_38 ?_
  refine G.aload_n (o := o0) dX1_twist_39 rfl ?_
  refine G.getR (o' := (o0 + 4)) dX1_twist_40 fX1_24 (sh_bk h0) rfl ?_
  refine G.getI (j := 1) dX1_twist_43 fX1_125 (sh_mx (mx_bk h0)) rfl rfl rfl ?_
  refine G.iload_n (z := σ (o0 + 1) (16 + i1)) dX1_twist_46 rfl ?_
  refine G.imul dX1_twist_47 ?_
  refine G.iadd dX1_twist_48 ?_
  refine G.bipush dX1_twist_49 (by decide) ?_
  refine G.irem dX1_twist_51 s.2.2.1 ⟨by decide, by decide⟩ ?_
  refine G.iast dX1_twist_52 (sh_bkn h0) s.1 ?_
  refine G.aload_n (o := o0) dX1_twist_53 rfl ?_
  refine G.getR (o' := (o0 + 1)) dX1_twist_54 fX1_9 (sh_bk h0) rfl ?_
  refine G.bipush dX1_twist_57 (by decide) ?_
  refine G.iload_n (z := i1) dX1_twist_59 rfl ?_
  refine G.iadd dX1_twist_60 ?_
  refine G.aload_n (o := o0) dX1_twist_61 rfl ?_
  refine G.getR (o' := (o0 + 4)) dX1_twist_62 fX1_24 (sh_bk h0) rfl ?_
  refine G.getI (j := 2) dX1_twist_65 fX1_128 (sh_mx (mx_bk h0)) rfl rfl rfl ?_
  refine G.iload_n (z := σ (o0 + 1) i1) dX1_twist_68 rfl ?_
  refine G.imul dX1_twist_69 ?_
  refine G.aload_n (o := o0) dX1_twist_70 rfl ?_
  refine G.getR (o' := (o0 + 4)) dX1_twist_71 fX1_24 (sh_bk h0) rfl ?_
  refine G.getI (j := 3) dX1_twist_74 fX1_131 (sh_mx (mx_bk h0)) rfl rfl rfl ?_
  refine G.iload_n (z := σ (o0 + 1) (16 + i1)) dX1_twist_77 rfl ?_
  refine G.imul dX1_twist_78 ?_
  refine G.iadd dX1_twist_79 ?_
  refine G.bipush dX1_twist_80 (by decide) ?_
  refine G.irem dX1_twist_82 s.2.2.2 ⟨by decide, by decide⟩ ?_
  refine G.iast dX1_twist_83 (sh_bkn h0) s.2.1 ?_
  refine G.iinc (z := i1) dX1_twist_84 rfl (by decide) rfl ?_
  refine G.goto (tgt := 2) dX1_twist_87 (by decide) ?_
  exact G.pick [0, 1] k
theorem bX1_twist_90 {X : CT} {σ : St}  {P : St → Prop} (hX : RV X P)
    (k : P σ) :
    G mdX1_twist X 90 [] [] σ := by
  exact G.vret hX dX1_twist_90 rfl k
theorem bX1_slip_0 {X : CT} {σ : St} {o0 : Nat} {i1 i2 : Int} (h0 : isBk o0)
    (k : G mdX1_slip X 2 [(0, vr o0), (2, vi i2), (3, vi i1)] [] σ) :
    G mdX1_slip X 0 [(0, vr o0), (1, vi i1), (2, vi i2)] [] σ := by
  refine G.iload_n (z := i1) dX1_slip_0 rfl ?_
  refine G.istore_n dX1_slip_1 (by decide) rfl ?_
  exact G.pick [0, 2, 3] k
theorem bX1_slip_2 {X : CT} {σ : St} {o0 : Nat} {i2 i3 : Int} (h0 : isBk o0) (s : (-2147483648 ≤ i3 ∧ i3 < 2147483648))
    (kt : 16 ≤ i3 → G mdX1_slip X 20 [] [] σ)
    (kf : i3 < 16 → G mdX1_slip X 8 [(0, vr o0), (2, vi i2), (3, vi i3)] [] σ) :
    G mdX1_slip X 2 [(0, vr o0), (2, vi i2), (3, vi i3)] [] σ := by
  refine G.iload_n (z := i3) dX1_slip_2 rfl ?_
  refine G.bipush dX1_slip_3 (by decide) ?_
  exact G.icmp_ge (tgt := 20) dX1_slip_5 (by decide) s ⟨by decide, by decide⟩ (fun q => G.pick [] (kt q)) (fun q => G.pick [0, 2, 3] (kf q))
theorem bX1_slip_8 {X : CT} {σ : St} {o0 : Nat} {i2 i3 : Int} (h0 : isBk o0) {P : St → Prop} (hM : CV mdX1_turn [vr o0, vi i3, vi i2] σ P)
    (k : ∀ σ', P σ' → G mdX1_slip X 14 [(0, vr o0), (2, vi i2), (3, vi i3)] [] (σ')) :
    G mdX1_slip X 8 [(0, vr o0), (2, vi i2), (3, vi i3)] [] σ := by
  refine G.aload_n (o := o0) dX1_slip_8 rfl ?_
  refine G.iload_n (z := i3) dX1_slip_9 rfl ?_
  refine G.iload_n (z := i2) dX1_slip_10 rfl ?_
  exact G.callVV (as := [vi i3, vi i2]) (rest := []) dX1_slip_11 rfl vX1_134 (by decide) (sh_bk h0) rfl (by decide) (Nat.le_of_ble_eq_true rfl) hM (fun σ' q => G.pick [0, 2, 3] (k σ' q))
theorem bX1_slip_14 {X : CT} {σ : St} {o0 : Nat} {i2 i3 : Int} (h0 : isBk o0)
    (k : G mdX1_slip X 2 [(0, vr o0), (2, vi i2), (3, vi (i3 + 1))] [] σ) :
    G mdX1_slip X 14 [(0, vr o0), (2, vi i2), (3, vi i3)] [] σ := by
  refine G.iinc (z := i3) dX1_slip_14 rfl (by decide) rfl ?_
  refine G.goto (tgt := 2) dX1_slip_17 (by decide) ?_
  exact G.pick [0, 2, 3] k
theorem bX1_slip_20 {X : CT} {σ : St}  {P : St → Prop} (hX : RV X P)
    (k : P σ) :
    G mdX1_slip X 20 [] [] σ := by
  exact G.vret hX dX1_slip_20 rfl k
theorem bX1_turn_0 {X : CT} {σ : St} {o0 : Nat} {i1 i2 : Int} (h0 : isBk o0) {P : Int → St → Prop} (hM : CI mdX2_turned [vi (σ (o0 + 1) i1), vi i2] σ P) (s : (0 ≤ i1 ∧ i1 < 32))
    (k : ∀ z σ', inI z → P z σ' → G mdX1_turn X 15 [(0, vr o0), (1, vi i1), (2, vi i2)] [vi z, vi i1, vr (o0 + 1)] (σ')) :
    G mdX1_turn X 0 [(0, vr o0), (1, vi i1), (2, vi i2)] [] σ := by
  refine G.aload_n (o := o0) dX1_turn_0 rfl ?_
  refine G.getR (o' := (o0 + 1)) dX1_turn_1 fX1_9 (sh_bk h0) rfl ?_
  refine G.iload_n (z := i1) dX1_turn_4 rfl ?_
  refine G.aload_n (o := o0) dX1_turn_5 rfl ?_
  refine G.getR (o' := (o0 + 1)) dX1_turn_6 fX1_9 (sh_bk h0) rfl ?_
  refine G.iload_n (z := i1) dX1_turn_9 rfl ?_
  refine G.iald dX1_turn_10 (sh_bkn h0) s ?_
  refine G.iload_n (z := i2) dX1_turn_11 rfl ?_
  exact G.callSI (as := [vi (σ (o0 + 1) i1), vi i2]) (rest := [vi i1, vr (o0 + 1)]) dX1_turn_12 rfl vX1_137 (by decide) (Nat.le_of_ble_eq_true rfl) hM (fun z σ' hz q => G.pick [0, 1, 2] (k z σ' hz q))
theorem bX1_turn_15 {X : CT} {σ : St} {o0 : Nat} {i1 i2 t1 t2 : Int} (h0 : isBk o0) {P : Int → St → Prop} (hM : CI mdX2_turned [vi ((wr σ (o0 + 1) t1 t2) (o0 + 1) (16 + i1)), vi i2] (wr σ (o0 + 1) t1 t2) P) (s : (0 ≤ t1 ∧ t1 < 32) ∧ (0 ≤ 16 + i1 ∧ 16 + i1 < 32))
    (k : ∀ z σ', inI z → P z σ' → G mdX1_turn X 37 [] [vi z, vi (16 + i1), vr (o0 + 1)] (σ')) :
    G mdX1_turn X 15 [(0, vr o0), (1, vi i1), (2, vi i2)] [vi t2, vi t1, vr (o0 + 1)] σ := by
  refine G.iast dX1_turn_15 (sh_bkn h0) s.1 ?_
  refine G.aload_n (o := o0) dX1_turn_16 rfl ?_
  refine G.getR (o' := (o0 + 1)) dX1_turn_17 fX1_9 (sh_bk h0) rfl ?_
  refine G.bipush dX1_turn_20 (by decide) ?_
  refine G.iload_n (z := i1) dX1_turn_22 rfl ?_
  refine G.iadd dX1_turn_23 ?_
  refine G.aload_n (o := o0) dX1_turn_24 rfl ?_
  refine G.getR (o' := (o0 + 1)) dX1_turn_25 fX1_9 (sh_bk h0) rfl ?_
  refine G.bipush dX1_turn_28 (by decide) ?_
  refine G.iload_n (z := i1) dX1_turn_30 rfl ?_
  refine G.iadd dX1_turn_31 ?_
  refine G.iald dX1_turn_32 (sh_bkn h0) s.2 ?_
  refine G.iload_n (z := i2) dX1_turn_33 rfl ?_
  exact G.callSI (as := [vi ((wr σ (o0 + 1) t1 t2) (o0 + 1) (16 + i1)), vi i2]) (rest := [vi (16 + i1), vr (o0 + 1)]) dX1_turn_34 rfl vX1_137 (by decide) (Nat.le_of_ble_eq_true rfl) hM (fun z σ' hz q => G.pick [] (k z σ' hz q))
theorem bX1_turn_37 {X : CT} {σ : St} {o0 : Nat} {t1 t2 : Int} (h0 : isBk o0) {P : St → Prop} (hX : RV X P) (s : (0 ≤ t1 ∧ t1 < 32))
    (k : P (wr σ (o0 + 1) t1 t2)) :
    G mdX1_turn X 37 [] [vi t2, vi t1, vr (o0 + 1)] σ := by
  refine G.iast dX1_turn_37 (sh_bkn h0) s ?_
  exact G.vret hX dX1_turn_38 rfl k
theorem bX1_late_0 {X : CT} {σ : St} {o0 : Nat} {i1 : Int} (h0 : isBk o0)
    (k : G mdX1_late X 2 [(0, vr o0), (1, vi i1), (2, vi 0)] [] σ) :
    G mdX1_late X 0 [(0, vr o0), (1, vi i1)] [] σ := by
  refine G.iconst dX1_late_0 ?_
  refine G.istore_n dX1_late_1 (by decide) rfl ?_
  exact G.pick [0, 1, 2] k
theorem bX1_late_2 {X : CT} {σ : St} {o0 : Nat} {i1 i2 : Int} (h0 : isBk o0) (s : (-2147483648 ≤ i2 ∧ i2 < 2147483648))
    (kt : 16 ≤ i2 → G mdX1_late X 34 [(0, vr o0)] [] σ)
    (kf : i2 < 16 → G mdX1_late X 8 [(0, vr o0), (1, vi i1), (2, vi i2)] [] σ) :
    G mdX1_late X 2 [(0, vr o0), (1, vi i1), (2, vi i2)] [] σ := by
  refine G.iload_n (z := i2) dX1_late_2 rfl ?_
  refine G.bipush dX1_late_3 (by decide) ?_
  exact G.icmp_ge (tgt := 34) dX1_late_5 (by decide) s ⟨by decide, by decide⟩ (fun q => G.pick [0] (kt q)) (fun q => G.pick [0, 1, 2] (kf q))
theorem bX1_late_8 {X : CT} {σ : St} {o0 : Nat} {i1 i2 : Int} (h0 : isBk o0) (s : (0 ≤ i2 + i1 ∧ i2 + i1 < 2147483648) ∧ (0 ≤ 16 + i2 ∧ 16 + i2 < 32) ∧ (0 ≤ (i2 + i1) % 16 ∧ (i2 + i1) % 16 < 16))
    (k : G mdX1_late X 2 [(0, vr o0), (1, vi i1), (2, vi (i2 + 1))] [] (wr σ (o0 + 2) ((i2 + i1) % 16) (σ (o0 + 1) (16 + i2)))) :
    G mdX1_late X 8 [(0, vr o0), (1, vi i1), (2, vi i2)] [] σ := by
  refine G.aload_n (o := o0) dX1_late_8 rfl ?_
  refine G.getR (o' := (o0 + 2)) dX1_late_9 fX1_15 (sh_bk h0) rfl ?_
  refine G.iload_n (z := i2) dX1_late_12 rfl ?_
  refine G.iload_n (z := i1) dX1_late_13 rfl ?_
  refine G.iadd dX1_late_14 ?_
  refine G.bipush dX1_late_15 (by decide) ?_
  refine G.irem dX1_late_17 s.1 ⟨by decide, by decide⟩ ?_
  refine G.aload_n (o := o0) dX1_late_18 rfl ?_
  refine G.getR (o' := (o0 + 1)) dX1_late_19 fX1_9 (sh_bk h0) rfl ?_
  refine G.bipush dX1_late_22 (by decide) ?_
  refine G.iload_n (z := i2) dX1_late_24 rfl ?_
  refine G.iadd dX1_late_25 ?_
  refine G.iald dX1_late_26 (sh_bkn h0) s.2.1 ?_
  refine G.iast dX1_late_27 (sh_bkm h0) s.2.2 ?_
  refine G.iinc (z := i2) dX1_late_28 rfl (by decide) rfl ?_
  refine G.goto (tgt := 2) dX1_late_31 (by decide) ?_
  exact G.pick [0, 1, 2] k
theorem bX1_late_34 {X : CT} {σ : St} {o0 : Nat} (h0 : isBk o0) {P : St → Prop} (hX : RV X P)
    (k : P (cp σ (o0 + 2) 0 (o0 + 1) 16 16)) :
    G mdX1_late X 34 [(0, vr o0)] [] σ := by
  refine G.aload_n (o := o0) dX1_late_34 rfl ?_
  refine G.getR (o' := (o0 + 2)) dX1_late_35 fX1_15 (sh_bk h0) rfl ?_
  refine G.iconst dX1_late_38 ?_
  refine G.aload_n (o := o0) dX1_late_39 rfl ?_
  refine G.getR (o' := (o0 + 1)) dX1_late_40 fX1_9 (sh_bk h0) rfl ?_
  refine G.bipush dX1_late_43 (by decide) ?_
  refine G.bipush dX1_late_45 (by decide) ?_
  refine G.acopy (i0 := 568) dX1_late_47 (by decide +kernel) (by decide) (sh_bkm h0) (sh_bkn h0) (by decide) (by decide) (by decide) (by decide) (by decide) (Nat.le_of_ble_eq_true rfl) ?_
  exact G.vret hX dX1_late_50 rfl k
theorem bX1_hit_0 {X : CT} {σ : St} {o0 : Nat} {i1 i2 : Int} (h0 : isBk o0) {P : St → Prop} (hX : RV X P) (s : (0 ≤ i1 ∧ i1 < 32) ∧ (0 ≤ (σ (o0 + 1) i1) + i2 ∧ (σ (o0 + 1) i1) + i2 < 2147483648))
    (k : P (wr σ (o0 + 1) i1 (((σ (o0 + 1) i1) + i2) % 97))) :
    G mdX1_hit X 0 [(0, vr o0), (1, vi i1), (2, vi i2)] [] σ := by
  refine G.aload_n (o := o0) dX1_hit_0 rfl ?_
  refine G.getR (o' := (o0 + 1)) dX1_hit_1 fX1_9 (sh_bk h0) rfl ?_
  refine G.iload_n (z := i1) dX1_hit_4 rfl ?_
  refine G.aload_n (o := o0) dX1_hit_5 rfl ?_
  refine G.getR (o' := (o0 + 1)) dX1_hit_6 fX1_9 (sh_bk h0) rfl ?_
  refine G.iload_n (z := i1) dX1_hit_9 rfl ?_
  refine G.iald dX1_hit_10 (sh_bkn h0) s.1 ?_
  refine G.iload_n (z := i2) dX1_hit_11 rfl ?_
  refine G.iadd dX1_hit_12 ?_
  refine G.bipush dX1_hit_13 (by decide) ?_
  refine G.irem dX1_hit_15 s.2 ⟨by decide, by decide⟩ ?_
  refine G.iast dX1_hit_16 (sh_bkn h0) s.1 ?_
  exact G.vret hX dX1_hit_17 rfl k
theorem bX1_multiply_0 {X : CT} {σ : St} {o0 : Nat} {i1 : Int} (h0 : isBk o0)
    (k : G mdX1_multiply X 2 [(0, vr o0), (1, vi i1), (2, vi 0)] [] σ) :
    G mdX1_multiply X 0 [(0, vr o0), (1, vi i1)] [] σ := by
  refine G.iconst dX1_multiply_0 ?_
  refine G.istore_n dX1_multiply_1 (by decide) rfl ?_
  exact G.pick [0, 1, 2] k
theorem bX1_multiply_2 {X : CT} {σ : St} {o0 : Nat} {i1 i2 : Int} (h0 : isBk o0) (s : (-2147483648 ≤ i2 ∧ i2 < 2147483648))
    (kt : 32 ≤ i2 → G mdX1_multiply X 31 [] [] σ)
    (kf : i2 < 32 → G mdX1_multiply X 8 [(0, vr o0), (1, vi i1), (2, vi i2)] [] σ) :
    G mdX1_multiply X 2 [(0, vr o0), (1, vi i1), (2, vi i2)] [] σ := by
  refine G.iload_n (z := i2) dX1_multiply_2 rfl ?_
  refine G.bipush dX1_multiply_3 (by decide) ?_
  exact G.icmp_ge (tgt := 31) dX1_multiply_5 (by decide) s ⟨by decide, by decide⟩ (fun q => G.pick [] (kt q)) (fun q => G.pick [0, 1, 2] (kf q))
theorem bX1_multiply_8 {X : CT} {σ : St} {o0 : Nat} {i1 i2 : Int} (h0 : isBk o0) (s : (0 ≤ i2 ∧ i2 < 32) ∧ (0 ≤ (σ (o0 + 1) i2) * i1 ∧ (σ (o0 + 1) i2) * i1 < 2147483648))
    (k : G mdX1_multiply X 2 [(0, vr o0), (1, vi i1), (2, vi (i2 + 1))] [] (wr σ (o0 + 1) i2 (((σ (o0 + 1) i2) * i1) % 97))) :
    G mdX1_multiply X 8 [(0, vr o0), (1, vi i1), (2, vi i2)] [] σ := by
  refine G.aload_n (o := o0) dX1_multiply_8 rfl ?_
  refine G.getR (o' := (o0 + 1)) dX1_multiply_9 fX1_9 (sh_bk h0) rfl ?_
  refine G.iload_n (z := i2) dX1_multiply_12 rfl ?_
  refine G.aload_n (o := o0) dX1_multiply_13 rfl ?_
  refine G.getR (o' := (o0 + 1)) dX1_multiply_14 fX1_9 (sh_bk h0) rfl ?_
  refine G.iload_n (z := i2) dX1_multiply_17 rfl ?_
  refine G.iald dX1_multiply_18 (sh_bkn h0) s.1 ?_
  refine G.iload_n (z := i1) dX1_multiply_19 rfl ?_
  refine G.imul dX1_multiply_20 ?_
  refine G.bipush dX1_multiply_21 (by decide) ?_
  refine G.irem dX1_multiply_23 s.2 ⟨by decide, by decide⟩ ?_
  refine G.iast dX1_multiply_24 (sh_bkn h0) s.1 ?_
  refine G.iinc (z := i2) dX1_multiply_25 rfl (by decide) rfl ?_
  refine G.goto (tgt := 2) dX1_multiply_28 (by decide) ?_
  exact G.pick [0, 1, 2] k
theorem bX1_multiply_31 {X : CT} {σ : St}  {P : St → Prop} (hX : RV X P)
    (k : P σ) :
    G mdX1_multiply X 31 [] [] σ := by
  exact G.vret hX dX1_multiply_31 rfl k
theorem bX1_brightestFactor_0 {X : CT} {σ : St} {o0 : Nat} (h0 : isBk o0) {P : St → Prop} (hM : CV mdJ7_fill_53178 [vr (o0 + 3), vi 0] σ P)
    (k : ∀ σ', P σ' → G mdX1_brightestFactor X 8 [(0, vr o0)] [] (σ')) :
    G mdX1_brightestFactor X 0 [(0, vr o0)] [] σ := by
  refine G.aload_n (o := o0) dX1_brightestFactor_0 rfl ?_
  refine G.getR (o' := (o0 + 3)) dX1_brightestFactor_1 fX1_18 (sh_bk h0) rfl ?_
  refine G.iconst dX1_brightestFactor_4 ?_
  exact G.callSV (as := [vr (o0 + 3), vi 0]) (rest := []) dX1_brightestFactor_5 rfl vX1_140 (by decide) (Nat.le_of_ble_eq_true rfl) hM (fun σ' q => G.pick [0] (k σ' q))
theorem bX1_brightestFactor_8 {X : CT} {σ : St} {o0 : Nat} (h0 : isBk o0)
    (k : G mdX1_brightestFactor X 10 [(0, vr o0), (1, vi 0)] [] σ) :
    G mdX1_brightestFactor X 8 [(0, vr o0)] [] σ := by
  refine G.iconst dX1_brightestFactor_8 ?_
  refine G.istore_n dX1_brightestFactor_9 (by decide) rfl ?_
  exact G.pick [0, 1] k
theorem bX1_brightestFactor_10 {X : CT} {σ : St} {o0 : Nat} {i1 : Int} (h0 : isBk o0) (s : (-2147483648 ≤ i1 ∧ i1 < 2147483648))
    (kt : 32 ≤ i1 → G mdX1_brightestFactor X 59 [(0, vr o0)] [] σ)
    (kf : i1 < 32 → G mdX1_brightestFactor X 16 [(0, vr o0), (1, vi i1)] [] σ) :
    G mdX1_brightestFactor X 10 [(0, vr o0), (1, vi i1)] [] σ := by
  refine G.iload_n (z := i1) dX1_brightestFactor_10 rfl ?_
  refine G.bipush dX1_brightestFactor_11 (by decide) ?_
  exact G.icmp_ge (tgt := 59) dX1_brightestFactor_13 (by decide) s ⟨by decide, by decide⟩ (fun q => G.pick [0] (kt q)) (fun q => G.pick [0, 1] (kf q))
theorem bX1_brightestFactor_16 {X : CT} {σ : St} {o0 : Nat} {i1 : Int} (h0 : isBk o0) {P : Int → St → Prop} (hM : CI mdX2_inverse [vi (σ (o0 + 1) i1)] σ P) (s : (0 ≤ i1 ∧ i1 < 32))
    (k : ∀ z σ', inI z → P z σ' → G mdX1_brightestFactor X 25 [(0, vr o0), (1, vi i1)] [vi z] (σ')) :
    G mdX1_brightestFactor X 16 [(0, vr o0), (1, vi i1)] [] σ := by
  refine G.aload_n (o := o0) dX1_brightestFactor_16 rfl ?_
  refine G.getR (o' := (o0 + 1)) dX1_brightestFactor_17 fX1_9 (sh_bk h0) rfl ?_
  refine G.iload_n (z := i1) dX1_brightestFactor_20 rfl ?_
  refine G.iald dX1_brightestFactor_21 (sh_bkn h0) s ?_
  exact G.callSI (as := [vi (σ (o0 + 1) i1)]) (rest := []) dX1_brightestFactor_22 rfl vX1_119 (by decide) (Nat.le_of_ble_eq_true rfl) hM (fun z σ' hz q => G.pick [0, 1] (k z σ' hz q))
theorem bX1_brightestFactor_25 {X : CT} {σ : St} {o0 : Nat} {i1 t0 : Int} (h0 : isBk o0)
    (k : G mdX1_brightestFactor X 28 [(0, vr o0), (1, vi i1), (2, vi t0), (3, vi 0)] [] σ) :
    G mdX1_brightestFactor X 25 [(0, vr o0), (1, vi i1)] [vi t0] σ := by
  refine G.istore_n dX1_brightestFactor_25 (by decide) rfl ?_
  refine G.iconst dX1_brightestFactor_26 ?_
  refine G.istore_n dX1_brightestFactor_27 (by decide) rfl ?_
  exact G.pick [0, 1, 2, 3] k
theorem bX1_brightestFactor_28 {X : CT} {σ : St} {o0 : Nat} {i1 i2 i3 : Int} (h0 : isBk o0) (s : (-2147483648 ≤ i3 ∧ i3 < 2147483648))
    (kt : 4 ≤ i3 → G mdX1_brightestFactor X 53 [(0, vr o0), (1, vi i1)] [] σ)
    (kf : i3 < 4 → G mdX1_brightestFactor X 33 [(0, vr o0), (1, vi i1), (2, vi i2), (3, vi i3)] [] σ) :
    G mdX1_brightestFactor X 28 [(0, vr o0), (1, vi i1), (2, vi i2), (3, vi i3)] [] σ := by
  refine G.iload_n (z := i3) dX1_brightestFactor_28 rfl ?_
  refine G.iconst dX1_brightestFactor_29 ?_
  exact G.icmp_ge (tgt := 53) dX1_brightestFactor_30 (by decide) s ⟨by decide, by decide⟩ (fun q => G.pick [0, 1] (kt q)) (fun q => G.pick [0, 1, 2, 3] (kf q))
theorem bX1_brightestFactor_33 {X : CT} {σ : St} {o0 : Nat} {i1 i2 i3 : Int} (h0 : isBk o0) {P : Int → St → Prop} (hM : CI mdX2_turned [vi i2, vi i3] σ P)
    (k : ∀ z σ', inI z → P z σ' → G mdX1_brightestFactor X 42 [(0, vr o0), (1, vi i1), (2, vi i2), (3, vi i3)] [vi z, vr (o0 + 3)] (σ')) :
    G mdX1_brightestFactor X 33 [(0, vr o0), (1, vi i1), (2, vi i2), (3, vi i3)] [] σ := by
  refine G.aload_n (o := o0) dX1_brightestFactor_33 rfl ?_
  refine G.getR (o' := (o0 + 3)) dX1_brightestFactor_34 fX1_18 (sh_bk h0) rfl ?_
  refine G.iload_n (z := i2) dX1_brightestFactor_37 rfl ?_
  refine G.iload_n (z := i3) dX1_brightestFactor_38 rfl ?_
  exact G.callSI (as := [vi i2, vi i3]) (rest := [vr (o0 + 3)]) dX1_brightestFactor_39 rfl vX1_137 (by decide) (Nat.le_of_ble_eq_true rfl) hM (fun z σ' hz q => G.pick [0, 1, 2, 3] (k z σ' hz q))
theorem bX1_brightestFactor_42 {X : CT} {σ : St} {o0 : Nat} {i1 i2 i3 t1 : Int} (h0 : isBk o0) (s : (0 ≤ t1 ∧ t1 < 97))
    (k : G mdX1_brightestFactor X 28 [(0, vr o0), (1, vi i1), (2, vi i2), (3, vi (i3 + 1))] [] (wr σ (o0 + 3) t1 ((σ (o0 + 3) t1) + 1))) :
    G mdX1_brightestFactor X 42 [(0, vr o0), (1, vi i1), (2, vi i2), (3, vi i3)] [vi t1, vr (o0 + 3)] σ := by
  refine G.dup2 dX1_brightestFactor_42 ?_
  refine G.iald dX1_brightestFactor_43 (sh_bkt h0) s ?_
  refine G.iconst dX1_brightestFactor_44 ?_
  refine G.iadd dX1_brightestFactor_45 ?_
  refine G.iast dX1_brightestFactor_46 (sh_bkt h0) s ?_
  refine G.iinc (z := i3) dX1_brightestFactor_47 rfl (by decide) rfl ?_
  refine G.goto (tgt := 28) dX1_brightestFactor_50 (by decide) ?_
  exact G.pick [0, 1, 2, 3] k
theorem bX1_brightestFactor_53 {X : CT} {σ : St} {o0 : Nat} {i1 : Int} (h0 : isBk o0)
    (k : G mdX1_brightestFactor X 10 [(0, vr o0), (1, vi (i1 + 1))] [] σ) :
    G mdX1_brightestFactor X 53 [(0, vr o0), (1, vi i1)] [] σ := by
  refine G.iinc (z := i1) dX1_brightestFactor_53 rfl (by decide) rfl ?_
  refine G.goto (tgt := 10) dX1_brightestFactor_56 (by decide) ?_
  exact G.pick [0, 1] k
theorem bX1_brightestFactor_59 {X : CT} {σ : St} {o0 : Nat} (h0 : isBk o0)
    (k : G mdX1_brightestFactor X 63 [(0, vr o0), (1, vi 1), (2, vi 2)] [] σ) :
    G mdX1_brightestFactor X 59 [(0, vr o0)] [] σ := by
  refine G.iconst dX1_brightestFactor_59 ?_
  refine G.istore_n dX1_brightestFactor_60 (by decide) rfl ?_
  refine G.iconst dX1_brightestFactor_61 ?_
  refine G.istore_n dX1_brightestFactor_62 (by decide) rfl ?_
  exact G.pick [0, 1, 2] k
theorem bX1_brightestFactor_63 {X : CT} {σ : St} {o0 : Nat} {i1 i2 : Int} (h0 : isBk o0) (s : (-2147483648 ≤ i2 ∧ i2 < 2147483648))
    (kt : 97 ≤ i2 → G mdX1_brightestFactor X 92 [(1, vi i1)] [] σ)
    (kf : i2 < 97 → G mdX1_brightestFactor X 69 [(0, vr o0), (1, vi i1), (2, vi i2)] [] σ) :
    G mdX1_brightestFactor X 63 [(0, vr o0), (1, vi i1), (2, vi i2)] [] σ := by
  refine G.iload_n (z := i2) dX1_brightestFactor_63 rfl ?_
  refine G.bipush dX1_brightestFactor_64 (by decide) ?_
  exact G.icmp_ge (tgt := 92) dX1_brightestFactor_66 (by decide) s ⟨by decide, by decide⟩ (fun q => G.pick [1] (kt q)) (fun q => G.pick [0, 1, 2] (kf q))
theorem bX1_brightestFactor_69 {X : CT} {σ : St} {o0 : Nat} {i1 i2 : Int} (h0 : isBk o0) (s : (0 ≤ i2 ∧ i2 < 97) ∧ (0 ≤ i1 ∧ i1 < 97) ∧ (-2147483648 ≤ σ (o0 + 3) i2 ∧ σ (o0 + 3) i2 < 2147483648) ∧ (-2147483648 ≤ σ (o0 + 3) i1 ∧ σ (o0 + 3) i1 < 2147483648))
    (kt : σ (o0 + 3) i2 ≤ σ (o0 + 3) i1 → G mdX1_brightestFactor X 86 [(0, vr o0), (1, vi i1), (2, vi i2)] [] σ)
    (kf : σ (o0 + 3) i1 < σ (o0 + 3) i2 → G mdX1_brightestFactor X 84 [(0, vr o0), (2, vi i2)] [] σ) :
    G mdX1_brightestFactor X 69 [(0, vr o0), (1, vi i1), (2, vi i2)] [] σ := by
  refine G.aload_n (o := o0) dX1_brightestFactor_69 rfl ?_
  refine G.getR (o' := (o0 + 3)) dX1_brightestFactor_70 fX1_18 (sh_bk h0) rfl ?_
  refine G.iload_n (z := i2) dX1_brightestFactor_73 rfl ?_
  refine G.iald dX1_brightestFactor_74 (sh_bkt h0) s.1 ?_
  refine G.aload_n (o := o0) dX1_brightestFactor_75 rfl ?_
  refine G.getR (o' := (o0 + 3)) dX1_brightestFactor_76 fX1_18 (sh_bk h0) rfl ?_
  refine G.iload_n (z := i1) dX1_brightestFactor_79 rfl ?_
  refine G.iald dX1_brightestFactor_80 (sh_bkt h0) s.2.1 ?_
  exact G.icmp_le (tgt := 86) dX1_brightestFactor_81 (by decide) s.2.2.1 s.2.2.2 (fun q => G.pick [0, 1, 2] (kt q)) (fun q => G.pick [0, 2] (kf q))
theorem bX1_brightestFactor_84 {X : CT} {σ : St} {o0 : Nat} {i2 : Int} (h0 : isBk o0)
    (k : G mdX1_brightestFactor X 86 [(0, vr o0), (1, vi i2), (2, vi i2)] [] σ) :
    G mdX1_brightestFactor X 84 [(0, vr o0), (2, vi i2)] [] σ := by
  refine G.iload_n (z := i2) dX1_brightestFactor_84 rfl ?_
  refine G.istore_n dX1_brightestFactor_85 (by decide) rfl ?_
  exact G.pick [0, 1, 2] k
theorem bX1_brightestFactor_86 {X : CT} {σ : St} {o0 : Nat} {i1 i2 : Int} (h0 : isBk o0)
    (k : G mdX1_brightestFactor X 63 [(0, vr o0), (1, vi i1), (2, vi (i2 + 1))] [] σ) :
    G mdX1_brightestFactor X 86 [(0, vr o0), (1, vi i1), (2, vi i2)] [] σ := by
  refine G.iinc (z := i2) dX1_brightestFactor_86 rfl (by decide) rfl ?_
  refine G.goto (tgt := 63) dX1_brightestFactor_89 (by decide) ?_
  exact G.pick [0, 1, 2] k
theorem bX1_brightestFactor_92 {X : CT} {σ : St} {i1 : Int}  {P : Int → St → Prop} (hX : RI X P) (s : (-2147483648 ≤ i1 ∧ i1 < 2147483648))
    (k : P i1 σ) :
    G mdX1_brightestFactor X 92 [(1, vi i1)] [] σ := by
  refine G.iload_n (z := i1) dX1_brightestFactor_92 rfl ?_
  exact G.iret hX dX1_brightestFactor_93 rfl s k
theorem bX1_mend_0 {X : CT} {σ : St} {o0 o1 : Nat} (h0 : isBk o0) (h1 : isSt o1) {P : Int → St → Prop} (hM : CI mdX7_firstMarked [vr o1] σ P)
    (k : ∀ z σ', inI z → P z σ' → G mdX1_mend X 4 [(0, vr o0), (1, vr o1)] [vi z] (σ')) :
    G mdX1_mend X 0 [(0, vr o0), (1, vr o1)] [] σ := by
  refine G.aload_n (o := o1) dX1_mend_0 rfl ?_
  exact G.callVI (as := []) (rest := []) dX1_mend_1 rfl vX1_146 (by decide) (sh_st h1) rfl (by decide) (Nat.le_of_ble_eq_true rfl) hM (fun z σ' hz q => G.pick [0, 1] (k z σ' hz q))
theorem bX1_mend_4 {X : CT} {σ : St} {o0 o1 : Nat} {t0 : Int} (h0 : isBk o0) (h1 : isSt o1) (s : (-2147483648 ≤ t0 ∧ t0 < 2147483648))
    (kt : ¬ t0 = (-9) → G mdX1_mend X 12 [(0, vr o0), (1, vr o1), (2, vi t0)] [] σ)
    (kf : t0 = (-9) → G mdX1_mend X 11 [] [] σ) :
    G mdX1_mend X 4 [(0, vr o0), (1, vr o1)] [vi t0] σ := by
  refine G.istore_n dX1_mend_4 (by decide) rfl ?_
  refine G.iload_n (z := t0) dX1_mend_5 rfl ?_
  refine G.bipush dX1_mend_6 (by decide) ?_
  exact G.icmp_ne (tgt := 12) dX1_mend_8 (by decide) s ⟨by decide, by decide⟩ (fun q => G.pick [0, 1, 2] (kt q)) (fun q => G.pick [] (kf q))
theorem bX1_mend_11 {X : CT} {σ : St}  {P : St → Prop} (hX : RV X P)
    (k : P σ) :
    G mdX1_mend X 11 [] [] σ := by
  exact G.vret hX dX1_mend_11 rfl k
theorem bX1_mend_12 {X : CT} {σ : St} {o0 o1 : Nat} {i2 : Int} (h0 : isBk o0) (h1 : isSt o1)
    (k : G mdX1_mend X 17 [(0, vr o0), (1, vr o1), (2, vi i2), (3, vi 0), (4, vi 0)] [] σ) :
    G mdX1_mend X 12 [(0, vr o0), (1, vr o1), (2, vi i2)] [] σ := by
  refine G.iconst dX1_mend_12 ?_
  refine G.istore_n dX1_mend_13 (by decide) rfl ?_
  refine G.iconst dX1_mend_14 ?_
  refine G.istore dX1_mend_15 (by decide) rfl ?_
  exact G.pick [0, 1, 2, 3, 4] k
theorem bX1_mend_17 {X : CT} {σ : St} {o0 o1 : Nat} {i2 i3 i4 : Int} (h0 : isBk o0) (h1 : isSt o1) (s : (-2147483648 ≤ i4 ∧ i4 < 2147483648))
    (kt : 16 ≤ i4 → G mdX1_mend X 63 [] [] σ)
    (kf : i4 < 16 → G mdX1_mend X 24 [(0, vr o0), (1, vr o1), (2, vi i2), (3, vi i3), (4, vi i4)] [] σ) :
    G mdX1_mend X 17 [(0, vr o0), (1, vr o1), (2, vi i2), (3, vi i3), (4, vi i4)] [] σ := by
  refine G.iload (z := i4) dX1_mend_17 rfl ?_
  refine G.bipush dX1_mend_19 (by decide) ?_
  exact G.icmp_ge (tgt := 63) dX1_mend_21 (by decide) s ⟨by decide, by decide⟩ (fun q => G.pick [] (kt q)) (fun q => G.pick [0, 1, 2, 3, 4] (kf q))
theorem bX1_mend_24 {X : CT} {σ : St} {o0 o1 : Nat} {i2 i3 i4 : Int} (h0 : isBk o0) (h1 : isSt o1) {P : Int → St → Prop} (hM : CI mdX7_isMarked [vr o1, vi ((i2 + i4) % 16)] σ P) (s : (0 ≤ i2 + i4 ∧ i2 + i4 < 2147483648))
    (k : ∀ z σ', inI z → P z σ' → G mdX1_mend X 39 [(0, vr o0), (1, vr o1), (2, vi i2), (3, vi i3), (4, vi i4), (5, vi ((i2 + i4) % 16))] [vi z] (σ')) :
    G mdX1_mend X 24 [(0, vr o0), (1, vr o1), (2, vi i2), (3, vi i3), (4, vi i4)] [] σ := by
  refine G.iload_n (z := i2) dX1_mend_24 rfl ?_
  refine G.iload (z := i4) dX1_mend_25 rfl ?_
  refine G.iadd dX1_mend_27 ?_
  refine G.bipush dX1_mend_28 (by decide) ?_
  refine G.irem dX1_mend_30 s ⟨by decide, by decide⟩ ?_
  refine G.istore dX1_mend_31 (by decide) rfl ?_
  refine G.aload_n (o := o1) dX1_mend_33 rfl ?_
  refine G.iload (z := (i2 + i4) % 16) dX1_mend_34 rfl ?_
  exact G.callVI (as := [vi ((i2 + i4) % 16)]) (rest := []) dX1_mend_36 rfl vX1_149 (by decide) (sh_st h1) rfl (by decide) (Nat.le_of_ble_eq_true rfl) hM (fun z σ' hz q => G.pick [0, 1, 2, 3, 4, 5] (k z σ' hz q))
theorem bX1_mend_39 {X : CT} {σ : St} {o0 o1 : Nat} {i2 i3 i4 i5 t0 : Int} (h0 : isBk o0) (h1 : isSt o1) (s : (-2147483648 ≤ t0 ∧ t0 < 2147483648))
    (kt : t0 = 0 → G mdX1_mend X 50 [(0, vr o0), (1, vr o1), (2, vi i2), (3, vi i3), (4, vi i4), (5, vi i5)] [] σ)
    (kf : ¬ t0 = 0 → G mdX1_mend X 42 [(0, vr o0), (1, vr o1), (2, vi i2), (4, vi i4), (5, vi i5)] [] σ) :
    G mdX1_mend X 39 [(0, vr o0), (1, vr o1), (2, vi i2), (3, vi i3), (4, vi i4), (5, vi i5)] [vi t0] σ := by
  exact G.if_eq (tgt := 50) dX1_mend_39 (by decide) s (fun q => G.pick [0, 1, 2, 3, 4, 5] (kt q)) (fun q => G.pick [0, 1, 2, 4, 5] (kf q))
theorem bX1_mend_42 {X : CT} {σ : St} {o0 o1 : Nat} {i2 i4 i5 : Int} (h0 : isBk o0) (h1 : isSt o1) {P : Int → St → Prop} (hM : CI mdX1_bestTurn [vr o0, vr o1, vi i5] σ P)
    (k : ∀ z σ', inI z → P z σ' → G mdX1_mend X 49 [(0, vr o0), (1, vr o1), (2, vi i2), (4, vi i4), (5, vi i5)] [vi z] (σ')) :
    G mdX1_mend X 42 [(0, vr o0), (1, vr o1), (2, vi i2), (4, vi i4), (5, vi i5)] [] σ := by
  refine G.aload_n (o := o0) dX1_mend_42 rfl ?_
  refine G.aload_n (o := o1) dX1_mend_43 rfl ?_
  refine G.iload (z := i5) dX1_mend_44 rfl ?_
  exact G.callVI (as := [vr o1, vi i5]) (rest := []) dX1_mend_46 rfl vX1_153 (by decide) (sh_bk h0) rfl (by decide) (Nat.le_of_ble_eq_true rfl) hM (fun z σ' hz q => G.pick [0, 1, 2, 4, 5] (k z σ' hz q))
theorem bX1_mend_49 {X : CT} {σ : St} {o0 o1 : Nat} {i2 i4 i5 t0 : Int} (h0 : isBk o0) (h1 : isSt o1)
    (k : G mdX1_mend X 50 [(0, vr o0), (1, vr o1), (2, vi i2), (3, vi t0), (4, vi i4), (5, vi i5)] [] σ) :
    G mdX1_mend X 49 [(0, vr o0), (1, vr o1), (2, vi i2), (4, vi i4), (5, vi i5)] [vi t0] σ := by
  refine G.istore_n dX1_mend_49 (by decide) rfl ?_
  exact G.pick [0, 1, 2, 3, 4, 5] k
theorem bX1_mend_50 {X : CT} {σ : St} {o0 o1 : Nat} {i2 i3 i4 i5 : Int} (h0 : isBk o0) (h1 : isSt o1) {P : St → Prop} (hM : CV mdX1_turn [vr o0, vi i5, vi i3] σ P)
    (k : ∀ σ', P σ' → G mdX1_mend X 57 [(0, vr o0), (1, vr o1), (2, vi i2), (3, vi i3), (4, vi i4)] [] (σ')) :
    G mdX1_mend X 50 [(0, vr o0), (1, vr o1), (2, vi i2), (3, vi i3), (4, vi i4), (5, vi i5)] [] σ := by
  refine G.aload_n (o := o0) dX1_mend_50 rfl ?_
  refine G.iload (z := i5) dX1_mend_51 rfl ?_
  refine G.iload_n (z := i3) dX1_mend_53 rfl ?_
  exact G.callVV (as := [vi i5, vi i3]) (rest := []) dX1_mend_54 rfl vX1_134 (by decide) (sh_bk h0) rfl (by decide) (Nat.le_of_ble_eq_true rfl) hM (fun σ' q => G.pick [0, 1, 2, 3, 4] (k σ' q))
theorem bX1_mend_57 {X : CT} {σ : St} {o0 o1 : Nat} {i2 i3 i4 : Int} (h0 : isBk o0) (h1 : isSt o1)
    (k : G mdX1_mend X 17 [(0, vr o0), (1, vr o1), (2, vi i2), (3, vi i3), (4, vi (i4 + 1))] [] σ) :
    G mdX1_mend X 57 [(0, vr o0), (1, vr o1), (2, vi i2), (3, vi i3), (4, vi i4)] [] σ := by
  refine G.iinc (z := i4) dX1_mend_57 rfl (by decide) rfl ?_
  refine G.goto (tgt := 17) dX1_mend_60 (by decide) ?_
  exact G.pick [0, 1, 2, 3, 4] k
theorem bX1_mend_63 {X : CT} {σ : St}  {P : St → Prop} (hX : RV X P)
    (k : P σ) :
    G mdX1_mend X 63 [] [] σ := by
  exact G.vret hX dX1_mend_63 rfl k
theorem bX1_bestTurn_0 {X : CT} {σ : St} {o0 o1 : Nat} {i2 : Int} (h0 : isBk o0) (h1 : isSt o1)
    (k : G mdX1_bestTurn X 8 [(0, vr o0), (1, vr o1), (2, vi i2), (3, vi 0), (4, vi (-1)), (5, vi 0)] [] σ) :
    G mdX1_bestTurn X 0 [(0, vr o0), (1, vr o1), (2, vi i2)] [] σ := by
  refine G.iconst dX1_bestTurn_0 ?_
  refine G.istore_n dX1_bestTurn_1 (by decide) rfl ?_
  refine G.iconst dX1_bestTurn_2 ?_
  refine G.istore dX1_bestTurn_3 (by decide) rfl ?_
  refine G.iconst dX1_bestTurn_5 ?_
  refine G.istore dX1_bestTurn_6 (by decide) rfl ?_
  exact G.pick [0, 1, 2, 3, 4, 5] k
theorem bX1_bestTurn_8 {X : CT} {σ : St} {o0 o1 : Nat} {i2 i3 i4 i5 : Int} (h0 : isBk o0) (h1 : isSt o1) (s : (-2147483648 ≤ i5 ∧ i5 < 2147483648))
    (kt : 4 ≤ i5 → G mdX1_bestTurn X 111 [(3, vi i3)] [] σ)
    (kf : i5 < 4 → G mdX1_bestTurn X 14 [(0, vr o0), (1, vr o1), (2, vi i2), (3, vi i3), (4, vi i4), (5, vi i5)] [] σ) :
    G mdX1_bestTurn X 8 [(0, vr o0), (1, vr o1), (2, vi i2), (3, vi i3), (4, vi i4), (5, vi i5)] [] σ := by
  refine G.iload (z := i5) dX1_bestTurn_8 rfl ?_
  refine G.iconst dX1_bestTurn_10 ?_
  exact G.icmp_ge (tgt := 111) dX1_bestTurn_11 (by decide) s ⟨by decide, by decide⟩ (fun q => G.pick [3] (kt q)) (fun q => G.pick [0, 1, 2, 3, 4, 5] (kf q))
theorem bX1_bestTurn_14 {X : CT} {σ : St} {o0 o1 : Nat} {i2 i3 i4 i5 : Int} (h0 : isBk o0) (h1 : isSt o1) {P : Int → St → Prop} (hM : CI mdX2_turned [vi (σ (o0 + 1) i2), vi i5] σ P) (s : (0 ≤ i2 ∧ i2 < 32))
    (k : ∀ z σ', inI z → P z σ' → G mdX1_bestTurn X 25 [(0, vr o0), (1, vr o1), (2, vi i2), (3, vi i3), (4, vi i4), (5, vi i5)] [vi z] (σ')) :
    G mdX1_bestTurn X 14 [(0, vr o0), (1, vr o1), (2, vi i2), (3, vi i3), (4, vi i4), (5, vi i5)] [] σ := by
  refine G.aload_n (o := o0) dX1_bestTurn_14 rfl ?_
  refine G.getR (o' := (o0 + 1)) dX1_bestTurn_15 fX1_9 (sh_bk h0) rfl ?_
  refine G.iload_n (z := i2) dX1_bestTurn_18 rfl ?_
  refine G.iald dX1_bestTurn_19 (sh_bkn h0) s ?_
  refine G.iload (z := i5) dX1_bestTurn_20 rfl ?_
  exact G.callSI (as := [vi (σ (o0 + 1) i2), vi i5]) (rest := []) dX1_bestTurn_22 rfl vX1_137 (by decide) (Nat.le_of_ble_eq_true rfl) hM (fun z σ' hz q => G.pick [0, 1, 2, 3, 4, 5] (k z σ' hz q))
theorem bX1_bestTurn_25 {X : CT} {σ : St} {o0 o1 : Nat} {i2 i3 i4 i5 t0 : Int} (h0 : isBk o0) (h1 : isSt o1) {P : Int → St → Prop} (hM : CI mdX2_turned [vi (σ (o0 + 1) (16 + i2)), vi i5] σ P) (s : (0 ≤ 16 + i2 ∧ 16 + i2 < 32))
    (k : ∀ z σ', inI z → P z σ' → G mdX1_bestTurn X 41 [(0, vr o0), (1, vr o1), (2, vi i2), (3, vi i3), (4, vi i4), (5, vi i5), (6, vi t0)] [vi z] (σ')) :
    G mdX1_bestTurn X 25 [(0, vr o0), (1, vr o1), (2, vi i2), (3, vi i3), (4, vi i4), (5, vi i5)] [vi t0] σ := by
  refine G.istore dX1_bestTurn_25 (by decide) rfl ?_
  refine G.aload_n (o := o0) dX1_bestTurn_27 rfl ?_
  refine G.getR (o' := (o0 + 1)) dX1_bestTurn_28 fX1_9 (sh_bk h0) rfl ?_
  refine G.bipush dX1_bestTurn_31 (by decide) ?_
  refine G.iload_n (z := i2) dX1_bestTurn_33 rfl ?_
  refine G.iadd dX1_bestTurn_34 ?_
  refine G.iald dX1_bestTurn_35 (sh_bkn h0) s ?_
  refine G.iload (z := i5) dX1_bestTurn_36 rfl ?_
  exact G.callSI (as := [vi (σ (o0 + 1) (16 + i2)), vi i5]) (rest := []) dX1_bestTurn_38 rfl vX1_137 (by decide) (Nat.le_of_ble_eq_true rfl) hM (fun z σ' hz q => G.pick [0, 1, 2, 3, 4, 5, 6] (k z σ' hz q))
theorem bX1_bestTurn_41 {X : CT} {σ : St} {o0 o1 : Nat} {i2 i3 i4 i5 i6 t0 : Int} (h0 : isBk o0) (h1 : isSt o1) {P : Int → St → Prop} (hM : CI mdX2_decided [vi i6] σ P)
    (k : ∀ z σ', inI z → P z σ' → G mdX1_bestTurn X 48 [(0, vr o0), (1, vr o1), (2, vi i2), (3, vi i3), (4, vi i4), (5, vi i5), (7, vi t0)] [vi z] (σ')) :
    G mdX1_bestTurn X 41 [(0, vr o0), (1, vr o1), (2, vi i2), (3, vi i3), (4, vi i4), (5, vi i5), (6, vi i6)] [vi t0] σ := by
  refine G.istore dX1_bestTurn_41 (by decide) rfl ?_
  refine G.iload (z := i6) dX1_bestTurn_43 rfl ?_
  exact G.callSI (as := [vi i6]) (rest := []) dX1_bestTurn_45 rfl vX1_157 (by decide) (Nat.le_of_ble_eq_true rfl) hM (fun z σ' hz q => G.pick [0, 1, 2, 3, 4, 5, 7] (k z σ' hz q))
theorem bX1_bestTurn_48 {X : CT} {σ : St} {o0 o1 : Nat} {i2 i3 i4 i5 i7 t0 : Int} (h0 : isBk o0) (h1 : isSt o1) (s : (0 ≤ i2 ∧ i2 < 32) ∧ (-2147483648 ≤ t0 ∧ t0 < 2147483648) ∧ (-2147483648 ≤ σ (o1 + 1) i2 ∧ σ (o1 + 1) i2 < 2147483648))
    (kt : ¬ t0 = σ (o1 + 1) i2 → G mdX1_bestTurn X 61 [(0, vr o0), (1, vr o1), (2, vi i2), (3, vi i3), (4, vi i4), (5, vi i5), (7, vi i7)] [] σ)
    (kf : t0 = σ (o1 + 1) i2 → G mdX1_bestTurn X 57 [(0, vr o0), (1, vr o1), (2, vi i2), (3, vi i3), (4, vi i4), (5, vi i5), (7, vi i7)] [] σ) :
    G mdX1_bestTurn X 48 [(0, vr o0), (1, vr o1), (2, vi i2), (3, vi i3), (4, vi i4), (5, vi i5), (7, vi i7)] [vi t0] σ := by
  refine G.aload_n (o := o1) dX1_bestTurn_48 rfl ?_
  refine G.getR (o' := (o1 + 1)) dX1_bestTurn_49 fX1_58 (sh_st h1) rfl ?_
  refine G.iload_n (z := i2) dX1_bestTurn_52 rfl ?_
  refine G.iald dX1_bestTurn_53 (sh_sent h1) s.1 ?_
  exact G.icmp_ne (tgt := 61) dX1_bestTurn_54 (by decide) s.2.1 s.2.2 (fun q => G.pick [0, 1, 2, 3, 4, 5, 7] (kt q)) (fun q => G.pick [0, 1, 2, 3, 4, 5, 7] (kf q))
theorem bX1_bestTurn_57 {X : CT} {σ : St} {o0 o1 : Nat} {i2 i3 i4 i5 i7 : Int} (h0 : isBk o0) (h1 : isSt o1)
    (k : G mdX1_bestTurn X 62 [(0, vr o0), (1, vr o1), (2, vi i2), (3, vi i3), (4, vi i4), (5, vi i5), (7, vi i7)] [vi 1] σ) :
    G mdX1_bestTurn X 57 [(0, vr o0), (1, vr o1), (2, vi i2), (3, vi i3), (4, vi i4), (5, vi i5), (7, vi i7)] [] σ := by
  refine G.iconst dX1_bestTurn_57 ?_
  refine G.goto (tgt := 62) dX1_bestTurn_58 (by decide) ?_
  exact G.pick [0, 1, 2, 3, 4, 5, 7] k
theorem bX1_bestTurn_61 {X : CT} {σ : St} {o0 o1 : Nat} {i2 i3 i4 i5 i7 : Int} (h0 : isBk o0) (h1 : isSt o1)
    (k : G mdX1_bestTurn X 62 [(0, vr o0), (1, vr o1), (2, vi i2), (3, vi i3), (4, vi i4), (5, vi i5), (7, vi i7)] [vi 0] σ) :
    G mdX1_bestTurn X 61 [(0, vr o0), (1, vr o1), (2, vi i2), (3, vi i3), (4, vi i4), (5, vi i5), (7, vi i7)] [] σ := by
  refine G.iconst dX1_bestTurn_61 ?_
  exact G.pick [0, 1, 2, 3, 4, 5, 7] k
theorem bX1_bestTurn_62 {X : CT} {σ : St} {o0 o1 : Nat} {i2 i3 i4 i5 i7 t0 : Int} (h0 : isBk o0) (h1 : isSt o1) {P : Int → St → Prop} (hM : CI mdX2_decided [vi i7] σ P)
    (k : ∀ z σ', inI z → P z σ' → G mdX1_bestTurn X 71 [(0, vr o0), (1, vr o1), (2, vi i2), (3, vi i3), (4, vi i4), (5, vi i5)] [vi z, vi t0] (σ')) :
    G mdX1_bestTurn X 62 [(0, vr o0), (1, vr o1), (2, vi i2), (3, vi i3), (4, vi i4), (5, vi i5), (7, vi i7)] [vi t0] σ := by
  refine G.istore dX1_bestTurn_62 (by decide) rfl ?_
  refine G.iload (z := t0) dX1_bestTurn_64 rfl ?_
  refine G.iload (z := i7) dX1_bestTurn_66 rfl ?_
  exact G.callSI (as := [vi i7]) (rest := [vi t0]) dX1_bestTurn_68 rfl vX1_157 (by decide) (Nat.le_of_ble_eq_true rfl) hM (fun z σ' hz q => G.pick [0, 1, 2, 3, 4, 5] (k z σ' hz q))
theorem bX1_bestTurn_71 {X : CT} {σ : St} {o0 o1 : Nat} {i2 i3 i4 i5 t0 t1 : Int} (h0 : isBk o0) (h1 : isSt o1) (s : (0 ≤ 16 + i2 ∧ 16 + i2 < 32) ∧ (-2147483648 ≤ t1 ∧ t1 < 2147483648) ∧ (-2147483648 ≤ σ (o1 + 1) (16 + i2) ∧ σ (o1 + 1) (16 + i2) < 2147483648))
    (kt : ¬ t1 = σ (o1 + 1) (16 + i2) → G mdX1_bestTurn X 87 [(0, vr o0), (1, vr o1), (2, vi i2), (3, vi i3), (4, vi i4), (5, vi i5)] [vi t0] σ)
    (kf : t1 = σ (o1 + 1) (16 + i2) → G mdX1_bestTurn X 83 [(0, vr o0), (1, vr o1), (2, vi i2), (3, vi i3), (4, vi i4), (5, vi i5)] [vi t0] σ) :
    G mdX1_bestTurn X 71 [(0, vr o0), (1, vr o1), (2, vi i2), (3, vi i3), (4, vi i4), (5, vi i5)] [vi t1, vi t0] σ := by
  refine G.aload_n (o := o1) dX1_bestTurn_71 rfl ?_
  refine G.getR (o' := (o1 + 1)) dX1_bestTurn_72 fX1_58 (sh_st h1) rfl ?_
  refine G.bipush dX1_bestTurn_75 (by decide) ?_
  refine G.iload_n (z := i2) dX1_bestTurn_77 rfl ?_
  refine G.iadd dX1_bestTurn_78 ?_
  refine G.iald dX1_bestTurn_79 (sh_sent h1) s.1 ?_
  exact G.icmp_ne (tgt := 87) dX1_bestTurn_80 (by decide) s.2.1 s.2.2 (fun q => G.pick [0, 1, 2, 3, 4, 5] (kt q)) (fun q => G.pick [0, 1, 2, 3, 4, 5] (kf q))
theorem bX1_bestTurn_83 {X : CT} {σ : St} {o0 o1 : Nat} {i2 i3 i4 i5 t0 : Int} (h0 : isBk o0) (h1 : isSt o1)
    (k : G mdX1_bestTurn X 88 [(0, vr o0), (1, vr o1), (2, vi i2), (3, vi i3), (4, vi i4), (5, vi i5)] [vi 1, vi t0] σ) :
    G mdX1_bestTurn X 83 [(0, vr o0), (1, vr o1), (2, vi i2), (3, vi i3), (4, vi i4), (5, vi i5)] [vi t0] σ := by
  refine G.iconst dX1_bestTurn_83 ?_
  refine G.goto (tgt := 88) dX1_bestTurn_84 (by decide) ?_
  exact G.pick [0, 1, 2, 3, 4, 5] k
theorem bX1_bestTurn_87 {X : CT} {σ : St} {o0 o1 : Nat} {i2 i3 i4 i5 t0 : Int} (h0 : isBk o0) (h1 : isSt o1)
    (k : G mdX1_bestTurn X 88 [(0, vr o0), (1, vr o1), (2, vi i2), (3, vi i3), (4, vi i4), (5, vi i5)] [vi 0, vi t0] σ) :
    G mdX1_bestTurn X 87 [(0, vr o0), (1, vr o1), (2, vi i2), (3, vi i3), (4, vi i4), (5, vi i5)] [vi t0] σ := by
  refine G.iconst dX1_bestTurn_87 ?_
  exact G.pick [0, 1, 2, 3, 4, 5] k
theorem bX1_bestTurn_88 {X : CT} {σ : St} {o0 o1 : Nat} {i2 i3 i4 i5 t0 t1 : Int} (h0 : isBk o0) (h1 : isSt o1) (s : (-2147483648 ≤ t0 + t1 ∧ t0 + t1 < 2147483648) ∧ (-2147483648 ≤ i4 ∧ i4 < 2147483648))
    (kt : t0 + t1 ≤ i4 → G mdX1_bestTurn X 105 [(0, vr o0), (1, vr o1), (2, vi i2), (3, vi i3), (4, vi i4), (5, vi i5)] [] σ)
    (kf : i4 < t0 + t1 → G mdX1_bestTurn X 98 [(0, vr o0), (1, vr o1), (2, vi i2), (5, vi i5), (8, vi (t0 + t1))] [] σ) :
    G mdX1_bestTurn X 88 [(0, vr o0), (1, vr o1), (2, vi i2), (3, vi i3), (4, vi i4), (5, vi i5)] [vi t1, vi t0] σ := by
  refine G.iadd dX1_bestTurn_88 ?_
  refine G.istore dX1_bestTurn_89 (by decide) rfl ?_
  refine G.iload (z := t0 + t1) dX1_bestTurn_91 rfl ?_
  refine G.iload (z := i4) dX1_bestTurn_93 rfl ?_
  exact G.icmp_le (tgt := 105) dX1_bestTurn_95 (by decide) s.1 s.2 (fun q => G.pick [0, 1, 2, 3, 4, 5] (kt q)) (fun q => G.pick [0, 1, 2, 5, 8] (kf q))
theorem bX1_bestTurn_98 {X : CT} {σ : St} {o0 o1 : Nat} {i2 i5 i8 : Int} (h0 : isBk o0) (h1 : isSt o1)
    (k : G mdX1_bestTurn X 105 [(0, vr o0), (1, vr o1), (2, vi i2), (3, vi i5), (4, vi i8), (5, vi i5)] [] σ) :
    G mdX1_bestTurn X 98 [(0, vr o0), (1, vr o1), (2, vi i2), (5, vi i5), (8, vi i8)] [] σ := by
  refine G.iload (z := i8) dX1_bestTurn_98 rfl ?_
  refine G.istore dX1_bestTurn_100 (by decide) rfl ?_
  refine G.iload (z := i5) dX1_bestTurn_102 rfl ?_
  refine G.istore_n dX1_bestTurn_104 (by decide) rfl ?_
  exact G.pick [0, 1, 2, 3, 4, 5] k
theorem bX1_bestTurn_105 {X : CT} {σ : St} {o0 o1 : Nat} {i2 i3 i4 i5 : Int} (h0 : isBk o0) (h1 : isSt o1)
    (k : G mdX1_bestTurn X 8 [(0, vr o0), (1, vr o1), (2, vi i2), (3, vi i3), (4, vi i4), (5, vi (i5 + 1))] [] σ) :
    G mdX1_bestTurn X 105 [(0, vr o0), (1, vr o1), (2, vi i2), (3, vi i3), (4, vi i4), (5, vi i5)] [] σ := by
  refine G.iinc (z := i5) dX1_bestTurn_105 rfl (by decide) rfl ?_
  refine G.goto (tgt := 8) dX1_bestTurn_108 (by decide) ?_
  exact G.pick [0, 1, 2, 3, 4, 5] k
theorem bX1_bestTurn_111 {X : CT} {σ : St} {i3 : Int}  {P : Int → St → Prop} (hX : RI X P) (s : (-2147483648 ≤ i3 ∧ i3 < 2147483648))
    (k : P i3 σ) :
    G mdX1_bestTurn X 111 [(3, vi i3)] [] σ := by
  refine G.iload_n (z := i3) dX1_bestTurn_111 rfl ?_
  exact G.iret hX dX1_bestTurn_112 rfl s k
theorem bX1_errors_0 {X : CT} {σ : St} {o0 o1 : Nat} (h0 : isBk o0) (h1 : isSt o1)
    (k : G mdX1_errors X 4 [(0, vr o0), (1, vr o1), (2, vi 0), (3, vi 0)] [] σ) :
    G mdX1_errors X 0 [(0, vr o0), (1, vr o1)] [] σ := by
  refine G.iconst dX1_errors_0 ?_
  refine G.istore_n dX1_errors_1 (by decide) rfl ?_
  refine G.iconst dX1_errors_2 ?_
  refine G.istore_n dX1_errors_3 (by decide) rfl ?_
  exact G.pick [0, 1, 2, 3] k
theorem bX1_errors_4 {X : CT} {σ : St} {o0 o1 : Nat} {i2 i3 : Int} (h0 : isBk o0) (h1 : isSt o1) (s : (-2147483648 ≤ i3 ∧ i3 < 2147483648))
    (kt : 32 ≤ i3 → G mdX1_errors X 42 [(2, vi i2)] [] σ)
    (kf : i3 < 32 → G mdX1_errors X 10 [(0, vr o0), (1, vr o1), (2, vi i2), (3, vi i3)] [] σ) :
    G mdX1_errors X 4 [(0, vr o0), (1, vr o1), (2, vi i2), (3, vi i3)] [] σ := by
  refine G.iload_n (z := i3) dX1_errors_4 rfl ?_
  refine G.bipush dX1_errors_5 (by decide) ?_
  exact G.icmp_ge (tgt := 42) dX1_errors_7 (by decide) s ⟨by decide, by decide⟩ (fun q => G.pick [2] (kt q)) (fun q => G.pick [0, 1, 2, 3] (kf q))
theorem bX1_errors_10 {X : CT} {σ : St} {o0 o1 : Nat} {i2 i3 : Int} (h0 : isBk o0) (h1 : isSt o1) {P : Int → St → Prop} (hM : CI mdX2_decided [vi (σ (o0 + 1) i3)] σ P) (s : (0 ≤ i3 ∧ i3 < 32))
    (k : ∀ z σ', inI z → P z σ' → G mdX1_errors X 20 [(0, vr o0), (1, vr o1), (3, vi i3)] [vi z, vi i2] (σ')) :
    G mdX1_errors X 10 [(0, vr o0), (1, vr o1), (2, vi i2), (3, vi i3)] [] σ := by
  refine G.iload_n (z := i2) dX1_errors_10 rfl ?_
  refine G.aload_n (o := o0) dX1_errors_11 rfl ?_
  refine G.getR (o' := (o0 + 1)) dX1_errors_12 fX1_9 (sh_bk h0) rfl ?_
  refine G.iload_n (z := i3) dX1_errors_15 rfl ?_
  refine G.iald dX1_errors_16 (sh_bkn h0) s ?_
  exact G.callSI (as := [vi (σ (o0 + 1) i3)]) (rest := [vi i2]) dX1_errors_17 rfl vX1_157 (by decide) (Nat.le_of_ble_eq_true rfl) hM (fun z σ' hz q => G.pick [0, 1, 3] (k z σ' hz q))
theorem bX1_errors_20 {X : CT} {σ : St} {o0 o1 : Nat} {i3 t0 t1 : Int} (h0 : isBk o0) (h1 : isSt o1) (s : (0 ≤ i3 ∧ i3 < 32) ∧ (-2147483648 ≤ t1 ∧ t1 < 2147483648) ∧ (-2147483648 ≤ σ (o1 + 1) i3 ∧ σ (o1 + 1) i3 < 2147483648))
    (kt : ¬ t1 = σ (o1 + 1) i3 → G mdX1_errors X 33 [(0, vr o0), (1, vr o1), (3, vi i3)] [vi t0] σ)
    (kf : t1 = σ (o1 + 1) i3 → G mdX1_errors X 29 [(0, vr o0), (1, vr o1), (3, vi i3)] [vi t0] σ) :
    G mdX1_errors X 20 [(0, vr o0), (1, vr o1), (3, vi i3)] [vi t1, vi t0] σ := by
  refine G.aload_n (o := o1) dX1_errors_20 rfl ?_
  refine G.getR (o' := (o1 + 1)) dX1_errors_21 fX1_58 (sh_st h1) rfl ?_
  refine G.iload_n (z := i3) dX1_errors_24 rfl ?_
  refine G.iald dX1_errors_25 (sh_sent h1) s.1 ?_
  exact G.icmp_ne (tgt := 33) dX1_errors_26 (by decide) s.2.1 s.2.2 (fun q => G.pick [0, 1, 3] (kt q)) (fun q => G.pick [0, 1, 3] (kf q))
theorem bX1_errors_29 {X : CT} {σ : St} {o0 o1 : Nat} {i3 t0 : Int} (h0 : isBk o0) (h1 : isSt o1)
    (k : G mdX1_errors X 34 [(0, vr o0), (1, vr o1), (3, vi i3)] [vi 0, vi t0] σ) :
    G mdX1_errors X 29 [(0, vr o0), (1, vr o1), (3, vi i3)] [vi t0] σ := by
  refine G.iconst dX1_errors_29 ?_
  refine G.goto (tgt := 34) dX1_errors_30 (by decide) ?_
  exact G.pick [0, 1, 3] k
theorem bX1_errors_33 {X : CT} {σ : St} {o0 o1 : Nat} {i3 t0 : Int} (h0 : isBk o0) (h1 : isSt o1)
    (k : G mdX1_errors X 34 [(0, vr o0), (1, vr o1), (3, vi i3)] [vi 1, vi t0] σ) :
    G mdX1_errors X 33 [(0, vr o0), (1, vr o1), (3, vi i3)] [vi t0] σ := by
  refine G.iconst dX1_errors_33 ?_
  exact G.pick [0, 1, 3] k
theorem bX1_errors_34 {X : CT} {σ : St} {o0 o1 : Nat} {i3 t0 t1 : Int} (h0 : isBk o0) (h1 : isSt o1)
    (k : G mdX1_errors X 4 [(0, vr o0), (1, vr o1), (2, vi (t0 + t1)), (3, vi (i3 + 1))] [] σ) :
    G mdX1_errors X 34 [(0, vr o0), (1, vr o1), (3, vi i3)] [vi t1, vi t0] σ := by
  refine G.iadd dX1_errors_34 ?_
  refine G.istore_n dX1_errors_35 (by decide) rfl ?_
  refine G.iinc (z := i3) dX1_errors_36 rfl (by decide) rfl ?_
  refine G.goto (tgt := 4) dX1_errors_39 (by decide) ?_
  exact G.pick [0, 1, 2, 3] k
theorem bX1_errors_42 {X : CT} {σ : St} {i2 : Int}  {P : Int → St → Prop} (hX : RI X P) (s : (-2147483648 ≤ i2 ∧ i2 < 2147483648))
    (k : P i2 σ) :
    G mdX1_errors X 42 [(2, vi i2)] [] σ := by
  refine G.iload_n (z := i2) dX1_errors_42 rfl ?_
  exact G.iret hX dX1_errors_43 rfl s k
theorem bX1_errorsAtMarks_0 {X : CT} {σ : St} {o0 o1 : Nat} (h0 : isBk o0) (h1 : isSt o1)
    (k : G mdX1_errorsAtMarks X 4 [(0, vr o0), (1, vr o1), (2, vi 0), (3, vi 0)] [] σ) :
    G mdX1_errorsAtMarks X 0 [(0, vr o0), (1, vr o1)] [] σ := by
  refine G.iconst dX1_errorsAtMarks_0 ?_
  refine G.istore_n dX1_errorsAtMarks_1 (by decide) rfl ?_
  refine G.iconst dX1_errorsAtMarks_2 ?_
  refine G.istore_n dX1_errorsAtMarks_3 (by decide) rfl ?_
  exact G.pick [0, 1, 2, 3] k
theorem bX1_errorsAtMarks_4 {X : CT} {σ : St} {o0 o1 : Nat} {i2 i3 : Int} (h0 : isBk o0) (h1 : isSt o1) (s : (-2147483648 ≤ i3 ∧ i3 < 2147483648))
    (kt : 32 ≤ i3 → G mdX1_errorsAtMarks X 53 [(2, vi i2)] [] σ)
    (kf : i3 < 32 → G mdX1_errorsAtMarks X 10 [(0, vr o0), (1, vr o1), (2, vi i2), (3, vi i3)] [] σ) :
    G mdX1_errorsAtMarks X 4 [(0, vr o0), (1, vr o1), (2, vi i2), (3, vi i3)] [] σ := by
  refine G.iload_n (z := i3) dX1_errorsAtMarks_4 rfl ?_
  refine G.bipush dX1_errorsAtMarks_5 (by decide) ?_
  exact G.icmp_ge (tgt := 53) dX1_errorsAtMarks_7 (by decide) s ⟨by decide, by decide⟩ (fun q => G.pick [2] (kt q)) (fun q => G.pick [0, 1, 2, 3] (kf q))
theorem bX1_errorsAtMarks_10 {X : CT} {σ : St} {o0 o1 : Nat} {i2 i3 : Int} (h0 : isBk o0) (h1 : isSt o1) {P : Int → St → Prop} (hM : CI mdX7_isMarked [vr o1, vi (i3 % 16)] σ P) (s : (0 ≤ i3 ∧ i3 < 2147483648))
    (k : ∀ z σ', inI z → P z σ' → G mdX1_errorsAtMarks X 18 [(0, vr o0), (1, vr o1), (2, vi i2), (3, vi i3)] [vi z] (σ')) :
    G mdX1_errorsAtMarks X 10 [(0, vr o0), (1, vr o1), (2, vi i2), (3, vi i3)] [] σ := by
  refine G.aload_n (o := o1) dX1_errorsAtMarks_10 rfl ?_
  refine G.iload_n (z := i3) dX1_errorsAtMarks_11 rfl ?_
  refine G.bipush dX1_errorsAtMarks_12 (by decide) ?_
  refine G.irem dX1_errorsAtMarks_14 s ⟨by decide, by decide⟩ ?_
  exact G.callVI (as := [vi (i3 % 16)]) (rest := []) dX1_errorsAtMarks_15 rfl vX1_149 (by decide) (sh_st h1) rfl (by decide) (Nat.le_of_ble_eq_true rfl) hM (fun z σ' hz q => G.pick [0, 1, 2, 3] (k z σ' hz q))
theorem bX1_errorsAtMarks_18 {X : CT} {σ : St} {o0 o1 : Nat} {i2 i3 t0 : Int} (h0 : isBk o0) (h1 : isSt o1) (s : (-2147483648 ≤ t0 ∧ t0 < 2147483648))
    (kt : t0 = 0 → G mdX1_errorsAtMarks X 47 [(0, vr o0), (1, vr o1), (2, vi i2), (3, vi i3)] [] σ)
    (kf : ¬ t0 = 0 → G mdX1_errorsAtMarks X 21 [(0, vr o0), (1, vr o1), (2, vi i2), (3, vi i3)] [] σ) :
    G mdX1_errorsAtMarks X 18 [(0, vr o0), (1, vr o1), (2, vi i2), (3, vi i3)] [vi t0] σ := by
  exact G.if_eq (tgt := 47) dX1_errorsAtMarks_18 (by decide) s (fun q => G.pick [0, 1, 2, 3] (kt q)) (fun q => G.pick [0, 1, 2, 3] (kf q))
theorem bX1_errorsAtMarks_21 {X : CT} {σ : St} {o0 o1 : Nat} {i2 i3 : Int} (h0 : isBk o0) (h1 : isSt o1) {P : Int → St → Prop} (hM : CI mdX2_decided [vi (σ (o0 + 1) i3)] σ P) (s : (0 ≤ i3 ∧ i3 < 32))
    (k : ∀ z σ', inI z → P z σ' → G mdX1_errorsAtMarks X 31 [(0, vr o0), (1, vr o1), (3, vi i3)] [vi z, vi i2] (σ')) :
    G mdX1_errorsAtMarks X 21 [(0, vr o0), (1, vr o1), (2, vi i2), (3, vi i3)] [] σ := by
  refine G.iload_n (z := i2) dX1_errorsAtMarks_21 rfl ?_
  refine G.aload_n (o := o0) dX1_errorsAtMarks_22 rfl ?_
  refine G.getR (o' := (o0 + 1)) dX1_errorsAtMarks_23 fX1_9 (sh_bk h0) rfl ?_
  refine G.iload_n (z := i3) dX1_errorsAtMarks_26 rfl ?_
  refine G.iald dX1_errorsAtMarks_27 (sh_bkn h0) s ?_
  exact G.callSI (as := [vi (σ (o0 + 1) i3)]) (rest := [vi i2]) dX1_errorsAtMarks_28 rfl vX1_157 (by decide) (Nat.le_of_ble_eq_true rfl) hM (fun z σ' hz q => G.pick [0, 1, 3] (k z σ' hz q))
theorem bX1_errorsAtMarks_31 {X : CT} {σ : St} {o0 o1 : Nat} {i3 t0 t1 : Int} (h0 : isBk o0) (h1 : isSt o1) (s : (0 ≤ i3 ∧ i3 < 32) ∧ (-2147483648 ≤ t1 ∧ t1 < 2147483648) ∧ (-2147483648 ≤ σ (o1 + 1) i3 ∧ σ (o1 + 1) i3 < 2147483648))
    (kt : ¬ t1 = σ (o1 + 1) i3 → G mdX1_errorsAtMarks X 44 [(0, vr o0), (1, vr o1), (3, vi i3)] [vi t0] σ)
    (kf : t1 = σ (o1 + 1) i3 → G mdX1_errorsAtMarks X 40 [(0, vr o0), (1, vr o1), (3, vi i3)] [vi t0] σ) :
    G mdX1_errorsAtMarks X 31 [(0, vr o0), (1, vr o1), (3, vi i3)] [vi t1, vi t0] σ := by
  refine G.aload_n (o := o1) dX1_errorsAtMarks_31 rfl ?_
  refine G.getR (o' := (o1 + 1)) dX1_errorsAtMarks_32 fX1_58 (sh_st h1) rfl ?_
  refine G.iload_n (z := i3) dX1_errorsAtMarks_35 rfl ?_
  refine G.iald dX1_errorsAtMarks_36 (sh_sent h1) s.1 ?_
  exact G.icmp_ne (tgt := 44) dX1_errorsAtMarks_37 (by decide) s.2.1 s.2.2 (fun q => G.pick [0, 1, 3] (kt q)) (fun q => G.pick [0, 1, 3] (kf q))
theorem bX1_errorsAtMarks_40 {X : CT} {σ : St} {o0 o1 : Nat} {i3 t0 : Int} (h0 : isBk o0) (h1 : isSt o1)
    (k : G mdX1_errorsAtMarks X 45 [(0, vr o0), (1, vr o1), (3, vi i3)] [vi 0, vi t0] σ) :
    G mdX1_errorsAtMarks X 40 [(0, vr o0), (1, vr o1), (3, vi i3)] [vi t0] σ := by
  refine G.iconst dX1_errorsAtMarks_40 ?_
  refine G.goto (tgt := 45) dX1_errorsAtMarks_41 (by decide) ?_
  exact G.pick [0, 1, 3] k
theorem bX1_errorsAtMarks_44 {X : CT} {σ : St} {o0 o1 : Nat} {i3 t0 : Int} (h0 : isBk o0) (h1 : isSt o1)
    (k : G mdX1_errorsAtMarks X 45 [(0, vr o0), (1, vr o1), (3, vi i3)] [vi 1, vi t0] σ) :
    G mdX1_errorsAtMarks X 44 [(0, vr o0), (1, vr o1), (3, vi i3)] [vi t0] σ := by
  refine G.iconst dX1_errorsAtMarks_44 ?_
  exact G.pick [0, 1, 3] k
theorem bX1_errorsAtMarks_45 {X : CT} {σ : St} {o0 o1 : Nat} {i3 t0 t1 : Int} (h0 : isBk o0) (h1 : isSt o1)
    (k : G mdX1_errorsAtMarks X 47 [(0, vr o0), (1, vr o1), (2, vi (t0 + t1)), (3, vi i3)] [] σ) :
    G mdX1_errorsAtMarks X 45 [(0, vr o0), (1, vr o1), (3, vi i3)] [vi t1, vi t0] σ := by
  refine G.iadd dX1_errorsAtMarks_45 ?_
  refine G.istore_n dX1_errorsAtMarks_46 (by decide) rfl ?_
  exact G.pick [0, 1, 2, 3] k
theorem bX1_errorsAtMarks_47 {X : CT} {σ : St} {o0 o1 : Nat} {i2 i3 : Int} (h0 : isBk o0) (h1 : isSt o1)
    (k : G mdX1_errorsAtMarks X 4 [(0, vr o0), (1, vr o1), (2, vi i2), (3, vi (i3 + 1))] [] σ) :
    G mdX1_errorsAtMarks X 47 [(0, vr o0), (1, vr o1), (2, vi i2), (3, vi i3)] [] σ := by
  refine G.iinc (z := i3) dX1_errorsAtMarks_47 rfl (by decide) rfl ?_
  refine G.goto (tgt := 4) dX1_errorsAtMarks_50 (by decide) ?_
  exact G.pick [0, 1, 2, 3] k
theorem bX1_errorsAtMarks_53 {X : CT} {σ : St} {i2 : Int}  {P : Int → St → Prop} (hX : RI X P) (s : (-2147483648 ≤ i2 ∧ i2 < 2147483648))
    (k : P i2 σ) :
    G mdX1_errorsAtMarks X 53 [(2, vi i2)] [] σ := by
  refine G.iload_n (z := i2) dX1_errorsAtMarks_53 rfl ?_
  exact G.iret hX dX1_errorsAtMarks_54 rfl s k
theorem bX2_light_0 {X : CT} {σ : St} {i0 : Int}  {P : Int → St → Prop} (hX : RI X P) (s : (0 ≤ i0 % 4 ∧ i0 % 4 < rol 105) ∧ (-2147483648 ≤ rot 105 (i0 % 4) ∧ rot 105 (i0 % 4) < 2147483648))
    (k : P (rot 105 (i0 % 4)) σ) :
    G mdX2_light X 0 [(0, vi i0)] [] σ := by
  refine G.getsL (i := 530) dX2_light_0 (by decide +kernel) ?_
  refine G.iload_n (z := i0) dX2_light_3 rfl ?_
  refine G.iconst dX2_light_4 ?_
  refine G.iand3 dX2_light_5 ?_
  refine G.roald dX2_light_6 (Or.inl rfl) s.1 ?_
  exact G.iret hX dX2_light_7 rfl s.2 k
theorem bX2_decided_0 {X : CT} {σ : St} {i0 : Int}  (s : (-2147483648 ≤ i0 ∧ i0 < 2147483648))
    (kt : 11 < i0 → G mdX2_decided X 8 [(0, vi i0)] [] σ)
    (kf : i0 ≤ 11 → G mdX2_decided X 6 [] [] σ) :
    G mdX2_decided X 0 [(0, vi i0)] [] σ := by
  refine G.iload_n (z := i0) dX2_decided_0 rfl ?_
  refine G.bipush dX2_decided_1 (by decide) ?_
  exact G.icmp_gt (tgt := 8) dX2_decided_3 (by decide) s ⟨by decide, by decide⟩ (fun q => G.pick [0] (kt q)) (fun q => G.pick [] (kf q))
theorem bX2_decided_6 {X : CT} {σ : St}  {P : Int → St → Prop} (hX : RI X P)
    (k : P 0 σ) :
    G mdX2_decided X 6 [] [] σ := by
  refine G.iconst dX2_decided_6 ?_
  exact G.iret hX dX2_decided_7 rfl ⟨by decide, by decide⟩ k
theorem bX2_decided_8 {X : CT} {σ : St} {i0 : Int}  (s : (-2147483648 ≤ i0 ∧ i0 < 2147483648))
    (kt : 48 < i0 → G mdX2_decided X 16 [(0, vi i0)] [] σ)
    (kf : i0 ≤ 48 → G mdX2_decided X 14 [] [] σ) :
    G mdX2_decided X 8 [(0, vi i0)] [] σ := by
  refine G.iload_n (z := i0) dX2_decided_8 rfl ?_
  refine G.bipush dX2_decided_9 (by decide) ?_
  exact G.icmp_gt (tgt := 16) dX2_decided_11 (by decide) s ⟨by decide, by decide⟩ (fun q => G.pick [0] (kt q)) (fun q => G.pick [] (kf q))
theorem bX2_decided_14 {X : CT} {σ : St}  {P : Int → St → Prop} (hX : RI X P)
    (k : P 1 σ) :
    G mdX2_decided X 14 [] [] σ := by
  refine G.iconst dX2_decided_14 ?_
  exact G.iret hX dX2_decided_15 rfl ⟨by decide, by decide⟩ k
theorem bX2_decided_16 {X : CT} {σ : St} {i0 : Int}  (s : (-2147483648 ≤ i0 ∧ i0 < 2147483648))
    (kt : 85 < i0 → G mdX2_decided X 26 [] [] σ)
    (kf : i0 ≤ 85 → G mdX2_decided X 22 [] [] σ) :
    G mdX2_decided X 16 [(0, vi i0)] [] σ := by
  refine G.iload_n (z := i0) dX2_decided_16 rfl ?_
  refine G.bipush dX2_decided_17 (by decide) ?_
  exact G.icmp_gt (tgt := 26) dX2_decided_19 (by decide) s ⟨by decide, by decide⟩ (fun q => G.pick [] (kt q)) (fun q => G.pick [] (kf q))
theorem bX2_decided_22 {X : CT} {σ : St} 
    (k : G mdX2_decided X 27 [] [vi 3] σ) :
    G mdX2_decided X 22 [] [] σ := by
  refine G.iconst dX2_decided_22 ?_
  refine G.goto (tgt := 27) dX2_decided_23 (by decide) ?_
  exact G.pick [] k
theorem bX2_decided_26 {X : CT} {σ : St} 
    (k : G mdX2_decided X 27 [] [vi 2] σ) :
    G mdX2_decided X 26 [] [] σ := by
  refine G.iconst dX2_decided_26 ?_
  exact G.pick [] k
theorem bX2_decided_27 {X : CT} {σ : St} {t0 : Int}  {P : Int → St → Prop} (hX : RI X P) (s : (-2147483648 ≤ t0 ∧ t0 < 2147483648))
    (k : P t0 σ) :
    G mdX2_decided X 27 [] [vi t0] σ := by
  exact G.iret hX dX2_decided_27 rfl s k
theorem bX2_turned_0 {X : CT} {σ : St} {i0 i1 : Int}  {P : Int → St → Prop} (hX : RI X P) (s : (0 ≤ i1 % 4 ∧ i1 % 4 < rol 105) ∧ (0 ≤ i0 * (rot 105 (i1 % 4)) ∧ i0 * (rot 105 (i1 % 4)) < 2147483648) ∧ (-2147483648 ≤ (i0 * (rot 105 (i1 % 4))) % 97 ∧ (i0 * (rot 105 (i1 % 4))) % 97 < 2147483648))
    (k : P ((i0 * (rot 105 (i1 % 4))) % 97) σ) :
    G mdX2_turned X 0 [(0, vi i0), (1, vi i1)] [] σ := by
  refine G.iload_n (z := i0) dX2_turned_0 rfl ?_
  refine G.getsL (i := 530) dX2_turned_1 (by decide +kernel) ?_
  refine G.iload_n (z := i1) dX2_turned_4 rfl ?_
  refine G.iconst dX2_turned_5 ?_
  refine G.iand3 dX2_turned_6 ?_
  refine G.roald dX2_turned_7 (Or.inl rfl) s.1 ?_
  refine G.imul dX2_turned_8 ?_
  refine G.bipush dX2_turned_9 (by decide) ?_
  refine G.irem dX2_turned_11 s.2.1 ⟨by decide, by decide⟩ ?_
  exact G.iret hX dX2_turned_12 rfl s.2.2 k
theorem bX2_power_0 {X : CT} {σ : St} {i0 i1 : Int} 
    (k : G mdX2_power X 7 [(2, vi 1), (3, vi i0), (4, vi i1)] [] σ) :
    G mdX2_power X 0 [(0, vi i0), (1, vi i1)] [] σ := by
  refine G.iconst dX2_power_0 ?_
  refine G.istore_n dX2_power_1 (by decide) rfl ?_
  refine G.iload_n (z := i0) dX2_power_2 rfl ?_
  refine G.istore_n dX2_power_3 (by decide) rfl ?_
  refine G.iload_n (z := i1) dX2_power_4 rfl ?_
  refine G.istore dX2_power_5 (by decide) rfl ?_
  exact G.pick [2, 3, 4] k
theorem bX2_power_7 {X : CT} {σ : St} {i2 i3 i4 : Int}  (s : (-2147483648 ≤ i4 ∧ i4 < 2147483648))
    (kt : i4 ≤ 0 → G mdX2_power X 43 [(2, vi i2)] [] σ)
    (kf : 0 < i4 → G mdX2_power X 12 [(2, vi i2), (3, vi i3), (4, vi i4)] [] σ) :
    G mdX2_power X 7 [(2, vi i2), (3, vi i3), (4, vi i4)] [] σ := by
  refine G.iload (z := i4) dX2_power_7 rfl ?_
  exact G.if_le (tgt := 43) dX2_power_9 (by decide) s (fun q => G.pick [2] (kt q)) (fun q => G.pick [2, 3, 4] (kf q))
theorem bX2_power_12 {X : CT} {σ : St} {i2 i3 i4 : Int}  (s : (-2147483648 ≤ i4 % 2 ∧ i4 % 2 < 2147483648))
    (kt : ¬ i4 % 2 = 1 → G mdX2_power X 27 [(2, vi i2), (3, vi i3), (4, vi i4)] [] σ)
    (kf : i4 % 2 = 1 → G mdX2_power X 20 [(2, vi i2), (3, vi i3), (4, vi i4)] [] σ) :
    G mdX2_power X 12 [(2, vi i2), (3, vi i3), (4, vi i4)] [] σ := by
  refine G.iload (z := i4) dX2_power_12 rfl ?_
  refine G.iconst dX2_power_14 ?_
  refine G.iand1 dX2_power_15 ?_
  refine G.iconst dX2_power_16 ?_
  exact G.icmp_ne (tgt := 27) dX2_power_17 (by decide) s ⟨by decide, by decide⟩ (fun q => G.pick [2, 3, 4] (kt q)) (fun q => G.pick [2, 3, 4] (kf q))
theorem bX2_power_20 {X : CT} {σ : St} {i2 i3 i4 : Int}  (s : (0 ≤ i2 * i3 ∧ i2 * i3 < 2147483648))
    (k : G mdX2_power X 27 [(2, vi ((i2 * i3) % 97)), (3, vi i3), (4, vi i4)] [] σ) :
    G mdX2_power X 20 [(2, vi i2), (3, vi i3), (4, vi i4)] [] σ := by
  refine G.iload_n (z := i2) dX2_power_20 rfl ?_
  refine G.iload_n (z := i3) dX2_power_21 rfl ?_
  refine G.imul dX2_power_22 ?_
  refine G.bipush dX2_power_23 (by decide) ?_
  refine G.irem dX2_power_25 s ⟨by decide, by decide⟩ ?_
  refine G.istore_n dX2_power_26 (by decide) rfl ?_
  exact G.pick [2, 3, 4] k
theorem bX2_power_27 {X : CT} {σ : St} {i2 i3 i4 : Int}  (s : (0 ≤ i3 * i3 ∧ i3 * i3 < 2147483648) ∧ (0 ≤ i4 ∧ i4 < 2147483648))
    (k : G mdX2_power X 7 [(2, vi i2), (3, vi ((i3 * i3) % 97)), (4, vi (i4 / 2))] [] σ) :
    G mdX2_power X 27 [(2, vi i2), (3, vi i3), (4, vi i4)] [] σ := by
  refine G.iload_n (z := i3) dX2_power_27 rfl ?_
  refine G.iload_n (z := i3) dX2_power_28 rfl ?_
  refine G.imul dX2_power_29 ?_
  refine G.bipush dX2_power_30 (by decide) ?_
  refine G.irem dX2_power_32 s.1 ⟨by decide, by decide⟩ ?_
  refine G.istore_n dX2_power_33 (by decide) rfl ?_
  refine G.iload (z := i4) dX2_power_34 rfl ?_
  refine G.iconst dX2_power_36 ?_
  refine G.ishr1 dX2_power_37 s.2 ?_
  refine G.istore dX2_power_38 (by decide) rfl ?_
  refine G.goto (tgt := 7) dX2_power_40 (by decide) ?_
  exact G.pick [2, 3, 4] k
theorem bX2_power_43 {X : CT} {σ : St} {i2 : Int}  {P : Int → St → Prop} (hX : RI X P) (s : (-2147483648 ≤ i2 ∧ i2 < 2147483648))
    (k : P i2 σ) :
    G mdX2_power X 43 [(2, vi i2)] [] σ := by
  refine G.iload_n (z := i2) dX2_power_43 rfl ?_
  exact G.iret hX dX2_power_44 rfl s k
theorem bX2_inverse_0 {X : CT} {σ : St} {i0 : Int}  {P : Int → St → Prop} (hM : CI mdX2_power [vi i0, vi 95] σ P)
    (k : ∀ z σ', inI z → P z σ' → G mdX2_inverse X 6 [] [vi z] (σ')) :
    G mdX2_inverse X 0 [(0, vi i0)] [] σ := by
  refine G.iload_n (z := i0) dX2_inverse_0 rfl ?_
  refine G.bipush dX2_inverse_1 (by decide) ?_
  exact G.callSI (as := [vi i0, vi 95]) (rest := []) dX2_inverse_3 rfl vX2_15 (by decide) (Nat.le_of_ble_eq_true rfl) hM (fun z σ' hz q => G.pick [] (k z σ' hz q))
theorem bX2_inverse_6 {X : CT} {σ : St} {t0 : Int}  {P : Int → St → Prop} (hX : RI X P) (s : (-2147483648 ≤ t0 ∧ t0 < 2147483648))
    (k : P t0 σ) :
    G mdX2_inverse X 6 [] [vi t0] σ := by
  exact G.iret hX dX2_inverse_6 rfl s k
theorem bX3_remember_0 {X : CT} {σ : St} {o1 : Nat} (h1 : isSt o1) {P : St → Prop} (hM : CV mdX7_takeFrom [vr (6 * (σ 63 1).toNat + 24), vr o1] σ P) (s : (0 ≤ σ 63 1 ∧ σ 63 1 < 6))
    (k : ∀ σ', P σ' → G mdX3_remember X 13 [(0, vr 63)] [] (σ')) :
    G mdX3_remember X 0 [(0, vr 63), (1, vr o1)] [] σ := by
  refine G.aload_n (o := 63) dX3_remember_0 rfl ?_
  refine G.getR (o' := 64) dX3_remember_1 fX3_11 sh63 rfl ?_
  refine G.aload_n (o := 63) dX3_remember_4 rfl ?_
  refine G.getI (j := 1) dX3_remember_5 fX3_18 sh63 rfl rfl rfl ?_
  refine G.aald dX3_remember_8 sh64 s ?_
  refine G.aload_n (o := o1) dX3_remember_9 rfl ?_
  exact G.callVV (as := [vr o1]) (rest := []) dX3_remember_10 rfl vX3_22 (by decide) (sh_st (st_pa s)) rfl (by decide) (Nat.le_of_ble_eq_true rfl) hM (fun σ' q => G.pick [0] (k σ' q))
theorem bX3_remember_13 {X : CT} {σ : St}  {P : Int → St → Prop} (hM : CI mdJ9_min_7cf53 [vi (((wr σ 63 1 (((σ 63 1) + 1) % 6)) 63 2) + 1), vi 6] (wr σ 63 1 (((σ 63 1) + 1) % 6)) P) (s : (0 ≤ (σ 63 1) + 1 ∧ (σ 63 1) + 1 < 2147483648))
    (k : ∀ z σ', inI z → P z σ' → G mdX3_remember X 38 [] [vi z, vr 63] (σ')) :
    G mdX3_remember X 13 [(0, vr 63)] [] σ := by
  refine G.aload_n (o := 63) dX3_remember_13 rfl ?_
  refine G.aload_n (o := 63) dX3_remember_14 rfl ?_
  refine G.getI (j := 1) dX3_remember_15 fX3_18 sh63 rfl rfl rfl ?_
  refine G.iconst dX3_remember_18 ?_
  refine G.iadd dX3_remember_19 ?_
  refine G.bipush dX3_remember_20 (by decide) ?_
  refine G.irem dX3_remember_22 s ⟨by decide, by decide⟩ ?_
  refine G.putI (j := 1) dX3_remember_23 fX3_18 sh63 rfl rfl rfl rfl rfl ?_
  refine G.aload_n (o := 63) dX3_remember_26 rfl ?_
  refine G.aload_n (o := 63) dX3_remember_27 rfl ?_
  refine G.getI (j := 2) dX3_remember_28 fX3_26 sh63 rfl rfl rfl ?_
  refine G.iconst dX3_remember_31 ?_
  refine G.iadd dX3_remember_32 ?_
  refine G.bipush dX3_remember_33 (by decide) ?_
  exact G.callSI (as := [vi (((wr σ 63 1 (((σ 63 1) + 1) % 6)) 63 2) + 1), vi 6]) (rest := [vr 63]) dX3_remember_35 rfl vX3_29 (by decide) (Nat.le_of_ble_eq_true rfl) hM (fun z σ' hz q => G.pick [] (k z σ' hz q))
theorem bX3_remember_38 {X : CT} {σ : St} {t1 : Int}  {P : St → Prop} (hX : RV X P)
    (k : P (wr σ 63 2 t1)) :
    G mdX3_remember X 38 [] [vi t1, vr 63] σ := by
  refine G.putI (j := 2) dX3_remember_38 fX3_26 sh63 rfl rfl rfl rfl rfl ?_
  exact G.vret hX dX3_remember_41 rfl k
theorem bX3_restore_0 {X : CT} {σ : St} {o1 : Nat} (h1 : isSt o1) {P : St → Prop} (hM : CV mdX7_takeFrom [vr o1, vr (6 * ((wr σ 63 1 ((((σ 63 1) + 6) - 1) % 6)) 63 1).toNat + 24)] (wr σ 63 1 ((((σ 63 1) + 6) - 1) % 6)) P) (s : (0 ≤ ((σ 63 1) + 6) - 1 ∧ ((σ 63 1) + 6) - 1 < 2147483648) ∧ (0 ≤ (wr σ 63 1 ((((σ 63 1) + 6) - 1) % 6)) 63 1 ∧ (wr σ 63 1 ((((σ 63 1) + 6) - 1) % 6)) 63 1 < 6))
    (k : ∀ σ', P σ' → G mdX3_restore X 29 [(0, vr 63)] [] (σ')) :
    G mdX3_restore X 0 [(0, vr 63), (1, vr o1)] [] σ := by
  refine G.aload_n (o := 63) dX3_restore_0 rfl ?_
  refine G.aload_n (o := 63) dX3_restore_1 rfl ?_
  refine G.getI (j := 1) dX3_restore_2 fX3_18 sh63 rfl rfl rfl ?_
  refine G.bipush dX3_restore_5 (by decide) ?_
  refine G.iadd dX3_restore_7 ?_
  refine G.iconst dX3_restore_8 ?_
  refine G.isub dX3_restore_9 ?_
  refine G.bipush dX3_restore_10 (by decide) ?_
  refine G.irem dX3_restore_12 s.1 ⟨by decide, by decide⟩ ?_
  refine G.putI (j := 1) dX3_restore_13 fX3_18 sh63 rfl rfl rfl rfl rfl ?_
  refine G.aload_n (o := o1) dX3_restore_16 rfl ?_
  refine G.aload_n (o := 63) dX3_restore_17 rfl ?_
  refine G.getR (o' := 64) dX3_restore_18 fX3_11 sh63 rfl ?_
  refine G.aload_n (o := 63) dX3_restore_21 rfl ?_
  refine G.getI (j := 1) dX3_restore_22 fX3_18 sh63 rfl rfl rfl ?_
  refine G.aald dX3_restore_25 sh64 s.2 ?_
  exact G.callVV (as := [vr (6 * ((wr σ 63 1 ((((σ 63 1) + 6) - 1) % 6)) 63 1).toNat + 24)]) (rest := []) dX3_restore_26 rfl vX3_22 (by decide) (sh_st h1) rfl (by decide) (Nat.le_of_ble_eq_true rfl) hM (fun σ' q => G.pick [0] (k σ' q))
theorem bX3_restore_29 {X : CT} {σ : St}  {P : Int → St → Prop} (hM : CI mdJ9_max_7cf53 [vi ((σ 63 2) - 1), vi 0] σ P)
    (k : ∀ z σ', inI z → P z σ' → G mdX3_restore X 40 [] [vi z, vr 63] (σ')) :
    G mdX3_restore X 29 [(0, vr 63)] [] σ := by
  refine G.aload_n (o := 63) dX3_restore_29 rfl ?_
  refine G.aload_n (o := 63) dX3_restore_30 rfl ?_
  refine G.getI (j := 2) dX3_restore_31 fX3_26 sh63 rfl rfl rfl ?_
  refine G.iconst dX3_restore_34 ?_
  refine G.isub dX3_restore_35 ?_
  refine G.iconst dX3_restore_36 ?_
  exact G.callSI (as := [vi ((σ 63 2) - 1), vi 0]) (rest := [vr 63]) dX3_restore_37 rfl vX3_35 (by decide) (Nat.le_of_ble_eq_true rfl) hM (fun z σ' hz q => G.pick [] (k z σ' hz q))
theorem bX3_restore_40 {X : CT} {σ : St} {t1 : Int}  {P : St → Prop} (hX : RV X P)
    (k : P (wr σ 63 2 t1)) :
    G mdX3_restore X 40 [] [vi t1, vr 63] σ := by
  refine G.putI (j := 2) dX3_restore_40 fX3_26 sh63 rfl rfl rfl rfl rfl ?_
  exact G.vret hX dX3_restore_43 rfl k
theorem bX4_put_0 {X : CT} {σ : St} {o0 : Nat} {i1 i2 i3 i4 : Int} (h0 : isMx o0) {P : Int → St → Prop} (hM : CI mdJ9_floorMod_7cf53 [vi i1, vi 97] σ P)
    (k : ∀ z σ', inI z → P z σ' → G mdX4_put X 7 [(0, vr o0), (2, vi i2), (3, vi i3), (4, vi i4)] [vi z, vr o0] (σ')) :
    G mdX4_put X 0 [(0, vr o0), (1, vi i1), (2, vi i2), (3, vi i3), (4, vi i4)] [] σ := by
  refine G.aload_n (o := o0) dX4_put_0 rfl ?_
  refine G.iload_n (z := i1) dX4_put_1 rfl ?_
  refine G.bipush dX4_put_2 (by decide) ?_
  exact G.callSI (as := [vi i1, vi 97]) (rest := [vr o0]) dX4_put_4 rfl vX4_9 (by decide) (Nat.le_of_ble_eq_true rfl) hM (fun z σ' hz q => G.pick [0, 2, 3, 4] (k z σ' hz q))
theorem bX4_put_7 {X : CT} {σ : St} {o0 : Nat} {i2 i3 i4 t1 : Int} (h0 : isMx o0) {P : Int → St → Prop} (hM : CI mdJ9_floorMod_7cf53 [vi i2, vi 97] (wr σ o0 0 t1) P)
    (k : ∀ z σ', inI z → P z σ' → G mdX4_put X 17 [(0, vr o0), (3, vi i3), (4, vi i4)] [vi z, vr o0] (σ')) :
    G mdX4_put X 7 [(0, vr o0), (2, vi i2), (3, vi i3), (4, vi i4)] [vi t1, vr o0] σ := by
  refine G.putI (j := 0) dX4_put_7 fX4_15 (sh_mx h0) rfl rfl rfl rfl rfl ?_
  refine G.aload_n (o := o0) dX4_put_10 rfl ?_
  refine G.iload_n (z := i2) dX4_put_11 rfl ?_
  refine G.bipush dX4_put_12 (by decide) ?_
  exact G.callSI (as := [vi i2, vi 97]) (rest := [vr o0]) dX4_put_14 rfl vX4_9 (by decide) (Nat.le_of_ble_eq_true rfl) hM (fun z σ' hz q => G.pick [0, 3, 4] (k z σ' hz q))
theorem bX4_put_17 {X : CT} {σ : St} {o0 : Nat} {i3 i4 t1 : Int} (h0 : isMx o0) {P : Int → St → Prop} (hM : CI mdJ9_floorMod_7cf53 [vi i3, vi 97] (wr σ o0 1 t1) P)
    (k : ∀ z σ', inI z → P z σ' → G mdX4_put X 27 [(0, vr o0), (4, vi i4)] [vi z, vr o0] (σ')) :
    G mdX4_put X 17 [(0, vr o0), (3, vi i3), (4, vi i4)] [vi t1, vr o0] σ := by
  refine G.putI (j := 1) dX4_put_17 fX4_21 (sh_mx h0) rfl rfl rfl rfl rfl ?_
  refine G.aload_n (o := o0) dX4_put_20 rfl ?_
  refine G.iload_n (z := i3) dX4_put_21 rfl ?_
  refine G.bipush dX4_put_22 (by decide) ?_
  exact G.callSI (as := [vi i3, vi 97]) (rest := [vr o0]) dX4_put_24 rfl vX4_9 (by decide) (Nat.le_of_ble_eq_true rfl) hM (fun z σ' hz q => G.pick [0, 4] (k z σ' hz q))
theorem bX4_put_27 {X : CT} {σ : St} {o0 : Nat} {i4 t1 : Int} (h0 : isMx o0) {P : Int → St → Prop} (hM : CI mdJ9_floorMod_7cf53 [vi i4, vi 97] (wr σ o0 2 t1) P)
    (k : ∀ z σ', inI z → P z σ' → G mdX4_put X 38 [] [vi z, vr o0] (σ')) :
    G mdX4_put X 27 [(0, vr o0), (4, vi i4)] [vi t1, vr o0] σ := by
  refine G.putI (j := 2) dX4_put_27 fX4_24 (sh_mx h0) rfl rfl rfl rfl rfl ?_
  refine G.aload_n (o := o0) dX4_put_30 rfl ?_
  refine G.iload (z := i4) dX4_put_31 rfl ?_
  refine G.bipush dX4_put_33 (by decide) ?_
  exact G.callSI (as := [vi i4, vi 97]) (rest := [vr o0]) dX4_put_35 rfl vX4_9 (by decide) (Nat.le_of_ble_eq_true rfl) hM (fun z σ' hz q => G.pick [] (k z σ' hz q))
theorem bX4_put_38 {X : CT} {σ : St} {o0 : Nat} {t1 : Int} (h0 : isMx o0) {P : St → Prop} (hX : RV X P)
    (k : P (wr σ o0 3 t1)) :
    G mdX4_put X 38 [] [vi t1, vr o0] σ := by
  refine G.putI (j := 3) dX4_put_38 fX4_27 (sh_mx h0) rfl rfl rfl rfl rfl ?_
  exact G.vret hX dX4_put_41 rfl k
theorem bX4_entry_0 {X : CT} {σ : St} {o0 : Nat} {i1 : Int} (h0 : isMx o0) (s : (-2147483648 ≤ i1 ∧ i1 < 2147483648))
    (k0 : i1 = 0 → G mdX4_entry X 28 [(0, vr o0)] [] σ)
    (k1 : i1 = 1 → G mdX4_entry X 33 [(0, vr o0)] [] σ)
    (k2 : i1 = 2 → G mdX4_entry X 38 [(0, vr o0)] [] σ)
    (kd : i1 < 0 ∨ 2 < i1 → G mdX4_entry X 43 [(0, vr o0)] [] σ) :
    G mdX4_entry X 0 [(0, vr o0), (1, vi i1)] [] σ := by
  refine G.iload_n (z := i1) dX4_entry_0 rfl ?_
  have hsw : i1 = 0 ∨ i1 = 1 ∨ i1 = 2 ∨ (i1 < 0 ∨ 2 < i1) := by omega
  rcases hsw with q | q | q | q
  · exact G.tswIn (v := 0) (tgt := 28) dX4_entry_1 s q ⟨by decide, by decide⟩ (off := 27) rfl (by decide) (G.pick [0] (k0 q))
  · exact G.tswIn (v := 1) (tgt := 33) dX4_entry_1 s q ⟨by decide, by decide⟩ (off := 32) rfl (by decide) (G.pick [0] (k1 q))
  · exact G.tswIn (v := 2) (tgt := 38) dX4_entry_1 s q ⟨by decide, by decide⟩ (off := 37) rfl (by decide) (G.pick [0] (k2 q))
  · exact G.tswOut (tgt := 43) dX4_entry_1 s q (by decide) (G.pick [0] (kd q))
theorem bX4_entry_28 {X : CT} {σ : St} {o0 : Nat} (h0 : isMx o0) {P : Int → St → Prop} (hX : RI X P) (s : (-2147483648 ≤ σ o0 0 ∧ σ o0 0 < 2147483648))
    (k : P (σ o0 0) σ) :
    G mdX4_entry X 28 [(0, vr o0)] [] σ := by
  refine G.aload_n (o := o0) dX4_entry_28 rfl ?_
  refine G.getI (j := 0) dX4_entry_29 fX4_15 (sh_mx h0) rfl rfl rfl ?_
  exact G.iret hX dX4_entry_32 rfl s k
theorem bX4_entry_33 {X : CT} {σ : St} {o0 : Nat} (h0 : isMx o0) {P : Int → St → Prop} (hX : RI X P) (s : (-2147483648 ≤ σ o0 1 ∧ σ o0 1 < 2147483648))
    (k : P (σ o0 1) σ) :
    G mdX4_entry X 33 [(0, vr o0)] [] σ := by
  refine G.aload_n (o := o0) dX4_entry_33 rfl ?_
  refine G.getI (j := 1) dX4_entry_34 fX4_21 (sh_mx h0) rfl rfl rfl ?_
  exact G.iret hX dX4_entry_37 rfl s k
theorem bX4_entry_38 {X : CT} {σ : St} {o0 : Nat} (h0 : isMx o0) {P : Int → St → Prop} (hX : RI X P) (s : (-2147483648 ≤ σ o0 2 ∧ σ o0 2 < 2147483648))
    (k : P (σ o0 2) σ) :
    G mdX4_entry X 38 [(0, vr o0)] [] σ := by
  refine G.aload_n (o := o0) dX4_entry_38 rfl ?_
  refine G.getI (j := 2) dX4_entry_39 fX4_24 (sh_mx h0) rfl rfl rfl ?_
  exact G.iret hX dX4_entry_42 rfl s k
theorem bX4_entry_43 {X : CT} {σ : St} {o0 : Nat} (h0 : isMx o0) {P : Int → St → Prop} (hX : RI X P) (s : (-2147483648 ≤ σ o0 3 ∧ σ o0 3 < 2147483648))
    (k : P (σ o0 3) σ) :
    G mdX4_entry X 43 [(0, vr o0)] [] σ := by
  refine G.aload_n (o := o0) dX4_entry_43 rfl ?_
  refine G.getI (j := 3) dX4_entry_44 fX4_27 (sh_mx h0) rfl rfl rfl ?_
  exact G.iret hX dX4_entry_47 rfl s k
theorem bX4_determinant_0 {X : CT} {σ : St} {o0 : Nat} (h0 : isMx o0) {P : Int → St → Prop} (hM : CI mdJ9_floorMod_7cf53 [vi (((σ o0 0) * (σ o0 3)) - ((σ o0 1) * (σ o0 2))), vi 97] σ P)
    (k : ∀ z σ', inI z → P z σ' → G mdX4_determinant X 24 [] [vi z] (σ')) :
    G mdX4_determinant X 0 [(0, vr o0)] [] σ := by
  refine G.aload_n (o := o0) dX4_determinant_0 rfl ?_
  refine G.getI (j := 0) dX4_determinant_1 fX4_15 (sh_mx h0) rfl rfl rfl ?_
  refine G.aload_n (o := o0) dX4_determinant_4 rfl ?_
  refine G.getI (j := 3) dX4_determinant_5 fX4_27 (sh_mx h0) rfl rfl rfl ?_
  refine G.imul dX4_determinant_8 ?_
  refine G.aload_n (o := o0) dX4_determinant_9 rfl ?_
  refine G.getI (j := 1) dX4_determinant_10 fX4_21 (sh_mx h0) rfl rfl rfl ?_
  refine G.aload_n (o := o0) dX4_determinant_13 rfl ?_
  refine G.getI (j := 2) dX4_determinant_14 fX4_24 (sh_mx h0) rfl rfl rfl ?_
  refine G.imul dX4_determinant_17 ?_
  refine G.isub dX4_determinant_18 ?_
  refine G.bipush dX4_determinant_19 (by decide) ?_
  exact G.callSI (as := [vi (((σ o0 0) * (σ o0 3)) - ((σ o0 1) * (σ o0 2))), vi 97]) (rest := []) dX4_determinant_21 rfl vX4_9 (by decide) (Nat.le_of_ble_eq_true rfl) hM (fun z σ' hz q => G.pick [] (k z σ' hz q))
theorem bX4_determinant_24 {X : CT} {σ : St} {t0 : Int}  {P : Int → St → Prop} (hX : RI X P) (s : (-2147483648 ≤ t0 ∧ t0 < 2147483648))
    (k : P t0 σ) :
    G mdX4_determinant X 24 [] [vi t0] σ := by
  exact G.iret hX dX4_determinant_24 rfl s k
theorem bX4_invert_0 {X : CT} {σ : St} {o0 : Nat} (h0 : isMx o0) {P : Int → St → Prop} (hM : CI mdX4_determinant [vr o0] σ P)
    (k : ∀ z σ', inI z → P z σ' → G mdX4_invert X 4 [(0, vr o0)] [vi z] (σ')) :
    G mdX4_invert X 0 [(0, vr o0)] [] σ := by
  refine G.aload_n (o := o0) dX4_invert_0 rfl ?_
  exact G.callVI (as := []) (rest := []) dX4_invert_1 rfl vX4_30 (by decide) (sh_mx h0) rfl (by decide) (Nat.le_of_ble_eq_true rfl) hM (fun z σ' hz q => G.pick [0] (k z σ' hz q))
theorem bX4_invert_4 {X : CT} {σ : St} {o0 : Nat} {t0 : Int} (h0 : isMx o0) {P : Int → St → Prop} (hM : CI mdX2_inverse [vi t0] σ P)
    (k : ∀ z σ', inI z → P z σ' → G mdX4_invert X 7 [(0, vr o0)] [vi z] (σ')) :
    G mdX4_invert X 4 [(0, vr o0)] [vi t0] σ := by
  exact G.callSI (as := [vi t0]) (rest := []) dX4_invert_4 rfl vX4_34 (by decide) (Nat.le_of_ble_eq_true rfl) hM (fun z σ' hz q => G.pick [0] (k z σ' hz q))
theorem bX4_invert_7 {X : CT} {σ : St} {o0 : Nat} {t0 : Int} (h0 : isMx o0) {P : St → Prop} (hM : CV mdX4_put [vr o0, vi (t0 * (σ o0 3)), vi ((-t0) * (σ o0 1)), vi ((-t0) * (σ o0 2)), vi (t0 * (σ o0 0))] σ P)
    (k : ∀ σ', P σ' → G mdX4_invert X 38 [] [] (σ')) :
    G mdX4_invert X 7 [(0, vr o0)] [vi t0] σ := by
  refine G.istore_n dX4_invert_7 (by decide) rfl ?_
  refine G.aload_n (o := o0) dX4_invert_8 rfl ?_
  refine G.iload_n (z := t0) dX4_invert_9 rfl ?_
  refine G.aload_n (o := o0) dX4_invert_10 rfl ?_
  refine G.getI (j := 3) dX4_invert_11 fX4_27 (sh_mx h0) rfl rfl rfl ?_
  refine G.imul dX4_invert_14 ?_
  refine G.iload_n (z := t0) dX4_invert_15 rfl ?_
  refine G.ineg dX4_invert_16 ?_
  refine G.aload_n (o := o0) dX4_invert_17 rfl ?_
  refine G.getI (j := 1) dX4_invert_18 fX4_21 (sh_mx h0) rfl rfl rfl ?_
  refine G.imul dX4_invert_21 ?_
  refine G.iload_n (z := t0) dX4_invert_22 rfl ?_
  refine G.ineg dX4_invert_23 ?_
  refine G.aload_n (o := o0) dX4_invert_24 rfl ?_
  refine G.getI (j := 2) dX4_invert_25 fX4_24 (sh_mx h0) rfl rfl rfl ?_
  refine G.imul dX4_invert_28 ?_
  refine G.iload_n (z := t0) dX4_invert_29 rfl ?_
  refine G.aload_n (o := o0) dX4_invert_30 rfl ?_
  refine G.getI (j := 0) dX4_invert_31 fX4_15 (sh_mx h0) rfl rfl rfl ?_
  refine G.imul dX4_invert_34 ?_
  exact G.callVV (as := [vi (t0 * (σ o0 3)), vi ((-t0) * (σ o0 1)), vi ((-t0) * (σ o0 2)), vi (t0 * (σ o0 0))]) (rest := []) dX4_invert_35 rfl vX4_40 (by decide) (sh_mx h0) rfl (by decide) (Nat.le_of_ble_eq_true rfl) hM (fun σ' q => G.pick [] (k σ' q))
theorem bX4_invert_38 {X : CT} {σ : St}  {P : St → Prop} (hX : RV X P)
    (k : P σ) :
    G mdX4_invert X 38 [] [] σ := by
  exact G.vret hX dX4_invert_38 rfl k
theorem bX4_multiplyFromLeft_0 {X : CT} {σ : St} {o0 o1 : Nat} (h0 : isMx o0) (h1 : isMx o1) {P : St → Prop} (hM : CV mdX4_put [vr o0, vi (((σ o1 0) * (σ o0 0)) + ((σ o1 1) * (σ o0 2))), vi (((σ o1 0) * (σ o0 1)) + ((σ o1 1) * (σ o0 3))), vi (((σ o1 2) * (σ o0 0)) + ((σ o1 3) * (σ o0 2))), vi (((σ o1 2) * (σ o0 1)) + ((σ o1 3) * (σ o0 3)))] σ P)
    (k : ∀ σ', P σ' → G mdX4_multiplyFromLeft X 80 [] [] (σ')) :
    G mdX4_multiplyFromLeft X 0 [(0, vr o0), (1, vr o1)] [] σ := by
  refine G.aload_n (o := o0) dX4_multiplyFromLeft_0 rfl ?_
  refine G.aload_n (o := o1) dX4_multiplyFromLeft_1 rfl ?_
  refine G.getI (j := 0) dX4_multiplyFromLeft_2 fX4_15 (sh_mx h1) rfl rfl rfl ?_
  refine G.aload_n (o := o0) dX4_multiplyFromLeft_5 rfl ?_
  refine G.getI (j := 0) dX4_multiplyFromLeft_6 fX4_15 (sh_mx h0) rfl rfl rfl ?_
  refine G.imul dX4_multiplyFromLeft_9 ?_
  refine G.aload_n (o := o1) dX4_multiplyFromLeft_10 rfl ?_
  refine G.getI (j := 1) dX4_multiplyFromLeft_11 fX4_21 (sh_mx h1) rfl rfl rfl ?_
  refine G.aload_n (o := o0) dX4_multiplyFromLeft_14 rfl ?_
  refine G.getI (j := 2) dX4_multiplyFromLeft_15 fX4_24 (sh_mx h0) rfl rfl rfl ?_
  refine G.imul dX4_multiplyFromLeft_18 ?_
  refine G.iadd dX4_multiplyFromLeft_19 ?_
  refine G.aload_n (o := o1) dX4_multiplyFromLeft_20 rfl ?_
  refine G.getI (j := 0) dX4_multiplyFromLeft_21 fX4_15 (sh_mx h1) rfl rfl rfl ?_
  refine G.aload_n (o := o0) dX4_multiplyFromLeft_24 rfl ?_
  refine G.getI (j := 1) dX4_multiplyFromLeft_25 fX4_21 (sh_mx h0) rfl rfl rfl ?_
  refine G.imul dX4_multiplyFromLeft_28 ?_
  refine G.aload_n (o := o1) dX4_multiplyFromLeft_29 rfl ?_
  refine G.getI (j := 1) dX4_multiplyFromLeft_30 fX4_21 (sh_mx h1) rfl rfl rfl ?_
  refine G.aload_n (o := o0) dX4_multiplyFromLeft_33 rfl ?_
  refine G.getI (j := 3) dX4_multiplyFromLeft_34 fX4_27 (sh_mx h0) rfl rfl rfl ?_
  refine G.imul dX4_multiplyFromLeft_37 ?_
  refine G.iadd dX4_multiplyFromLeft_38 ?_
  refine G.aload_n (o := o1) dX4_multiplyFromLeft_39 rfl ?_
  refine G.getI (j := 2) dX4_multiplyFromLeft_40 fX4_24 (sh_mx h1) rfl rfl rfl ?_
  refine G.aload_n (o := o0) dX4_multiplyFromLeft_43 rfl ?_
  refine G.getI (j := 0) dX4_multiplyFromLeft_44 fX4_15 (sh_mx h0) rfl rfl rfl ?_
  refine G.imul dX4_multiplyFromLeft_47 ?_
  refine G.aload_n (o := o1) dX4_multiplyFromLeft_48 rfl ?_
  refine G.getI (j := 3) dX4_multiplyFromLeft_49 fX4_27 (sh_mx h1) rfl rfl rfl ?_
  refine G.aload_n (o := o0) dX4_multiplyFromLeft_52 rfl ?_
  refine G.getI (j := 2) dX4_multiplyFromLeft_53 fX4_24 (sh_mx h0) rfl rfl rfl ?_
  refine G.imul dX4_multiplyFromLeft_56 ?_
  refine G.iadd dX4_multiplyFromLeft_57 ?_
  refine G.aload_n (o := o1) dX4_multiplyFromLeft_58 rfl ?_
  refine G.getI (j := 2) dX4_multiplyFromLeft_59 fX4_24 (sh_mx h1) rfl rfl rfl ?_
  refine G.aload_n (o := o0) dX4_multiplyFromLeft_62 rfl ?_
  refine G.getI (j := 1) dX4_multiplyFromLeft_63 fX4_21 (sh_mx h0) rfl rfl rfl ?_
  refine G.imul dX4_multiplyFromLeft_66 ?_
  refine G.aload_n (o := o1) dX4_multiplyFromLeft_67 rfl ?_
  refine G.getI (j := 3) dX4_multiplyFromLeft_68 fX4_27 (sh_mx h1) rfl rfl rfl ?_
  refine G.aload_n (o := o0) dX4_multiplyFromLeft_71 rfl ?_
  refine G.getI (j := 3) dX4_multiplyFromLeft_72 fX4_27 (sh_mx h0) rfl rfl rfl ?_
  refine G.imul dX4_multiplyFromLeft_75 ?_
  refine G.iadd dX4_multiplyFromLeft_76 ?_
  exact G.callVV (as := [vi (((σ o1 0) * (σ o0 0)) + ((σ o1 1) * (σ o0 2))), vi (((σ o1 0) * (σ o0 1)) + ((σ o1 1) * (σ o0 3))), vi (((σ o1 2) * (σ o0 0)) + ((σ o1 3) * (σ o0 2))), vi (((σ o1 2) * (σ o0 1)) + ((σ o1 3) * (σ o0 3)))]) (rest := []) dX4_multiplyFromLeft_77 rfl vX4_40 (by decide) (sh_mx h0) rfl (by decide) (Nat.le_of_ble_eq_true rfl) hM (fun σ' q => G.pick [] (k σ' q))
theorem bX4_multiplyFromLeft_80 {X : CT} {σ : St}  {P : St → Prop} (hX : RV X P)
    (k : P σ) :
    G mdX4_multiplyFromLeft X 80 [] [] σ := by
  exact G.vret hX dX4_multiplyFromLeft_80 rfl k
theorem bX5_power_0 {X : CT} {σ : St} {i0 i1 : Int} 
    (k : G mdX5_power X 4 [(0, vi i0), (1, vi i1), (2, vi 1), (3, vi 0)] [] σ) :
    G mdX5_power X 0 [(0, vi i0), (1, vi i1)] [] σ := by
  refine G.iconst dX5_power_0 ?_
  refine G.istore_n dX5_power_1 (by decide) rfl ?_
  refine G.iconst dX5_power_2 ?_
  refine G.istore_n dX5_power_3 (by decide) rfl ?_
  exact G.pick [0, 1, 2, 3] k
theorem bX5_power_4 {X : CT} {σ : St} {i0 i1 i2 i3 : Int}  (s : (-2147483648 ≤ i3 ∧ i3 < 2147483648) ∧ (-2147483648 ≤ i1 ∧ i1 < 2147483648))
    (kt : i1 ≤ i3 → G mdX5_power X 19 [(2, vi i2)] [] σ)
    (kf : i3 < i1 → G mdX5_power X 9 [(0, vi i0), (1, vi i1), (2, vi i2), (3, vi i3)] [] σ) :
    G mdX5_power X 4 [(0, vi i0), (1, vi i1), (2, vi i2), (3, vi i3)] [] σ := by
  refine G.iload_n (z := i3) dX5_power_4 rfl ?_
  refine G.iload_n (z := i1) dX5_power_5 rfl ?_
  exact G.icmp_ge (tgt := 19) dX5_power_6 (by decide) s.1 s.2 (fun q => G.pick [2] (kt q)) (fun q => G.pick [0, 1, 2, 3] (kf q))
theorem bX5_power_9 {X : CT} {σ : St} {i0 i1 i2 i3 : Int} 
    (k : G mdX5_power X 4 [(0, vi i0), (1, vi i1), (2, vi (i2 * i0)), (3, vi (i3 + 1))] [] σ) :
    G mdX5_power X 9 [(0, vi i0), (1, vi i1), (2, vi i2), (3, vi i3)] [] σ := by
  refine G.iload_n (z := i2) dX5_power_9 rfl ?_
  refine G.iload_n (z := i0) dX5_power_10 rfl ?_
  refine G.imul dX5_power_11 ?_
  refine G.istore_n dX5_power_12 (by decide) rfl ?_
  refine G.iinc (z := i3) dX5_power_13 rfl (by decide) rfl ?_
  refine G.goto (tgt := 4) dX5_power_16 (by decide) ?_
  exact G.pick [0, 1, 2, 3] k
theorem bX5_power_19 {X : CT} {σ : St} {i2 : Int}  {P : Int → St → Prop} (hX : RI X P) (s : (-2147483648 ≤ i2 ∧ i2 < 2147483648))
    (k : P i2 σ) :
    G mdX5_power X 19 [(2, vi i2)] [] σ := by
  refine G.iload_n (z := i2) dX5_power_19 rfl ?_
  exact G.iret hX dX5_power_20 rfl s k
theorem bX5_atMost_0 {X : CT} {σ : St} {i0 i1 i2 : Int} 
    (k : G mdX5_atMost X 8 [(0, vi i0), (1, vi i1), (2, vi i2), (3, vi 0), (4, vi 1), (5, vi 0)] [] σ) :
    G mdX5_atMost X 0 [(0, vi i0), (1, vi i1), (2, vi i2)] [] σ := by
  refine G.iconst dX5_atMost_0 ?_
  refine G.istore_n dX5_atMost_1 (by decide) rfl ?_
  refine G.iconst dX5_atMost_2 ?_
  refine G.istore dX5_atMost_3 (by decide) rfl ?_
  refine G.iconst dX5_atMost_5 ?_
  refine G.istore dX5_atMost_6 (by decide) rfl ?_
  exact G.pick [0, 1, 2, 3, 4, 5] k
theorem bX5_atMost_8 {X : CT} {σ : St} {i0 i1 i2 i3 i4 i5 : Int}  (s : (-2147483648 ≤ i5 ∧ i5 < 2147483648) ∧ (-2147483648 ≤ i1 ∧ i1 < 2147483648))
    (kt : i1 < i5 → G mdX5_atMost X 64 [(3, vi i3)] [] σ)
    (kf : i5 ≤ i1 → G mdX5_atMost X 14 [(0, vi i0), (1, vi i1), (2, vi i2), (3, vi i3), (4, vi i4), (5, vi i5)] [] σ) :
    G mdX5_atMost X 8 [(0, vi i0), (1, vi i1), (2, vi i2), (3, vi i3), (4, vi i4), (5, vi i5)] [] σ := by
  refine G.iload (z := i5) dX5_atMost_8 rfl ?_
  refine G.iload_n (z := i1) dX5_atMost_10 rfl ?_
  exact G.icmp_gt (tgt := 64) dX5_atMost_11 (by decide) s.1 s.2 (fun q => G.pick [3] (kt q)) (fun q => G.pick [0, 1, 2, 3, 4, 5] (kf q))
theorem bX5_atMost_14 {X : CT} {σ : St} {i0 i1 i2 i3 i4 i5 : Int}  (s : (-2147483648 ≤ i5 ∧ i5 < 2147483648) ∧ (-2147483648 ≤ i2 ∧ i2 < 2147483648))
    (kt : i2 < i5 → G mdX5_atMost X 64 [(3, vi i3)] [] σ)
    (kf : i5 ≤ i2 → G mdX5_atMost X 20 [(0, vi i0), (1, vi i1), (2, vi i2), (3, vi i3), (4, vi i4), (5, vi i5)] [] σ) :
    G mdX5_atMost X 14 [(0, vi i0), (1, vi i1), (2, vi i2), (3, vi i3), (4, vi i4), (5, vi i5)] [] σ := by
  refine G.iload (z := i5) dX5_atMost_14 rfl ?_
  refine G.iload_n (z := i2) dX5_atMost_16 rfl ?_
  exact G.icmp_gt (tgt := 64) dX5_atMost_17 (by decide) s.1 s.2 (fun q => G.pick [3] (kt q)) (fun q => G.pick [0, 1, 2, 3, 4, 5] (kf q))
theorem bX5_atMost_20 {X : CT} {σ : St} {i0 i1 i2 i3 i4 i5 : Int}  {P : Int → St → Prop} (hM : CI mdX5_power [vi i0, vi i5] σ P)
    (k : ∀ z σ', inI z → P z σ' → G mdX5_atMost X 29 [(0, vi i0), (1, vi i1), (2, vi i2), (4, vi i4), (5, vi i5)] [vi z, vi i4, vi i3] (σ')) :
    G mdX5_atMost X 20 [(0, vi i0), (1, vi i1), (2, vi i2), (3, vi i3), (4, vi i4), (5, vi i5)] [] σ := by
  refine G.iload_n (z := i3) dX5_atMost_20 rfl ?_
  refine G.iload (z := i4) dX5_atMost_21 rfl ?_
  refine G.iload_n (z := i0) dX5_atMost_23 rfl ?_
  refine G.iload (z := i5) dX5_atMost_24 rfl ?_
  exact G.callSI (as := [vi i0, vi i5]) (rest := [vi i4, vi i3]) dX5_atMost_26 rfl vX5_7 (by decide) (Nat.le_of_ble_eq_true rfl) hM (fun z σ' hz q => G.pick [0, 1, 2, 4, 5] (k z σ' hz q))
theorem bX5_atMost_29 {X : CT} {σ : St} {i0 i1 i2 i4 i5 t0 t1 t2 : Int}  {P : Int → St → Prop} (hM : CI mdX5_power [vi (10 - i0), vi (i1 - i5)] σ P)
    (k : ∀ z σ', inI z → P z σ' → G mdX5_atMost X 41 [(0, vi i0), (1, vi i1), (2, vi i2), (4, vi i4), (5, vi i5)] [vi z, vi (t1 * t2), vi t0] (σ')) :
    G mdX5_atMost X 29 [(0, vi i0), (1, vi i1), (2, vi i2), (4, vi i4), (5, vi i5)] [vi t2, vi t1, vi t0] σ := by
  refine G.imul dX5_atMost_29 ?_
  refine G.bipush dX5_atMost_30 (by decide) ?_
  refine G.iload_n (z := i0) dX5_atMost_32 rfl ?_
  refine G.isub dX5_atMost_33 ?_
  refine G.iload_n (z := i1) dX5_atMost_34 rfl ?_
  refine G.iload (z := i5) dX5_atMost_35 rfl ?_
  refine G.isub dX5_atMost_37 ?_
  exact G.callSI (as := [vi (10 - i0), vi (i1 - i5)]) (rest := [vi (t1 * t2), vi t0]) dX5_atMost_38 rfl vX5_7 (by decide) (Nat.le_of_ble_eq_true rfl) hM (fun z σ' hz q => G.pick [0, 1, 2, 4, 5] (k z σ' hz q))
theorem bX5_atMost_41 {X : CT} {σ : St} {i0 i1 i2 i4 i5 t0 t1 t2 : Int}  (s : (0 ≤ i4 * (i1 - i5) ∧ i4 * (i1 - i5) < 2147483648) ∧ (0 < i5 + 1 ∧ i5 + 1 < 2147483648))
    (k : G mdX5_atMost X 8 [(0, vi i0), (1, vi i1), (2, vi i2), (3, vi (t0 + (t1 * t2))), (4, vi ((i4 * (i1 - i5)) / (i5 + 1))), (5, vi (i5 + 1))] [] σ) :
    G mdX5_atMost X 41 [(0, vi i0), (1, vi i1), (2, vi i2), (4, vi i4), (5, vi i5)] [vi t2, vi t1, vi t0] σ := by
  refine G.imul dX5_atMost_41 ?_
  refine G.iadd dX5_atMost_42 ?_
  refine G.istore_n dX5_atMost_43 (by decide) rfl ?_
  refine G.iload (z := i4) dX5_atMost_44 rfl ?_
  refine G.iload_n (z := i1) dX5_atMost_46 rfl ?_
  refine G.iload (z := i5) dX5_atMost_47 rfl ?_
  refine G.isub dX5_atMost_49 ?_
  refine G.imul dX5_atMost_50 ?_
  refine G.iload (z := i5) dX5_atMost_51 rfl ?_
  refine G.iconst dX5_atMost_53 ?_
  refine G.iadd dX5_atMost_54 ?_
  refine G.idiv dX5_atMost_55 s.1 s.2 ?_
  refine G.istore dX5_atMost_56 (by decide) rfl ?_
  refine G.iinc (z := i5) dX5_atMost_58 rfl (by decide) rfl ?_
  refine G.goto (tgt := 8) dX5_atMost_61 (by decide) ?_
  exact G.pick [0, 1, 2, 3, 4, 5] k
theorem bX5_atMost_64 {X : CT} {σ : St} {i3 : Int}  {P : Int → St → Prop} (hX : RI X P) (s : (-2147483648 ≤ i3 ∧ i3 < 2147483648))
    (k : P i3 σ) :
    G mdX5_atMost X 64 [(3, vi i3)] [] σ := by
  refine G.iload_n (z := i3) dX5_atMost_64 rfl ?_
  exact G.iret hX dX5_atMost_65 rfl s k
theorem bX5_commonDivisor_0 {X : CT} {σ : St} {i0 i1 : Int}  {P : Int → St → Prop} (hM : CI mdX5_sharedPower [vi i0, vi 2, vi i1] σ P)
    (k : ∀ z σ', inI z → P z σ' → G mdX5_commonDivisor X 6 [(0, vi i0), (1, vi i1)] [vi z] (σ')) :
    G mdX5_commonDivisor X 0 [(0, vi i0), (1, vi i1)] [] σ := by
  refine G.iload_n (z := i0) dX5_commonDivisor_0 rfl ?_
  refine G.iconst dX5_commonDivisor_1 ?_
  refine G.iload_n (z := i1) dX5_commonDivisor_2 rfl ?_
  exact G.callSI (as := [vi i0, vi 2, vi i1]) (rest := []) dX5_commonDivisor_3 rfl vX5_13 (by decide) (Nat.le_of_ble_eq_true rfl) hM (fun z σ' hz q => G.pick [0, 1] (k z σ' hz q))
theorem bX5_commonDivisor_6 {X : CT} {σ : St} {i0 i1 t0 : Int}  {P : Int → St → Prop} (hM : CI mdX5_sharedPower [vi i0, vi 5, vi i1] σ P)
    (k : ∀ z σ', inI z → P z σ' → G mdX5_commonDivisor X 12 [] [vi z, vi t0] (σ')) :
    G mdX5_commonDivisor X 6 [(0, vi i0), (1, vi i1)] [vi t0] σ := by
  refine G.iload_n (z := i0) dX5_commonDivisor_6 rfl ?_
  refine G.iconst dX5_commonDivisor_7 ?_
  refine G.iload_n (z := i1) dX5_commonDivisor_8 rfl ?_
  exact G.callSI (as := [vi i0, vi 5, vi i1]) (rest := [vi t0]) dX5_commonDivisor_9 rfl vX5_13 (by decide) (Nat.le_of_ble_eq_true rfl) hM (fun z σ' hz q => G.pick [] (k z σ' hz q))
theorem bX5_commonDivisor_12 {X : CT} {σ : St} {t0 t1 : Int}  {P : Int → St → Prop} (hX : RI X P) (s : (-2147483648 ≤ t0 * t1 ∧ t0 * t1 < 2147483648))
    (k : P (t0 * t1) σ) :
    G mdX5_commonDivisor X 12 [] [vi t1, vi t0] σ := by
  refine G.imul dX5_commonDivisor_12 ?_
  exact G.iret hX dX5_commonDivisor_13 rfl s k
theorem bX5_sharedPower_0 {X : CT} {σ : St} {i0 i1 i2 : Int} 
    (k : G mdX5_sharedPower X 5 [(0, vi i0), (1, vi i1), (2, vi i2), (3, vi 1), (4, vi 0)] [] σ) :
    G mdX5_sharedPower X 0 [(0, vi i0), (1, vi i1), (2, vi i2)] [] σ := by
  refine G.iconst dX5_sharedPower_0 ?_
  refine G.istore_n dX5_sharedPower_1 (by decide) rfl ?_
  refine G.iconst dX5_sharedPower_2 ?_
  refine G.istore dX5_sharedPower_3 (by decide) rfl ?_
  exact G.pick [0, 1, 2, 3, 4] k
theorem bX5_sharedPower_5 {X : CT} {σ : St} {i0 i1 i2 i3 i4 : Int}  (s : (-2147483648 ≤ i4 ∧ i4 < 2147483648) ∧ (-2147483648 ≤ i2 ∧ i2 < 2147483648))
    (kt : i2 ≤ i4 → G mdX5_sharedPower X 29 [(3, vi i3)] [] σ)
    (kf : i4 < i2 → G mdX5_sharedPower X 11 [(0, vi i0), (1, vi i1), (2, vi i2), (3, vi i3), (4, vi i4)] [] σ) :
    G mdX5_sharedPower X 5 [(0, vi i0), (1, vi i1), (2, vi i2), (3, vi i3), (4, vi i4)] [] σ := by
  refine G.iload (z := i4) dX5_sharedPower_5 rfl ?_
  refine G.iload_n (z := i2) dX5_sharedPower_7 rfl ?_
  exact G.icmp_ge (tgt := 29) dX5_sharedPower_8 (by decide) s.1 s.2 (fun q => G.pick [3] (kt q)) (fun q => G.pick [0, 1, 2, 3, 4] (kf q))
theorem bX5_sharedPower_11 {X : CT} {σ : St} {i0 i1 i2 i3 i4 : Int}  (s : (0 ≤ i0 ∧ i0 < 2147483648) ∧ (0 < i3 * i1 ∧ i3 * i1 < 2147483648) ∧ (-2147483648 ≤ i0 % (i3 * i1) ∧ i0 % (i3 * i1) < 2147483648))
    (kt : ¬ i0 % (i3 * i1) = 0 → G mdX5_sharedPower X 29 [(3, vi i3)] [] σ)
    (kf : i0 % (i3 * i1) = 0 → G mdX5_sharedPower X 19 [(0, vi i0), (1, vi i1), (2, vi i2), (3, vi i3), (4, vi i4)] [] σ) :
    G mdX5_sharedPower X 11 [(0, vi i0), (1, vi i1), (2, vi i2), (3, vi i3), (4, vi i4)] [] σ := by
  refine G.iload_n (z := i0) dX5_sharedPower_11 rfl ?_
  refine G.iload_n (z := i3) dX5_sharedPower_12 rfl ?_
  refine G.iload_n (z := i1) dX5_sharedPower_13 rfl ?_
  refine G.imul dX5_sharedPower_14 ?_
  refine G.irem dX5_sharedPower_15 s.1 s.2.1 ?_
  exact G.if_ne (tgt := 29) dX5_sharedPower_16 (by decide) s.2.2 (fun q => G.pick [3] (kt q)) (fun q => G.pick [0, 1, 2, 3, 4] (kf q))
theorem bX5_sharedPower_19 {X : CT} {σ : St} {i0 i1 i2 i3 i4 : Int} 
    (k : G mdX5_sharedPower X 5 [(0, vi i0), (1, vi i1), (2, vi i2), (3, vi (i3 * i1)), (4, vi (i4 + 1))] [] σ) :
    G mdX5_sharedPower X 19 [(0, vi i0), (1, vi i1), (2, vi i2), (3, vi i3), (4, vi i4)] [] σ := by
  refine G.iload_n (z := i3) dX5_sharedPower_19 rfl ?_
  refine G.iload_n (z := i1) dX5_sharedPower_20 rfl ?_
  refine G.imul dX5_sharedPower_21 ?_
  refine G.istore_n dX5_sharedPower_22 (by decide) rfl ?_
  refine G.iinc (z := i4) dX5_sharedPower_23 rfl (by decide) rfl ?_
  refine G.goto (tgt := 5) dX5_sharedPower_26 (by decide) ?_
  exact G.pick [0, 1, 2, 3, 4] k
theorem bX5_sharedPower_29 {X : CT} {σ : St} {i3 : Int}  {P : Int → St → Prop} (hX : RI X P) (s : (-2147483648 ≤ i3 ∧ i3 < 2147483648))
    (k : P i3 σ) :
    G mdX5_sharedPower X 29 [(3, vi i3)] [] σ := by
  refine G.iload_n (z := i3) dX5_sharedPower_29 rfl ?_
  exact G.iret hX dX5_sharedPower_30 rfl s k
theorem bX6_append_0 {X : CT} {σ : St} {i1 i2 : Int}  (s : (-2147483648 ≤ σ 68 2 ∧ σ 68 2 < 2147483648))
    (kt : σ 68 2 < 6 → G mdX6_append X 11 [(0, vr 68), (1, vi i1), (2, vi i2)] [] σ)
    (kf : 6 ≤ σ 68 2 → G mdX6_append X 9 [] [] σ) :
    G mdX6_append X 0 [(0, vr 68), (1, vi i1), (2, vi i2)] [] σ := by
  refine G.aload_n (o := 68) dX6_append_0 rfl ?_
  refine G.getI (j := 2) dX6_append_1 fX6_18 sh68 rfl rfl rfl ?_
  refine G.bipush dX6_append_4 (by decide) ?_
  exact G.icmp_lt (tgt := 11) dX6_append_6 (by decide) s ⟨by decide, by decide⟩ (fun q => G.pick [0, 1, 2] (kt q)) (fun q => G.pick [] (kf q))
theorem bX6_append_9 {X : CT} {σ : St}  {P : Int → St → Prop} (hX : RI X P)
    (k : P 0 σ) :
    G mdX6_append X 9 [] [] σ := by
  refine G.iconst dX6_append_9 ?_
  exact G.zret hX dX6_append_10 rfl (Or.inl rfl) k
theorem bX6_append_11 {X : CT} {σ : St} {i1 i2 : Int}  {P : Int → St → Prop} (hX : RI X P) (s : (0 ≤ σ 68 2 ∧ σ 68 2 < 6) ∧ (0 ≤ (wr σ 69 (σ 68 2) i1) 68 2 ∧ (wr σ 69 (σ 68 2) i1) 68 2 < 6))
    (k : P 1 (wr (wr (wr σ 69 (σ 68 2) i1) 70 ((wr σ 69 (σ 68 2) i1) 68 2) i2) 68 2 (((wr (wr σ 69 (σ 68 2) i1) 70 ((wr σ 69 (σ 68 2) i1) 68 2) i2) 68 2) + 1))) :
    G mdX6_append X 11 [(0, vr 68), (1, vi i1), (2, vi i2)] [] σ := by
  refine G.aload_n (o := 68) dX6_append_11 rfl ?_
  refine G.getR (o' := 69) dX6_append_12 fX6_9 sh68 rfl ?_
  refine G.aload_n (o := 68) dX6_append_15 rfl ?_
  refine G.getI (j := 2) dX6_append_16 fX6_18 sh68 rfl rfl rfl ?_
  refine G.iload_n (z := i1) dX6_append_19 rfl ?_
  refine G.iast dX6_append_20 sh69 s.1 ?_
  refine G.aload_n (o := 68) dX6_append_21 rfl ?_
  refine G.getR (o' := 70) dX6_append_22 fX6_15 sh68 rfl ?_
  refine G.aload_n (o := 68) dX6_append_25 rfl ?_
  refine G.getI (j := 2) dX6_append_26 fX6_18 sh68 rfl rfl rfl ?_
  refine G.iload_n (z := i2) dX6_append_29 rfl ?_
  refine G.iast dX6_append_30 sh70 s.2 ?_
  refine G.aload_n (o := 68) dX6_append_31 rfl ?_
  refine G.dup dX6_append_32 ?_
  refine G.getI (j := 2) dX6_append_33 fX6_18 sh68 rfl rfl rfl ?_
  refine G.iconst dX6_append_36 ?_
  refine G.iadd dX6_append_37 ?_
  refine G.putI (j := 2) dX6_append_38 fX6_18 sh68 rfl rfl rfl rfl rfl ?_
  refine G.iconst dX6_append_41 ?_
  exact G.zret hX dX6_append_42 rfl (Or.inr rfl) k
theorem bX6_areTrueOf_0 {X : CT} {σ : St} {o1 : Nat} (h1 : isBk o1)
    (k : G mdX6_areTrueOf X 2 [(0, vr 68), (1, vr o1), (2, vi 0)] [] σ) :
    G mdX6_areTrueOf X 0 [(0, vr 68), (1, vr o1)] [] σ := by
  refine G.iconst dX6_areTrueOf_0 ?_
  refine G.istore_n dX6_areTrueOf_1 (by decide) rfl ?_
  exact G.pick [0, 1, 2] k
theorem bX6_areTrueOf_2 {X : CT} {σ : St} {o1 : Nat} {i2 : Int} (h1 : isBk o1) (s : (-2147483648 ≤ i2 ∧ i2 < 2147483648) ∧ (-2147483648 ≤ σ 68 2 ∧ σ 68 2 < 2147483648))
    (kt : σ 68 2 ≤ i2 → G mdX6_areTrueOf X 41 [] [] σ)
    (kf : i2 < σ 68 2 → G mdX6_areTrueOf X 10 [(0, vr 68), (1, vr o1), (2, vi i2)] [] σ) :
    G mdX6_areTrueOf X 2 [(0, vr 68), (1, vr o1), (2, vi i2)] [] σ := by
  refine G.iload_n (z := i2) dX6_areTrueOf_2 rfl ?_
  refine G.aload_n (o := 68) dX6_areTrueOf_3 rfl ?_
  refine G.getI (j := 2) dX6_areTrueOf_4 fX6_18 sh68 rfl rfl rfl ?_
  exact G.icmp_ge (tgt := 41) dX6_areTrueOf_7 (by decide) s.1 s.2 (fun q => G.pick [] (kt q)) (fun q => G.pick [0, 1, 2] (kf q))
theorem bX6_areTrueOf_10 {X : CT} {σ : St} {o1 : Nat} {i2 : Int} (h1 : isBk o1) {P : Int → St → Prop} (hM : CI mdX2_decided [vi (σ (o1 + 1) (σ 69 i2))] σ P) (s : (0 ≤ i2 ∧ i2 < 6) ∧ (0 ≤ σ 69 i2 ∧ σ 69 i2 < 32))
    (k : ∀ z σ', inI z → P z σ' → G mdX6_areTrueOf X 24 [(0, vr 68), (1, vr o1), (2, vi i2)] [vi z] (σ')) :
    G mdX6_areTrueOf X 10 [(0, vr 68), (1, vr o1), (2, vi i2)] [] σ := by
  refine G.aload_n (o := o1) dX6_areTrueOf_10 rfl ?_
  refine G.getR (o' := (o1 + 1)) dX6_areTrueOf_11 fX6_22 (sh_bk h1) rfl ?_
  refine G.aload_n (o := 68) dX6_areTrueOf_14 rfl ?_
  refine G.getR (o' := 69) dX6_areTrueOf_15 fX6_9 sh68 rfl ?_
  refine G.iload_n (z := i2) dX6_areTrueOf_18 rfl ?_
  refine G.iald dX6_areTrueOf_19 sh69 s.1 ?_
  refine G.iald dX6_areTrueOf_20 (sh_bkn h1) s.2 ?_
  exact G.callSI (as := [vi (σ (o1 + 1) (σ 69 i2))]) (rest := []) dX6_areTrueOf_21 rfl vX6_27 (by decide) (Nat.le_of_ble_eq_true rfl) hM (fun z σ' hz q => G.pick [0, 1, 2] (k z σ' hz q))
theorem bX6_areTrueOf_24 {X : CT} {σ : St} {o1 : Nat} {i2 t0 : Int} (h1 : isBk o1) (s : (0 ≤ i2 ∧ i2 < 6) ∧ (-2147483648 ≤ t0 ∧ t0 < 2147483648) ∧ (-2147483648 ≤ σ 70 i2 ∧ σ 70 i2 < 2147483648))
    (kt : t0 = σ 70 i2 → G mdX6_areTrueOf X 35 [(0, vr 68), (1, vr o1), (2, vi i2)] [] σ)
    (kf : ¬ t0 = σ 70 i2 → G mdX6_areTrueOf X 33 [] [] σ) :
    G mdX6_areTrueOf X 24 [(0, vr 68), (1, vr o1), (2, vi i2)] [vi t0] σ := by
  refine G.aload_n (o := 68) dX6_areTrueOf_24 rfl ?_
  refine G.getR (o' := 70) dX6_areTrueOf_25 fX6_15 sh68 rfl ?_
  refine G.iload_n (z := i2) dX6_areTrueOf_28 rfl ?_
  refine G.iald dX6_areTrueOf_29 sh70 s.1 ?_
  exact G.icmp_eq (tgt := 35) dX6_areTrueOf_30 (by decide) s.2.1 s.2.2 (fun q => G.pick [0, 1, 2] (kt q)) (fun q => G.pick [] (kf q))
theorem bX6_areTrueOf_33 {X : CT} {σ : St}  {P : Int → St → Prop} (hX : RI X P)
    (k : P 0 σ) :
    G mdX6_areTrueOf X 33 [] [] σ := by
  refine G.iconst dX6_areTrueOf_33 ?_
  exact G.zret hX dX6_areTrueOf_34 rfl (Or.inl rfl) k
theorem bX6_areTrueOf_35 {X : CT} {σ : St} {o1 : Nat} {i2 : Int} (h1 : isBk o1)
    (k : G mdX6_areTrueOf X 2 [(0, vr 68), (1, vr o1), (2, vi (i2 + 1))] [] σ) :
    G mdX6_areTrueOf X 35 [(0, vr 68), (1, vr o1), (2, vi i2)] [] σ := by
  refine G.iinc (z := i2) dX6_areTrueOf_35 rfl (by decide) rfl ?_
  refine G.goto (tgt := 2) dX6_areTrueOf_38 (by decide) ?_
  exact G.pick [0, 1, 2] k
theorem bX6_areTrueOf_41 {X : CT} {σ : St}  {P : Int → St → Prop} (hX : RI X P)
    (k : P 1 σ) :
    G mdX6_areTrueOf X 41 [] [] σ := by
  refine G.iconst dX6_areTrueOf_41 ?_
  exact G.zret hX dX6_areTrueOf_42 rfl (Or.inr rfl) k
theorem bX7_tellNothing_0 {X : CT} {σ : St} {o0 : Nat} (h0 : isSt o0) {P : St → Prop} (hM : CV mdJ7_fill_53178 [vr (o0 + 1), vi 0] σ P)
    (k : ∀ σ', P σ' → G mdX7_tellNothing X 8 [(0, vr o0)] [] (σ')) :
    G mdX7_tellNothing X 0 [(0, vr o0)] [] σ := by
  refine G.aload_n (o := o0) dX7_tellNothing_0 rfl ?_
  refine G.getR (o' := (o0 + 1)) dX7_tellNothing_1 fX7_9 (sh_st h0) rfl ?_
  refine G.iconst dX7_tellNothing_4 ?_
  exact G.callSV (as := [vr (o0 + 1), vi 0]) (rest := []) dX7_tellNothing_5 rfl vX7_31 (by decide) (Nat.le_of_ble_eq_true rfl) hM (fun σ' q => G.pick [0] (k σ' q))
theorem bX7_tellNothing_8 {X : CT} {σ : St} {o0 : Nat} (h0 : isSt o0) {P : St → Prop} (hX : RV X P)
    (k : P (wr (wr σ o0 1 4369) (o0 + 2) 2 0)) :
    G mdX7_tellNothing X 8 [(0, vr o0)] [] σ := by
  refine G.aload_n (o := o0) dX7_tellNothing_8 rfl ?_
  refine G.sipush dX7_tellNothing_9 (by decide) ?_
  refine G.putI (j := 1) dX7_tellNothing_12 fX7_15 (sh_st h0) rfl rfl rfl rfl rfl ?_
  refine G.aload_n (o := o0) dX7_tellNothing_15 rfl ?_
  refine G.getR (o' := (o0 + 2)) dX7_tellNothing_16 fX7_24 (sh_st h0) rfl ?_
  refine G.iconst dX7_tellNothing_19 ?_
  refine G.putI (j := 2) dX7_tellNothing_20 fX7_37 (sh_sp (sp_line h0)) rfl rfl rfl rfl rfl ?_
  exact G.vret hX dX7_tellNothing_23 rfl k
theorem bX7_emptyRow_0 {X : CT} {σ : St} {o0 : Nat} {i1 : Int} (h0 : isSt o0)
    (k : G mdX7_emptyRow X 2 [(0, vr o0), (1, vi i1), (2, vi 0)] [] σ) :
    G mdX7_emptyRow X 0 [(0, vr o0), (1, vi i1)] [] σ := by
  refine G.iconst dX7_emptyRow_0 ?_
  refine G.istore_n dX7_emptyRow_1 (by decide) rfl ?_
  exact G.pick [0, 1, 2] k
theorem bX7_emptyRow_2 {X : CT} {σ : St} {o0 : Nat} {i1 i2 : Int} (h0 : isSt o0) (s : (-2147483648 ≤ i2 ∧ i2 < 2147483648))
    (kt : 16 ≤ i2 → G mdX7_emptyRow X 26 [] [] σ)
    (kf : i2 < 16 → G mdX7_emptyRow X 8 [(0, vr o0), (1, vi i1), (2, vi i2)] [] σ) :
    G mdX7_emptyRow X 2 [(0, vr o0), (1, vi i1), (2, vi i2)] [] σ := by
  refine G.iload_n (z := i2) dX7_emptyRow_2 rfl ?_
  refine G.bipush dX7_emptyRow_3 (by decide) ?_
  exact G.icmp_ge (tgt := 26) dX7_emptyRow_5 (by decide) s ⟨by decide, by decide⟩ (fun q => G.pick [] (kt q)) (fun q => G.pick [0, 1, 2] (kf q))
theorem bX7_emptyRow_8 {X : CT} {σ : St} {o0 : Nat} {i1 i2 : Int} (h0 : isSt o0) (s : (0 ≤ (i1 * 16) + i2 ∧ (i1 * 16) + i2 < 32))
    (k : G mdX7_emptyRow X 2 [(0, vr o0), (1, vi i1), (2, vi (i2 + 1))] [] (wr σ (o0 + 1) ((i1 * 16) + i2) 0)) :
    G mdX7_emptyRow X 8 [(0, vr o0), (1, vi i1), (2, vi i2)] [] σ := by
  refine G.aload_n (o := o0) dX7_emptyRow_8 rfl ?_
  refine G.getR (o' := (o0 + 1)) dX7_emptyRow_9 fX7_9 (sh_st h0) rfl ?_
  refine G.iload_n (z := i1) dX7_emptyRow_12 rfl ?_
  refine G.bipush dX7_emptyRow_13 (by decide) ?_
  refine G.imul dX7_emptyRow_15 ?_
  refine G.iload_n (z := i2) dX7_emptyRow_16 rfl ?_
  refine G.iadd dX7_emptyRow_17 ?_
  refine G.iconst dX7_emptyRow_18 ?_
  refine G.iast dX7_emptyRow_19 (sh_sent h0) s ?_
  refine G.iinc (z := i2) dX7_emptyRow_20 rfl (by decide) rfl ?_
  refine G.goto (tgt := 2) dX7_emptyRow_23 (by decide) ?_
  exact G.pick [0, 1, 2] k
theorem bX7_emptyRow_26 {X : CT} {σ : St}  {P : St → Prop} (hX : RV X P)
    (k : P σ) :
    G mdX7_emptyRow X 26 [] [] σ := by
  exact G.vret hX dX7_emptyRow_26 rfl k
theorem bX7_isMarked_0 {X : CT} {σ : St} {o0 : Nat} {i1 : Int} (h0 : isSt o0) (s : (0 ≤ σ o0 1 ∧ σ o0 1 < 2147483648) ∧ (0 ≤ i1 ∧ i1 < 32) ∧ (-2147483648 ≤ ((σ o0 1) / 2 ^ (i1).toNat) % 2 ∧ ((σ o0 1) / 2 ^ (i1).toNat) % 2 < 2147483648))
    (kt : ¬ ((σ o0 1) / 2 ^ (i1).toNat) % 2 = 1 → G mdX7_isMarked X 16 [] [] σ)
    (kf : ((σ o0 1) / 2 ^ (i1).toNat) % 2 = 1 → G mdX7_isMarked X 12 [] [] σ) :
    G mdX7_isMarked X 0 [(0, vr o0), (1, vi i1)] [] σ := by
  refine G.aload_n (o := o0) dX7_isMarked_0 rfl ?_
  refine G.getI (j := 1) dX7_isMarked_1 fX7_15 (sh_st h0) rfl rfl rfl ?_
  refine G.iload_n (z := i1) dX7_isMarked_4 rfl ?_
  refine G.ishr dX7_isMarked_5 s.1 s.2.1 ?_
  refine G.iconst dX7_isMarked_6 ?_
  refine G.iand1 dX7_isMarked_7 ?_
  refine G.iconst dX7_isMarked_8 ?_
  exact G.icmp_ne (tgt := 16) dX7_isMarked_9 (by decide) s.2.2 ⟨by decide, by decide⟩ (fun q => G.pick [] (kt q)) (fun q => G.pick [] (kf q))
theorem bX7_isMarked_12 {X : CT} {σ : St} 
    (k : G mdX7_isMarked X 17 [] [vi 1] σ) :
    G mdX7_isMarked X 12 [] [] σ := by
  refine G.iconst dX7_isMarked_12 ?_
  refine G.goto (tgt := 17) dX7_isMarked_13 (by decide) ?_
  exact G.pick [] k
theorem bX7_isMarked_16 {X : CT} {σ : St} 
    (k : G mdX7_isMarked X 17 [] [vi 0] σ) :
    G mdX7_isMarked X 16 [] [] σ := by
  refine G.iconst dX7_isMarked_16 ?_
  exact G.pick [] k
theorem bX7_isMarked_17 {X : CT} {σ : St} {t0 : Int}  {P : Int → St → Prop} (hX : RI X P) (s : (t0 = 0 ∨ t0 = 1))
    (k : P t0 σ) :
    G mdX7_isMarked X 17 [] [vi t0] σ := by
  exact G.zret hX dX7_isMarked_17 rfl s k
theorem bX7_mark_0 {X : CT} {σ : St} {o0 : Nat} {i1 i2 : Int} (h0 : isSt o0) (s : (-2147483648 ≤ i2 ∧ i2 < 2147483648))
    (kt : i2 = 0 → G mdX7_mark X 18 [(0, vr o0), (3, vi (bShl 1 i1))] [vr o0] σ)
    (kf : ¬ i2 = 0 → G mdX7_mark X 9 [(0, vr o0), (3, vi (bShl 1 i1))] [vr o0] σ) :
    G mdX7_mark X 0 [(0, vr o0), (1, vi i1), (2, vi i2)] [] σ := by
  refine G.iconst dX7_mark_0 ?_
  refine G.iload_n (z := i1) dX7_mark_1 rfl ?_
  refine G.ishl dX7_mark_2 ?_
  refine G.istore_n dX7_mark_3 (by decide) rfl ?_
  refine G.aload_n (o := o0) dX7_mark_4 rfl ?_
  refine G.iload_n (z := i2) dX7_mark_5 rfl ?_
  exact G.if_eq (tgt := 18) dX7_mark_6 (by decide) s (fun q => G.pick [0, 3] (kt q)) (fun q => G.pick [0, 3] (kf q))
theorem bX7_mark_9 {X : CT} {σ : St} {o0 : Nat} {i3 : Int} (h0 : isSt o0)
    (k : G mdX7_mark X 26 [] [vi (bOr (σ o0 1) i3), vr o0] σ) :
    G mdX7_mark X 9 [(0, vr o0), (3, vi i3)] [vr o0] σ := by
  refine G.aload_n (o := o0) dX7_mark_9 rfl ?_
  refine G.getI (j := 1) dX7_mark_10 fX7_15 (sh_st h0) rfl rfl rfl ?_
  refine G.iload_n (z := i3) dX7_mark_13 rfl ?_
  refine G.ior dX7_mark_14 ?_
  refine G.goto (tgt := 26) dX7_mark_15 (by decide) ?_
  exact G.pick [] k
theorem bX7_mark_18 {X : CT} {σ : St} {o0 : Nat} {i3 : Int} (h0 : isSt o0)
    (k : G mdX7_mark X 26 [] [vi (bAnd (σ o0 1) (bXor i3 (-1))), vr o0] σ) :
    G mdX7_mark X 18 [(0, vr o0), (3, vi i3)] [vr o0] σ := by
  refine G.aload_n (o := o0) dX7_mark_18 rfl ?_
  refine G.getI (j := 1) dX7_mark_19 fX7_15 (sh_st h0) rfl rfl rfl ?_
  refine G.iload_n (z := i3) dX7_mark_22 rfl ?_
  refine G.iconst dX7_mark_23 ?_
  refine G.ixor dX7_mark_24 ?_
  refine G.iand dX7_mark_25 ?_
  exact G.pick [] k
theorem bX7_mark_26 {X : CT} {σ : St} {o0 : Nat} {t1 : Int} (h0 : isSt o0) {P : St → Prop} (hX : RV X P)
    (k : P (wr σ o0 1 t1)) :
    G mdX7_mark X 26 [] [vi t1, vr o0] σ := by
  refine G.putI (j := 1) dX7_mark_26 fX7_15 (sh_st h0) rfl rfl rfl rfl rfl ?_
  exact G.vret hX dX7_mark_29 rfl k
theorem bX7_firstMarked_0 {X : CT} {σ : St} {o0 : Nat} (h0 : isSt o0)
    (k : G mdX7_firstMarked X 2 [(0, vr o0), (1, vi 0)] [] σ) :
    G mdX7_firstMarked X 0 [(0, vr o0)] [] σ := by
  refine G.iconst dX7_firstMarked_0 ?_
  refine G.istore_n dX7_firstMarked_1 (by decide) rfl ?_
  exact G.pick [0, 1] k
theorem bX7_firstMarked_2 {X : CT} {σ : St} {o0 : Nat} {i1 : Int} (h0 : isSt o0) (s : (-2147483648 ≤ i1 ∧ i1 < 2147483648))
    (kt : 16 ≤ i1 → G mdX7_firstMarked X 24 [] [] σ)
    (kf : i1 < 16 → G mdX7_firstMarked X 8 [(0, vr o0), (1, vi i1)] [] σ) :
    G mdX7_firstMarked X 2 [(0, vr o0), (1, vi i1)] [] σ := by
  refine G.iload_n (z := i1) dX7_firstMarked_2 rfl ?_
  refine G.bipush dX7_firstMarked_3 (by decide) ?_
  exact G.icmp_ge (tgt := 24) dX7_firstMarked_5 (by decide) s ⟨by decide, by decide⟩ (fun q => G.pick [] (kt q)) (fun q => G.pick [0, 1] (kf q))
theorem bX7_firstMarked_8 {X : CT} {σ : St} {o0 : Nat} {i1 : Int} (h0 : isSt o0) {P : Int → St → Prop} (hM : CI mdX7_isMarked [vr o0, vi i1] σ P)
    (k : ∀ z σ', inI z → P z σ' → G mdX7_firstMarked X 13 [(0, vr o0), (1, vi i1)] [vi z] (σ')) :
    G mdX7_firstMarked X 8 [(0, vr o0), (1, vi i1)] [] σ := by
  refine G.aload_n (o := o0) dX7_firstMarked_8 rfl ?_
  refine G.iload_n (z := i1) dX7_firstMarked_9 rfl ?_
  exact G.callVI (as := [vi i1]) (rest := []) dX7_firstMarked_10 rfl vX7_40 (by decide) (sh_st h0) rfl (by decide) (Nat.le_of_ble_eq_true rfl) hM (fun z σ' hz q => G.pick [0, 1] (k z σ' hz q))
theorem bX7_firstMarked_13 {X : CT} {σ : St} {o0 : Nat} {i1 t0 : Int} (h0 : isSt o0) (s : (-2147483648 ≤ t0 ∧ t0 < 2147483648))
    (kt : t0 = 0 → G mdX7_firstMarked X 18 [(0, vr o0), (1, vi i1)] [] σ)
    (kf : ¬ t0 = 0 → G mdX7_firstMarked X 16 [(1, vi i1)] [] σ) :
    G mdX7_firstMarked X 13 [(0, vr o0), (1, vi i1)] [vi t0] σ := by
  exact G.if_eq (tgt := 18) dX7_firstMarked_13 (by decide) s (fun q => G.pick [0, 1] (kt q)) (fun q => G.pick [1] (kf q))
theorem bX7_firstMarked_16 {X : CT} {σ : St} {i1 : Int}  {P : Int → St → Prop} (hX : RI X P) (s : (-2147483648 ≤ i1 ∧ i1 < 2147483648))
    (k : P i1 σ) :
    G mdX7_firstMarked X 16 [(1, vi i1)] [] σ := by
  refine G.iload_n (z := i1) dX7_firstMarked_16 rfl ?_
  exact G.iret hX dX7_firstMarked_17 rfl s k
theorem bX7_firstMarked_18 {X : CT} {σ : St} {o0 : Nat} {i1 : Int} (h0 : isSt o0)
    (k : G mdX7_firstMarked X 2 [(0, vr o0), (1, vi (i1 + 1))] [] σ) :
    G mdX7_firstMarked X 18 [(0, vr o0), (1, vi i1)] [] σ := by
  refine G.iinc (z := i1) dX7_firstMarked_18 rfl (by decide) rfl ?_
  refine G.goto (tgt := 2) dX7_firstMarked_21 (by decide) ?_
  exact G.pick [0, 1] k
theorem bX7_firstMarked_24 {X : CT} {σ : St}  {P : Int → St → Prop} (hX : RI X P)
    (k : P (-9) σ) :
    G mdX7_firstMarked X 24 [] [] σ := by
  refine G.bipush dX7_firstMarked_24 (by decide) ?_
  exact G.iret hX dX7_firstMarked_26 rfl ⟨by decide, by decide⟩ k
theorem bX7_takeFrom_0 {X : CT} {σ : St} {o0 o1 : Nat} (h0 : isSt o0) (h1 : isSt o1) {P : St → Prop} (hM : CV mdX8_takeFrom [vr (o0 + 2), vr (o1 + 2)] (wr (cp σ (o1 + 1) 0 (o0 + 1) 0 32) o0 1 ((cp σ (o1 + 1) 0 (o0 + 1) 0 32) o1 1)) P)
    (k : ∀ σ', P σ' → G mdX7_takeFrom X 34 [(0, vr o0), (1, vr o1)] [] (σ')) :
    G mdX7_takeFrom X 0 [(0, vr o0), (1, vr o1)] [] σ := by
  refine G.aload_n (o := o1) dX7_takeFrom_0 rfl ?_
  refine G.getR (o' := (o1 + 1)) dX7_takeFrom_1 fX7_9 (sh_st h1) rfl ?_
  refine G.iconst dX7_takeFrom_4 ?_
  refine G.aload_n (o := o0) dX7_takeFrom_5 rfl ?_
  refine G.getR (o' := (o0 + 1)) dX7_takeFrom_6 fX7_9 (sh_st h0) rfl ?_
  refine G.iconst dX7_takeFrom_9 ?_
  refine G.bipush dX7_takeFrom_10 (by decide) ?_
  refine G.acopy (i0 := 344) dX7_takeFrom_12 (by decide +kernel) (by decide) (sh_sent h1) (sh_sent h0) (by decide) (by decide) (by decide) (by decide) (by decide) (Nat.le_of_ble_eq_true rfl) ?_
  refine G.aload_n (o := o0) dX7_takeFrom_15 rfl ?_
  refine G.aload_n (o := o1) dX7_takeFrom_16 rfl ?_
  refine G.getI (j := 1) dX7_takeFrom_17 fX7_15 (sh_st h1) rfl rfl rfl ?_
  refine G.putI (j := 1) dX7_takeFrom_20 fX7_15 (sh_st h0) rfl rfl rfl rfl rfl ?_
  refine G.aload_n (o := o0) dX7_takeFrom_23 rfl ?_
  refine G.getR (o' := (o0 + 2)) dX7_takeFrom_24 fX7_24 (sh_st h0) rfl ?_
  refine G.aload_n (o := o1) dX7_takeFrom_27 rfl ?_
  refine G.getR (o' := (o1 + 2)) dX7_takeFrom_28 fX7_24 (sh_st h1) rfl ?_
  exact G.callVV (as := [vr (o1 + 2)]) (rest := []) dX7_takeFrom_31 rfl vX7_50 (by decide) (sh_sp (sp_line h0)) rfl (by decide) (Nat.le_of_ble_eq_true rfl) hM (fun σ' q => G.pick [0, 1] (k σ' q))
theorem bX7_takeFrom_34 {X : CT} {σ : St} {o0 o1 : Nat} (h0 : isSt o0) (h1 : isSt o1) {P : St → Prop} (hM : CV mdX8_takeFrom [vr (o0 + 4), vr (o1 + 4)] σ P)
    (k : ∀ σ', P σ' → G mdX7_takeFrom X 45 [(0, vr o0), (1, vr o1)] [] (σ')) :
    G mdX7_takeFrom X 34 [(0, vr o0), (1, vr o1)] [] σ := by
  refine G.aload_n (o := o0) dX7_takeFrom_34 rfl ?_
  refine G.getR (o' := (o0 + 4)) dX7_takeFrom_35 fX7_28 (sh_st h0) rfl ?_
  refine G.aload_n (o := o1) dX7_takeFrom_38 rfl ?_
  refine G.getR (o' := (o1 + 4)) dX7_takeFrom_39 fX7_28 (sh_st h1) rfl ?_
  exact G.callVV (as := [vr (o1 + 4)]) (rest := []) dX7_takeFrom_42 rfl vX7_50 (by decide) (sh_sp (sp_chain h0)) rfl (by decide) (Nat.le_of_ble_eq_true rfl) hM (fun σ' q => G.pick [0, 1] (k σ' q))
theorem bX7_takeFrom_45 {X : CT} {σ : St} {o0 o1 : Nat} (h0 : isSt o0) (h1 : isSt o1) {P : St → Prop} (hX : RV X P)
    (k : P (wr (wr σ o0 4 (fl (σ o1 4)).toNat) o0 5 ((wr σ o0 4 (fl (σ o1 4)).toNat) o1 5))) :
    G mdX7_takeFrom X 45 [(0, vr o0), (1, vr o1)] [] σ := by
  refine G.aload_n (o := o0) dX7_takeFrom_45 rfl ?_
  refine G.aload_n (o := o1) dX7_takeFrom_46 rfl ?_
  refine G.getF (j := 4) dX7_takeFrom_47 fX7_54 (sh_st h1) rfl rfl ?_
  refine G.putF (j := 4) dX7_takeFrom_50 fX7_54 (sh_st h0) rfl rfl rfl rfl rfl ?_
  refine G.aload_n (o := o0) dX7_takeFrom_53 rfl ?_
  refine G.aload_n (o := o1) dX7_takeFrom_54 rfl ?_
  refine G.getI (j := 5) dX7_takeFrom_55 fX7_58 (sh_st h1) rfl rfl rfl ?_
  refine G.putI (j := 5) dX7_takeFrom_58 fX7_58 (sh_st h0) rfl rfl rfl rfl rfl ?_
  exact G.vret hX dX7_takeFrom_61 rfl k
theorem bX8_isPossible_0 {X : CT} {σ : St} {o0 o1 : Nat} (h0 : o0 = 105 ∨ o0 = 106 ∨ o0 = 107) (h1 : shp o1 = (1, 5, []))
    (k : G mdX8_isPossible X 2 [(0, vr o0), (1, vr o1), (2, vi 0)] [] σ) :
    G mdX8_isPossible X 0 [(0, vr o0), (1, vr o1)] [] σ := by
  refine G.iconst dX8_isPossible_0 ?_
  refine G.istore_n dX8_isPossible_1 (by decide) rfl ?_
  exact G.pick [0, 1, 2] k
theorem bX8_isPossible_2 {X : CT} {σ : St} {o0 o1 : Nat} {i2 : Int} (h0 : o0 = 105 ∨ o0 = 106 ∨ o0 = 107) (h1 : shp o1 = (1, 5, [])) (s : (-2147483648 ≤ i2 ∧ i2 < 2147483648))
    (kt : 5 ≤ i2 → G mdX8_isPossible X 27 [] [] σ)
    (kf : i2 < 5 → G mdX8_isPossible X 7 [(0, vr o0), (1, vr o1), (2, vi i2)] [] σ) :
    G mdX8_isPossible X 2 [(0, vr o0), (1, vr o1), (2, vi i2)] [] σ := by
  refine G.iload_n (z := i2) dX8_isPossible_2 rfl ?_
  refine G.iconst dX8_isPossible_3 ?_
  exact G.icmp_ge (tgt := 27) dX8_isPossible_4 (by decide) s ⟨by decide, by decide⟩ (fun q => G.pick [] (kt q)) (fun q => G.pick [0, 1, 2] (kf q))
theorem bX8_isPossible_7 {X : CT} {σ : St} {o0 o1 : Nat} {i2 : Int} (h0 : o0 = 105 ∨ o0 = 106 ∨ o0 = 107) (h1 : shp o1 = (1, 5, [])) {P : Int → St → Prop} (hM : CI mdX8_allows [vr o0, vr o1, vi i2, vi (σ o1 i2)] σ P) (s : (0 ≤ i2 ∧ i2 < 5))
    (k : ∀ z σ', inI z → P z σ' → G mdX8_isPossible X 16 [(0, vr o0), (1, vr o1), (2, vi i2)] [vi z] (σ')) :
    G mdX8_isPossible X 7 [(0, vr o0), (1, vr o1), (2, vi i2)] [] σ := by
  refine G.aload_n (o := o0) dX8_isPossible_7 rfl ?_
  refine G.aload_n (o := o1) dX8_isPossible_8 rfl ?_
  refine G.iload_n (z := i2) dX8_isPossible_9 rfl ?_
  refine G.aload_n (o := o1) dX8_isPossible_10 rfl ?_
  refine G.iload_n (z := i2) dX8_isPossible_11 rfl ?_
  refine G.iald dX8_isPossible_12 h1 s ?_
  exact G.callSI (as := [vr o0, vr o1, vi i2, vi (σ o1 i2)]) (rest := []) dX8_isPossible_13 rfl vX8_25 (by decide) (Nat.le_of_ble_eq_true rfl) hM (fun z σ' hz q => G.pick [0, 1, 2] (k z σ' hz q))
theorem bX8_isPossible_16 {X : CT} {σ : St} {o0 o1 : Nat} {i2 t0 : Int} (h0 : o0 = 105 ∨ o0 = 106 ∨ o0 = 107) (h1 : shp o1 = (1, 5, [])) (s : (-2147483648 ≤ t0 ∧ t0 < 2147483648))
    (kt : ¬ t0 = 0 → G mdX8_isPossible X 21 [(0, vr o0), (1, vr o1), (2, vi i2)] [] σ)
    (kf : t0 = 0 → G mdX8_isPossible X 19 [] [] σ) :
    G mdX8_isPossible X 16 [(0, vr o0), (1, vr o1), (2, vi i2)] [vi t0] σ := by
  exact G.if_ne (tgt := 21) dX8_isPossible_16 (by decide) s (fun q => G.pick [0, 1, 2] (kt q)) (fun q => G.pick [] (kf q))
theorem bX8_isPossible_19 {X : CT} {σ : St}  {P : Int → St → Prop} (hX : RI X P)
    (k : P 0 σ) :
    G mdX8_isPossible X 19 [] [] σ := by
  refine G.iconst dX8_isPossible_19 ?_
  exact G.zret hX dX8_isPossible_20 rfl (Or.inl rfl) k
theorem bX8_isPossible_21 {X : CT} {σ : St} {o0 o1 : Nat} {i2 : Int} (h0 : o0 = 105 ∨ o0 = 106 ∨ o0 = 107) (h1 : shp o1 = (1, 5, []))
    (k : G mdX8_isPossible X 2 [(0, vr o0), (1, vr o1), (2, vi (i2 + 1))] [] σ) :
    G mdX8_isPossible X 21 [(0, vr o0), (1, vr o1), (2, vi i2)] [] σ := by
  refine G.iinc (z := i2) dX8_isPossible_21 rfl (by decide) rfl ?_
  refine G.goto (tgt := 2) dX8_isPossible_24 (by decide) ?_
  exact G.pick [0, 1, 2] k
theorem bX8_isPossible_27 {X : CT} {σ : St}  {P : Int → St → Prop} (hX : RI X P)
    (k : P 1 σ) :
    G mdX8_isPossible X 27 [] [] σ := by
  refine G.iconst dX8_isPossible_27 ?_
  exact G.zret hX dX8_isPossible_28 rfl (Or.inr rfl) k
theorem bX8_allows_0 {X : CT} {σ : St} {o0 o1 : Nat} {i2 i3 : Int} (h0 : o0 = 105 ∨ o0 = 106 ∨ o0 = 107) (h1 : shp o1 = (1, 5, [])) (s : (-2147483648 ≤ i2 ∧ i2 < 2147483648))
    (kt : ¬ i2 = 0 → G mdX8_allows X 19 [(0, vr o0), (1, vr o1), (2, vi i2), (3, vi i3)] [] σ)
    (kf : i2 = 0 → G mdX8_allows X 4 [(3, vi i3)] [] σ) :
    G mdX8_allows X 0 [(0, vr o0), (1, vr o1), (2, vi i2), (3, vi i3)] [] σ := by
  refine G.iload_n (z := i2) dX8_allows_0 rfl ?_
  exact G.if_ne (tgt := 19) dX8_allows_1 (by decide) s (fun q => G.pick [0, 1, 2, 3] (kt q)) (fun q => G.pick [3] (kf q))
theorem bX8_allows_4 {X : CT} {σ : St} {i3 : Int}  (s : (-2147483648 ≤ i3 ∧ i3 < 2147483648))
    (kt : i3 < 0 → G mdX8_allows X 17 [] [] σ)
    (kf : 0 ≤ i3 → G mdX8_allows X 8 [(3, vi i3)] [] σ) :
    G mdX8_allows X 4 [(3, vi i3)] [] σ := by
  refine G.iload_n (z := i3) dX8_allows_4 rfl ?_
  exact G.if_lt (tgt := 17) dX8_allows_5 (by decide) s (fun q => G.pick [] (kt q)) (fun q => G.pick [3] (kf q))
theorem bX8_allows_8 {X : CT} {σ : St} {i3 : Int}  (s : (-2147483648 ≤ i3 ∧ i3 < 2147483648))
    (kt : 5 ≤ i3 → G mdX8_allows X 17 [] [] σ)
    (kf : i3 < 5 → G mdX8_allows X 13 [] [] σ) :
    G mdX8_allows X 8 [(3, vi i3)] [] σ := by
  refine G.iload_n (z := i3) dX8_allows_8 rfl ?_
  refine G.iconst dX8_allows_9 ?_
  exact G.icmp_ge (tgt := 17) dX8_allows_10 (by decide) s ⟨by decide, by decide⟩ (fun q => G.pick [] (kt q)) (fun q => G.pick [] (kf q))
theorem bX8_allows_13 {X : CT} {σ : St} 
    (k : G mdX8_allows X 18 [] [vi 1] σ) :
    G mdX8_allows X 13 [] [] σ := by
  refine G.iconst dX8_allows_13 ?_
  refine G.goto (tgt := 18) dX8_allows_14 (by decide) ?_
  exact G.pick [] k
theorem bX8_allows_17 {X : CT} {σ : St} 
    (k : G mdX8_allows X 18 [] [vi 0] σ) :
    G mdX8_allows X 17 [] [] σ := by
  refine G.iconst dX8_allows_17 ?_
  exact G.pick [] k
theorem bX8_allows_18 {X : CT} {σ : St} {t0 : Int}  {P : Int → St → Prop} (hX : RI X P) (s : (t0 = 0 ∨ t0 = 1))
    (k : P t0 σ) :
    G mdX8_allows X 18 [] [vi t0] σ := by
  exact G.zret hX dX8_allows_18 rfl s k
theorem bX8_allows_19 {X : CT} {σ : St} {o0 o1 : Nat} {i2 i3 : Int} (h0 : o0 = 105 ∨ o0 = 106 ∨ o0 = 107) (h1 : shp o1 = (1, 5, [])) (s : (0 ≤ (8 * (σ o1 0)) + (2 * (i2 - 1)) ∧ (8 * (σ o1 0)) + (2 * (i2 - 1)) < rol o0) ∧ (-2147483648 ≤ i3 ∧ i3 < 2147483648) ∧ (-2147483648 ≤ rot o0 ((8 * (σ o1 0)) + (2 * (i2 - 1))) ∧ rot o0 ((8 * (σ o1 0)) + (2 * (i2 - 1))) < 2147483648))
    (kt : i3 < rot o0 ((8 * (σ o1 0)) + (2 * (i2 - 1))) → G mdX8_allows X 55 [] [] σ)
    (kf : rot o0 ((8 * (σ o1 0)) + (2 * (i2 - 1))) ≤ i3 → G mdX8_allows X 45 [(0, vr o0), (1, vr o1), (2, vi i2), (3, vi i3), (4, vi (σ o1 0)), (5, vi ((8 * (σ o1 0)) + (2 * (i2 - 1))))] [] σ) :
    G mdX8_allows X 19 [(0, vr o0), (1, vr o1), (2, vi i2), (3, vi i3)] [] σ := by
  refine G.aload_n (o := o1) dX8_allows_19 rfl ?_
  refine G.iconst dX8_allows_20 ?_
  refine G.iald dX8_allows_21 h1 ⟨by decide, by decide⟩ ?_
  refine G.istore dX8_allows_22 (by decide) rfl ?_
  refine G.bipush dX8_allows_24 (by decide) ?_
  refine G.iload (z := σ o1 0) dX8_allows_26 rfl ?_
  refine G.imul dX8_allows_28 ?_
  refine G.iconst dX8_allows_29 ?_
  refine G.iload_n (z := i2) dX8_allows_30 rfl ?_
  refine G.iconst dX8_allows_31 ?_
  refine G.isub dX8_allows_32 ?_
  refine G.imul dX8_allows_33 ?_
  refine G.iadd dX8_allows_34 ?_
  refine G.istore dX8_allows_35 (by decide) rfl ?_
  refine G.iload_n (z := i3) dX8_allows_37 rfl ?_
  refine G.aload_n (o := o0) dX8_allows_38 rfl ?_
  refine G.iload (z := (8 * (σ o1 0)) + (2 * (i2 - 1))) dX8_allows_39 rfl ?_
  refine G.roald dX8_allows_41 h0 s.1 ?_
  exact G.icmp_lt (tgt := 55) dX8_allows_42 (by decide) s.2.1 s.2.2 (fun q => G.pick [] (kt q)) (fun q => G.pick [0, 1, 2, 3, 4, 5] (kf q))
theorem bX8_allows_45 {X : CT} {σ : St} {o0 o1 : Nat} {i2 i3 i4 i5 : Int} (h0 : o0 = 105 ∨ o0 = 106 ∨ o0 = 107) (h1 : shp o1 = (1, 5, [])) (s : (0 ≤ i5 + 1 ∧ i5 + 1 < rol o0) ∧ (-2147483648 ≤ i3 ∧ i3 < 2147483648) ∧ (-2147483648 ≤ rot o0 (i5 + 1) ∧ rot o0 (i5 + 1) < 2147483648))
    (kt : i3 ≤ rot o0 (i5 + 1) → G mdX8_allows X 57 [(1, vr o1), (2, vi i2), (3, vi i3), (4, vi i4)] [] σ)
    (kf : rot o0 (i5 + 1) < i3 → G mdX8_allows X 55 [] [] σ) :
    G mdX8_allows X 45 [(0, vr o0), (1, vr o1), (2, vi i2), (3, vi i3), (4, vi i4), (5, vi i5)] [] σ := by
  refine G.iload_n (z := i3) dX8_allows_45 rfl ?_
  refine G.aload_n (o := o0) dX8_allows_46 rfl ?_
  refine G.iload (z := i5) dX8_allows_47 rfl ?_
  refine G.iconst dX8_allows_49 ?_
  refine G.iadd dX8_allows_50 ?_
  refine G.roald dX8_allows_51 h0 s.1 ?_
  exact G.icmp_le (tgt := 57) dX8_allows_52 (by decide) s.2.1 s.2.2 (fun q => G.pick [1, 2, 3, 4] (kt q)) (fun q => G.pick [] (kf q))
theorem bX8_allows_55 {X : CT} {σ : St}  {P : Int → St → Prop} (hX : RI X P)
    (k : P 0 σ) :
    G mdX8_allows X 55 [] [] σ := by
  refine G.iconst dX8_allows_55 ?_
  exact G.zret hX dX8_allows_56 rfl (Or.inl rfl) k
theorem bX8_allows_57 {X : CT} {σ : St} {o1 : Nat} {i2 i3 i4 : Int} (h1 : shp o1 = (1, 5, [])) (s : (-2147483648 ≤ i4 ∧ i4 < 2147483648))
    (kt : ¬ i4 = 0 → G mdX8_allows X 83 [(1, vr o1), (2, vi i2), (3, vi i3), (4, vi i4)] [] σ)
    (kf : i4 = 0 → G mdX8_allows X 62 [(1, vr o1), (2, vi i2), (3, vi i3), (4, vi i4)] [] σ) :
    G mdX8_allows X 57 [(1, vr o1), (2, vi i2), (3, vi i3), (4, vi i4)] [] σ := by
  refine G.iload (z := i4) dX8_allows_57 rfl ?_
  exact G.if_ne (tgt := 83) dX8_allows_59 (by decide) s (fun q => G.pick [1, 2, 3, 4] (kt q)) (fun q => G.pick [1, 2, 3, 4] (kf q))
theorem bX8_allows_62 {X : CT} {σ : St} {o1 : Nat} {i2 i3 i4 : Int} (h1 : shp o1 = (1, 5, [])) (s : (-2147483648 ≤ i2 ∧ i2 < 2147483648))
    (kt : ¬ i2 = 1 → G mdX8_allows X 83 [(1, vr o1), (2, vi i2), (3, vi i3), (4, vi i4)] [] σ)
    (kf : i2 = 1 → G mdX8_allows X 67 [(3, vi i3)] [] σ) :
    G mdX8_allows X 62 [(1, vr o1), (2, vi i2), (3, vi i3), (4, vi i4)] [] σ := by
  refine G.iload_n (z := i2) dX8_allows_62 rfl ?_
  refine G.iconst dX8_allows_63 ?_
  exact G.icmp_ne (tgt := 83) dX8_allows_64 (by decide) s ⟨by decide, by decide⟩ (fun q => G.pick [1, 2, 3, 4] (kt q)) (fun q => G.pick [3] (kf q))
theorem bX8_allows_67 {X : CT} {σ : St} {i3 : Int}  {P : Int → St → Prop} (hM : CI mdX2_power [vi i3, vi 16] σ P)
    (k : ∀ z σ', inI z → P z σ' → G mdX8_allows X 73 [] [vi z] (σ')) :
    G mdX8_allows X 67 [(3, vi i3)] [] σ := by
  refine G.iload_n (z := i3) dX8_allows_67 rfl ?_
  refine G.bipush dX8_allows_68 (by decide) ?_
  exact G.callSI (as := [vi i3, vi 16]) (rest := []) dX8_allows_70 rfl vX8_29 (by decide) (Nat.le_of_ble_eq_true rfl) hM (fun z σ' hz q => G.pick [] (k z σ' hz q))
theorem bX8_allows_73 {X : CT} {σ : St} {t0 : Int}  (s : (-2147483648 ≤ t0 ∧ t0 < 2147483648))
    (kt : t0 = 1 → G mdX8_allows X 81 [] [] σ)
    (kf : ¬ t0 = 1 → G mdX8_allows X 77 [] [] σ) :
    G mdX8_allows X 73 [] [vi t0] σ := by
  refine G.iconst dX8_allows_73 ?_
  exact G.icmp_eq (tgt := 81) dX8_allows_74 (by decide) s ⟨by decide, by decide⟩ (fun q => G.pick [] (kt q)) (fun q => G.pick [] (kf q))
theorem bX8_allows_77 {X : CT} {σ : St} 
    (k : G mdX8_allows X 82 [] [vi 1] σ) :
    G mdX8_allows X 77 [] [] σ := by
  refine G.iconst dX8_allows_77 ?_
  refine G.goto (tgt := 82) dX8_allows_78 (by decide) ?_
  exact G.pick [] k
theorem bX8_allows_81 {X : CT} {σ : St} 
    (k : G mdX8_allows X 82 [] [vi 0] σ) :
    G mdX8_allows X 81 [] [] σ := by
  refine G.iconst dX8_allows_81 ?_
  exact G.pick [] k
theorem bX8_allows_82 {X : CT} {σ : St} {t0 : Int}  {P : Int → St → Prop} (hX : RI X P) (s : (t0 = 0 ∨ t0 = 1))
    (k : P t0 σ) :
    G mdX8_allows X 82 [] [vi t0] σ := by
  exact G.zret hX dX8_allows_82 rfl s k
theorem bX8_allows_83 {X : CT} {σ : St} {o1 : Nat} {i2 i3 i4 : Int} (h1 : shp o1 = (1, 5, [])) (s : (-2147483648 ≤ i4 ∧ i4 < 2147483648))
    (kt : ¬ i4 = 1 → G mdX8_allows X 121 [] [] σ)
    (kf : i4 = 1 → G mdX8_allows X 89 [(1, vr o1), (2, vi i2), (3, vi i3)] [] σ) :
    G mdX8_allows X 83 [(1, vr o1), (2, vi i2), (3, vi i3), (4, vi i4)] [] σ := by
  refine G.iload (z := i4) dX8_allows_83 rfl ?_
  refine G.iconst dX8_allows_85 ?_
  exact G.icmp_ne (tgt := 121) dX8_allows_86 (by decide) s ⟨by decide, by decide⟩ (fun q => G.pick [] (kt q)) (fun q => G.pick [1, 2, 3] (kf q))
theorem bX8_allows_89 {X : CT} {σ : St} {o1 : Nat} {i2 i3 : Int} (h1 : shp o1 = (1, 5, [])) (s : (-2147483648 ≤ i2 ∧ i2 < 2147483648))
    (kt : ¬ i2 = 4 → G mdX8_allows X 121 [] [] σ)
    (kf : i2 = 4 → G mdX8_allows X 94 [(1, vr o1), (3, vi i3)] [] σ) :
    G mdX8_allows X 89 [(1, vr o1), (2, vi i2), (3, vi i3)] [] σ := by
  refine G.iload_n (z := i2) dX8_allows_89 rfl ?_
  refine G.iconst dX8_allows_90 ?_
  exact G.icmp_ne (tgt := 121) dX8_allows_91 (by decide) s ⟨by decide, by decide⟩ (fun q => G.pick [] (kt q)) (fun q => G.pick [1, 3] (kf q))
theorem bX8_allows_94 {X : CT} {σ : St} {o1 : Nat} {i3 : Int} (h1 : shp o1 = (1, 5, [])) {P : Int → St → Prop} (hM : CI mdJ9_floorMod_7cf53 [vi (((σ o1 1) * i3) - ((σ o1 2) * (σ o1 3))), vi 97] σ P)
    (k : ∀ z σ', inI z → P z σ' → G mdX8_allows X 112 [] [vi z] (σ')) :
    G mdX8_allows X 94 [(1, vr o1), (3, vi i3)] [] σ := by
  refine G.aload_n (o := o1) dX8_allows_94 rfl ?_
  refine G.iconst dX8_allows_95 ?_
  refine G.iald dX8_allows_96 h1 ⟨by decide, by decide⟩ ?_
  refine G.iload_n (z := i3) dX8_allows_97 rfl ?_
  refine G.imul dX8_allows_98 ?_
  refine G.aload_n (o := o1) dX8_allows_99 rfl ?_
  refine G.iconst dX8_allows_100 ?_
  refine G.iald dX8_allows_101 h1 ⟨by decide, by decide⟩ ?_
  refine G.aload_n (o := o1) dX8_allows_102 rfl ?_
  refine G.iconst dX8_allows_103 ?_
  refine G.iald dX8_allows_104 h1 ⟨by decide, by decide⟩ ?_
  refine G.imul dX8_allows_105 ?_
  refine G.isub dX8_allows_106 ?_
  refine G.bipush dX8_allows_107 (by decide) ?_
  exact G.callSI (as := [vi (((σ o1 1) * i3) - ((σ o1 2) * (σ o1 3))), vi 97]) (rest := []) dX8_allows_109 rfl vX8_34 (by decide) (Nat.le_of_ble_eq_true rfl) hM (fun z σ' hz q => G.pick [] (k z σ' hz q))
theorem bX8_allows_112 {X : CT} {σ : St} {t0 : Int}  (s : (-2147483648 ≤ t0 ∧ t0 < 2147483648))
    (kt : t0 = 0 → G mdX8_allows X 119 [] [] σ)
    (kf : ¬ t0 = 0 → G mdX8_allows X 115 [] [] σ) :
    G mdX8_allows X 112 [] [vi t0] σ := by
  exact G.if_eq (tgt := 119) dX8_allows_112 (by decide) s (fun q => G.pick [] (kt q)) (fun q => G.pick [] (kf q))
theorem bX8_allows_115 {X : CT} {σ : St} 
    (k : G mdX8_allows X 120 [] [vi 1] σ) :
    G mdX8_allows X 115 [] [] σ := by
  refine G.iconst dX8_allows_115 ?_
  refine G.goto (tgt := 120) dX8_allows_116 (by decide) ?_
  exact G.pick [] k
theorem bX8_allows_119 {X : CT} {σ : St} 
    (k : G mdX8_allows X 120 [] [vi 0] σ) :
    G mdX8_allows X 119 [] [] σ := by
  refine G.iconst dX8_allows_119 ?_
  exact G.pick [] k
theorem bX8_allows_120 {X : CT} {σ : St} {t0 : Int}  {P : Int → St → Prop} (hX : RI X P) (s : (t0 = 0 ∨ t0 = 1))
    (k : P t0 σ) :
    G mdX8_allows X 120 [] [vi t0] σ := by
  exact G.zret hX dX8_allows_120 rfl s k
theorem bX8_allows_121 {X : CT} {σ : St}  {P : Int → St → Prop} (hX : RI X P)
    (k : P 1 σ) :
    G mdX8_allows X 121 [] [] σ := by
  refine G.iconst dX8_allows_121 ?_
  exact G.zret hX dX8_allows_122 rfl (Or.inr rfl) k
theorem bX8_isFull_0 {X : CT} {σ : St} {o0 : Nat} (h0 : isSp o0) (s : (-2147483648 ≤ σ o0 2 ∧ σ o0 2 < 2147483648) ∧ (-2147483648 ≤ σ o0 1 ∧ σ o0 1 < 2147483648))
    (kt : σ o0 2 < σ o0 1 → G mdX8_isFull X 15 [] [] σ)
    (kf : σ o0 1 ≤ σ o0 2 → G mdX8_isFull X 11 [] [] σ) :
    G mdX8_isFull X 0 [(0, vr o0)] [] σ := by
  refine G.aload_n (o := o0) dX8_isFull_0 rfl ?_
  refine G.getI (j := 2) dX8_isFull_1 fX8_37 (sh_sp h0) rfl rfl rfl ?_
  refine G.aload_n (o := o0) dX8_isFull_4 rfl ?_
  refine G.getI (j := 1) dX8_isFull_5 fX8_21 (sh_sp h0) rfl rfl rfl ?_
  exact G.icmp_lt (tgt := 15) dX8_isFull_8 (by decide) s.1 s.2 (fun q => G.pick [] (kt q)) (fun q => G.pick [] (kf q))
theorem bX8_isFull_11 {X : CT} {σ : St} 
    (k : G mdX8_isFull X 16 [] [vi 1] σ) :
    G mdX8_isFull X 11 [] [] σ := by
  refine G.iconst dX8_isFull_11 ?_
  refine G.goto (tgt := 16) dX8_isFull_12 (by decide) ?_
  exact G.pick [] k
theorem bX8_isFull_15 {X : CT} {σ : St} 
    (k : G mdX8_isFull X 16 [] [vi 0] σ) :
    G mdX8_isFull X 15 [] [] σ := by
  refine G.iconst dX8_isFull_15 ?_
  exact G.pick [] k
theorem bX8_isFull_16 {X : CT} {σ : St} {t0 : Int}  {P : Int → St → Prop} (hX : RI X P) (s : (t0 = 0 ∨ t0 = 1))
    (k : P t0 σ) :
    G mdX8_isFull X 16 [] [vi t0] σ := by
  exact G.zret hX dX8_isFull_16 rfl s k
theorem bX8_append_0 {X : CT} {σ : St} {o0 o1 : Nat} (h0 : isSp o0) (h1 : shp o1 = (1, 5, [])) {P : Int → St → Prop} (hM : CI mdX8_isFull [vr o0] σ P)
    (k : ∀ z σ', inI z → P z σ' → G mdX8_append X 4 [(0, vr o0), (1, vr o1)] [vi z] (σ')) :
    G mdX8_append X 0 [(0, vr o0), (1, vr o1)] [] σ := by
  refine G.aload_n (o := o0) dX8_append_0 rfl ?_
  exact G.callVI (as := []) (rest := []) dX8_append_1 rfl vX8_40 (by decide) (sh_sp h0) rfl (by decide) (Nat.le_of_ble_eq_true rfl) hM (fun z σ' hz q => G.pick [0, 1] (k z σ' hz q))
theorem bX8_append_4 {X : CT} {σ : St} {o0 o1 : Nat} {t0 : Int} (h0 : isSp o0) (h1 : shp o1 = (1, 5, [])) (s : (-2147483648 ≤ t0 ∧ t0 < 2147483648))
    (kt : ¬ t0 = 0 → G mdX8_append X 33 [] [] σ)
    (kf : t0 = 0 → G mdX8_append X 7 [(0, vr o0), (1, vr o1)] [] σ) :
    G mdX8_append X 4 [(0, vr o0), (1, vr o1)] [vi t0] σ := by
  exact G.if_ne (tgt := 33) dX8_append_4 (by decide) s (fun q => G.pick [] (kt q)) (fun q => G.pick [0, 1] (kf q))
theorem bX8_append_7 {X : CT} {σ : St} {o0 o1 : Nat} (h0 : isSp o0) (h1 : shp o1 = (1, 5, [])) (s : 0 ≤ (σ o0 2) * 5 ∧ ((σ o0 2) * 5) + 5 ≤ 30)
    (k : G mdX8_append X 33 [] [] (wr (cp σ o1 0 (o0 + 1) ((σ o0 2) * 5) 5) o0 2 (((cp σ o1 0 (o0 + 1) ((σ o0 2) * 5) 5) o0 2) + 1))) :
    G mdX8_append X 7 [(0, vr o0), (1, vr o1)] [] σ := by
  refine G.aload_n (o := o1) dX8_append_7 rfl ?_
  refine G.iconst dX8_append_8 ?_
  refine G.aload_n (o := o0) dX8_append_9 rfl ?_
  refine G.getR (o' := (o0 + 1)) dX8_append_10 fX8_11 (sh_sp h0) rfl ?_
  refine G.aload_n (o := o0) dX8_append_13 rfl ?_
  refine G.getI (j := 2) dX8_append_14 fX8_37 (sh_sp h0) rfl rfl rfl ?_
  refine G.iconst dX8_append_17 ?_
  refine G.imul dX8_append_18 ?_
  refine G.iconst dX8_append_19 ?_
  refine G.acopy (i0 := 351) dX8_append_20 (by decide +kernel) (by decide) h1 (sh_spn h0) (by decide) s.1 (by decide) (by decide) s.2 (Nat.le_of_ble_eq_true rfl) ?_
  refine G.aload_n (o := o0) dX8_append_23 rfl ?_
  refine G.dup dX8_append_24 ?_
  refine G.getI (j := 2) dX8_append_25 fX8_37 (sh_sp h0) rfl rfl rfl ?_
  refine G.iconst dX8_append_28 ?_
  refine G.iadd dX8_append_29 ?_
  refine G.putI (j := 2) dX8_append_30 fX8_37 (sh_sp h0) rfl rfl rfl rfl rfl ?_
  exact G.pick [] k
theorem bX8_append_33 {X : CT} {σ : St}  {P : St → Prop} (hX : RV X P)
    (k : P σ) :
    G mdX8_append X 33 [] [] σ := by
  exact G.vret hX dX8_append_33 rfl k
theorem bX8_remove_0 {X : CT} {σ : St} {o0 : Nat} {i1 : Int} (h0 : isSp o0)
    (k : G mdX8_remove X 4 [(0, vr o0), (2, vi (i1 * 5))] [] σ) :
    G mdX8_remove X 0 [(0, vr o0), (1, vi i1)] [] σ := by
  refine G.iload_n (z := i1) dX8_remove_0 rfl ?_
  refine G.iconst dX8_remove_1 ?_
  refine G.imul dX8_remove_2 ?_
  refine G.istore_n dX8_remove_3 (by decide) rfl ?_
  exact G.pick [0, 2] k
theorem bX8_remove_4 {X : CT} {σ : St} {o0 : Nat} {i2 : Int} (h0 : isSp o0) (s : (-2147483648 ≤ i2 ∧ i2 < 2147483648) ∧ (-2147483648 ≤ ((σ o0 2) - 1) * 5 ∧ ((σ o0 2) - 1) * 5 < 2147483648))
    (kt : ((σ o0 2) - 1) * 5 ≤ i2 → G mdX8_remove X 36 [(0, vr o0)] [] σ)
    (kf : i2 < ((σ o0 2) - 1) * 5 → G mdX8_remove X 16 [(0, vr o0), (2, vi i2)] [] σ) :
    G mdX8_remove X 4 [(0, vr o0), (2, vi i2)] [] σ := by
  refine G.iload_n (z := i2) dX8_remove_4 rfl ?_
  refine G.aload_n (o := o0) dX8_remove_5 rfl ?_
  refine G.getI (j := 2) dX8_remove_6 fX8_37 (sh_sp h0) rfl rfl rfl ?_
  refine G.iconst dX8_remove_9 ?_
  refine G.isub dX8_remove_10 ?_
  refine G.iconst dX8_remove_11 ?_
  refine G.imul dX8_remove_12 ?_
  exact G.icmp_ge (tgt := 36) dX8_remove_13 (by decide) s.1 s.2 (fun q => G.pick [0] (kt q)) (fun q => G.pick [0, 2] (kf q))
theorem bX8_remove_16 {X : CT} {σ : St} {o0 : Nat} {i2 : Int} (h0 : isSp o0) (s : (0 ≤ i2 + 5 ∧ i2 + 5 < 30) ∧ (0 ≤ i2 ∧ i2 < 30))
    (k : G mdX8_remove X 4 [(0, vr o0), (2, vi (i2 + 1))] [] (wr σ (o0 + 1) i2 (σ (o0 + 1) (i2 + 5)))) :
    G mdX8_remove X 16 [(0, vr o0), (2, vi i2)] [] σ := by
  refine G.aload_n (o := o0) dX8_remove_16 rfl ?_
  refine G.getR (o' := (o0 + 1)) dX8_remove_17 fX8_11 (sh_sp h0) rfl ?_
  refine G.iload_n (z := i2) dX8_remove_20 rfl ?_
  refine G.aload_n (o := o0) dX8_remove_21 rfl ?_
  refine G.getR (o' := (o0 + 1)) dX8_remove_22 fX8_11 (sh_sp h0) rfl ?_
  refine G.iload_n (z := i2) dX8_remove_25 rfl ?_
  refine G.iconst dX8_remove_26 ?_
  refine G.iadd dX8_remove_27 ?_
  refine G.iald dX8_remove_28 (sh_spn h0) s.1 ?_
  refine G.iast dX8_remove_29 (sh_spn h0) s.2 ?_
  refine G.iinc (z := i2) dX8_remove_30 rfl (by decide) rfl ?_
  refine G.goto (tgt := 4) dX8_remove_33 (by decide) ?_
  exact G.pick [0, 2] k
theorem bX8_remove_36 {X : CT} {σ : St} {o0 : Nat} (h0 : isSp o0) {P : St → Prop} (hX : RV X P)
    (k : P (wr σ o0 2 ((σ o0 2) - 1))) :
    G mdX8_remove X 36 [(0, vr o0)] [] σ := by
  refine G.aload_n (o := o0) dX8_remove_36 rfl ?_
  refine G.dup dX8_remove_37 ?_
  refine G.getI (j := 2) dX8_remove_38 fX8_37 (sh_sp h0) rfl rfl rfl ?_
  refine G.iconst dX8_remove_41 ?_
  refine G.isub dX8_remove_42 ?_
  refine G.putI (j := 2) dX8_remove_43 fX8_37 (sh_sp h0) rfl rfl rfl rfl rfl ?_
  exact G.vret hX dX8_remove_46 rfl k
theorem bX8_arrange_0 {X : CT} {σ : St} {o0 o1 o2 : Nat} (h0 : isSp o0) (h1 : isSp o1) (h2 : shp o2 = (1, 4, []))
    (k : G mdX8_arrange X 2 [(0, vr o0), (1, vr o1), (2, vr o2), (3, vi 0)] [] σ) :
    G mdX8_arrange X 0 [(0, vr o0), (1, vr o1), (2, vr o2)] [] σ := by
  refine G.iconst dX8_arrange_0 ?_
  refine G.istore_n dX8_arrange_1 (by decide) rfl ?_
  exact G.pick [0, 1, 2, 3] k
theorem bX8_arrange_2 {X : CT} {σ : St} {o0 o1 o2 : Nat} {i3 : Int} (h0 : isSp o0) (h1 : isSp o1) (h2 : shp o2 = (1, 4, [])) (s : (-2147483648 ≤ i3 ∧ i3 < 2147483648) ∧ (-2147483648 ≤ σ o0 2 ∧ σ o0 2 < 2147483648))
    (kt : σ o0 2 ≤ i3 → G mdX8_arrange X 36 [] [] σ)
    (kf : i3 < σ o0 2 → G mdX8_arrange X 10 [(0, vr o0), (1, vr o1), (2, vr o2), (3, vi i3)] [] σ) :
    G mdX8_arrange X 2 [(0, vr o0), (1, vr o1), (2, vr o2), (3, vi i3)] [] σ := by
  refine G.iload_n (z := i3) dX8_arrange_2 rfl ?_
  refine G.aload_n (o := o0) dX8_arrange_3 rfl ?_
  refine G.getI (j := 2) dX8_arrange_4 fX8_37 (sh_sp h0) rfl rfl rfl ?_
  exact G.icmp_ge (tgt := 36) dX8_arrange_7 (by decide) s.1 s.2 (fun q => G.pick [] (kt q)) (fun q => G.pick [0, 1, 2, 3] (kf q))
theorem bX8_arrange_10 {X : CT} {σ : St} {o0 o1 o2 : Nat} {i3 : Int} (h0 : isSp o0) (h1 : isSp o1) (h2 : shp o2 = (1, 4, [])) (s : (0 ≤ i3 ∧ i3 < 4) ∧ 0 ≤ (σ o2 i3) * 5 ∧ 0 ≤ i3 * 5 ∧ ((σ o2 i3) * 5) + 5 ≤ 30 ∧ (i3 * 5) + 5 ≤ 30)
    (k : G mdX8_arrange X 2 [(0, vr o0), (1, vr o1), (2, vr o2), (3, vi (i3 + 1))] [] (cp σ (o1 + 1) ((σ o2 i3) * 5) (o0 + 1) (i3 * 5) 5)) :
    G mdX8_arrange X 10 [(0, vr o0), (1, vr o1), (2, vr o2), (3, vi i3)] [] σ := by
  refine G.aload_n (o := o1) dX8_arrange_10 rfl ?_
  refine G.getR (o' := (o1 + 1)) dX8_arrange_11 fX8_11 (sh_sp h1) rfl ?_
  refine G.aload_n (o := o2) dX8_arrange_14 rfl ?_
  refine G.iload_n (z := i3) dX8_arrange_15 rfl ?_
  refine G.iald dX8_arrange_16 h2 s.1 ?_
  refine G.iconst dX8_arrange_17 ?_
  refine G.imul dX8_arrange_18 ?_
  refine G.aload_n (o := o0) dX8_arrange_19 rfl ?_
  refine G.getR (o' := (o0 + 1)) dX8_arrange_20 fX8_11 (sh_sp h0) rfl ?_
  refine G.iload_n (z := i3) dX8_arrange_23 rfl ?_
  refine G.iconst dX8_arrange_24 ?_
  refine G.imul dX8_arrange_25 ?_
  refine G.iconst dX8_arrange_26 ?_
  refine G.acopy (i0 := 351) dX8_arrange_27 (by decide +kernel) (by decide) (sh_spn h1) (sh_spn h0) s.2.1 s.2.2.1 (by decide) s.2.2.2.1 s.2.2.2.2 (Nat.le_of_ble_eq_true rfl) ?_
  refine G.iinc (z := i3) dX8_arrange_30 rfl (by decide) rfl ?_
  refine G.goto (tgt := 2) dX8_arrange_33 (by decide) ?_
  exact G.pick [0, 1, 2, 3] k
theorem bX8_arrange_36 {X : CT} {σ : St}  {P : St → Prop} (hX : RV X P)
    (k : P σ) :
    G mdX8_arrange X 36 [] [] σ := by
  exact G.vret hX dX8_arrange_36 rfl k
theorem bX8_numberOf_0 {X : CT} {σ : St} {o0 : Nat} {i1 i2 : Int} (h0 : isSp o0) (s : (-2147483648 ≤ i1 ∧ i1 < 2147483648))
    (kt : i1 < 0 → G mdX8_numberOf X 21 [] [] σ)
    (kf : 0 ≤ i1 → G mdX8_numberOf X 4 [(0, vr o0), (1, vi i1), (2, vi i2)] [] σ) :
    G mdX8_numberOf X 0 [(0, vr o0), (1, vi i1), (2, vi i2)] [] σ := by
  refine G.iload_n (z := i1) dX8_numberOf_0 rfl ?_
  exact G.if_lt (tgt := 21) dX8_numberOf_1 (by decide) s (fun q => G.pick [] (kt q)) (fun q => G.pick [0, 1, 2] (kf q))
theorem bX8_numberOf_4 {X : CT} {σ : St} {o0 : Nat} {i1 i2 : Int} (h0 : isSp o0) (s : (-2147483648 ≤ i1 ∧ i1 < 2147483648) ∧ (-2147483648 ≤ σ o0 2 ∧ σ o0 2 < 2147483648))
    (kt : σ o0 2 ≤ i1 → G mdX8_numberOf X 21 [] [] σ)
    (kf : i1 < σ o0 2 → G mdX8_numberOf X 12 [(0, vr o0), (1, vi i1), (2, vi i2)] [] σ) :
    G mdX8_numberOf X 4 [(0, vr o0), (1, vi i1), (2, vi i2)] [] σ := by
  refine G.iload_n (z := i1) dX8_numberOf_4 rfl ?_
  refine G.aload_n (o := o0) dX8_numberOf_5 rfl ?_
  refine G.getI (j := 2) dX8_numberOf_6 fX8_37 (sh_sp h0) rfl rfl rfl ?_
  exact G.icmp_ge (tgt := 21) dX8_numberOf_9 (by decide) s.1 s.2 (fun q => G.pick [] (kt q)) (fun q => G.pick [0, 1, 2] (kf q))
theorem bX8_numberOf_12 {X : CT} {σ : St} {o0 : Nat} {i1 i2 : Int} (h0 : isSp o0) (s : (-2147483648 ≤ i2 ∧ i2 < 2147483648))
    (kt : i2 < 0 → G mdX8_numberOf X 21 [] [] σ)
    (kf : 0 ≤ i2 → G mdX8_numberOf X 16 [(0, vr o0), (1, vi i1), (2, vi i2)] [] σ) :
    G mdX8_numberOf X 12 [(0, vr o0), (1, vi i1), (2, vi i2)] [] σ := by
  refine G.iload_n (z := i2) dX8_numberOf_12 rfl ?_
  exact G.if_lt (tgt := 21) dX8_numberOf_13 (by decide) s (fun q => G.pick [] (kt q)) (fun q => G.pick [0, 1, 2] (kf q))
theorem bX8_numberOf_16 {X : CT} {σ : St} {o0 : Nat} {i1 i2 : Int} (h0 : isSp o0) (s : (-2147483648 ≤ i2 ∧ i2 < 2147483648))
    (kt : i2 < 5 → G mdX8_numberOf X 23 [(0, vr o0), (1, vi i1), (2, vi i2)] [] σ)
    (kf : 5 ≤ i2 → G mdX8_numberOf X 21 [] [] σ) :
    G mdX8_numberOf X 16 [(0, vr o0), (1, vi i1), (2, vi i2)] [] σ := by
  refine G.iload_n (z := i2) dX8_numberOf_16 rfl ?_
  refine G.iconst dX8_numberOf_17 ?_
  exact G.icmp_lt (tgt := 23) dX8_numberOf_18 (by decide) s ⟨by decide, by decide⟩ (fun q => G.pick [0, 1, 2] (kt q)) (fun q => G.pick [] (kf q))
theorem bX8_numberOf_21 {X : CT} {σ : St}  {P : Int → St → Prop} (hX : RI X P)
    (k : P (-1) σ) :
    G mdX8_numberOf X 21 [] [] σ := by
  refine G.iconst dX8_numberOf_21 ?_
  exact G.iret hX dX8_numberOf_22 rfl ⟨by decide, by decide⟩ k
theorem bX8_numberOf_23 {X : CT} {σ : St} {o0 : Nat} {i1 i2 : Int} (h0 : isSp o0) {P : Int → St → Prop} (hX : RI X P) (s : (0 ≤ (i1 * 5) + i2 ∧ (i1 * 5) + i2 < 30) ∧ (-2147483648 ≤ σ (o0 + 1) ((i1 * 5) + i2) ∧ σ (o0 + 1) ((i1 * 5) + i2) < 2147483648))
    (k : P (σ (o0 + 1) ((i1 * 5) + i2)) σ) :
    G mdX8_numberOf X 23 [(0, vr o0), (1, vi i1), (2, vi i2)] [] σ := by
  refine G.aload_n (o := o0) dX8_numberOf_23 rfl ?_
  refine G.getR (o' := (o0 + 1)) dX8_numberOf_24 fX8_11 (sh_sp h0) rfl ?_
  refine G.iload_n (z := i1) dX8_numberOf_27 rfl ?_
  refine G.iconst dX8_numberOf_28 ?_
  refine G.imul dX8_numberOf_29 ?_
  refine G.iload_n (z := i2) dX8_numberOf_30 rfl ?_
  refine G.iadd dX8_numberOf_31 ?_
  refine G.iald dX8_numberOf_32 (sh_spn h0) s.1 ?_
  exact G.iret hX dX8_numberOf_33 rfl s.2 k
theorem bX8_takeFrom_0 {X : CT} {σ : St} {o0 o1 : Nat} (h0 : isSp o0) (h1 : isSp o1) {P : St → Prop} (hX : RV X P)
    (k : P (wr (cp σ (o1 + 1) 0 (o0 + 1) 0 30) o0 2 ((cp σ (o1 + 1) 0 (o0 + 1) 0 30) o1 2))) :
    G mdX8_takeFrom X 0 [(0, vr o0), (1, vr o1)] [] σ := by
  refine G.aload_n (o := o1) dX8_takeFrom_0 rfl ?_
  refine G.getR (o' := (o1 + 1)) dX8_takeFrom_1 fX8_11 (sh_sp h1) rfl ?_
  refine G.iconst dX8_takeFrom_4 ?_
  refine G.aload_n (o := o0) dX8_takeFrom_5 rfl ?_
  refine G.getR (o' := (o0 + 1)) dX8_takeFrom_6 fX8_11 (sh_sp h0) rfl ?_
  refine G.iconst dX8_takeFrom_9 ?_
  refine G.aload_n (o := o0) dX8_takeFrom_10 rfl ?_
  refine G.getR (o' := (o0 + 1)) dX8_takeFrom_11 fX8_11 (sh_sp h0) rfl ?_
  refine G.alen dX8_takeFrom_14 (sh_spn h0) ?_
  refine G.acopy (i0 := 351) dX8_takeFrom_15 (by decide +kernel) (by decide) (sh_spn h1) (sh_spn h0) (by decide) (by decide) (by decide) (by decide) (by decide) (Nat.le_of_ble_eq_true rfl) ?_
  refine G.aload_n (o := o0) dX8_takeFrom_18 rfl ?_
  refine G.aload_n (o := o1) dX8_takeFrom_19 rfl ?_
  refine G.getI (j := 2) dX8_takeFrom_20 fX8_37 (sh_sp h1) rfl rfl rfl ?_
  refine G.putI (j := 2) dX8_takeFrom_23 fX8_37 (sh_sp h0) rfl rfl rfl rfl rfl ?_
  exact G.vret hX dX8_takeFrom_26 rfl k
theorem bX9_append_0 {X : CT} {σ : St} {i1 : Int}  (s : (-2147483648 ≤ σ 65 2 ∧ σ 65 2 < 2147483648))
    (kt : σ 65 2 < 160 → G mdX9_append X 12 [(0, vr 65), (1, vi i1)] [] σ)
    (kf : 160 ≤ σ 65 2 → G mdX9_append X 10 [] [] σ) :
    G mdX9_append X 0 [(0, vr 65), (1, vi i1)] [] σ := by
  refine G.aload_n (o := 65) dX9_append_0 rfl ?_
  refine G.getI (j := 2) dX9_append_1 fX9_20 sh65 rfl rfl rfl ?_
  refine G.sipush dX9_append_4 (by decide) ?_
  exact G.icmp_lt (tgt := 12) dX9_append_7 (by decide) s ⟨by decide, by decide⟩ (fun q => G.pick [0, 1] (kt q)) (fun q => G.pick [] (kf q))
theorem bX9_append_10 {X : CT} {σ : St}  {P : Int → St → Prop} (hX : RI X P)
    (k : P 0 σ) :
    G mdX9_append X 10 [] [] σ := by
  refine G.iconst dX9_append_10 ?_
  exact G.zret hX dX9_append_11 rfl (Or.inl rfl) k
theorem bX9_append_12 {X : CT} {σ : St} {i1 : Int}  {P : Int → St → Prop} (hX : RI X P) (s : (0 ≤ σ 65 2 ∧ σ 65 2 < 160))
    (k : P 1 (wr (wr σ 66 (σ 65 2) i1) 65 2 (((wr σ 66 (σ 65 2) i1) 65 2) + 1))) :
    G mdX9_append X 12 [(0, vr 65), (1, vi i1)] [] σ := by
  refine G.aload_n (o := 65) dX9_append_12 rfl ?_
  refine G.getR (o' := 66) dX9_append_13 fX9_11 sh65 rfl ?_
  refine G.aload_n (o := 65) dX9_append_16 rfl ?_
  refine G.getI (j := 2) dX9_append_17 fX9_20 sh65 rfl rfl rfl ?_
  refine G.iload_n (z := i1) dX9_append_20 rfl ?_
  refine G.iast dX9_append_21 sh66 s ?_
  refine G.aload_n (o := 65) dX9_append_22 rfl ?_
  refine G.dup dX9_append_23 ?_
  refine G.getI (j := 2) dX9_append_24 fX9_20 sh65 rfl rfl rfl ?_
  refine G.iconst dX9_append_27 ?_
  refine G.iadd dX9_append_28 ?_
  refine G.putI (j := 2) dX9_append_29 fX9_20 sh65 rfl rfl rfl rfl rfl ?_
  refine G.iconst dX9_append_32 ?_
  exact G.zret hX dX9_append_33 rfl (Or.inr rfl) k
theorem bX9_readInto_0 {X : CT} {σ : St} {o1 : Nat} (h1 : isSt o1) {P : St → Prop} (hM : CV mdX7_tellNothing [vr o1] σ P)
    (k : ∀ σ', P σ' → G mdX9_readInto X 4 [(0, vr 65), (1, vr o1)] [] (σ')) :
    G mdX9_readInto X 0 [(0, vr 65), (1, vr o1)] [] σ := by
  refine G.aload_n (o := o1) dX9_readInto_0 rfl ?_
  exact G.callVV (as := []) (rest := []) dX9_readInto_1 rfl vX9_24 (by decide) (sh_st h1) rfl (by decide) (Nat.le_of_ble_eq_true rfl) hM (fun σ' q => G.pick [0, 1] (k σ' q))
theorem bX9_readInto_4 {X : CT} {σ : St} {o1 : Nat} (h1 : isSt o1)
    (k : G mdX9_readInto X 24 [(0, vr 65), (1, vr o1), (2, vi 0), (3, vi 0)] [] (wr (wr (wr σ 65 3 32) 65 5 0) 65 6 0)) :
    G mdX9_readInto X 4 [(0, vr 65), (1, vr o1)] [] σ := by
  refine G.aload_n (o := 65) dX9_readInto_4 rfl ?_
  refine G.bipush dX9_readInto_5 (by decide) ?_
  refine G.putI (j := 3) dX9_readInto_7 fX9_29 sh65 rfl rfl rfl rfl rfl ?_
  refine G.aload_n (o := 65) dX9_readInto_10 rfl ?_
  refine G.iconst dX9_readInto_11 ?_
  refine G.putI (j := 5) dX9_readInto_12 fX9_32 sh65 rfl rfl rfl rfl rfl ?_
  refine G.aload_n (o := 65) dX9_readInto_15 rfl ?_
  refine G.iconst dX9_readInto_16 ?_
  refine G.putZ (j := 6) dX9_readInto_17 fX9_35 sh65 rfl rfl rfl rfl rfl (Or.inl rfl) ?_
  refine G.iconst dX9_readInto_20 ?_
  refine G.istore_n dX9_readInto_21 (by decide) rfl ?_
  refine G.iconst dX9_readInto_22 ?_
  refine G.istore_n dX9_readInto_23 (by decide) rfl ?_
  exact G.pick [0, 1, 2, 3] k
theorem bX9_readInto_24 {X : CT} {σ : St} {o1 : Nat} {i2 i3 : Int} (h1 : isSt o1) (s : (-2147483648 ≤ i3 ∧ i3 < 2147483648))
    (kt : 160 ≤ i3 → G mdX9_readInto X 71 [(0, vr 65)] [] σ)
    (kf : i3 < 160 → G mdX9_readInto X 31 [(0, vr 65), (1, vr o1), (2, vi i2), (3, vi i3)] [] σ) :
    G mdX9_readInto X 24 [(0, vr 65), (1, vr o1), (2, vi i2), (3, vi i3)] [] σ := by
  refine G.iload_n (z := i3) dX9_readInto_24 rfl ?_
  refine G.sipush dX9_readInto_25 (by decide) ?_
  exact G.icmp_ge (tgt := 71) dX9_readInto_28 (by decide) s ⟨by decide, by decide⟩ (fun q => G.pick [0] (kt q)) (fun q => G.pick [0, 1, 2, 3] (kf q))
theorem bX9_readInto_31 {X : CT} {σ : St} {o1 : Nat} {i2 i3 : Int} (h1 : isSt o1) (s : (-2147483648 ≤ i2 ∧ i2 < 2147483648) ∧ (-2147483648 ≤ σ 65 2 ∧ σ 65 2 < 2147483648))
    (kt : σ 65 2 ≤ i2 → G mdX9_readInto X 71 [(0, vr 65)] [] σ)
    (kf : i2 < σ 65 2 → G mdX9_readInto X 39 [(0, vr 65), (1, vr o1), (2, vi i2), (3, vi i3)] [] σ) :
    G mdX9_readInto X 31 [(0, vr 65), (1, vr o1), (2, vi i2), (3, vi i3)] [] σ := by
  refine G.iload_n (z := i2) dX9_readInto_31 rfl ?_
  refine G.aload_n (o := 65) dX9_readInto_32 rfl ?_
  refine G.getI (j := 2) dX9_readInto_33 fX9_20 sh65 rfl rfl rfl ?_
  exact G.icmp_ge (tgt := 71) dX9_readInto_36 (by decide) s.1 s.2 (fun q => G.pick [0] (kt q)) (fun q => G.pick [0, 1, 2, 3] (kf q))
theorem bX9_readInto_39 {X : CT} {σ : St} {o1 : Nat} {i2 i3 : Int} (h1 : isSt o1) {P : Int → St → Prop} (hM : CI mdX9_endOfToken [vr 65, vi i2] σ P)
    (k : ∀ z σ', inI z → P z σ' → G mdX9_readInto X 44 [(0, vr 65), (1, vr o1), (2, vi i2), (3, vi i3)] [vi z] (σ')) :
    G mdX9_readInto X 39 [(0, vr 65), (1, vr o1), (2, vi i2), (3, vi i3)] [] σ := by
  refine G.aload_n (o := 65) dX9_readInto_39 rfl ?_
  refine G.iload_n (z := i2) dX9_readInto_40 rfl ?_
  exact G.callVI (as := [vi i2]) (rest := []) dX9_readInto_41 rfl vX9_39 (by decide) sh65 rfl (by decide) (Nat.le_of_ble_eq_true rfl) hM (fun z σ' hz q => G.pick [0, 1, 2, 3] (k z σ' hz q))
theorem bX9_readInto_44 {X : CT} {σ : St} {o1 : Nat} {i2 i3 t0 : Int} (h1 : isSt o1) {P : Int → St → Prop} (hM : CI mdX9_takesToken [vr 65, vr o1, vi i2, vi t0] σ P)
    (k : ∀ z σ', inI z → P z σ' → G mdX9_readInto X 54 [(0, vr 65), (1, vr o1), (2, vi i2), (3, vi i3), (4, vi t0)] [vi z] (σ')) :
    G mdX9_readInto X 44 [(0, vr 65), (1, vr o1), (2, vi i2), (3, vi i3)] [vi t0] σ := by
  refine G.istore dX9_readInto_44 (by decide) rfl ?_
  refine G.aload_n (o := 65) dX9_readInto_46 rfl ?_
  refine G.aload_n (o := o1) dX9_readInto_47 rfl ?_
  refine G.iload_n (z := i2) dX9_readInto_48 rfl ?_
  refine G.iload (z := t0) dX9_readInto_49 rfl ?_
  exact G.callVI (as := [vr o1, vi i2, vi t0]) (rest := []) dX9_readInto_51 rfl vX9_43 (by decide) sh65 rfl (by decide) (Nat.le_of_ble_eq_true rfl) hM (fun z σ' hz q => G.pick [0, 1, 2, 3, 4] (k z σ' hz q))
theorem bX9_readInto_54 {X : CT} {σ : St} {o1 : Nat} {i2 i3 i4 t0 : Int} (h1 : isSt o1) (s : (-2147483648 ≤ t0 ∧ t0 < 2147483648))
    (kt : ¬ t0 = 0 → G mdX9_readInto X 62 [(0, vr 65), (1, vr o1), (3, vi i3), (4, vi i4)] [] σ)
    (kf : t0 = 0 → G mdX9_readInto X 57 [(2, vi i2)] [] σ) :
    G mdX9_readInto X 54 [(0, vr 65), (1, vr o1), (2, vi i2), (3, vi i3), (4, vi i4)] [vi t0] σ := by
  exact G.if_ne (tgt := 62) dX9_readInto_54 (by decide) s (fun q => G.pick [0, 1, 3, 4] (kt q)) (fun q => G.pick [2] (kf q))
theorem bX9_readInto_57 {X : CT} {σ : St} {i2 : Int}  {P : Int → St → Prop} (hX : RI X P) (s : (-2147483648 ≤ (-10) - i2 ∧ (-10) - i2 < 2147483648))
    (k : P ((-10) - i2) σ) :
    G mdX9_readInto X 57 [(2, vi i2)] [] σ := by
  refine G.bipush dX9_readInto_57 (by decide) ?_
  refine G.iload_n (z := i2) dX9_readInto_59 rfl ?_
  refine G.isub dX9_readInto_60 ?_
  exact G.iret hX dX9_readInto_61 rfl s k
theorem bX9_readInto_62 {X : CT} {σ : St} {o1 : Nat} {i3 i4 : Int} (h1 : isSt o1)
    (k : G mdX9_readInto X 24 [(0, vr 65), (1, vr o1), (2, vi i4), (3, vi (i3 + 1))] [] σ) :
    G mdX9_readInto X 62 [(0, vr 65), (1, vr o1), (3, vi i3), (4, vi i4)] [] σ := by
  refine G.iload (z := i4) dX9_readInto_62 rfl ?_
  refine G.istore_n dX9_readInto_64 (by decide) rfl ?_
  refine G.iinc (z := i3) dX9_readInto_65 rfl (by decide) rfl ?_
  refine G.goto (tgt := 24) dX9_readInto_68 (by decide) ?_
  exact G.pick [0, 1, 2, 3] k
theorem bX9_readInto_71 {X : CT} {σ : St}  (s : (-2147483648 ≤ σ 65 3 ∧ σ 65 3 < 2147483648))
    (kt : ¬ σ 65 3 = 32 → G mdX9_readInto X 87 [(0, vr 65)] [] σ)
    (kf : σ 65 3 = 32 → G mdX9_readInto X 80 [(0, vr 65)] [] σ) :
    G mdX9_readInto X 71 [(0, vr 65)] [] σ := by
  refine G.aload_n (o := 65) dX9_readInto_71 rfl ?_
  refine G.getI (j := 3) dX9_readInto_72 fX9_29 sh65 rfl rfl rfl ?_
  refine G.bipush dX9_readInto_75 (by decide) ?_
  exact G.icmp_ne (tgt := 87) dX9_readInto_77 (by decide) s ⟨by decide, by decide⟩ (fun q => G.pick [0] (kt q)) (fun q => G.pick [0] (kf q))
theorem bX9_readInto_80 {X : CT} {σ : St} 
    (k : G mdX9_readInto X 94 [] [vi (σ 65 5)] σ) :
    G mdX9_readInto X 80 [(0, vr 65)] [] σ := by
  refine G.aload_n (o := 65) dX9_readInto_80 rfl ?_
  refine G.getI (j := 5) dX9_readInto_81 fX9_32 sh65 rfl rfl rfl ?_
  refine G.goto (tgt := 94) dX9_readInto_84 (by decide) ?_
  exact G.pick [] k
theorem bX9_readInto_87 {X : CT} {σ : St} 
    (k : G mdX9_readInto X 94 [] [vi ((-10) - (σ 65 2))] σ) :
    G mdX9_readInto X 87 [(0, vr 65)] [] σ := by
  refine G.bipush dX9_readInto_87 (by decide) ?_
  refine G.aload_n (o := 65) dX9_readInto_89 rfl ?_
  refine G.getI (j := 2) dX9_readInto_90 fX9_20 sh65 rfl rfl rfl ?_
  refine G.isub dX9_readInto_93 ?_
  exact G.pick [] k
theorem bX9_readInto_94 {X : CT} {σ : St} {t0 : Int}  {P : Int → St → Prop} (hX : RI X P) (s : (-2147483648 ≤ t0 ∧ t0 < 2147483648))
    (k : P t0 σ) :
    G mdX9_readInto X 94 [] [vi t0] σ := by
  exact G.iret hX dX9_readInto_94 rfl s k
theorem bX9_endOfToken_0 {X : CT} {σ : St} {i1 : Int}  {P : Int → St → Prop} (hM : CI mdX9_isDigit [vi (σ 66 i1)] σ P) (s : (0 ≤ i1 ∧ i1 < 160))
    (k : ∀ z σ', inI z → P z σ' → G mdX9_endOfToken X 13 [(0, vr 65), (2, vi (i1 + 1))] [vi z] (σ')) :
    G mdX9_endOfToken X 0 [(0, vr 65), (1, vi i1)] [] σ := by
  refine G.iload_n (z := i1) dX9_endOfToken_0 rfl ?_
  refine G.iconst dX9_endOfToken_1 ?_
  refine G.iadd dX9_endOfToken_2 ?_
  refine G.istore_n dX9_endOfToken_3 (by decide) rfl ?_
  refine G.aload_n (o := 65) dX9_endOfToken_4 rfl ?_
  refine G.getR (o' := 66) dX9_endOfToken_5 fX9_11 sh65 rfl ?_
  refine G.iload_n (z := i1) dX9_endOfToken_8 rfl ?_
  refine G.iald dX9_endOfToken_9 sh66 s ?_
  exact G.callSI (as := [vi (σ 66 i1)]) (rest := []) dX9_endOfToken_10 rfl vX9_47 (by decide) (Nat.le_of_ble_eq_true rfl) hM (fun z σ' hz q => G.pick [0, 2] (k z σ' hz q))
theorem bX9_endOfToken_13 {X : CT} {σ : St} {i2 t0 : Int}  (s : (-2147483648 ≤ t0 ∧ t0 < 2147483648))
    (kt : t0 = 0 → G mdX9_endOfToken X 42 [(2, vi i2)] [] σ)
    (kf : ¬ t0 = 0 → G mdX9_endOfToken X 16 [(0, vr 65), (2, vi i2)] [] σ) :
    G mdX9_endOfToken X 13 [(0, vr 65), (2, vi i2)] [vi t0] σ := by
  exact G.if_eq (tgt := 42) dX9_endOfToken_13 (by decide) s (fun q => G.pick [2] (kt q)) (fun q => G.pick [0, 2] (kf q))
theorem bX9_endOfToken_16 {X : CT} {σ : St} {i2 : Int}  (s : (-2147483648 ≤ i2 ∧ i2 < 2147483648) ∧ (-2147483648 ≤ σ 65 2 ∧ σ 65 2 < 2147483648))
    (kt : σ 65 2 ≤ i2 → G mdX9_endOfToken X 42 [(2, vi i2)] [] σ)
    (kf : i2 < σ 65 2 → G mdX9_endOfToken X 24 [(0, vr 65), (2, vi i2)] [] σ) :
    G mdX9_endOfToken X 16 [(0, vr 65), (2, vi i2)] [] σ := by
  refine G.iload_n (z := i2) dX9_endOfToken_16 rfl ?_
  refine G.aload_n (o := 65) dX9_endOfToken_17 rfl ?_
  refine G.getI (j := 2) dX9_endOfToken_18 fX9_20 sh65 rfl rfl rfl ?_
  exact G.icmp_ge (tgt := 42) dX9_endOfToken_21 (by decide) s.1 s.2 (fun q => G.pick [2] (kt q)) (fun q => G.pick [0, 2] (kf q))
theorem bX9_endOfToken_24 {X : CT} {σ : St} {i2 : Int}  {P : Int → St → Prop} (hM : CI mdX9_isDigit [vi (σ 66 i2)] σ P) (s : (0 ≤ i2 ∧ i2 < 160))
    (k : ∀ z σ', inI z → P z σ' → G mdX9_endOfToken X 33 [(0, vr 65), (2, vi i2)] [vi z] (σ')) :
    G mdX9_endOfToken X 24 [(0, vr 65), (2, vi i2)] [] σ := by
  refine G.aload_n (o := 65) dX9_endOfToken_24 rfl ?_
  refine G.getR (o' := 66) dX9_endOfToken_25 fX9_11 sh65 rfl ?_
  refine G.iload_n (z := i2) dX9_endOfToken_28 rfl ?_
  refine G.iald dX9_endOfToken_29 sh66 s ?_
  exact G.callSI (as := [vi (σ 66 i2)]) (rest := []) dX9_endOfToken_30 rfl vX9_47 (by decide) (Nat.le_of_ble_eq_true rfl) hM (fun z σ' hz q => G.pick [0, 2] (k z σ' hz q))
theorem bX9_endOfToken_33 {X : CT} {σ : St} {i2 t0 : Int}  (s : (-2147483648 ≤ t0 ∧ t0 < 2147483648))
    (kt : t0 = 0 → G mdX9_endOfToken X 42 [(2, vi i2)] [] σ)
    (kf : ¬ t0 = 0 → G mdX9_endOfToken X 36 [(0, vr 65), (2, vi i2)] [] σ) :
    G mdX9_endOfToken X 33 [(0, vr 65), (2, vi i2)] [vi t0] σ := by
  exact G.if_eq (tgt := 42) dX9_endOfToken_33 (by decide) s (fun q => G.pick [2] (kt q)) (fun q => G.pick [0, 2] (kf q))
theorem bX9_endOfToken_36 {X : CT} {σ : St} {i2 : Int} 
    (k : G mdX9_endOfToken X 16 [(0, vr 65), (2, vi (i2 + 1))] [] σ) :
    G mdX9_endOfToken X 36 [(0, vr 65), (2, vi i2)] [] σ := by
  refine G.iinc (z := i2) dX9_endOfToken_36 rfl (by decide) rfl ?_
  refine G.goto (tgt := 16) dX9_endOfToken_39 (by decide) ?_
  exact G.pick [0, 2] k
theorem bX9_endOfToken_42 {X : CT} {σ : St} {i2 : Int}  {P : Int → St → Prop} (hX : RI X P) (s : (-2147483648 ≤ i2 ∧ i2 < 2147483648))
    (k : P i2 σ) :
    G mdX9_endOfToken X 42 [(2, vi i2)] [] σ := by
  refine G.iload_n (z := i2) dX9_endOfToken_42 rfl ?_
  exact G.iret hX dX9_endOfToken_43 rfl s k
theorem bX9_isDigit_0 {X : CT} {σ : St} {i0 : Int}  (s : (-2147483648 ≤ i0 ∧ i0 < 2147483648))
    (kt : i0 < 48 → G mdX9_isDigit X 16 [] [] σ)
    (kf : 48 ≤ i0 → G mdX9_isDigit X 6 [(0, vi i0)] [] σ) :
    G mdX9_isDigit X 0 [(0, vi i0)] [] σ := by
  refine G.iload_n (z := i0) dX9_isDigit_0 rfl ?_
  refine G.bipush dX9_isDigit_1 (by decide) ?_
  exact G.icmp_lt (tgt := 16) dX9_isDigit_3 (by decide) s ⟨by decide, by decide⟩ (fun q => G.pick [] (kt q)) (fun q => G.pick [0] (kf q))
theorem bX9_isDigit_6 {X : CT} {σ : St} {i0 : Int}  (s : (-2147483648 ≤ i0 ∧ i0 < 2147483648))
    (kt : 57 < i0 → G mdX9_isDigit X 16 [] [] σ)
    (kf : i0 ≤ 57 → G mdX9_isDigit X 12 [] [] σ) :
    G mdX9_isDigit X 6 [(0, vi i0)] [] σ := by
  refine G.iload_n (z := i0) dX9_isDigit_6 rfl ?_
  refine G.bipush dX9_isDigit_7 (by decide) ?_
  exact G.icmp_gt (tgt := 16) dX9_isDigit_9 (by decide) s ⟨by decide, by decide⟩ (fun q => G.pick [] (kt q)) (fun q => G.pick [] (kf q))
theorem bX9_isDigit_12 {X : CT} {σ : St} 
    (k : G mdX9_isDigit X 17 [] [vi 1] σ) :
    G mdX9_isDigit X 12 [] [] σ := by
  refine G.iconst dX9_isDigit_12 ?_
  refine G.goto (tgt := 17) dX9_isDigit_13 (by decide) ?_
  exact G.pick [] k
theorem bX9_isDigit_16 {X : CT} {σ : St} 
    (k : G mdX9_isDigit X 17 [] [vi 0] σ) :
    G mdX9_isDigit X 16 [] [] σ := by
  refine G.iconst dX9_isDigit_16 ?_
  exact G.pick [] k
theorem bX9_isDigit_17 {X : CT} {σ : St} {t0 : Int}  {P : Int → St → Prop} (hX : RI X P) (s : (t0 = 0 ∨ t0 = 1))
    (k : P t0 σ) :
    G mdX9_isDigit X 17 [] [vi t0] σ := by
  exact G.zret hX dX9_isDigit_17 rfl s k
theorem bX9_takesToken_0 {X : CT} {σ : St} {o1 : Nat} {i2 i3 : Int} (h1 : isSt o1) (s : (0 ≤ i2 ∧ i2 < 160) ∧ (-2147483648 ≤ σ 66 i2 ∧ σ 66 i2 < 2147483648))
    (kt : ¬ σ 66 i2 = 32 → G mdX9_takesToken X 17 [(0, vr 65), (1, vr o1), (2, vi i2), (3, vi i3), (4, vi (σ 66 i2))] [] σ)
    (kf : σ 66 i2 = 32 → G mdX9_takesToken X 15 [] [] σ) :
    G mdX9_takesToken X 0 [(0, vr 65), (1, vr o1), (2, vi i2), (3, vi i3)] [] σ := by
  refine G.aload_n (o := 65) dX9_takesToken_0 rfl ?_
  refine G.getR (o' := 66) dX9_takesToken_1 fX9_11 sh65 rfl ?_
  refine G.iload_n (z := i2) dX9_takesToken_4 rfl ?_
  refine G.iald dX9_takesToken_5 sh66 s.1 ?_
  refine G.istore dX9_takesToken_6 (by decide) rfl ?_
  refine G.iload (z := σ 66 i2) dX9_takesToken_8 rfl ?_
  refine G.bipush dX9_takesToken_10 (by decide) ?_
  exact G.icmp_ne (tgt := 17) dX9_takesToken_12 (by decide) s.2 ⟨by decide, by decide⟩ (fun q => G.pick [0, 1, 2, 3, 4] (kt q)) (fun q => G.pick [] (kf q))
theorem bX9_takesToken_15 {X : CT} {σ : St}  {P : Int → St → Prop} (hX : RI X P)
    (k : P 1 σ) :
    G mdX9_takesToken X 15 [] [] σ := by
  refine G.iconst dX9_takesToken_15 ?_
  exact G.zret hX dX9_takesToken_16 rfl (Or.inr rfl) k
theorem bX9_takesToken_17 {X : CT} {σ : St} {o1 : Nat} {i2 i3 i4 : Int} (h1 : isSt o1) {P : Int → St → Prop} (hM : CI mdX9_isDigit [vi i4] σ P)
    (k : ∀ z σ', inI z → P z σ' → G mdX9_takesToken X 22 [(0, vr 65), (1, vr o1), (2, vi i2), (3, vi i3), (4, vi i4)] [vi z] (σ')) :
    G mdX9_takesToken X 17 [(0, vr 65), (1, vr o1), (2, vi i2), (3, vi i3), (4, vi i4)] [] σ := by
  refine G.iload (z := i4) dX9_takesToken_17 rfl ?_
  exact G.callSI (as := [vi i4]) (rest := []) dX9_takesToken_19 rfl vX9_47 (by decide) (Nat.le_of_ble_eq_true rfl) hM (fun z σ' hz q => G.pick [0, 1, 2, 3, 4] (k z σ' hz q))
theorem bX9_takesToken_22 {X : CT} {σ : St} {o1 : Nat} {i2 i3 i4 t0 : Int} (h1 : isSt o1) (s : (-2147483648 ≤ t0 ∧ t0 < 2147483648))
    (kt : t0 = 0 → G mdX9_takesToken X 37 [(0, vr 65), (1, vr o1), (4, vi i4)] [] σ)
    (kf : ¬ t0 = 0 → G mdX9_takesToken X 25 [(0, vr 65), (1, vr o1), (2, vi i2), (3, vi i3)] [] σ) :
    G mdX9_takesToken X 22 [(0, vr 65), (1, vr o1), (2, vi i2), (3, vi i3), (4, vi i4)] [vi t0] σ := by
  exact G.if_eq (tgt := 37) dX9_takesToken_22 (by decide) s (fun q => G.pick [0, 1, 4] (kt q)) (fun q => G.pick [0, 1, 2, 3] (kf q))
theorem bX9_takesToken_25 {X : CT} {σ : St} {o1 : Nat} {i2 i3 : Int} (h1 : isSt o1) {P : Int → St → Prop} (hM : CI mdX9_valueOf [vr 65, vi i2, vi i3] σ P)
    (k : ∀ z σ', inI z → P z σ' → G mdX9_takesToken X 33 [] [vi z, vr o1, vr 65] (σ')) :
    G mdX9_takesToken X 25 [(0, vr 65), (1, vr o1), (2, vi i2), (3, vi i3)] [] σ := by
  refine G.aload_n (o := 65) dX9_takesToken_25 rfl ?_
  refine G.aload_n (o := o1) dX9_takesToken_26 rfl ?_
  refine G.aload_n (o := 65) dX9_takesToken_27 rfl ?_
  refine G.iload_n (z := i2) dX9_takesToken_28 rfl ?_
  refine G.iload_n (z := i3) dX9_takesToken_29 rfl ?_
  exact G.callVI (as := [vi i2, vi i3]) (rest := [vr o1, vr 65]) dX9_takesToken_30 rfl vX9_51 (by decide) sh65 rfl (by decide) (Nat.le_of_ble_eq_true rfl) hM (fun z σ' hz q => G.pick [] (k z σ' hz q))
theorem bX9_takesToken_33 {X : CT} {σ : St} {o1 : Nat} {t2 : Int} (h1 : isSt o1) {P : Int → St → Prop} (hM : CI mdX9_takesNumber [vr 65, vr o1, vi t2] σ P)
    (k : ∀ z σ', inI z → P z σ' → G mdX9_takesToken X 36 [] [vi z] (σ')) :
    G mdX9_takesToken X 33 [] [vi t2, vr o1, vr 65] σ := by
  exact G.callVI (as := [vr o1, vi t2]) (rest := []) dX9_takesToken_33 rfl vX9_55 (by decide) sh65 rfl (by decide) (Nat.le_of_ble_eq_true rfl) hM (fun z σ' hz q => G.pick [] (k z σ' hz q))
theorem bX9_takesToken_36 {X : CT} {σ : St} {t0 : Int}  {P : Int → St → Prop} (hX : RI X P) (s : (t0 = 0 ∨ t0 = 1))
    (k : P t0 σ) :
    G mdX9_takesToken X 36 [] [vi t0] σ := by
  exact G.zret hX dX9_takesToken_36 rfl s k
theorem bX9_takesToken_37 {X : CT} {σ : St} {o1 : Nat} {i4 : Int} (h1 : isSt o1) (s : (-2147483648 ≤ i4 ∧ i4 < 2147483648))
    (kt : ¬ i4 = 59 → G mdX9_takesToken X 50 [(0, vr 65), (1, vr o1), (4, vi i4)] [] σ)
    (kf : i4 = 59 → G mdX9_takesToken X 44 [(0, vr 65), (1, vr o1)] [] σ) :
    G mdX9_takesToken X 37 [(0, vr 65), (1, vr o1), (4, vi i4)] [] σ := by
  refine G.iload (z := i4) dX9_takesToken_37 rfl ?_
  refine G.bipush dX9_takesToken_39 (by decide) ?_
  exact G.icmp_ne (tgt := 50) dX9_takesToken_41 (by decide) s ⟨by decide, by decide⟩ (fun q => G.pick [0, 1, 4] (kt q)) (fun q => G.pick [0, 1] (kf q))
theorem bX9_takesToken_44 {X : CT} {σ : St} {o1 : Nat} (h1 : isSt o1) {P : Int → St → Prop} (hM : CI mdX9_endsItem [vr 65, vr o1] σ P)
    (k : ∀ z σ', inI z → P z σ' → G mdX9_takesToken X 49 [] [vi z] (σ')) :
    G mdX9_takesToken X 44 [(0, vr 65), (1, vr o1)] [] σ := by
  refine G.aload_n (o := 65) dX9_takesToken_44 rfl ?_
  refine G.aload_n (o := o1) dX9_takesToken_45 rfl ?_
  exact G.callVI (as := [vr o1]) (rest := []) dX9_takesToken_46 rfl vX9_59 (by decide) sh65 rfl (by decide) (Nat.le_of_ble_eq_true rfl) hM (fun z σ' hz q => G.pick [] (k z σ' hz q))
theorem bX9_takesToken_49 {X : CT} {σ : St} {t0 : Int}  {P : Int → St → Prop} (hX : RI X P) (s : (t0 = 0 ∨ t0 = 1))
    (k : P t0 σ) :
    G mdX9_takesToken X 49 [] [vi t0] σ := by
  exact G.zret hX dX9_takesToken_49 rfl s k
theorem bX9_takesToken_50 {X : CT} {σ : St} {o1 : Nat} {i4 : Int} (h1 : isSt o1) {P : Int → St → Prop} (hM : CI mdX9_beginsItem [vr 65, vr o1, vi i4] σ P)
    (k : ∀ z σ', inI z → P z σ' → G mdX9_takesToken X 57 [] [vi z] (σ')) :
    G mdX9_takesToken X 50 [(0, vr 65), (1, vr o1), (4, vi i4)] [] σ := by
  refine G.aload_n (o := 65) dX9_takesToken_50 rfl ?_
  refine G.aload_n (o := o1) dX9_takesToken_51 rfl ?_
  refine G.iload (z := i4) dX9_takesToken_52 rfl ?_
  exact G.callVI (as := [vr o1, vi i4]) (rest := []) dX9_takesToken_54 rfl vX9_63 (by decide) sh65 rfl (by decide) (Nat.le_of_ble_eq_true rfl) hM (fun z σ' hz q => G.pick [] (k z σ' hz q))
theorem bX9_takesToken_57 {X : CT} {σ : St} {t0 : Int}  {P : Int → St → Prop} (hX : RI X P) (s : (t0 = 0 ∨ t0 = 1))
    (k : P t0 σ) :
    G mdX9_takesToken X 57 [] [vi t0] σ := by
  exact G.zret hX dX9_takesToken_57 rfl s k
theorem bX9_valueOf_0 {X : CT} {σ : St} {i1 i2 : Int}  (s : (0 ≤ i1 ∧ i1 < 160) ∧ (-2147483648 ≤ i2 - i1 ∧ i2 - i1 < 2147483648))
    (kt : ¬ i2 - i1 = 1 → G mdX9_valueOf X 19 [(0, vr 65), (1, vi i1), (2, vi i2), (3, vi ((σ 66 i1) - 48))] [] σ)
    (kf : i2 - i1 = 1 → G mdX9_valueOf X 17 [(3, vi ((σ 66 i1) - 48))] [] σ) :
    G mdX9_valueOf X 0 [(0, vr 65), (1, vi i1), (2, vi i2)] [] σ := by
  refine G.aload_n (o := 65) dX9_valueOf_0 rfl ?_
  refine G.getR (o' := 66) dX9_valueOf_1 fX9_11 sh65 rfl ?_
  refine G.iload_n (z := i1) dX9_valueOf_4 rfl ?_
  refine G.iald dX9_valueOf_5 sh66 s.1 ?_
  refine G.bipush dX9_valueOf_6 (by decide) ?_
  refine G.isub dX9_valueOf_8 ?_
  refine G.istore_n dX9_valueOf_9 (by decide) rfl ?_
  refine G.iload_n (z := i2) dX9_valueOf_10 rfl ?_
  refine G.iload_n (z := i1) dX9_valueOf_11 rfl ?_
  refine G.isub dX9_valueOf_12 ?_
  refine G.iconst dX9_valueOf_13 ?_
  exact G.icmp_ne (tgt := 19) dX9_valueOf_14 (by decide) s.2 ⟨by decide, by decide⟩ (fun q => G.pick [0, 1, 2, 3] (kt q)) (fun q => G.pick [3] (kf q))
theorem bX9_valueOf_17 {X : CT} {σ : St} {i3 : Int}  {P : Int → St → Prop} (hX : RI X P) (s : (-2147483648 ≤ i3 ∧ i3 < 2147483648))
    (k : P i3 σ) :
    G mdX9_valueOf X 17 [(3, vi i3)] [] σ := by
  refine G.iload_n (z := i3) dX9_valueOf_17 rfl ?_
  exact G.iret hX dX9_valueOf_18 rfl s k
theorem bX9_valueOf_19 {X : CT} {σ : St} {i1 i2 i3 : Int}  (s : (-2147483648 ≤ i2 - i1 ∧ i2 - i1 < 2147483648))
    (kt : 2 < i2 - i1 → G mdX9_valueOf X 30 [] [] σ)
    (kf : i2 - i1 ≤ 2 → G mdX9_valueOf X 26 [(0, vr 65), (1, vi i1), (3, vi i3)] [] σ) :
    G mdX9_valueOf X 19 [(0, vr 65), (1, vi i1), (2, vi i2), (3, vi i3)] [] σ := by
  refine G.iload_n (z := i2) dX9_valueOf_19 rfl ?_
  refine G.iload_n (z := i1) dX9_valueOf_20 rfl ?_
  refine G.isub dX9_valueOf_21 ?_
  refine G.iconst dX9_valueOf_22 ?_
  exact G.icmp_gt (tgt := 30) dX9_valueOf_23 (by decide) s ⟨by decide, by decide⟩ (fun q => G.pick [] (kt q)) (fun q => G.pick [0, 1, 3] (kf q))
theorem bX9_valueOf_26 {X : CT} {σ : St} {i1 i3 : Int}  (s : (-2147483648 ≤ i3 ∧ i3 < 2147483648))
    (kt : ¬ i3 = 0 → G mdX9_valueOf X 32 [(0, vr 65), (1, vi i1), (3, vi i3)] [] σ)
    (kf : i3 = 0 → G mdX9_valueOf X 30 [] [] σ) :
    G mdX9_valueOf X 26 [(0, vr 65), (1, vi i1), (3, vi i3)] [] σ := by
  refine G.iload_n (z := i3) dX9_valueOf_26 rfl ?_
  exact G.if_ne (tgt := 32) dX9_valueOf_27 (by decide) s (fun q => G.pick [0, 1, 3] (kt q)) (fun q => G.pick [] (kf q))
theorem bX9_valueOf_30 {X : CT} {σ : St}  {P : Int → St → Prop} (hX : RI X P)
    (k : P (-1) σ) :
    G mdX9_valueOf X 30 [] [] σ := by
  refine G.iconst dX9_valueOf_30 ?_
  exact G.iret hX dX9_valueOf_31 rfl ⟨by decide, by decide⟩ k
theorem bX9_valueOf_32 {X : CT} {σ : St} {i1 i3 : Int}  {P : Int → St → Prop} (hX : RI X P) (s : (0 ≤ i1 + 1 ∧ i1 + 1 < 160) ∧ (-2147483648 ≤ ((10 * i3) + (σ 66 (i1 + 1))) - 48 ∧ ((10 * i3) + (σ 66 (i1 + 1))) - 48 < 2147483648))
    (k : P (((10 * i3) + (σ 66 (i1 + 1))) - 48) σ) :
    G mdX9_valueOf X 32 [(0, vr 65), (1, vi i1), (3, vi i3)] [] σ := by
  refine G.bipush dX9_valueOf_32 (by decide) ?_
  refine G.iload_n (z := i3) dX9_valueOf_34 rfl ?_
  refine G.imul dX9_valueOf_35 ?_
  refine G.aload_n (o := 65) dX9_valueOf_36 rfl ?_
  refine G.getR (o' := 66) dX9_valueOf_37 fX9_11 sh65 rfl ?_
  refine G.iload_n (z := i1) dX9_valueOf_40 rfl ?_
  refine G.iconst dX9_valueOf_41 ?_
  refine G.iadd dX9_valueOf_42 ?_
  refine G.iald dX9_valueOf_43 sh66 s.1 ?_
  refine G.iadd dX9_valueOf_44 ?_
  refine G.bipush dX9_valueOf_45 (by decide) ?_
  refine G.isub dX9_valueOf_47 ?_
  exact G.iret hX dX9_valueOf_48 rfl s.2 k
theorem bX9_beginsItem_0 {X : CT} {σ : St} {o1 : Nat} {i2 : Int} (h1 : isSt o1) (s : (-2147483648 ≤ σ 65 3 ∧ σ 65 3 < 2147483648))
    (kt : σ 65 3 = 32 → G mdX9_beginsItem X 11 [(0, vr 65), (1, vr o1), (2, vi i2)] [] σ)
    (kf : ¬ σ 65 3 = 32 → G mdX9_beginsItem X 9 [] [] σ) :
    G mdX9_beginsItem X 0 [(0, vr 65), (1, vr o1), (2, vi i2)] [] σ := by
  refine G.aload_n (o := 65) dX9_beginsItem_0 rfl ?_
  refine G.getI (j := 3) dX9_beginsItem_1 fX9_29 sh65 rfl rfl rfl ?_
  refine G.bipush dX9_beginsItem_4 (by decide) ?_
  exact G.icmp_eq (tgt := 11) dX9_beginsItem_6 (by decide) s ⟨by decide, by decide⟩ (fun q => G.pick [0, 1, 2] (kt q)) (fun q => G.pick [] (kf q))
theorem bX9_beginsItem_9 {X : CT} {σ : St}  {P : Int → St → Prop} (hX : RI X P)
    (k : P 0 σ) :
    G mdX9_beginsItem X 9 [] [] σ := by
  refine G.iconst dX9_beginsItem_9 ?_
  exact G.zret hX dX9_beginsItem_10 rfl (Or.inl rfl) k
theorem bX9_beginsItem_11 {X : CT} {σ : St} {o1 : Nat} {i2 : Int} (h1 : isSt o1) (s : (-2147483648 ≤ i2 ∧ i2 < 2147483648))
    (k100 : i2 = 100 → G mdX9_beginsItem X 94 [(0, vr 65), (1, vr o1), (2, vi i2)] [] σ)
    (k109 : i2 = 109 → G mdX9_beginsItem X 72 [(0, vr 65), (1, vr o1), (2, vi i2)] [] σ)
    (k120 : i2 = 120 → G mdX9_beginsItem X 56 [(0, vr 65), (1, vr o1), (2, vi i2)] [] σ)
    (k121 : i2 = 121 → G mdX9_beginsItem X 64 [(0, vr 65), (1, vr o1), (2, vi i2)] [] σ)
    (kd : ¬ i2 = 100 ∧ ¬ i2 = 109 ∧ ¬ i2 = 120 ∧ ¬ i2 = 121 → G mdX9_beginsItem X 106 [] [] σ) :
    G mdX9_beginsItem X 11 [(0, vr 65), (1, vr o1), (2, vi i2)] [] σ := by
  refine G.iload_n (z := i2) dX9_beginsItem_11 rfl ?_
  have hsw : i2 = 100 ∨ i2 = 109 ∨ i2 = 120 ∨ i2 = 121 ∨ (¬ i2 = 100 ∧ ¬ i2 = 109 ∧ ¬ i2 = 120 ∧ ¬ i2 = 121) := by omega
  rcases hsw with q | q | q | q | q
  · exact G.lsw (tgt := 94) dX9_beginsItem_12 (by decide) s (off := 82) (by rw [q]; rfl) (by decide) (G.pick [0, 1, 2] (k100 q))
  · exact G.lsw (tgt := 72) dX9_beginsItem_12 (by decide) s (off := 60) (by rw [q]; rfl) (by decide) (G.pick [0, 1, 2] (k109 q))
  · exact G.lsw (tgt := 56) dX9_beginsItem_12 (by decide) s (off := 44) (by rw [q]; rfl) (by decide) (G.pick [0, 1, 2] (k120 q))
  · exact G.lsw (tgt := 64) dX9_beginsItem_12 (by decide) s (off := 52) (by rw [q]; rfl) (by decide) (G.pick [0, 1, 2] (k121 q))
  · exact G.lsw (tgt := 106) dX9_beginsItem_12 (by decide) s (off := 94) (by simp [Op.lookupswitch.offset]; (repeat rw [if_neg (by omega)])) (by decide) (G.pick [] (kd q))
theorem bX9_beginsItem_56 {X : CT} {σ : St} {o1 : Nat} {i2 : Int} (h1 : isSt o1) {P : St → Prop} (hM : CV mdX7_emptyRow [vr o1, vi 0] σ P)
    (k : ∀ σ', P σ' → G mdX9_beginsItem X 61 [(0, vr 65), (2, vi i2)] [] (σ')) :
    G mdX9_beginsItem X 56 [(0, vr 65), (1, vr o1), (2, vi i2)] [] σ := by
  refine G.aload_n (o := o1) dX9_beginsItem_56 rfl ?_
  refine G.iconst dX9_beginsItem_57 ?_
  exact G.callVV (as := [vi 0]) (rest := []) dX9_beginsItem_58 rfl vX9_66 (by decide) (sh_st h1) rfl (by decide) (Nat.le_of_ble_eq_true rfl) hM (fun σ' q => G.pick [0, 2] (k σ' q))
theorem bX9_beginsItem_61 {X : CT} {σ : St} {i2 : Int} 
    (k : G mdX9_beginsItem X 108 [(0, vr 65), (2, vi i2)] [] σ) :
    G mdX9_beginsItem X 61 [(0, vr 65), (2, vi i2)] [] σ := by
  refine G.goto (tgt := 108) dX9_beginsItem_61 (by decide) ?_
  exact G.pick [0, 2] k
theorem bX9_beginsItem_64 {X : CT} {σ : St} {o1 : Nat} {i2 : Int} (h1 : isSt o1) {P : St → Prop} (hM : CV mdX7_emptyRow [vr o1, vi 1] σ P)
    (k : ∀ σ', P σ' → G mdX9_beginsItem X 69 [(0, vr 65), (2, vi i2)] [] (σ')) :
    G mdX9_beginsItem X 64 [(0, vr 65), (1, vr o1), (2, vi i2)] [] σ := by
  refine G.aload_n (o := o1) dX9_beginsItem_64 rfl ?_
  refine G.iconst dX9_beginsItem_65 ?_
  exact G.callVV (as := [vi 1]) (rest := []) dX9_beginsItem_66 rfl vX9_66 (by decide) (sh_st h1) rfl (by decide) (Nat.le_of_ble_eq_true rfl) hM (fun σ' q => G.pick [0, 2] (k σ' q))
theorem bX9_beginsItem_69 {X : CT} {σ : St} {i2 : Int} 
    (k : G mdX9_beginsItem X 108 [(0, vr 65), (2, vi i2)] [] σ) :
    G mdX9_beginsItem X 69 [(0, vr 65), (2, vi i2)] [] σ := by
  refine G.goto (tgt := 108) dX9_beginsItem_69 (by decide) ?_
  exact G.pick [0, 2] k
theorem bX9_beginsItem_72 {X : CT} {σ : St} {o1 : Nat} {i2 : Int} (h1 : isSt o1) (s : (-2147483648 ≤ σ 65 6 ∧ σ 65 6 < 2147483648))
    (kt : σ 65 6 = 0 → G mdX9_beginsItem X 81 [(0, vr 65), (1, vr o1), (2, vi i2)] [] σ)
    (kf : ¬ σ 65 6 = 0 → G mdX9_beginsItem X 79 [] [] σ) :
    G mdX9_beginsItem X 72 [(0, vr 65), (1, vr o1), (2, vi i2)] [] σ := by
  refine G.aload_n (o := 65) dX9_beginsItem_72 rfl ?_
  refine G.getI (j := 6) dX9_beginsItem_73 fX9_35 sh65 rfl rfl rfl ?_
  exact G.if_eq (tgt := 81) dX9_beginsItem_76 (by decide) s (fun q => G.pick [0, 1, 2] (kt q)) (fun q => G.pick [] (kf q))
theorem bX9_beginsItem_79 {X : CT} {σ : St}  {P : Int → St → Prop} (hX : RI X P)
    (k : P 0 σ) :
    G mdX9_beginsItem X 79 [] [] σ := by
  refine G.iconst dX9_beginsItem_79 ?_
  exact G.zret hX dX9_beginsItem_80 rfl (Or.inl rfl) k
theorem bX9_beginsItem_81 {X : CT} {σ : St} {o1 : Nat} {i2 : Int} (h1 : isSt o1)
    (k : G mdX9_beginsItem X 108 [(0, vr 65), (2, vi i2)] [] (wr (wr σ 65 6 1) o1 1 0)) :
    G mdX9_beginsItem X 81 [(0, vr 65), (1, vr o1), (2, vi i2)] [] σ := by
  refine G.aload_n (o := 65) dX9_beginsItem_81 rfl ?_
  refine G.iconst dX9_beginsItem_82 ?_
  refine G.putZ (j := 6) dX9_beginsItem_83 fX9_35 sh65 rfl rfl rfl rfl rfl (Or.inr rfl) ?_
  refine G.aload_n (o := o1) dX9_beginsItem_86 rfl ?_
  refine G.iconst dX9_beginsItem_87 ?_
  refine G.putI (j := 1) dX9_beginsItem_88 fX9_70 (sh_st h1) rfl rfl rfl rfl rfl ?_
  refine G.goto (tgt := 108) dX9_beginsItem_91 (by decide) ?_
  exact G.pick [0, 2] k
theorem bX9_beginsItem_94 {X : CT} {σ : St} {o1 : Nat} {i2 : Int} (h1 : isSt o1) {P : Int → St → Prop} (hM : CI mdX8_isFull [vr (o1 + 2)] σ P)
    (k : ∀ z σ', inI z → P z σ' → G mdX9_beginsItem X 101 [(0, vr 65), (2, vi i2)] [vi z] (σ')) :
    G mdX9_beginsItem X 94 [(0, vr 65), (1, vr o1), (2, vi i2)] [] σ := by
  refine G.aload_n (o := o1) dX9_beginsItem_94 rfl ?_
  refine G.getR (o' := (o1 + 2)) dX9_beginsItem_95 fX9_73 (sh_st h1) rfl ?_
  exact G.callVI (as := []) (rest := []) dX9_beginsItem_98 rfl vX9_77 (by decide) (sh_sp (sp_line h1)) rfl (by decide) (Nat.le_of_ble_eq_true rfl) hM (fun z σ' hz q => G.pick [0, 2] (k z σ' hz q))
theorem bX9_beginsItem_101 {X : CT} {σ : St} {i2 t0 : Int}  (s : (-2147483648 ≤ t0 ∧ t0 < 2147483648))
    (kt : t0 = 0 → G mdX9_beginsItem X 108 [(0, vr 65), (2, vi i2)] [] σ)
    (kf : ¬ t0 = 0 → G mdX9_beginsItem X 104 [] [] σ) :
    G mdX9_beginsItem X 101 [(0, vr 65), (2, vi i2)] [vi t0] σ := by
  exact G.if_eq (tgt := 108) dX9_beginsItem_101 (by decide) s (fun q => G.pick [0, 2] (kt q)) (fun q => G.pick [] (kf q))
theorem bX9_beginsItem_104 {X : CT} {σ : St}  {P : Int → St → Prop} (hX : RI X P)
    (k : P 0 σ) :
    G mdX9_beginsItem X 104 [] [] σ := by
  refine G.iconst dX9_beginsItem_104 ?_
  exact G.zret hX dX9_beginsItem_105 rfl (Or.inl rfl) k
theorem bX9_beginsItem_106 {X : CT} {σ : St}  {P : Int → St → Prop} (hX : RI X P)
    (k : P 0 σ) :
    G mdX9_beginsItem X 106 [] [] σ := by
  refine G.iconst dX9_beginsItem_106 ?_
  exact G.zret hX dX9_beginsItem_107 rfl (Or.inl rfl) k
theorem bX9_beginsItem_108 {X : CT} {σ : St} {i2 : Int}  {P : Int → St → Prop} (hX : RI X P)
    (k : P 1 (wr (wr σ 65 3 i2) 65 4 0)) :
    G mdX9_beginsItem X 108 [(0, vr 65), (2, vi i2)] [] σ := by
  refine G.aload_n (o := 65) dX9_beginsItem_108 rfl ?_
  refine G.iload_n (z := i2) dX9_beginsItem_109 rfl ?_
  refine G.putI (j := 3) dX9_beginsItem_110 fX9_29 sh65 rfl rfl rfl rfl rfl ?_
  refine G.aload_n (o := 65) dX9_beginsItem_113 rfl ?_
  refine G.iconst dX9_beginsItem_114 ?_
  refine G.putI (j := 4) dX9_beginsItem_115 fX9_81 sh65 rfl rfl rfl rfl rfl ?_
  refine G.iconst dX9_beginsItem_118 ?_
  exact G.zret hX dX9_beginsItem_119 rfl (Or.inr rfl) k
theorem bX9_takesNumber_0 {X : CT} {σ : St} {o1 : Nat} {i2 : Int} (h1 : isSt o1) (s : (-2147483648 ≤ i2 ∧ i2 < 2147483648))
    (kt : 0 ≤ i2 → G mdX9_takesNumber X 6 [(0, vr 65), (1, vr o1), (2, vi i2)] [] σ)
    (kf : i2 < 0 → G mdX9_takesNumber X 4 [] [] σ) :
    G mdX9_takesNumber X 0 [(0, vr 65), (1, vr o1), (2, vi i2)] [] σ := by
  refine G.iload_n (z := i2) dX9_takesNumber_0 rfl ?_
  exact G.if_ge (tgt := 6) dX9_takesNumber_1 (by decide) s (fun q => G.pick [0, 1, 2] (kt q)) (fun q => G.pick [] (kf q))
theorem bX9_takesNumber_4 {X : CT} {σ : St}  {P : Int → St → Prop} (hX : RI X P)
    (k : P 0 σ) :
    G mdX9_takesNumber X 4 [] [] σ := by
  refine G.iconst dX9_takesNumber_4 ?_
  exact G.zret hX dX9_takesNumber_5 rfl (Or.inl rfl) k
theorem bX9_takesNumber_6 {X : CT} {σ : St} {o1 : Nat} {i2 : Int} (h1 : isSt o1) (s : (-2147483648 ≤ σ 65 3 ∧ σ 65 3 < 2147483648))
    (k100 : σ 65 3 = 100 → G mdX9_takesNumber X 75 [(0, vr 65), (2, vi i2)] [] σ)
    (k109 : σ 65 3 = 109 → G mdX9_takesNumber X 68 [(0, vr 65), (1, vr o1), (2, vi i2)] [] σ)
    (k120 : σ 65 3 = 120 → G mdX9_takesNumber X 52 [(0, vr 65), (1, vr o1), (2, vi i2)] [] σ)
    (k121 : σ 65 3 = 121 → G mdX9_takesNumber X 60 [(0, vr 65), (1, vr o1), (2, vi i2)] [] σ)
    (kd : ¬ σ 65 3 = 100 ∧ ¬ σ 65 3 = 109 ∧ ¬ σ 65 3 = 120 ∧ ¬ σ 65 3 = 121 → G mdX9_takesNumber X 81 [] [] σ) :
    G mdX9_takesNumber X 6 [(0, vr 65), (1, vr o1), (2, vi i2)] [] σ := by
  refine G.aload_n (o := 65) dX9_takesNumber_6 rfl ?_
  refine G.getI (j := 3) dX9_takesNumber_7 fX9_29 sh65 rfl rfl rfl ?_
  have hsw : σ 65 3 = 100 ∨ σ 65 3 = 109 ∨ σ 65 3 = 120 ∨ σ 65 3 = 121 ∨ (¬ σ 65 3 = 100 ∧ ¬ σ 65 3 = 109 ∧ ¬ σ 65 3 = 120 ∧ ¬ σ 65 3 = 121) := by omega
  rcases hsw with q | q | q | q | q
  · exact G.lsw (tgt := 75) dX9_takesNumber_10 (by decide) s (off := 65) (by rw [q]; rfl) (by decide) (G.pick [0, 2] (k100 q))
  · exact G.lsw (tgt := 68) dX9_takesNumber_10 (by decide) s (off := 58) (by rw [q]; rfl) (by decide) (G.pick [0, 1, 2] (k109 q))
  · exact G.lsw (tgt := 52) dX9_takesNumber_10 (by decide) s (off := 42) (by rw [q]; rfl) (by decide) (G.pick [0, 1, 2] (k120 q))
  · exact G.lsw (tgt := 60) dX9_takesNumber_10 (by decide) s (off := 50) (by rw [q]; rfl) (by decide) (G.pick [0, 1, 2] (k121 q))
  · exact G.lsw (tgt := 81) dX9_takesNumber_10 (by decide) s (off := 71) (by simp [Op.lookupswitch.offset]; (repeat rw [if_neg (by omega)])) (by decide) (G.pick [] (kd q))
theorem bX9_takesNumber_52 {X : CT} {σ : St} {o1 : Nat} {i2 : Int} (h1 : isSt o1) {P : Int → St → Prop} (hM : CI mdX9_takesSymbol [vr 65, vr o1, vi 0, vi i2] σ P)
    (k : ∀ z σ', inI z → P z σ' → G mdX9_takesNumber X 59 [] [vi z] (σ')) :
    G mdX9_takesNumber X 52 [(0, vr 65), (1, vr o1), (2, vi i2)] [] σ := by
  refine G.aload_n (o := 65) dX9_takesNumber_52 rfl ?_
  refine G.aload_n (o := o1) dX9_takesNumber_53 rfl ?_
  refine G.iconst dX9_takesNumber_54 ?_
  refine G.iload_n (z := i2) dX9_takesNumber_55 rfl ?_
  exact G.callVI (as := [vr o1, vi 0, vi i2]) (rest := []) dX9_takesNumber_56 rfl vX9_84 (by decide) sh65 rfl (by decide) (Nat.le_of_ble_eq_true rfl) hM (fun z σ' hz q => G.pick [] (k z σ' hz q))
theorem bX9_takesNumber_59 {X : CT} {σ : St} {t0 : Int}  {P : Int → St → Prop} (hX : RI X P) (s : (t0 = 0 ∨ t0 = 1))
    (k : P t0 σ) :
    G mdX9_takesNumber X 59 [] [vi t0] σ := by
  exact G.zret hX dX9_takesNumber_59 rfl s k
theorem bX9_takesNumber_60 {X : CT} {σ : St} {o1 : Nat} {i2 : Int} (h1 : isSt o1) {P : Int → St → Prop} (hM : CI mdX9_takesSymbol [vr 65, vr o1, vi 1, vi i2] σ P)
    (k : ∀ z σ', inI z → P z σ' → G mdX9_takesNumber X 67 [] [vi z] (σ')) :
    G mdX9_takesNumber X 60 [(0, vr 65), (1, vr o1), (2, vi i2)] [] σ := by
  refine G.aload_n (o := 65) dX9_takesNumber_60 rfl ?_
  refine G.aload_n (o := o1) dX9_takesNumber_61 rfl ?_
  refine G.iconst dX9_takesNumber_62 ?_
  refine G.iload_n (z := i2) dX9_takesNumber_63 rfl ?_
  exact G.callVI (as := [vr o1, vi 1, vi i2]) (rest := []) dX9_takesNumber_64 rfl vX9_84 (by decide) sh65 rfl (by decide) (Nat.le_of_ble_eq_true rfl) hM (fun z σ' hz q => G.pick [] (k z σ' hz q))
theorem bX9_takesNumber_67 {X : CT} {σ : St} {t0 : Int}  {P : Int → St → Prop} (hX : RI X P) (s : (t0 = 0 ∨ t0 = 1))
    (k : P t0 σ) :
    G mdX9_takesNumber X 67 [] [vi t0] σ := by
  exact G.zret hX dX9_takesNumber_67 rfl s k
theorem bX9_takesNumber_68 {X : CT} {σ : St} {o1 : Nat} {i2 : Int} (h1 : isSt o1) {P : Int → St → Prop} (hM : CI mdX9_takesMark [vr 65, vr o1, vi i2] σ P)
    (k : ∀ z σ', inI z → P z σ' → G mdX9_takesNumber X 74 [] [vi z] (σ')) :
    G mdX9_takesNumber X 68 [(0, vr 65), (1, vr o1), (2, vi i2)] [] σ := by
  refine G.aload_n (o := 65) dX9_takesNumber_68 rfl ?_
  refine G.aload_n (o := o1) dX9_takesNumber_69 rfl ?_
  refine G.iload_n (z := i2) dX9_takesNumber_70 rfl ?_
  exact G.callVI (as := [vr o1, vi i2]) (rest := []) dX9_takesNumber_71 rfl vX9_87 (by decide) sh65 rfl (by decide) (Nat.le_of_ble_eq_true rfl) hM (fun z σ' hz q => G.pick [] (k z σ' hz q))
theorem bX9_takesNumber_74 {X : CT} {σ : St} {t0 : Int}  {P : Int → St → Prop} (hX : RI X P) (s : (t0 = 0 ∨ t0 = 1))
    (k : P t0 σ) :
    G mdX9_takesNumber X 74 [] [vi t0] σ := by
  exact G.zret hX dX9_takesNumber_74 rfl s k
theorem bX9_takesNumber_75 {X : CT} {σ : St} {i2 : Int}  {P : Int → St → Prop} (hM : CI mdX9_takesPart [vr 65, vi i2] σ P)
    (k : ∀ z σ', inI z → P z σ' → G mdX9_takesNumber X 80 [] [vi z] (σ')) :
    G mdX9_takesNumber X 75 [(0, vr 65), (2, vi i2)] [] σ := by
  refine G.aload_n (o := 65) dX9_takesNumber_75 rfl ?_
  refine G.iload_n (z := i2) dX9_takesNumber_76 rfl ?_
  exact G.callVI (as := [vi i2]) (rest := []) dX9_takesNumber_77 rfl vX9_90 (by decide) sh65 rfl (by decide) (Nat.le_of_ble_eq_true rfl) hM (fun z σ' hz q => G.pick [] (k z σ' hz q))
theorem bX9_takesNumber_80 {X : CT} {σ : St} {t0 : Int}  {P : Int → St → Prop} (hX : RI X P) (s : (t0 = 0 ∨ t0 = 1))
    (k : P t0 σ) :
    G mdX9_takesNumber X 80 [] [vi t0] σ := by
  exact G.zret hX dX9_takesNumber_80 rfl s k
theorem bX9_takesNumber_81 {X : CT} {σ : St}  {P : Int → St → Prop} (hX : RI X P)
    (k : P 0 σ) :
    G mdX9_takesNumber X 81 [] [] σ := by
  refine G.iconst dX9_takesNumber_81 ?_
  exact G.zret hX dX9_takesNumber_82 rfl (Or.inl rfl) k
theorem bX9_takesSymbol_0 {X : CT} {σ : St} {o1 : Nat} {i2 i3 : Int} (h1 : isSt o1) (s : (-2147483648 ≤ σ 65 4 ∧ σ 65 4 < 2147483648))
    (kt : 16 ≤ σ 65 4 → G mdX9_takesSymbol X 16 [] [] σ)
    (kf : σ 65 4 < 16 → G mdX9_takesSymbol X 9 [(0, vr 65), (1, vr o1), (2, vi i2), (3, vi i3)] [] σ) :
    G mdX9_takesSymbol X 0 [(0, vr 65), (1, vr o1), (2, vi i2), (3, vi i3)] [] σ := by
  refine G.aload_n (o := 65) dX9_takesSymbol_0 rfl ?_
  refine G.getI (j := 4) dX9_takesSymbol_1 fX9_81 sh65 rfl rfl rfl ?_
  refine G.bipush dX9_takesSymbol_4 (by decide) ?_
  exact G.icmp_ge (tgt := 16) dX9_takesSymbol_6 (by decide) s ⟨by decide, by decide⟩ (fun q => G.pick [] (kt q)) (fun q => G.pick [0, 1, 2, 3] (kf q))
theorem bX9_takesSymbol_9 {X : CT} {σ : St} {o1 : Nat} {i2 i3 : Int} (h1 : isSt o1) {P : Int → St → Prop} (hM : CI mdX10_isSymbol [vi i3] σ P)
    (k : ∀ z σ', inI z → P z σ' → G mdX9_takesSymbol X 13 [(0, vr 65), (1, vr o1), (2, vi i2), (3, vi i3)] [vi z] (σ')) :
    G mdX9_takesSymbol X 9 [(0, vr 65), (1, vr o1), (2, vi i2), (3, vi i3)] [] σ := by
  refine G.iload_n (z := i3) dX9_takesSymbol_9 rfl ?_
  exact G.callSNI (as := [vi i3]) (rest := []) dX9_takesSymbol_10 rfl vX9_93.1 vX9_93.2.1 vX9_93.2.2 (by decide) (Nat.le_of_ble_eq_true rfl) hM (fun z σ' hz q => G.pick [0, 1, 2, 3] (k z σ' hz q))
theorem bX9_takesSymbol_13 {X : CT} {σ : St} {o1 : Nat} {i2 i3 t0 : Int} (h1 : isSt o1) (s : (-2147483648 ≤ t0 ∧ t0 < 2147483648))
    (kt : ¬ t0 = 0 → G mdX9_takesSymbol X 18 [(0, vr 65), (1, vr o1), (2, vi i2), (3, vi i3)] [] σ)
    (kf : t0 = 0 → G mdX9_takesSymbol X 16 [] [] σ) :
    G mdX9_takesSymbol X 13 [(0, vr 65), (1, vr o1), (2, vi i2), (3, vi i3)] [vi t0] σ := by
  exact G.if_ne (tgt := 18) dX9_takesSymbol_13 (by decide) s (fun q => G.pick [0, 1, 2, 3] (kt q)) (fun q => G.pick [] (kf q))
theorem bX9_takesSymbol_16 {X : CT} {σ : St}  {P : Int → St → Prop} (hX : RI X P)
    (k : P 0 σ) :
    G mdX9_takesSymbol X 16 [] [] σ := by
  refine G.iconst dX9_takesSymbol_16 ?_
  exact G.zret hX dX9_takesSymbol_17 rfl (Or.inl rfl) k
theorem bX9_takesSymbol_18 {X : CT} {σ : St} {o1 : Nat} {i2 i3 : Int} (h1 : isSt o1) {P : Int → St → Prop} (hX : RI X P) (s : (0 ≤ (i2 * 16) + (σ 65 4) ∧ (i2 * 16) + (σ 65 4) < 32))
    (k : P 1 (wr (wr σ (o1 + 1) ((i2 * 16) + (σ 65 4)) i3) 65 4 (((wr σ (o1 + 1) ((i2 * 16) + (σ 65 4)) i3) 65 4) + 1))) :
    G mdX9_takesSymbol X 18 [(0, vr 65), (1, vr o1), (2, vi i2), (3, vi i3)] [] σ := by
  refine G.aload_n (o := o1) dX9_takesSymbol_18 rfl ?_
  refine G.getR (o' := (o1 + 1)) dX9_takesSymbol_19 fX9_96 (sh_st h1) rfl ?_
  refine G.iload_n (z := i2) dX9_takesSymbol_22 rfl ?_
  refine G.bipush dX9_takesSymbol_23 (by decide) ?_
  refine G.imul dX9_takesSymbol_25 ?_
  refine G.aload_n (o := 65) dX9_takesSymbol_26 rfl ?_
  refine G.getI (j := 4) dX9_takesSymbol_27 fX9_81 sh65 rfl rfl rfl ?_
  refine G.iadd dX9_takesSymbol_30 ?_
  refine G.iload_n (z := i3) dX9_takesSymbol_31 rfl ?_
  refine G.iast dX9_takesSymbol_32 (sh_sent h1) s ?_
  refine G.aload_n (o := 65) dX9_takesSymbol_33 rfl ?_
  refine G.dup dX9_takesSymbol_34 ?_
  refine G.getI (j := 4) dX9_takesSymbol_35 fX9_81 sh65 rfl rfl rfl ?_
  refine G.iconst dX9_takesSymbol_38 ?_
  refine G.iadd dX9_takesSymbol_39 ?_
  refine G.putI (j := 4) dX9_takesSymbol_40 fX9_81 sh65 rfl rfl rfl rfl rfl ?_
  refine G.iconst dX9_takesSymbol_43 ?_
  exact G.zret hX dX9_takesSymbol_44 rfl (Or.inr rfl) k
theorem bX9_takesMark_0 {X : CT} {σ : St} {o1 : Nat} {i2 : Int} (h1 : isSt o1) {P : Int → St → Prop} (hM : CI mdX10_isPlace [vi i2] σ P)
    (k : ∀ z σ', inI z → P z σ' → G mdX9_takesMark X 4 [(1, vr o1), (2, vi i2)] [vi z] (σ')) :
    G mdX9_takesMark X 0 [(0, vr 65), (1, vr o1), (2, vi i2)] [] σ := by
  refine G.iload_n (z := i2) dX9_takesMark_0 rfl ?_
  exact G.callSNI (as := [vi i2]) (rest := []) dX9_takesMark_1 rfl vX9_99.1 vX9_99.2.1 vX9_99.2.2 (by decide) (Nat.le_of_ble_eq_true rfl) hM (fun z σ' hz q => G.pick [1, 2] (k z σ' hz q))
theorem bX9_takesMark_4 {X : CT} {σ : St} {o1 : Nat} {i2 t0 : Int} (h1 : isSt o1) (s : (-2147483648 ≤ t0 ∧ t0 < 2147483648))
    (kt : t0 = 0 → G mdX9_takesMark X 15 [] [] σ)
    (kf : ¬ t0 = 0 → G mdX9_takesMark X 7 [(1, vr o1), (2, vi i2)] [] σ) :
    G mdX9_takesMark X 4 [(1, vr o1), (2, vi i2)] [vi t0] σ := by
  exact G.if_eq (tgt := 15) dX9_takesMark_4 (by decide) s (fun q => G.pick [] (kt q)) (fun q => G.pick [1, 2] (kf q))
theorem bX9_takesMark_7 {X : CT} {σ : St} {o1 : Nat} {i2 : Int} (h1 : isSt o1) {P : Int → St → Prop} (hM : CI mdX7_isMarked [vr o1, vi i2] σ P)
    (k : ∀ z σ', inI z → P z σ' → G mdX9_takesMark X 12 [(1, vr o1), (2, vi i2)] [vi z] (σ')) :
    G mdX9_takesMark X 7 [(1, vr o1), (2, vi i2)] [] σ := by
  refine G.aload_n (o := o1) dX9_takesMark_7 rfl ?_
  refine G.iload_n (z := i2) dX9_takesMark_8 rfl ?_
  exact G.callVI (as := [vi i2]) (rest := []) dX9_takesMark_9 rfl vX9_102 (by decide) (sh_st h1) rfl (by decide) (Nat.le_of_ble_eq_true rfl) hM (fun z σ' hz q => G.pick [1, 2] (k z σ' hz q))
theorem bX9_takesMark_12 {X : CT} {σ : St} {o1 : Nat} {i2 t0 : Int} (h1 : isSt o1) (s : (-2147483648 ≤ t0 ∧ t0 < 2147483648))
    (kt : t0 = 0 → G mdX9_takesMark X 17 [(1, vr o1), (2, vi i2)] [] σ)
    (kf : ¬ t0 = 0 → G mdX9_takesMark X 15 [] [] σ) :
    G mdX9_takesMark X 12 [(1, vr o1), (2, vi i2)] [vi t0] σ := by
  exact G.if_eq (tgt := 17) dX9_takesMark_12 (by decide) s (fun q => G.pick [1, 2] (kt q)) (fun q => G.pick [] (kf q))
theorem bX9_takesMark_15 {X : CT} {σ : St}  {P : Int → St → Prop} (hX : RI X P)
    (k : P 0 σ) :
    G mdX9_takesMark X 15 [] [] σ := by
  refine G.iconst dX9_takesMark_15 ?_
  exact G.zret hX dX9_takesMark_16 rfl (Or.inl rfl) k
theorem bX9_takesMark_17 {X : CT} {σ : St} {o1 : Nat} {i2 : Int} (h1 : isSt o1) {P : St → Prop} (hM : CV mdX7_mark [vr o1, vi i2, vi 1] σ P)
    (k : ∀ σ', P σ' → G mdX9_takesMark X 23 [] [] (σ')) :
    G mdX9_takesMark X 17 [(1, vr o1), (2, vi i2)] [] σ := by
  refine G.aload_n (o := o1) dX9_takesMark_17 rfl ?_
  refine G.iload_n (z := i2) dX9_takesMark_18 rfl ?_
  refine G.iconst dX9_takesMark_19 ?_
  exact G.callVV (as := [vi i2, vi 1]) (rest := []) dX9_takesMark_20 rfl vX9_105 (by decide) (sh_st h1) rfl (by decide) (Nat.le_of_ble_eq_true rfl) hM (fun σ' q => G.pick [] (k σ' q))
theorem bX9_takesMark_23 {X : CT} {σ : St}  {P : Int → St → Prop} (hX : RI X P)
    (k : P 1 σ) :
    G mdX9_takesMark X 23 [] [] σ := by
  refine G.iconst dX9_takesMark_23 ?_
  exact G.zret hX dX9_takesMark_24 rfl (Or.inr rfl) k
theorem bX9_takesPart_0 {X : CT} {σ : St} {i1 : Int}  (s : (-2147483648 ≤ σ 65 4 ∧ σ 65 4 < 2147483648))
    (kt : 5 ≤ σ 65 4 → G mdX9_takesPart X 26 [] [] σ)
    (kf : σ 65 4 < 5 → G mdX9_takesPart X 8 [(0, vr 65), (1, vi i1)] [] σ) :
    G mdX9_takesPart X 0 [(0, vr 65), (1, vi i1)] [] σ := by
  refine G.aload_n (o := 65) dX9_takesPart_0 rfl ?_
  refine G.getI (j := 4) dX9_takesPart_1 fX9_81 sh65 rfl rfl rfl ?_
  refine G.iconst dX9_takesPart_4 ?_
  exact G.icmp_ge (tgt := 26) dX9_takesPart_5 (by decide) s ⟨by decide, by decide⟩ (fun q => G.pick [] (kt q)) (fun q => G.pick [0, 1] (kf q))
theorem bX9_takesPart_8 {X : CT} {σ : St} {i1 : Int}  {P : Int → St → Prop} (hM : CI mdX8_allows [vr 106, vr 67, vi (σ 65 4), vi i1] σ P)
    (k : ∀ z σ', inI z → P z σ' → G mdX9_takesPart X 23 [(0, vr 65), (1, vi i1)] [vi z] (σ')) :
    G mdX9_takesPart X 8 [(0, vr 65), (1, vi i1)] [] σ := by
  refine G.getsD (i := 408) dX9_takesPart_8 (by decide +kernel) ?_
  refine G.aload_n (o := 65) dX9_takesPart_11 rfl ?_
  refine G.getR (o' := 67) dX9_takesPart_12 fX9_17 sh65 rfl ?_
  refine G.aload_n (o := 65) dX9_takesPart_15 rfl ?_
  refine G.getI (j := 4) dX9_takesPart_16 fX9_81 sh65 rfl rfl rfl ?_
  refine G.iload_n (z := i1) dX9_takesPart_19 rfl ?_
  exact G.callSI (as := [vr 106, vr 67, vi (σ 65 4), vi i1]) (rest := []) dX9_takesPart_20 rfl vX9_112 (by decide) (Nat.le_of_ble_eq_true rfl) hM (fun z σ' hz q => G.pick [0, 1] (k z σ' hz q))
theorem bX9_takesPart_23 {X : CT} {σ : St} {i1 t0 : Int}  (s : (-2147483648 ≤ t0 ∧ t0 < 2147483648))
    (kt : ¬ t0 = 0 → G mdX9_takesPart X 28 [(0, vr 65), (1, vi i1)] [] σ)
    (kf : t0 = 0 → G mdX9_takesPart X 26 [] [] σ) :
    G mdX9_takesPart X 23 [(0, vr 65), (1, vi i1)] [vi t0] σ := by
  exact G.if_ne (tgt := 28) dX9_takesPart_23 (by decide) s (fun q => G.pick [0, 1] (kt q)) (fun q => G.pick [] (kf q))
theorem bX9_takesPart_26 {X : CT} {σ : St}  {P : Int → St → Prop} (hX : RI X P)
    (k : P 0 σ) :
    G mdX9_takesPart X 26 [] [] σ := by
  refine G.iconst dX9_takesPart_26 ?_
  exact G.zret hX dX9_takesPart_27 rfl (Or.inl rfl) k
theorem bX9_takesPart_28 {X : CT} {σ : St} {i1 : Int}  {P : Int → St → Prop} (hX : RI X P) (s : (0 ≤ σ 65 4 ∧ σ 65 4 < 5))
    (k : P 1 (wr (wr σ 67 (σ 65 4) i1) 65 4 (((wr σ 67 (σ 65 4) i1) 65 4) + 1))) :
    G mdX9_takesPart X 28 [(0, vr 65), (1, vi i1)] [] σ := by
  refine G.aload_n (o := 65) dX9_takesPart_28 rfl ?_
  refine G.getR (o' := 67) dX9_takesPart_29 fX9_17 sh65 rfl ?_
  refine G.aload_n (o := 65) dX9_takesPart_32 rfl ?_
  refine G.getI (j := 4) dX9_takesPart_33 fX9_81 sh65 rfl rfl rfl ?_
  refine G.iload_n (z := i1) dX9_takesPart_36 rfl ?_
  refine G.iast dX9_takesPart_37 sh67 s ?_
  refine G.aload_n (o := 65) dX9_takesPart_38 rfl ?_
  refine G.dup dX9_takesPart_39 ?_
  refine G.getI (j := 4) dX9_takesPart_40 fX9_81 sh65 rfl rfl rfl ?_
  refine G.iconst dX9_takesPart_43 ?_
  refine G.iadd dX9_takesPart_44 ?_
  refine G.putI (j := 4) dX9_takesPart_45 fX9_81 sh65 rfl rfl rfl rfl rfl ?_
  refine G.iconst dX9_takesPart_48 ?_
  exact G.zret hX dX9_takesPart_49 rfl (Or.inr rfl) k
theorem bX9_endsItem_0 {X : CT} {σ : St} {o1 : Nat} (h1 : isSt o1) {P : Int → St → Prop} (hM : CI mdX9_isWhole [vr 65] σ P)
    (k : ∀ z σ', inI z → P z σ' → G mdX9_endsItem X 4 [(0, vr 65), (1, vr o1)] [vi z] (σ')) :
    G mdX9_endsItem X 0 [(0, vr 65), (1, vr o1)] [] σ := by
  refine G.aload_n (o := 65) dX9_endsItem_0 rfl ?_
  exact G.callVI (as := []) (rest := []) dX9_endsItem_1 rfl vX9_116 (by decide) sh65 rfl (by decide) (Nat.le_of_ble_eq_true rfl) hM (fun z σ' hz q => G.pick [0, 1] (k z σ' hz q))
theorem bX9_endsItem_4 {X : CT} {σ : St} {o1 : Nat} {t0 : Int} (h1 : isSt o1) (s : (-2147483648 ≤ t0 ∧ t0 < 2147483648))
    (kt : ¬ t0 = 0 → G mdX9_endsItem X 9 [(0, vr 65), (1, vr o1)] [] σ)
    (kf : t0 = 0 → G mdX9_endsItem X 7 [] [] σ) :
    G mdX9_endsItem X 4 [(0, vr 65), (1, vr o1)] [vi t0] σ := by
  exact G.if_ne (tgt := 9) dX9_endsItem_4 (by decide) s (fun q => G.pick [0, 1] (kt q)) (fun q => G.pick [] (kf q))
theorem bX9_endsItem_7 {X : CT} {σ : St}  {P : Int → St → Prop} (hX : RI X P)
    (k : P 0 σ) :
    G mdX9_endsItem X 7 [] [] σ := by
  refine G.iconst dX9_endsItem_7 ?_
  exact G.zret hX dX9_endsItem_8 rfl (Or.inl rfl) k
theorem bX9_endsItem_9 {X : CT} {σ : St} {o1 : Nat} (h1 : isSt o1) (s : (-2147483648 ≤ σ 65 3 ∧ σ 65 3 < 2147483648))
    (kt : ¬ σ 65 3 = 100 → G mdX9_endsItem X 29 [(0, vr 65)] [] σ)
    (kf : σ 65 3 = 100 → G mdX9_endsItem X 18 [(0, vr 65), (1, vr o1)] [] σ) :
    G mdX9_endsItem X 9 [(0, vr 65), (1, vr o1)] [] σ := by
  refine G.aload_n (o := 65) dX9_endsItem_9 rfl ?_
  refine G.getI (j := 3) dX9_endsItem_10 fX9_29 sh65 rfl rfl rfl ?_
  refine G.bipush dX9_endsItem_13 (by decide) ?_
  exact G.icmp_ne (tgt := 29) dX9_endsItem_15 (by decide) s ⟨by decide, by decide⟩ (fun q => G.pick [0] (kt q)) (fun q => G.pick [0, 1] (kf q))
theorem bX9_endsItem_18 {X : CT} {σ : St} {o1 : Nat} (h1 : isSt o1) {P : St → Prop} (hM : CV mdX8_append [vr (o1 + 2), vr 67] σ P)
    (k : ∀ σ', P σ' → G mdX9_endsItem X 29 [(0, vr 65)] [] (σ')) :
    G mdX9_endsItem X 18 [(0, vr 65), (1, vr o1)] [] σ := by
  refine G.aload_n (o := o1) dX9_endsItem_18 rfl ?_
  refine G.getR (o' := (o1 + 2)) dX9_endsItem_19 fX9_73 (sh_st h1) rfl ?_
  refine G.aload_n (o := 65) dX9_endsItem_22 rfl ?_
  refine G.getR (o' := 67) dX9_endsItem_23 fX9_17 sh65 rfl ?_
  exact G.callVV (as := [vr 67]) (rest := []) dX9_endsItem_26 rfl vX9_119 (by decide) (sh_sp (sp_line h1)) rfl (by decide) (Nat.le_of_ble_eq_true rfl) hM (fun σ' q => G.pick [0] (k σ' q))
theorem bX9_endsItem_29 {X : CT} {σ : St}  {P : Int → St → Prop} (hX : RI X P)
    (k : P 1 (wr (wr σ 65 3 32) 65 5 (((wr σ 65 3 32) 65 5) + 1))) :
    G mdX9_endsItem X 29 [(0, vr 65)] [] σ := by
  refine G.aload_n (o := 65) dX9_endsItem_29 rfl ?_
  refine G.bipush dX9_endsItem_30 (by decide) ?_
  refine G.putI (j := 3) dX9_endsItem_32 fX9_29 sh65 rfl rfl rfl rfl rfl ?_
  refine G.aload_n (o := 65) dX9_endsItem_35 rfl ?_
  refine G.dup dX9_endsItem_36 ?_
  refine G.getI (j := 5) dX9_endsItem_37 fX9_32 sh65 rfl rfl rfl ?_
  refine G.iconst dX9_endsItem_40 ?_
  refine G.iadd dX9_endsItem_41 ?_
  refine G.putI (j := 5) dX9_endsItem_42 fX9_32 sh65 rfl rfl rfl rfl rfl ?_
  refine G.iconst dX9_endsItem_45 ?_
  exact G.zret hX dX9_endsItem_46 rfl (Or.inr rfl) k
theorem bX9_isWhole_0 {X : CT} {σ : St}  (s : (-2147483648 ≤ σ 65 3 ∧ σ 65 3 < 2147483648))
    (k100 : σ 65 3 = 100 → G mdX9_isWhole X 63 [(0, vr 65)] [] σ)
    (k109 : σ 65 3 = 109 → G mdX9_isWhole X 61 [] [] σ)
    (k120 : σ 65 3 = 120 → G mdX9_isWhole X 48 [(0, vr 65)] [] σ)
    (k121 : σ 65 3 = 121 → G mdX9_isWhole X 48 [(0, vr 65)] [] σ)
    (kd : ¬ σ 65 3 = 100 ∧ ¬ σ 65 3 = 109 ∧ ¬ σ 65 3 = 120 ∧ ¬ σ 65 3 = 121 → G mdX9_isWhole X 77 [] [] σ) :
    G mdX9_isWhole X 0 [(0, vr 65)] [] σ := by
  refine G.aload_n (o := 65) dX9_isWhole_0 rfl ?_
  refine G.getI (j := 3) dX9_isWhole_1 fX9_29 sh65 rfl rfl rfl ?_
  have hsw : σ 65 3 = 100 ∨ σ 65 3 = 109 ∨ σ 65 3 = 120 ∨ σ 65 3 = 121 ∨ (¬ σ 65 3 = 100 ∧ ¬ σ 65 3 = 109 ∧ ¬ σ 65 3 = 120 ∧ ¬ σ 65 3 = 121) := by omega
  rcases hsw with q | q | q | q | q
  · exact G.lsw (tgt := 63) dX9_isWhole_4 (by decide) s (off := 59) (by rw [q]; rfl) (by decide) (G.pick [0] (k100 q))
  · exact G.lsw (tgt := 61) dX9_isWhole_4 (by decide) s (off := 57) (by rw [q]; rfl) (by decide) (G.pick [] (k109 q))
  · exact G.lsw (tgt := 48) dX9_isWhole_4 (by decide) s (off := 44) (by rw [q]; rfl) (by decide) (G.pick [0] (k120 q))
  · exact G.lsw (tgt := 48) dX9_isWhole_4 (by decide) s (off := 44) (by rw [q]; rfl) (by decide) (G.pick [0] (k121 q))
  · exact G.lsw (tgt := 77) dX9_isWhole_4 (by decide) s (off := 73) (by simp [Op.lookupswitch.offset]; (repeat rw [if_neg (by omega)])) (by decide) (G.pick [] (kd q))
theorem bX9_isWhole_48 {X : CT} {σ : St}  (s : (-2147483648 ≤ σ 65 4 ∧ σ 65 4 < 2147483648))
    (kt : σ 65 4 ≤ 0 → G mdX9_isWhole X 59 [] [] σ)
    (kf : 0 < σ 65 4 → G mdX9_isWhole X 55 [] [] σ) :
    G mdX9_isWhole X 48 [(0, vr 65)] [] σ := by
  refine G.aload_n (o := 65) dX9_isWhole_48 rfl ?_
  refine G.getI (j := 4) dX9_isWhole_49 fX9_81 sh65 rfl rfl rfl ?_
  exact G.if_le (tgt := 59) dX9_isWhole_52 (by decide) s (fun q => G.pick [] (kt q)) (fun q => G.pick [] (kf q))
theorem bX9_isWhole_55 {X : CT} {σ : St} 
    (k : G mdX9_isWhole X 60 [] [vi 1] σ) :
    G mdX9_isWhole X 55 [] [] σ := by
  refine G.iconst dX9_isWhole_55 ?_
  refine G.goto (tgt := 60) dX9_isWhole_56 (by decide) ?_
  exact G.pick [] k
theorem bX9_isWhole_59 {X : CT} {σ : St} 
    (k : G mdX9_isWhole X 60 [] [vi 0] σ) :
    G mdX9_isWhole X 59 [] [] σ := by
  refine G.iconst dX9_isWhole_59 ?_
  exact G.pick [] k
theorem bX9_isWhole_60 {X : CT} {σ : St} {t0 : Int}  {P : Int → St → Prop} (hX : RI X P) (s : (t0 = 0 ∨ t0 = 1))
    (k : P t0 σ) :
    G mdX9_isWhole X 60 [] [vi t0] σ := by
  exact G.zret hX dX9_isWhole_60 rfl s k
theorem bX9_isWhole_61 {X : CT} {σ : St}  {P : Int → St → Prop} (hX : RI X P)
    (k : P 1 σ) :
    G mdX9_isWhole X 61 [] [] σ := by
  refine G.iconst dX9_isWhole_61 ?_
  exact G.zret hX dX9_isWhole_62 rfl (Or.inr rfl) k
theorem bX9_isWhole_63 {X : CT} {σ : St}  (s : (-2147483648 ≤ σ 65 4 ∧ σ 65 4 < 2147483648))
    (kt : ¬ σ 65 4 = 5 → G mdX9_isWhole X 75 [] [] σ)
    (kf : σ 65 4 = 5 → G mdX9_isWhole X 71 [] [] σ) :
    G mdX9_isWhole X 63 [(0, vr 65)] [] σ := by
  refine G.aload_n (o := 65) dX9_isWhole_63 rfl ?_
  refine G.getI (j := 4) dX9_isWhole_64 fX9_81 sh65 rfl rfl rfl ?_
  refine G.iconst dX9_isWhole_67 ?_
  exact G.icmp_ne (tgt := 75) dX9_isWhole_68 (by decide) s ⟨by decide, by decide⟩ (fun q => G.pick [] (kt q)) (fun q => G.pick [] (kf q))
theorem bX9_isWhole_71 {X : CT} {σ : St} 
    (k : G mdX9_isWhole X 76 [] [vi 1] σ) :
    G mdX9_isWhole X 71 [] [] σ := by
  refine G.iconst dX9_isWhole_71 ?_
  refine G.goto (tgt := 76) dX9_isWhole_72 (by decide) ?_
  exact G.pick [] k
theorem bX9_isWhole_75 {X : CT} {σ : St} 
    (k : G mdX9_isWhole X 76 [] [vi 0] σ) :
    G mdX9_isWhole X 75 [] [] σ := by
  refine G.iconst dX9_isWhole_75 ?_
  exact G.pick [] k
theorem bX9_isWhole_76 {X : CT} {σ : St} {t0 : Int}  {P : Int → St → Prop} (hX : RI X P) (s : (t0 = 0 ∨ t0 = 1))
    (k : P t0 σ) :
    G mdX9_isWhole X 76 [] [vi t0] σ := by
  exact G.zret hX dX9_isWhole_76 rfl s k
theorem bX9_isWhole_77 {X : CT} {σ : St}  {P : Int → St → Prop} (hX : RI X P)
    (k : P 0 σ) :
    G mdX9_isWhole X 77 [] [] σ := by
  refine G.iconst dX9_isWhole_77 ?_
  exact G.zret hX dX9_isWhole_78 rfl (Or.inl rfl) k
theorem bJ6_bitCount_0f7a4_0 {X : CT} {σ : St} {i0 : Int}  {P : Int → St → Prop} (hX : RI X P) (s : (-2147483648 ≤ bAnd (((bAnd (((bAnd (i0 - (bAnd (bUshr i0 1) 1431655765)) 858993459) + (bAnd (bUshr (i0 - (bAnd (bUshr i0 1) 1431655765)) 2) 858993459)) + (bUshr ((bAnd (i0 - (bAnd (bUshr i0 1) 1431655765)) 858993459) + (bAnd (bUshr (i0 - (bAnd (bUshr i0 1) 1431655765)) 2) 858993459)) 4)) 252645135) + (bUshr (bAnd (((bAnd (i0 - (bAnd (bUshr i0 1) 1431655765)) 858993459) + (bAnd (bUshr (i0 - (bAnd (bUshr i0 1) 1431655765)) 2) 858993459)) + (bUshr ((bAnd (i0 - (bAnd (bUshr i0 1) 1431655765)) 858993459) + (bAnd (bUshr (i0 - (bAnd (bUshr i0 1) 1431655765)) 2) 858993459)) 4)) 252645135) 8)) + (bUshr ((bAnd (((bAnd (i0 - (bAnd (bUshr i0 1) 1431655765)) 858993459) + (bAnd (bUshr (i0 - (bAnd (bUshr i0 1) 1431655765)) 2) 858993459)) + (bUshr ((bAnd (i0 - (bAnd (bUshr i0 1) 1431655765)) 858993459) + (bAnd (bUshr (i0 - (bAnd (bUshr i0 1) 1431655765)) 2) 858993459)) 4)) 252645135) + (bUshr (bAnd (((bAnd (i0 - (bAnd (bUshr i0 1) 1431655765)) 858993459) + (bAnd (bUshr (i0 - (bAnd (bUshr i0 1) 1431655765)) 2) 858993459)) + (bUshr ((bAnd (i0 - (bAnd (bUshr i0 1) 1431655765)) 858993459) + (bAnd (bUshr (i0 - (bAnd (bUshr i0 1) 1431655765)) 2) 858993459)) 4)) 252645135) 8)) 16)) 63 ∧ bAnd (((bAnd (((bAnd (i0 - (bAnd (bUshr i0 1) 1431655765)) 858993459) + (bAnd (bUshr (i0 - (bAnd (bUshr i0 1) 1431655765)) 2) 858993459)) + (bUshr ((bAnd (i0 - (bAnd (bUshr i0 1) 1431655765)) 858993459) + (bAnd (bUshr (i0 - (bAnd (bUshr i0 1) 1431655765)) 2) 858993459)) 4)) 252645135) + (bUshr (bAnd (((bAnd (i0 - (bAnd (bUshr i0 1) 1431655765)) 858993459) + (bAnd (bUshr (i0 - (bAnd (bUshr i0 1) 1431655765)) 2) 858993459)) + (bUshr ((bAnd (i0 - (bAnd (bUshr i0 1) 1431655765)) 858993459) + (bAnd (bUshr (i0 - (bAnd (bUshr i0 1) 1431655765)) 2) 858993459)) 4)) 252645135) 8)) + (bUshr ((bAnd (((bAnd (i0 - (bAnd (bUshr i0 1) 1431655765)) 858993459) + (bAnd (bUshr (i0 - (bAnd (bUshr i0 1) 1431655765)) 2) 858993459)) + (bUshr ((bAnd (i0 - (bAnd (bUshr i0 1) 1431655765)) 858993459) + (bAnd (bUshr (i0 - (bAnd (bUshr i0 1) 1431655765)) 2) 858993459)) 4)) 252645135) + (bUshr (bAnd (((bAnd (i0 - (bAnd (bUshr i0 1) 1431655765)) 858993459) + (bAnd (bUshr (i0 - (bAnd (bUshr i0 1) 1431655765)) 2) 858993459)) + (bUshr ((bAnd (i0 - (bAnd (bUshr i0 1) 1431655765)) 858993459) + (bAnd (bUshr (i0 - (bAnd (bUshr i0 1) 1431655765)) 2) 858993459)) 4)) 252645135) 8)) 16)) 63 < 2147483648))
    (k : P (bAnd (((bAnd (((bAnd (i0 - (bAnd (bUshr i0 1) 1431655765)) 858993459) + (bAnd (bUshr (i0 - (bAnd (bUshr i0 1) 1431655765)) 2) 858993459)) + (bUshr ((bAnd (i0 - (bAnd (bUshr i0 1) 1431655765)) 858993459) + (bAnd (bUshr (i0 - (bAnd (bUshr i0 1) 1431655765)) 2) 858993459)) 4)) 252645135) + (bUshr (bAnd (((bAnd (i0 - (bAnd (bUshr i0 1) 1431655765)) 858993459) + (bAnd (bUshr (i0 - (bAnd (bUshr i0 1) 1431655765)) 2) 858993459)) + (bUshr ((bAnd (i0 - (bAnd (bUshr i0 1) 1431655765)) 858993459) + (bAnd (bUshr (i0 - (bAnd (bUshr i0 1) 1431655765)) 2) 858993459)) 4)) 252645135) 8)) + (bUshr ((bAnd (((bAnd (i0 - (bAnd (bUshr i0 1) 1431655765)) 858993459) + (bAnd (bUshr (i0 - (bAnd (bUshr i0 1) 1431655765)) 2) 858993459)) + (bUshr ((bAnd (i0 - (bAnd (bUshr i0 1) 1431655765)) 858993459) + (bAnd (bUshr (i0 - (bAnd (bUshr i0 1) 1431655765)) 2) 858993459)) 4)) 252645135) + (bUshr (bAnd (((bAnd (i0 - (bAnd (bUshr i0 1) 1431655765)) 858993459) + (bAnd (bUshr (i0 - (bAnd (bUshr i0 1) 1431655765)) 2) 858993459)) + (bUshr ((bAnd (i0 - (bAnd (bUshr i0 1) 1431655765)) 858993459) + (bAnd (bUshr (i0 - (bAnd (bUshr i0 1) 1431655765)) 2) 858993459)) 4)) 252645135) 8)) 16)) 63) σ) :
    G mdJ6_bitCount_0f7a4 X 0 [(0, vi i0)] [] σ := by
  refine G.iload_n (z := i0) dJ6_bitCount_0f7a4_0 rfl ?_
  refine G.iload_n (z := i0) dJ6_bitCount_0f7a4_1 rfl ?_
  refine G.iconst dJ6_bitCount_0f7a4_2 ?_
  refine G.iushr dJ6_bitCount_0f7a4_3 ?_
  refine G.ldcw (i := 468) (v := 1431655765) (n := 1431655765) dJ6_bitCount_0f7a4_4 (by decide +kernel) rfl ?_
  refine G.iand dJ6_bitCount_0f7a4_7 ?_
  refine G.isub dJ6_bitCount_0f7a4_8 ?_
  refine G.istore_n dJ6_bitCount_0f7a4_9 (by decide) rfl ?_
  refine G.iload_n (z := i0 - (bAnd (bUshr i0 1) 1431655765)) dJ6_bitCount_0f7a4_10 rfl ?_
  refine G.ldcw (i := 469) (v := 858993459) (n := 858993459) dJ6_bitCount_0f7a4_11 (by decide +kernel) rfl ?_
  refine G.iand dJ6_bitCount_0f7a4_14 ?_
  refine G.iload_n (z := i0 - (bAnd (bUshr i0 1) 1431655765)) dJ6_bitCount_0f7a4_15 rfl ?_
  refine G.iconst dJ6_bitCount_0f7a4_16 ?_
  refine G.iushr dJ6_bitCount_0f7a4_17 ?_
  refine G.ldcw (i := 469) (v := 858993459) (n := 858993459) dJ6_bitCount_0f7a4_18 (by decide +kernel) rfl ?_
  refine G.iand dJ6_bitCount_0f7a4_21 ?_
  refine G.iadd dJ6_bitCount_0f7a4_22 ?_
  refine G.istore_n dJ6_bitCount_0f7a4_23 (by decide) rfl ?_
  refine G.iload_n (z := (bAnd (i0 - (bAnd (bUshr i0 1) 1431655765)) 858993459) + (bAnd (bUshr (i0 - (bAnd (bUshr i0 1) 1431655765)) 2) 858993459)) dJ6_bitCount_0f7a4_24 rfl ?_
  refine G.iload_n (z := (bAnd (i0 - (bAnd (bUshr i0 1) 1431655765)) 858993459) + (bAnd (bUshr (i0 - (bAnd (bUshr i0 1) 1431655765)) 2) 858993459)) dJ6_bitCount_0f7a4_25 rfl ?_
  refine G.iconst dJ6_bitCount_0f7a4_26 ?_
  refine G.iushr dJ6_bitCount_0f7a4_27 ?_
  refine G.iadd dJ6_bitCount_0f7a4_28 ?_
  refine G.ldcw (i := 470) (v := 252645135) (n := 252645135) dJ6_bitCount_0f7a4_29 (by decide +kernel) rfl ?_
  refine G.iand dJ6_bitCount_0f7a4_32 ?_
  refine G.istore_n dJ6_bitCount_0f7a4_33 (by decide) rfl ?_
  refine G.iload_n (z := bAnd (((bAnd (i0 - (bAnd (bUshr i0 1) 1431655765)) 858993459) + (bAnd (bUshr (i0 - (bAnd (bUshr i0 1) 1431655765)) 2) 858993459)) + (bUshr ((bAnd (i0 - (bAnd (bUshr i0 1) 1431655765)) 858993459) + (bAnd (bUshr (i0 - (bAnd (bUshr i0 1) 1431655765)) 2) 858993459)) 4)) 252645135) dJ6_bitCount_0f7a4_34 rfl ?_
  refine G.iload_n (z := bAnd (((bAnd (i0 - (bAnd (bUshr i0 1) 1431655765)) 858993459) + (bAnd (bUshr (i0 - (bAnd (bUshr i0 1) 1431655765)) 2) 858993459)) + (bUshr ((bAnd (i0 - (bAnd (bUshr i0 1) 1431655765)) 858993459) + (bAnd (bUshr (i0 - (bAnd (bUshr i0 1) 1431655765)) 2) 858993459)) 4)) 252645135) dJ6_bitCount_0f7a4_35 rfl ?_
  refine G.bipush dJ6_bitCount_0f7a4_36 (by decide) ?_
  refine G.iushr dJ6_bitCount_0f7a4_38 ?_
  refine G.iadd dJ6_bitCount_0f7a4_39 ?_
  refine G.istore_n dJ6_bitCount_0f7a4_40 (by decide) rfl ?_
  refine G.iload_n (z := (bAnd (((bAnd (i0 - (bAnd (bUshr i0 1) 1431655765)) 858993459) + (bAnd (bUshr (i0 - (bAnd (bUshr i0 1) 1431655765)) 2) 858993459)) + (bUshr ((bAnd (i0 - (bAnd (bUshr i0 1) 1431655765)) 858993459) + (bAnd (bUshr (i0 - (bAnd (bUshr i0 1) 1431655765)) 2) 858993459)) 4)) 252645135) + (bUshr (bAnd (((bAnd (i0 - (bAnd (bUshr i0 1) 1431655765)) 858993459) + (bAnd (bUshr (i0 - (bAnd (bUshr i0 1) 1431655765)) 2) 858993459)) + (bUshr ((bAnd (i0 - (bAnd (bUshr i0 1) 1431655765)) 858993459) + (bAnd (bUshr (i0 - (bAnd (bUshr i0 1) 1431655765)) 2) 858993459)) 4)) 252645135) 8)) dJ6_bitCount_0f7a4_41 rfl ?_
  refine G.iload_n (z := (bAnd (((bAnd (i0 - (bAnd (bUshr i0 1) 1431655765)) 858993459) + (bAnd (bUshr (i0 - (bAnd (bUshr i0 1) 1431655765)) 2) 858993459)) + (bUshr ((bAnd (i0 - (bAnd (bUshr i0 1) 1431655765)) 858993459) + (bAnd (bUshr (i0 - (bAnd (bUshr i0 1) 1431655765)) 2) 858993459)) 4)) 252645135) + (bUshr (bAnd (((bAnd (i0 - (bAnd (bUshr i0 1) 1431655765)) 858993459) + (bAnd (bUshr (i0 - (bAnd (bUshr i0 1) 1431655765)) 2) 858993459)) + (bUshr ((bAnd (i0 - (bAnd (bUshr i0 1) 1431655765)) 858993459) + (bAnd (bUshr (i0 - (bAnd (bUshr i0 1) 1431655765)) 2) 858993459)) 4)) 252645135) 8)) dJ6_bitCount_0f7a4_42 rfl ?_
  refine G.bipush dJ6_bitCount_0f7a4_43 (by decide) ?_
  refine G.iushr dJ6_bitCount_0f7a4_45 ?_
  refine G.iadd dJ6_bitCount_0f7a4_46 ?_
  refine G.istore_n dJ6_bitCount_0f7a4_47 (by decide) rfl ?_
  refine G.iload_n (z := ((bAnd (((bAnd (i0 - (bAnd (bUshr i0 1) 1431655765)) 858993459) + (bAnd (bUshr (i0 - (bAnd (bUshr i0 1) 1431655765)) 2) 858993459)) + (bUshr ((bAnd (i0 - (bAnd (bUshr i0 1) 1431655765)) 858993459) + (bAnd (bUshr (i0 - (bAnd (bUshr i0 1) 1431655765)) 2) 858993459)) 4)) 252645135) + (bUshr (bAnd (((bAnd (i0 - (bAnd (bUshr i0 1) 1431655765)) 858993459) + (bAnd (bUshr (i0 - (bAnd (bUshr i0 1) 1431655765)) 2) 858993459)) + (bUshr ((bAnd (i0 - (bAnd (bUshr i0 1) 1431655765)) 858993459) + (bAnd (bUshr (i0 - (bAnd (bUshr i0 1) 1431655765)) 2) 858993459)) 4)) 252645135) 8)) + (bUshr ((bAnd (((bAnd (i0 - (bAnd (bUshr i0 1) 1431655765)) 858993459) + (bAnd (bUshr (i0 - (bAnd (bUshr i0 1) 1431655765)) 2) 858993459)) + (bUshr ((bAnd (i0 - (bAnd (bUshr i0 1) 1431655765)) 858993459) + (bAnd (bUshr (i0 - (bAnd (bUshr i0 1) 1431655765)) 2) 858993459)) 4)) 252645135) + (bUshr (bAnd (((bAnd (i0 - (bAnd (bUshr i0 1) 1431655765)) 858993459) + (bAnd (bUshr (i0 - (bAnd (bUshr i0 1) 1431655765)) 2) 858993459)) + (bUshr ((bAnd (i0 - (bAnd (bUshr i0 1) 1431655765)) 858993459) + (bAnd (bUshr (i0 - (bAnd (bUshr i0 1) 1431655765)) 2) 858993459)) 4)) 252645135) 8)) 16)) dJ6_bitCount_0f7a4_48 rfl ?_
  refine G.bipush dJ6_bitCount_0f7a4_49 (by decide) ?_
  refine G.iand dJ6_bitCount_0f7a4_51 ?_
  exact G.iret hX dJ6_bitCount_0f7a4_52 rfl s k
theorem bJ9_floorMod_7cf53_0 {X : CT} {σ : St} {i0 i1 : Int}  (s : (-2147483648 ≤ i0 ∧ i0 < 2147483648) ∧ (0 < i1 ∧ i1 < 2147483648) ∧ (-2147483648 ≤ bXor i0 i1 ∧ bXor i0 i1 < 2147483648))
    (kt : 0 ≤ bXor i0 i1 → G mdJ9_floorMod_7cf53 X 18 [(2, vi (Int.tmod i0 i1))] [] σ)
    (kf : bXor i0 i1 < 0 → G mdJ9_floorMod_7cf53 X 10 [(1, vi i1), (2, vi (Int.tmod i0 i1))] [] σ) :
    G mdJ9_floorMod_7cf53 X 0 [(0, vi i0), (1, vi i1)] [] σ := by
  refine G.iload_n (z := i0) dJ9_floorMod_7cf53_0 rfl ?_
  refine G.iload_n (z := i1) dJ9_floorMod_7cf53_1 rfl ?_
  refine G.iremT dJ9_floorMod_7cf53_2 s.1 s.2.1 ?_
  refine G.istore_n dJ9_floorMod_7cf53_3 (by decide) rfl ?_
  refine G.iload_n (z := i0) dJ9_floorMod_7cf53_4 rfl ?_
  refine G.iload_n (z := i1) dJ9_floorMod_7cf53_5 rfl ?_
  refine G.ixor dJ9_floorMod_7cf53_6 ?_
  exact G.if_ge (tgt := 18) dJ9_floorMod_7cf53_7 (by decide) s.2.2 (fun q => G.pick [2] (kt q)) (fun q => G.pick [1, 2] (kf q))
theorem bJ9_floorMod_7cf53_10 {X : CT} {σ : St} {i1 i2 : Int}  (s : (-2147483648 ≤ i2 ∧ i2 < 2147483648))
    (kt : i2 = 0 → G mdJ9_floorMod_7cf53 X 18 [(2, vi i2)] [] σ)
    (kf : ¬ i2 = 0 → G mdJ9_floorMod_7cf53 X 14 [(1, vi i1), (2, vi i2)] [] σ) :
    G mdJ9_floorMod_7cf53 X 10 [(1, vi i1), (2, vi i2)] [] σ := by
  refine G.iload_n (z := i2) dJ9_floorMod_7cf53_10 rfl ?_
  exact G.if_eq (tgt := 18) dJ9_floorMod_7cf53_11 (by decide) s (fun q => G.pick [2] (kt q)) (fun q => G.pick [1, 2] (kf q))
theorem bJ9_floorMod_7cf53_14 {X : CT} {σ : St} {i1 i2 : Int}  {P : Int → St → Prop} (hX : RI X P) (s : (-2147483648 ≤ i2 + i1 ∧ i2 + i1 < 2147483648))
    (k : P (i2 + i1) σ) :
    G mdJ9_floorMod_7cf53 X 14 [(1, vi i1), (2, vi i2)] [] σ := by
  refine G.iload_n (z := i2) dJ9_floorMod_7cf53_14 rfl ?_
  refine G.iload_n (z := i1) dJ9_floorMod_7cf53_15 rfl ?_
  refine G.iadd dJ9_floorMod_7cf53_16 ?_
  exact G.iret hX dJ9_floorMod_7cf53_17 rfl s k
theorem bJ9_floorMod_7cf53_18 {X : CT} {σ : St} {i2 : Int}  {P : Int → St → Prop} (hX : RI X P) (s : (-2147483648 ≤ i2 ∧ i2 < 2147483648))
    (k : P i2 σ) :
    G mdJ9_floorMod_7cf53 X 18 [(2, vi i2)] [] σ := by
  refine G.iload_n (z := i2) dJ9_floorMod_7cf53_18 rfl ?_
  exact G.iret hX dJ9_floorMod_7cf53_19 rfl s k
theorem bJ9_max_7cf53_0 {X : CT} {σ : St} {i0 i1 : Int}  (s : (-2147483648 ≤ i0 ∧ i0 < 2147483648) ∧ (-2147483648 ≤ i1 ∧ i1 < 2147483648))
    (kt : i0 < i1 → G mdJ9_max_7cf53 X 9 [(1, vi i1)] [] σ)
    (kf : i1 ≤ i0 → G mdJ9_max_7cf53 X 5 [(0, vi i0)] [] σ) :
    G mdJ9_max_7cf53 X 0 [(0, vi i0), (1, vi i1)] [] σ := by
  refine G.iload_n (z := i0) dJ9_max_7cf53_0 rfl ?_
  refine G.iload_n (z := i1) dJ9_max_7cf53_1 rfl ?_
  exact G.icmp_lt (tgt := 9) dJ9_max_7cf53_2 (by decide) s.1 s.2 (fun q => G.pick [1] (kt q)) (fun q => G.pick [0] (kf q))
theorem bJ9_max_7cf53_5 {X : CT} {σ : St} {i0 : Int} 
    (k : G mdJ9_max_7cf53 X 10 [] [vi i0] σ) :
    G mdJ9_max_7cf53 X 5 [(0, vi i0)] [] σ := by
  refine G.iload_n (z := i0) dJ9_max_7cf53_5 rfl ?_
  refine G.goto (tgt := 10) dJ9_max_7cf53_6 (by decide) ?_
  exact G.pick [] k
theorem bJ9_max_7cf53_9 {X : CT} {σ : St} {i1 : Int} 
    (k : G mdJ9_max_7cf53 X 10 [] [vi i1] σ) :
    G mdJ9_max_7cf53 X 9 [(1, vi i1)] [] σ := by
  refine G.iload_n (z := i1) dJ9_max_7cf53_9 rfl ?_
  exact G.pick [] k
theorem bJ9_max_7cf53_10 {X : CT} {σ : St} {t0 : Int}  {P : Int → St → Prop} (hX : RI X P) (s : (-2147483648 ≤ t0 ∧ t0 < 2147483648))
    (k : P t0 σ) :
    G mdJ9_max_7cf53 X 10 [] [vi t0] σ := by
  exact G.iret hX dJ9_max_7cf53_10 rfl s k
theorem bJ9_min_7cf53_0 {X : CT} {σ : St} {i0 i1 : Int}  (s : (-2147483648 ≤ i0 ∧ i0 < 2147483648) ∧ (-2147483648 ≤ i1 ∧ i1 < 2147483648))
    (kt : i1 < i0 → G mdJ9_min_7cf53 X 9 [(1, vi i1)] [] σ)
    (kf : i0 ≤ i1 → G mdJ9_min_7cf53 X 5 [(0, vi i0)] [] σ) :
    G mdJ9_min_7cf53 X 0 [(0, vi i0), (1, vi i1)] [] σ := by
  refine G.iload_n (z := i0) dJ9_min_7cf53_0 rfl ?_
  refine G.iload_n (z := i1) dJ9_min_7cf53_1 rfl ?_
  exact G.icmp_gt (tgt := 9) dJ9_min_7cf53_2 (by decide) s.1 s.2 (fun q => G.pick [1] (kt q)) (fun q => G.pick [0] (kf q))
theorem bJ9_min_7cf53_5 {X : CT} {σ : St} {i0 : Int} 
    (k : G mdJ9_min_7cf53 X 10 [] [vi i0] σ) :
    G mdJ9_min_7cf53 X 5 [(0, vi i0)] [] σ := by
  refine G.iload_n (z := i0) dJ9_min_7cf53_5 rfl ?_
  refine G.goto (tgt := 10) dJ9_min_7cf53_6 (by decide) ?_
  exact G.pick [] k
theorem bJ9_min_7cf53_9 {X : CT} {σ : St} {i1 : Int} 
    (k : G mdJ9_min_7cf53 X 10 [] [vi i1] σ) :
    G mdJ9_min_7cf53 X 9 [(1, vi i1)] [] σ := by
  refine G.iload_n (z := i1) dJ9_min_7cf53_9 rfl ?_
  exact G.pick [] k
theorem bJ9_min_7cf53_10 {X : CT} {σ : St} {t0 : Int}  {P : Int → St → Prop} (hX : RI X P) (s : (-2147483648 ≤ t0 ∧ t0 < 2147483648))
    (k : P t0 σ) :
    G mdJ9_min_7cf53 X 10 [] [vi t0] σ := by
  exact G.iret hX dJ9_min_7cf53_10 rfl s k
theorem bJ7_fill_53178_0 {X : CT} {σ : St} {n0 o0 : Nat} {i1 : Int} (h0 : shp o0 = (1, n0, []))
    (k : G mdJ7_fill_53178 X 5 [(0, vr o0), (1, vi i1), (2, vi 0), (3, vi (n0 : Int))] [] σ) :
    G mdJ7_fill_53178 X 0 [(0, vr o0), (1, vi i1)] [] σ := by
  refine G.iconst dJ7_fill_53178_0 ?_
  refine G.istore_n dJ7_fill_53178_1 (by decide) rfl ?_
  refine G.aload_n (o := o0) dJ7_fill_53178_2 rfl ?_
  refine G.alen dJ7_fill_53178_3 h0 ?_
  refine G.istore_n dJ7_fill_53178_4 (by decide) rfl ?_
  exact G.pick [0, 1, 2, 3] k
theorem bJ7_fill_53178_5 {X : CT} {σ : St} {n0 o0 : Nat} {i1 i2 i3 : Int} (h0 : shp o0 = (1, n0, [])) (s : (-2147483648 ≤ i2 ∧ i2 < 2147483648) ∧ (-2147483648 ≤ i3 ∧ i3 < 2147483648))
    (kt : i3 ≤ i2 → G mdJ7_fill_53178 X 20 [] [] σ)
    (kf : i2 < i3 → G mdJ7_fill_53178 X 10 [(0, vr o0), (1, vi i1), (2, vi i2), (3, vi i3)] [] σ) :
    G mdJ7_fill_53178 X 5 [(0, vr o0), (1, vi i1), (2, vi i2), (3, vi i3)] [] σ := by
  refine G.iload_n (z := i2) dJ7_fill_53178_5 rfl ?_
  refine G.iload_n (z := i3) dJ7_fill_53178_6 rfl ?_
  exact G.icmp_ge (tgt := 20) dJ7_fill_53178_7 (by decide) s.1 s.2 (fun q => G.pick [] (kt q)) (fun q => G.pick [0, 1, 2, 3] (kf q))
theorem bJ7_fill_53178_10 {X : CT} {σ : St} {n0 o0 : Nat} {i1 i2 i3 : Int} (h0 : shp o0 = (1, n0, [])) (s : (0 ≤ i2 ∧ i2 < n0))
    (k : G mdJ7_fill_53178 X 5 [(0, vr o0), (1, vi i1), (2, vi (i2 + 1)), (3, vi i3)] [] (wr σ o0 i2 i1)) :
    G mdJ7_fill_53178 X 10 [(0, vr o0), (1, vi i1), (2, vi i2), (3, vi i3)] [] σ := by
  refine G.aload_n (o := o0) dJ7_fill_53178_10 rfl ?_
  refine G.iload_n (z := i2) dJ7_fill_53178_11 rfl ?_
  refine G.iload_n (z := i1) dJ7_fill_53178_12 rfl ?_
  refine G.iast dJ7_fill_53178_13 h0 s ?_
  refine G.iinc (z := i2) dJ7_fill_53178_14 rfl (by decide) rfl ?_
  refine G.goto (tgt := 5) dJ7_fill_53178_17 (by decide) ?_
  exact G.pick [0, 1, 2, 3] k
theorem bJ7_fill_53178_20 {X : CT} {σ : St}  {P : St → Prop} (hX : RV X P)
    (k : P σ) :
    G mdJ7_fill_53178 X 20 [] [] σ := by
  exact G.vret hX dJ7_fill_53178_20 rfl k
