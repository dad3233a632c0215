/-! the claim -/
set_option maxRecDepth 100000 in
set_option maxHeartbeats 4000000 in
/-- from the entry, for every script of at most 3072 ints, the law comes to its end with true -/
theorem whole_start {p : Program} {e : Env} {s : State} {m : MethodId} {below : List Frame} {meth : Method} {c : Code} (l : Launch) (hflags : l.flags = flags0) {b L : Nat} {xs : Nat → Int32} (hL : L ≤ 3072) (C0 : lw_At p s m meth c b L xs) : W p l e room_1 s m #[Value.ref b] below meth c s.heap [] 0 0 (lw_Z below #[Value.ref b] s) (entryFrame m ([Value.ref b] : List Value).toArray 4) := by
  obtain ⟨hx, hb, hr, hml, hown, hts, hX, hbl, hlocks, hgv⟩ := id C0
  have hA : ∀ q : Nat, s.heap.size ≤ q → (fun q : Nat => s.heap.size ≤ q) q := fun _ h => h
  have hA' : ∀ q : Nat, q < s.heap.size → ¬ (fun q : Nat => s.heap.size ≤ q) q := fun q h => Nat.not_le.mpr h
  have hGW : ∀ w ∈ GW, w.before #[Value.ref b] s = true := fun w hw => hts w (List.mem_filter.mp hw).1
  obtain ⟨c0, i0, k0⟩ := u_known (C := RX0) (T := TX0) (N := 3) (n := 3) hts inX0 (hts (.instantiable RX0 3) (by decide +kernel))
  obtain ⟨c1, i1, k1⟩ := u_known (C := RX1) (T := TX1) (N := 4) (n := 4) hts inX1 (hts (.instantiable RX1 4) (by decide +kernel))
  obtain ⟨c2, i2, k2⟩ := u_known (C := RX3) (T := TX3) (N := 3) (n := 3) hts inX3 (hts (.instantiable RX3 3) (by decide +kernel))
  obtain ⟨c3, i3, k3⟩ := u_known (C := RX4) (T := TX4) (N := 4) (n := 4) hts inX4 (hts (.instantiable RX4 4) (by decide +kernel))
  obtain ⟨c4, i4, k4⟩ := u_known (C := RX6) (T := TX6) (N := 3) (n := 3) hts inX6 (hts (.instantiable RX6 3) (by decide +kernel))
  obtain ⟨c5, i5, k5⟩ := u_known (C := RX7) (T := TX7) (N := 6) (n := 6) hts inX7 (hts (.instantiable RX7 6) (by decide +kernel))
  obtain ⟨c6, i6, k6⟩ := u_known (C := RX8) (T := TX8) (N := 3) (n := 3) hts inX8 (hts (.instantiable RX8 3) (by decide +kernel))
  obtain ⟨c7, i7, k7⟩ := u_known (C := RX9) (T := TX9) (N := 7) (n := 7) hts inX9 (hts (.instantiable RX9 7) (by decide +kernel))
  obtain ⟨c8, i8, k8⟩ := u_known (C := RX10) (T := TX10) (N := 13) (n := 13) hts inX10 (hts (.instantiable RX10 13) (by decide +kernel))
  obtain ⟨c9, i9, k9⟩ := u_known (C := RX11) (T := TX11) (N := 30) (n := 30) hts inX11 (hts (.instantiable RX11 30) (by decide +kernel))
  obtain ⟨dC, dI, hKc⟩ : ∃ (dC : Nat → ClassId) (dI : Nat → Nat → Nat), ∀ (k : Nat) (q : vw_C), vwCl[k]? = some q → u_Kn s q.1 q.2.1 q.2.2 (dC k) (dI k) := by
    refine ⟨fun k => match k with | 0 => c0 | 1 => c1 | 2 => c2 | 3 => c3 | 4 => c4 | 5 => c5 | 6 => c6 | 7 => c7 | 8 => c8 | _ => c9, fun k => match k with | 0 => i0 | 1 => i1 | 2 => i2 | 3 => i3 | 4 => i4 | 5 => i5 | 6 => i6 | 7 => i7 | 8 => i8 | _ => i9, ?_⟩
    intro k q hq
    match k, hq with
    | 0, hq => cases hq; exact k0
    | 1, hq => cases hq; exact k1
    | 2, hq => cases hq; exact k2
    | 3, hq => cases hq; exact k3
    | 4, hq => cases hq; exact k4
    | 5, hq => cases hq; exact k5
    | 6, hq => cases hq; exact k6
    | 7, hq => cases hq; exact k7
    | 8, hq => cases hq; exact k8
    | 9, hq => cases hq; exact k9
    | k + 10, hq => simp [vwCl] at hq
  obtain ⟨a0, hI⟩ := arr_of (fun C h => by cases h) (hts (.arrayClass .int) (by decide +kernel))
  obtain ⟨a1, hZ⟩ := arr_of (fun C h => by cases h) (hts (.arrayClass .boolean) (by decide +kernel))
  obtain ⟨a2, hF⟩ := arr_of (fun C h => by cases h) (hts (.arrayClass .float) (by decide +kernel))
  have hov : (Cond.arrayOver (.object RX7)).before #[Value.ref b] s = true := hts _ (by decide +kernel)
  obtain ⟨a3, hQ⟩ := arr_ofQ hov
  obtain ⟨cA, hKt⟩ : ∃ cA : Nat → ClassId, ∀ (k : Nat) (q : ClassId × FieldType), (tysA cA)[k]? = some q → ArrOfT s q.1 q.2 ∧ va_RA s q.1 q.2 := by
    refine ⟨fun k => match k with | 0 => a0 | 1 => a1 | 2 => a2 | _ => a3, ?_⟩
    intro k q hq
    match k, hq with
    | 0, hq => cases hq; exact hI
    | 1, hq => cases hq; exact hZ
    | 2, hq => cases hq; exact hF
    | 3, hq => cases hq; exact hQ
    | k + 4, hq => simp [tysA] at hq
  have hK : va_K (dC, dI) vwCl (tysA cA) s := ⟨hKc, hKt⟩
  have hNC : NC s := ⟨fun q hq => va_Nw.of rfl (hts _ (nest_in q hq)), va_AO.of hov⟩
  have hNW : NW s := ⟨va_Nw.of rfl (hts (.methodLinkNest RX9 93 yX10_isSymbol "TwistedLight") (by decide +kernel)), va_Nw.of rfl (hts (.methodLinkNest RX9 99 yX10_isPlace "TwistedLight") (by decide +kernel))⟩
  obtain ⟨t5, z5, T5⟩ := stat_of (o := 105) (N := 4) (by decide) hgv (by decide +kernel) (by decide +kernel) elL_in (hts (.laysStatic RX2 "LIGHT" "[I") (by decide +kernel)) (hts (.initialized RX2) (by decide +kernel)) hA'
  obtain ⟨t6, z6, T6⟩ := stat_of (o := 106) (N := 40) (by decide) hgv (by decide +kernel) (by decide +kernel) elD_in (hts (.laysStatic RX8 "DEED" "[I") (by decide +kernel)) (hts (.initialized RX8) (by decide +kernel)) hA'
  obtain ⟨t7, z7, T7⟩ := stat_of (o := 107) (N := 40) (by decide) hgv (by decide +kernel) (by decide +kernel) elS_in (hts (.laysStatic RX8 "STAGE" "[I") (by decide +kernel)) (hts (.initialized RX8) (by decide +kernel)) hA'
  have hl := lv_entry ([.ref b]) (n := 4) (Nat.le_of_ble_eq_true rfl)
  rw [lg_entry_eq]
  generalize (lg_sl ([.ref b]) ++ List.replicate (4 - (lg_sl ([.ref b])).length) Slot.unset).toArray = ls0 at hl ⊢
  have hl : lv_has ls0 4 [(0, .ref b)] := hl
  have hS : va_S (fun q : Nat => s.heap.size ≤ q) s.heap s.heap [] := va_S.rf
  have hP : va_P (dC, dI) vwCl [] s.heap := fun k q h => by simp at h
  have hD : va_D (fun q : Nat => s.heap.size ≤ q) [] := ⟨fun i j p q h => by simp at h, fun k q h => by simp at h⟩
  have hL' : ((L : Nat) : Int) - 0 < 6 * ((600 : Nat) : Int) := by omega
  have FX : FY mdL_law ((l, p, e, room_1, s, m, #[Value.ref b], below, meth, c), ((dC, dI), cA, fun q : Nat => s.heap.size ≤ q), lw_Z below #[Value.ref b] s) 105 2783 :=
    ⟨hx, hb, hml, hr, hown, hGW, hlocks, ⟨by decide, Nat.le_of_ble_eq_true rfl⟩, Nat.le_of_ble_eq_true rfl, Nat.le_of_ble_eq_true rfl, Nat.le_of_ble_eq_true rfl, ⟨hK, hNC⟩, hA, fun h => absurd h (by decide)⟩
  refine law_make (X := ((l, p, e, room_1, s, m, #[Value.ref b], below, meth, c), ((dC, dI), cA, fun q : Nat => s.heap.size ≤ q), lw_Z below #[Value.ref b] s)) (b := b) (fun q1 u1 q2 u2 => ?_) FX s.heap [] ls0 hP hD hS hl
  intro F H locs ls hP1 hD1 hS1 hl1
  have hP2 : va_P (dC, dI) vwCl (wAll cA (adZ q1 u1 q2 u2 t5 t6 t7 b)) H := by rw [← wAll_eq]; exact hP1
  have hD2 : va_D (fun q : Nat => s.heap.size ≤ q) (wAll cA (adZ q1 u1 q2 u2 t5 t6 t7 b)) := by rw [← wAll_eq]; exact hD1
  have a5 : adZ q1 u1 q2 u2 t5 t6 t7 b 105 = t5 := rfl
  have a6 : adZ q1 u1 q2 u2 t5 t6 t7 b 106 = t6 := rfl
  have a7 : adZ q1 u1 q2 u2 t5 t6 t7 b 107 = t7 := rfl
  have a8 : adZ q1 u1 q2 u2 t5 t6 t7 b 108 = b := rfl
  have b1 : adZ q1 u1 q2 u2 t5 t6 t7 b 60 = q1 := rfl
  have b2 : adZ q1 u1 q2 u2 t5 t6 t7 b 87 = q2 := rfl
  generalize adZ q1 u1 q2 u2 t5 t6 t7 b = ad at hP2 hD2 a5 a6 a7 a8 b1 b2
  have hP3 := wl_make hP2
  obtain ⟨inj, inA⟩ := wl_ids hD2
  have hl2 : lv_has ls 4 [(0, .ref b), (1, .ref q1), (2, .ref q2)] := lv_sub hl1 [2, 1, 0] rfl
  subst a5 a6 a7 b1 b2
  have hKW : KW (dC, dI) cA ad (fun q : Nat => s.heap.size ≤ q) s s.heap := ⟨hK, inj, inA, z5, z6, z7, (fun o ho => by
    rcases ho with rfl | rfl | rfl
    · exact T5
    · exact T6
    · exact T7), hNW⟩
  have Fx2 : Fx mdL_law ((l, p, e, room_1, s, m, #[Value.ref b], below, meth, c), ((dC, dI), cA, ad, fun q : Nat => s.heap.size ≤ q), (105, 2783, lw_Z below #[Value.ref b] s)) :=
    ⟨hx, hb, hml, hr, hown, hGW, hlocks, Nat.le_of_ble_eq_true rfl, Nat.le_of_ble_eq_true rfl, Nat.le_of_ble_eq_true rfl, Nat.le_of_ble_eq_true rfl, hKW⟩
  have hE : RE ((l, p, e, room_1, s, m, #[Value.ref b], below, meth, c), ((dC, dI), cA, ad, fun q : Nat => s.heap.size ≤ q), (105, 2783, lw_Z below #[Value.ref b] s)) b := ⟨rfl, rfl, rfl, Nat.le_of_ble_eq_true rfl, Nat.le_of_ble_eq_true rfl, rfl⟩
  have hXX : SC ((l, p, e, room_1, s, m, #[Value.ref b], below, meth, c), ((dC, dI), cA, ad, fun q : Nat => s.heap.size ≤ q), (105, 2783, lw_Z below #[Value.ref b] s)) L xs := by
    show va_X (ad 108) L xs s s.heap ∧ ad 108 < s.heap.size ∧ ¬ (fun q : Nat => s.heap.size ≤ q) (ad 108)
    rw [a8]
    exact ⟨hX, hbl, hA' b hbl⟩
  have hl3 : lv_has ls (mdN mdL_law) ([(0, vr 108), (1, vr 60), (2, vr 87)].map (fun q => (q.1, cv ad q.2))) := by
    show lv_has ls 4 [(0, .ref (ad 108)), (1, .ref (ad 60)), (2, .ref (ad 87))]
    rw [a8]
    exact hl2
  have g : G mdL_law ((l, p, e, room_1, s, m, #[Value.ref b], below, meth, c), ((dC, dI), cA, ad, fun q : Nat => s.heap.size ≤ q), (105, 2783, lw_Z below #[Value.ref b] s)) 16 [(0, vr 108), (1, vr 60), (2, vr 87)] [] σZ :=
    G.iconst dL_law_16 (G.istore_n dL_law_17 (by decide) rfl (law_loop hE hXX hL 600 0 0 aZ σZ (by omega) (by decide) (by omega) (by decide) CR_start MR_start))
  exact g Fx2 H locs ls hP3 hS1 hl3
