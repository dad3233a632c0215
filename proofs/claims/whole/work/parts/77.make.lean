/-! the making of objects: a judgement over any list of cells -/
def nestW : List (String × Nat × MethodName) := [(RX10, 11, yX7_init), (RX3, 17, yX7_init), (RX10, 36, yX9_init), (RX10, 43, yX6_init), (RX10, 50, yX1_init), (RX1, 23, yX4_init), (RX10, 60, yX0_init), (RX10, 73, yX4_init)]
def NC (s : State) : Prop := (∀ q ∈ nestW, va_Nw (.methodLinkNest q.1 q.2.1 q.2.2 "TwistedLight") s) ∧ va_AO RX7 s
theorem NC.same {u U : State} (h : u.vm = U.vm) (hN : NC u) : NC U := ⟨fun q hq => va_Nw.same rfl h (hN.1 q hq), va_AO.moved (by rw [h]; exact Vm.Alike.refl U.vm) hN.2⟩
theorem NC.warm {s U : State} (hW : s.WarmedH U.vm) (hN : NC s) : NC U := ⟨fun q hq => va_Nw.warmM hW (hN.1 q hq), va_AO.moved hW.alike hN.2⟩
def KC (D : va_G) (cA : Nat → ClassId) (U : State) : Prop := va_K D vwCl (tysA cA) U ∧ NC U
abbrev CX : Type := (Launch × Program × Env × Room × State × MethodId × Array Value × List Frame × Method × Code) × (va_G × (Nat → ClassId) × (Nat → Prop)) × (State → Prop)
abbrev cyX (X : CX) : Nat → ClassId := X.2.1.2.1
def FY (md : MD) (X : CX) (mc ms : Nat) : Prop := match X with
  | ((_, p, _, R, s, m, args, _, meth, c), (D, cA, A), _) => p.tables.exec = Jvm.exec ∧ c.code = mdC md ∧ c.maxLocals = mdN md ∧ meth.sig.returnType = mdR md ∧ s.vm.findClass (mdO md) = some m.cls ∧ (∀ w ∈ GW, w.before args s = true) ∧ meth.locks = false ∧ (1 ≤ mdF md ∧ mdF md ≤ R.frames) ∧ 36 * mdF md ≤ R.locals ∧ mc ≤ R.cells ∧ ms ≤ R.slots ∧ KC D cA s ∧ (∀ q, s.heap.size ≤ q → A q) ∧ ((mdY md).name = "<init>" → meth.name = "<init>")
def GC (md : MD) (X : CX) (mc ms pc : Nat) (L : List (Nat × Value)) (S : List Value) (k n : Nat) (ws : va_W) : Prop := FY md X mc ms → match X with
  | ((l, p, e, R, s, m, args, below, meth, c), (D, _, A), Q) => ∀ (H : Heap) (locs : List Loc) (ls : Array Slot), va_P D vwCl ws H → va_D A ws → va_S A s.heap H locs → lv_has ls (mdN md) L → W p l e R s m args below meth c H locs k n Q (F0 m pc ls S)
section MAKE
variable {md : MD} {X : CX} {mc ms pc k n : Nat} {L : List (Nat × Value)} {S : List Value} {ws : va_W}
theorem GC.aload {j : Fin 4} {a i : Nat} (hd : decode (mdC md) pc = .ok (.aload_n j, 1)) (h : L[i]? = some ((j : Nat), .ref a)) (kk : GC md X mc ms (pc + 1) L (.ref a :: S) k n ws) : GC md X mc ms pc L S k n ws := by
  obtain ⟨⟨l, p, e, R, s, m, args, below, meth, c⟩, ⟨D, cA, A⟩, Q⟩ := X
  intro F H locs ls hP hD hS hl
  exact lv_aload_n F.1 F.2.1 hd rfl (lv_at hl i h) (kk F H locs ls hP hD hS hl)
theorem GC.iload {j : Fin 4} {i : Nat} {z : Int32} (hd : decode (mdC md) pc = .ok (.iload_n j, 1)) (h : L[i]? = some ((j : Nat), .int z)) (kk : GC md X mc ms (pc + 1) L (.int z :: S) k n ws) : GC md X mc ms pc L S k n ws := by
  obtain ⟨⟨l, p, e, R, s, m, args, below, meth, c⟩, ⟨D, cA, A⟩, Q⟩ := X
  intro F H locs ls hP hD hS hl
  exact lv_iload_n F.1 F.2.1 hd rfl (lv_at hl i h) (kk F H locs ls hP hD hS hl)
theorem GC.iconst {z : Int} (hd : decode (mdC md) pc = .ok (.iconst z, 1)) (kk : GC md X mc ms (pc + 1) L (.int (Int32.ofInt z) :: S) k n ws) : GC md X mc ms pc L S k n ws := by
  obtain ⟨⟨l, p, e, R, s, m, args, below, meth, c⟩, ⟨D, cA, A⟩, Q⟩ := X
  intro F H locs ls hP hD hS hl
  exact lv_iconst F.1 F.2.1 hd rfl (kk F H locs ls hP hD hS hl)
theorem GC.bipush {z : Int} (hd : decode (mdC md) pc = .ok (.bipush z, 2)) (hn : (Int8.ofInt z).toInt32 = Int32.ofInt z) (kk : GC md X mc ms (pc + 2) L (.int (Int32.ofInt z) :: S) k n ws) : GC md X mc ms pc L S k n ws := by
  obtain ⟨⟨l, p, e, R, s, m, args, below, meth, c⟩, ⟨D, cA, A⟩, Q⟩ := X
  intro F H locs ls hP hD hS hl
  exact lv_bipush F.1 F.2.1 hd hn (kk F H locs ls hP hD hS hl)
theorem GC.sipush {z : Int} (hd : decode (mdC md) pc = .ok (.sipush z, 3)) (hn : (Int16.ofInt z).toInt32 = Int32.ofInt z) (kk : GC md X mc ms (pc + 3) L (.int (Int32.ofInt z) :: S) k n ws) : GC md X mc ms pc L S k n ws := by
  obtain ⟨⟨l, p, e, R, s, m, args, below, meth, c⟩, ⟨D, cA, A⟩, Q⟩ := X
  intro F H locs ls hP hD hS hl
  exact lv_sipush F.1 F.2.1 hd hn (kk F H locs ls hP hD hS hl)
theorem GC.dup {v : Value} (hd : decode (mdC md) pc = .ok (.dup, 1)) (hv : v.category = 1) (kk : GC md X mc ms (pc + 1) L (v :: v :: S) k n ws) : GC md X mc ms pc L (v :: S) k n ws := by
  obtain ⟨⟨l, p, e, R, s, m, args, below, meth, c⟩, ⟨D, cA, A⟩, Q⟩ := X
  intro F H locs ls hP hD hS hl
  exact lv_dup F.1 F.2.1 hd hv (kk F H locs ls hP hD hS hl)
theorem GC.goto {off : Int} {tgt : Nat} (hd : decode (mdC md) pc = .ok (.goto off, 3)) (ht : (pc : Int) + off = (tgt : Int)) (kk : GC md X mc ms tgt L S k n ws) : GC md X mc ms pc L S k n ws := by
  obtain ⟨⟨l, p, e, R, s, m, args, below, meth, c⟩, ⟨D, cA, A⟩, Q⟩ := X
  intro F H locs ls hP hD hS hl
  exact lv_goto F.1 F.2.1 hd ht (kk F H locs ls hP hD hS hl)
theorem GC.icmpge {x y : Int32} {off : Int} {tgt : Nat} (hd : decode (mdC md) pc = .ok (.if_icmp .ge off, 3)) (ht : (pc : Int) + off = (tgt : Int)) (kt : y ≤ x → GC md X mc ms tgt L S k n ws) (kf : ¬ y ≤ x → GC md X mc ms (pc + 3) L S k n ws) : GC md X mc ms pc L (.int y :: .int x :: S) k n ws := by
  obtain ⟨⟨l, p, e, R, s, m, args, below, meth, c⟩, ⟨D, cA, A⟩, Q⟩ := X
  intro F H locs ls hP hD hS hl
  exact lv_icmp_ge (tgt := tgt) F.1 F.2.1 hd ht (fun q => kt q F H locs ls hP hD hS hl) (fun q => kf q F H locs ls hP hD hS hl)
theorem GC.istore {j : Fin 4} {z : Int32} {L' : List (Nat × Value)} (hd : decode (mdC md) pc = .ok (.istore_n j, 1)) (hn : (j : Nat) < mdN md) (hL : ((j : Nat), Value.int z) :: L.filter (fun q => !(q.1 == (j : Nat)) && !(q.1 + 1 == (j : Nat) && q.2.category == 2)) = L') (kk : GC md X mc ms (pc + 1) L' S k n ws) : GC md X mc ms pc L (.int z :: S) k n ws := by
  obtain ⟨⟨l, p, e, R, s, m, args, below, meth, c⟩, ⟨D, cA, A⟩, Q⟩ := X
  intro F H locs ls hP hD hS hl
  exact lv_istore_n F.1 F.2.1 hd rfl hl hn hL (fun ls' h' => kk F H locs ls' hP hD hS h')
theorem GC.astore {j : Fin 4} {a : Nat} {L' : List (Nat × Value)} (hd : decode (mdC md) pc = .ok (.astore_n j, 1)) (hn : (j : Nat) < mdN md) (hL : ((j : Nat), Value.ref a) :: L.filter (fun q => !(q.1 == (j : Nat)) && !(q.1 + 1 == (j : Nat) && q.2.category == 2)) = L') (kk : GC md X mc ms (pc + 1) L' S k n ws) : GC md X mc ms pc L (.ref a :: S) k n ws := by
  obtain ⟨⟨l, p, e, R, s, m, args, below, meth, c⟩, ⟨D, cA, A⟩, Q⟩ := X
  intro F H locs ls hP hD hS hl
  exact lv_astore_n F.1 F.2.1 hd rfl hl hn hL (fun ls' h' => kk F H locs ls' hP hD hS h')
theorem GC.iinc {j i : Nat} {d : Int} {z v : Int32} {L' : List (Nat × Value)} (hd : decode (mdC md) pc = .ok (.iinc j d, 3)) (h : L[i]? = some (j, .int z)) (hv : z + Int32.ofInt d = v) (hn : j < mdN md) (hL : (j, Value.int v) :: L.filter (fun q => !(q.1 == j) && !(q.1 + 1 == j && q.2.category == 2)) = L') (kk : GC md X mc ms (pc + 3) L' S k n ws) : GC md X mc ms pc L S k n ws := by
  obtain ⟨⟨l, p, e, R, s, m, args, below, meth, c⟩, ⟨D, cA, A⟩, Q⟩ := X
  intro F H locs ls hP hD hS hl
  exact lv_iinc F.1 F.2.1 hd hl h hv hn hL (fun ls' h' => kk F H locs ls' hP hD hS h')
theorem GC.objInit {idx i1 i2 i3 a : Nat} (hd : decode (mdC md) pc = .ok (.invokespecial idx, 3)) (h1 : lw_tbl[i1]? = some (.methodLink (mdO md) idx objectInit)) (h2 : lw_tbl[i2]? = some (.instanceMethod objectInit)) (h3 : lw_tbl[i3]? = some (.code objectInit ⟨#[0xb1]⟩ 1 none)) (hr : (S.map fun v => v.category).sum ≤ 8) (kk : GC md X mc ms (pc + 3) L S k n ws) : GC md X mc ms pc L (.ref a :: S) k n ws := by
  obtain ⟨⟨l, p, e, R, s, m, args, below, meth, c⟩, ⟨D, cA, A⟩, Q⟩ := X
  intro F H locs ls hP hD hS hl
  obtain ⟨hx, hb, hml, hr', hown, hts, hlk, ⟨hf0, hff⟩, hlo, hcc, hsl, hK, hA, hnm⟩ := id F
  refine W.objInit hx hb hown (hts _ (gw_at h1 rfl)) (hts _ (gw_at h2 rfl)) (hts _ (gw_at h3 rfl)) rfl (by rw [hml]; exact hl.1) rfl hd (by omega) ?_ ?_
  · show 2 * 0 + _ + 12 ≤ R.locals
    omega
  · exact kk F H locs ls hP hD hS hl
theorem GC.mmin {idx i1 i2 i3 i4 : Nat} {x y : Int32} (hd : decode (mdC md) pc = .ok (.invokestatic idx, 3)) (h1 : lw_tbl[i1]? = some (.methodLink (mdO md) idx Lib.Math.min.name)) (h2 : lw_tbl[i2]? = some (.static Lib.Math.min.name)) (h3 : lw_tbl[i3]? = some (.initialized "java/lang/Math")) (h4 : lw_tbl[i4]? = some (.code Lib.Math.min.name Lib.Math.min.code 2 (some .int))) (hr : (S.map fun v => v.category).sum ≤ 8) (hk : k ≤ mc) (hn : n ≤ ms) (kk : GC md X mc ms (pc + 3) L (.int (if y < x then y else x) :: S) k n ws) : GC md X mc ms pc L (.int y :: .int x :: S) k n ws := by
  obtain ⟨⟨l, p, e, R, s, m, args, below, meth, c⟩, ⟨D, cA, A⟩, Q⟩ := X
  intro F H locs ls hP hD hS hl
  obtain ⟨hx, hb, hml, hr', hown, hts, hlk, ⟨hf0, hff⟩, hlo, hcc, hsl, hK, hA, hnm⟩ := id F
  exact va_mmin hx hb (by rw [hml]; exact hl.1.symm) hown (hts _ (gw_at h1 rfl)) (hts _ (gw_at h2 rfl)) (hts _ (gw_at h3 rfl)) (hts _ (gw_at h4 rfl)) (by omega) (by omega) (by omega) (by omega) hd (kk F H locs ls hP hD hS hl)
/-- a new object -/
theorem GC.new {idx ci N i1 i2 i3 : Nat} {C : String} {T : u_T} {fs : List Value} (hd : decode (mdC md) pc = .ok (.new idx, 3)) (hC : vwCl[ci]? = some (C, T, N)) (h1 : lw_tbl[i1]? = some (.classLink (mdO md) idx C)) (h2 : lw_tbl[i2]? = some (.instantiable C N)) (h3 : lw_tbl[i3]? = some (.initialized C)) (hfs : ∀ j, j < N → defaultValue (ckT ci j) = vp_V fs j) (hk : k + 1 ≤ mc) (hn : n + N ≤ ms) (kk : ∀ q, GC md X mc ms (pc + 3) L (.ref q :: S) (k + 1) (n + N) (ws ++ [(q, .inr (ci, fs))])) : GC md X mc ms pc L S k n ws := by
  obtain ⟨⟨l, p, e, R, s, m, args, below, meth, c⟩, ⟨D, cA, A⟩, Q⟩ := X
  intro F H locs ls hP hD hS hl
  obtain ⟨hx, hb, hml, hr', hown, hts, hlk, ⟨hf0, hff⟩, hlo, hcc, hsl, hK, hA, hnm⟩ := id F
  exact va_new hx hb hts (cl_in hC) (ckT ci) (cl_ty hC) hown (hts _ (gw_at h1 rfl)) (hts _ (gw_at h2 rfl)) (hts _ (gw_at h3 rfl)) hK.1 hP hD hS hA hC hfs (by omega) (by show n + N ≤ R.slots; omega) hd (fun q H1 hP1 hD1 hS1 => kk q F H1 locs ls hP1 hD1 hS1 hl)
theorem ra_one {U : State} {c c' : ClassId} {ty : FieldType} (hc : ∀ C, ty ≠ .object C) (h1 : va_RA U c ty) (h2 : va_RA U c' ty) : c' = c := by
  cases ty with
  | object C => exact absurd rfl (hc C)
  | _ =>
    have e1 : U.vm.findClass _ = some c := h1
    have e2 : U.vm.findClass _ = some c' := h2
    exact Option.some.inj (e2.symm.trans e1)
theorem GC.newI {N i1 : Nat} (hd : decode (mdC md) pc = .ok (.newarray .int, 2)) (h1 : lw_tbl[i1]? = some (.arrayClass .int)) (hN : N < 100000) (hk : k + 1 ≤ mc) (hn : n + N ≤ ms) (kk : ∀ q, GC md X mc ms (pc + 2) L (.ref q :: S) (k + 1) (n + N) (ws ++ [(q, .inl (cyX X 0, N, .inl (fun _ => 0)))])) : GC md X mc ms pc L (.int (Int32.ofInt (N : Nat)) :: S) k n ws := by
  obtain ⟨⟨l, p, e, R, s, m, args, below, meth, c⟩, ⟨D, cA, A⟩, Q⟩ := X
  intro F H locs ls hP hD hS hl
  obtain ⟨hx, hb, hml, hr', hown, hts, hlk, ⟨hf0, hff⟩, hlo, hcc, hsl, hK, hA, hnm⟩ := id F
  refine va_newa (atype := .int) (ty := .int) (N' := N) (a0 := (N, .inl (fun _ => 0))) hx hb (hts _ (gw_at h1 rfl)) rfl hK.1 hP hD hS hA (fun _ => rfl) ?_ ?_ ?_ (by omega) (by omega) hd (fun q c' H1 hK1 hP1 hD1 hS1 => ?_)
  · rw [oi_0, oi_lt ⟨by omega, by omega⟩ inI_0]; omega
  · rw [oi_cl (by omega) (by omega)]; omega
  · show N * 4 ≤ 536870912
    omega
  · have e1 := (hK1.2 0 (cA 0, .int) rfl).2
    have e2 := (hK1.2 4 (c', .int) rfl).2
    have : c' = cA 0 := ra_one (fun C h => by cases h) e1 e2
    subst this
    exact kk q F H1 locs ls hP1 hD1 hS1 hl
theorem GC.newZ {N i1 : Nat} (hd : decode (mdC md) pc = .ok (.newarray .boolean, 2)) (h1 : lw_tbl[i1]? = some (.arrayClass .boolean)) (hN : N < 100000) (hk : k + 1 ≤ mc) (hn : n + N ≤ ms) (kk : ∀ q, GC md X mc ms (pc + 2) L (.ref q :: S) (k + 1) (n + N) (ws ++ [(q, .inl (cyX X 1, N, .inl (fun _ => 0)))])) : GC md X mc ms pc L (.int (Int32.ofInt (N : Nat)) :: S) k n ws := by
  obtain ⟨⟨l, p, e, R, s, m, args, below, meth, c⟩, ⟨D, cA, A⟩, Q⟩ := X
  intro F H locs ls hP hD hS hl
  obtain ⟨hx, hb, hml, hr', hown, hts, hlk, ⟨hf0, hff⟩, hlo, hcc, hsl, hK, hA, hnm⟩ := id F
  refine va_newa (atype := .boolean) (ty := .boolean) (N' := N) (a0 := (N, .inl (fun _ => 0))) hx hb (hts _ (gw_at h1 rfl)) rfl hK.1 hP hD hS hA (fun _ => rfl) ?_ ?_ ?_ (by omega) (by omega) hd (fun q c' H1 hK1 hP1 hD1 hS1 => ?_)
  · rw [oi_0, oi_lt ⟨by omega, by omega⟩ inI_0]; omega
  · rw [oi_cl (by omega) (by omega)]; omega
  · show N * 1 ≤ 536870912
    omega
  · have e1 := (hK1.2 1 (cA 1, .boolean) rfl).2
    have e2 := (hK1.2 4 (c', .boolean) rfl).2
    have : c' = cA 1 := ra_one (fun C h => by cases h) e1 e2
    subst this
    exact kk q F H1 locs ls hP1 hD1 hS1 hl
theorem GC.newF {N i1 : Nat} (hd : decode (mdC md) pc = .ok (.newarray .float, 2)) (h1 : lw_tbl[i1]? = some (.arrayClass .float)) (hN : N < 100000) (hk : k + 1 ≤ mc) (hn : n + N ≤ ms) (kk : ∀ q, GC md X mc ms (pc + 2) L (.ref q :: S) (k + 1) (n + N) (ws ++ [(q, .inl (cyX X 2, N, .inr (.inr (.inl (fun _ => 0)))))])) : GC md X mc ms pc L (.int (Int32.ofInt (N : Nat)) :: S) k n ws := by
  obtain ⟨⟨l, p, e, R, s, m, args, below, meth, c⟩, ⟨D, cA, A⟩, Q⟩ := X
  intro F H locs ls hP hD hS hl
  obtain ⟨hx, hb, hml, hr', hown, hts, hlk, ⟨hf0, hff⟩, hlo, hcc, hsl, hK, hA, hnm⟩ := id F
  refine va_newa (atype := .float) (ty := .float) (N' := N) (a0 := (N, .inr (.inr (.inl (fun _ => 0))))) hx hb (hts _ (gw_at h1 rfl)) rfl hK.1 hP hD hS hA (fun _ => rfl) ?_ ?_ ?_ (by omega) (by omega) hd (fun q c' H1 hK1 hP1 hD1 hS1 => ?_)
  · rw [oi_0, oi_lt ⟨by omega, by omega⟩ inI_0]; omega
  · rw [oi_cl (by omega) (by omega)]; omega
  · show N * 4 ≤ 536870912
    omega
  · have e1 := (hK1.2 2 (cA 2, .float) rfl).2
    have e2 := (hK1.2 4 (c', .float) rfl).2
    have : c' = cA 2 := ra_one (fun C h => by cases h) e1 e2
    subst this
    exact kk q F H1 locs ls hP1 hD1 hS1 hl
/-- a new array of states -/
theorem GC.newQ {N idx i1 : Nat} (hd : decode (mdC md) pc = .ok (.anewarray idx, 3)) (h1 : lw_tbl[i1]? = some (.classLink (mdO md) idx RX7)) (hN : N < 100000) (hk : k + 1 ≤ mc) (hn : n + N ≤ ms) (kk : ∀ q, GC md X mc ms (pc + 3) L (.ref q :: S) (k + 1) (n + N) (ws ++ [(q, .inl (cyX X 3, N, .inr (.inr (.inr (.inr (fun _ => none))))))])) : GC md X mc ms pc L (.int (Int32.ofInt (N : Nat)) :: S) k n ws := by
  obtain ⟨⟨l, p, e, R, s, m, args, below, meth, c⟩, ⟨D, cA, A⟩, Q⟩ := X
  intro F H locs ls hP hD hS hl
  obtain ⟨hx, hb, hml, hr', hown, hts, hlk, ⟨hf0, hff⟩, hlo, hcc, hsl, hK, hA, hnm⟩ := id F
  refine va_newq (N' := N) hx hb hown (hts _ (gw_at h1 rfl)) hK.2.2 hK.1 hP hD hS hA ?_ ?_ ?_ (by omega) (by omega) hd (fun q c' H1 hK1 hP1 hD1 hS1 => ?_)
  · rw [oi_0, oi_lt ⟨by omega, by omega⟩ inI_0]; omega
  · rw [oi_cl (by omega) (by omega)]; omega
  · omega
  · obtain ⟨kA, comp, -, -, -, e1⟩ := (hK1.2 3 (cA 3, .object RX7) rfl).2
    obtain ⟨kA', comp', -, -, -, e2⟩ := (hK1.2 4 (c', .object RX7) rfl).2
    have : c' = cA 3 := Option.some.inj (e2.symm.trans e1)
    subst this
    exact kk q F H1 locs ls hP1 hD1 hS1 hl
theorem GC.getf {idx ci kf q0 a : Nat} {fs : List Value} {v : Value} (hd : decode (mdC md) pc = .ok (.getfield idx, 3)) (hf : flk (mdO md) idx ci kf) (he : ws[q0]? = some (a, .inr (ci, fs))) (hv : fs[kf]? = some v) (kk : GC md X mc ms (pc + 3) L (v :: S) k n ws) : GC md X mc ms pc L (.ref a :: S) k n ws := by
  obtain ⟨⟨l, p, e, R, s, m, args, below, meth, c⟩, ⟨D, cA, A⟩, Q⟩ := X
  intro F H locs ls hP hD hS hl
  obtain ⟨hx, hb, hml, hr', hown, hts, hlk, ⟨hf0, hff⟩, hlo, hcc, hsl, hK, hA, hnm⟩ := id F
  obtain ⟨⟨C', T, N⟩, g1, g2, g3⟩ := hf
  exact va_get hx hb hts (cl_in g1) hown hK.1 hP q0 he g1 kf g2 (hts _ g3) (fun x hx => hx) hv hd (kk F H locs ls hP hD hS hl)
theorem GC.putF {idx ci kf q0 a : Nat} {fs : List Value} {C : vw_C} {v : Value} (hd : decode (mdC md) pc = .ok (.putfield idx, 3)) (hf : flk (mdO md) idx ci kf) (hC : vwCl[ci]? = some C) (he : ws[q0]? = some (a, .inr (ci, fs))) (hfin : (C.2.1 kf).2.2.2 = true) (hdecl : (C.2.1 kf).1 = mdO md) (hin : (mdY md).name = "<init>") (hn : narrow (ckT ci kf) v = v) (hfit : fits (ckT ci kf) v = true) (hl0 : kf < fs.length) (kk : GC md X mc ms (pc + 3) L S k n (ws.set q0 (a, .inr (ci, fs.set kf v)))) : GC md X mc ms pc L (v :: .ref a :: S) k n ws := by
  obtain ⟨⟨l, p, e, R, s, m, args, below, meth, c⟩, ⟨D, cA, A⟩, Q⟩ := X
  intro F H locs ls hP hD hS hl
  obtain ⟨hx, hb, hml, hr', hown, hts, hlk, ⟨hf0, hff⟩, hlo, hcc, hsl, hK, hA, hnm⟩ := id F
  obtain ⟨⟨C', T, N⟩, g1, g2, g3⟩ := hf
  cases hC.symm.trans g1
  exact va_putF hx hb hts (cl_in g1) (ckT ci) (cl_ty g1) (cl_nm g1) hown hK.1 hP hD hS q0 he g1 kf g2 (hts _ g3) (fun x hx => hx) hfin (hnm hin) hdecl (cl_ty g1 kf g2) hn hfit hl0 hd (fun H1 locs1 hP1 hD1 hS1 => kk F H1 locs1 ls hP1 hD1 hS1 hl)
theorem GC.put {idx ci kf q0 a : Nat} {fs : List Value} {C : vw_C} {v : Value} (hd : decode (mdC md) pc = .ok (.putfield idx, 3)) (hf : flk (mdO md) idx ci kf) (hC : vwCl[ci]? = some C) (he : ws[q0]? = some (a, .inr (ci, fs))) (hfin : (C.2.1 kf).2.2.2 = false) (hn : narrow (ckT ci kf) v = v) (hfit : fits (ckT ci kf) v = true) (hl0 : kf < fs.length) (kk : GC md X mc ms (pc + 3) L S k n (ws.set q0 (a, .inr (ci, fs.set kf v)))) : GC md X mc ms pc L (v :: .ref a :: S) k n ws := by
  obtain ⟨⟨l, p, e, R, s, m, args, below, meth, c⟩, ⟨D, cA, A⟩, Q⟩ := X
  intro F H locs ls hP hD hS hl
  obtain ⟨hx, hb, hml, hr', hown, hts, hlk, ⟨hf0, hff⟩, hlo, hcc, hsl, hK, hA, hnm⟩ := id F
  obtain ⟨⟨C', T, N⟩, g1, g2, g3⟩ := hf
  cases hC.symm.trans g1
  exact va_put hx hb hts (cl_in g1) (ckT ci) (cl_ty g1) (cl_nm g1) hown hK.1 hP hD hS q0 he g1 kf g2 (hts _ g3) (fun x hx => hx) hfin (cl_ty g1 kf g2) hn hfit hl0 hd (fun H1 locs1 hP1 hD1 hS1 => kk F H1 locs1 ls hP1 hD1 hS1 hl)
theorem GC.astq {q0 qk a v N : Nat} {vs : List Value} {f : Nat → Option Nat} {i : Int32} (hd : decode (mdC md) pc = .ok (.aastore, 1)) (ha : ws[q0]? = some (a, .inl (cyX X 3, N, .inr (.inr (.inr (.inr f)))))) (hv : ws[qk]? = some (v, .inr (5, vs))) (hi : vp_in i N) (kk : GC md X mc ms (pc + 1) L S k n (ws.set q0 (a, .inl (cyX X 3, N, .inr (.inr (.inr (.inr (va_up f i.toNatClampNeg (some v))))))))) : GC md X mc ms pc L (.ref v :: .int i :: .ref a :: S) k n ws := by
  obtain ⟨⟨l, p, e, R, s, m, args, below, meth, c⟩, ⟨D, cA, A⟩, Q⟩ := X
  intro F H locs ls hP hD hS hl
  obtain ⟨hx, hb, hml, hr', hown, hts, hlk, ⟨hf0, hff⟩, hlo, hcc, hsl, hK, hA, hnm⟩ := id F
  exact va_astq (r := (RX7, TX7, 6)) hx hb hK.1 hP hD hS q0 3 qk 5 ha rfl hv rfl hi hd (fun H1 locs1 hP1 hD1 hS1 => kk F H1 locs1 ls hP1 hD1 hS1 hl)
theorem GC.ias {q0 a N : Nat} {f : Nat → Int32} {i x : Int32} (hd : decode (mdC md) pc = .ok (.iastore, 1)) (ha : ws[q0]? = some (a, .inl (cyX X 0, N, .inl f))) (hi : vp_in i N) (kk : GC md X mc ms (pc + 1) L S k n (ws.set q0 (a, .inl (cyX X 0, N, .inl (upd f i.toNatClampNeg x))))) : GC md X mc ms pc L (.int x :: .int i :: .ref a :: S) k n ws := by
  obtain ⟨⟨l, p, e, R, s, m, args, below, meth, c⟩, ⟨D, cA, A⟩, Q⟩ := X
  intro F H locs ls hP hD hS hl
  obtain ⟨hx, hb, hml, hr', hown, hts, hlk, ⟨hf0, hff⟩, hlo, hcc, hsl, hK, hA, hnm⟩ := id F
  exact va_iast hx hb hK.1 hP hD hS q0 0 ha rfl hi hd (fun H1 locs1 hP1 hD1 hS1 => kk F H1 locs1 ls hP1 hD1 hS1 hl)
end MAKE
