/-! constructors: contracts, calls -/
def rmC (md : MD) (mc ms : Nat) : Room := { frames := mdF md, cells := mc, slots := ms, locals := 36 * mdF md }
abbrev WF : Type := (Nat → ClassId) → Nat → (Nat → Nat) → va_W
def PN (as z : List Value) (ci h0 sz : Nat) (D : va_G) (cA : Nat → ClassId) : Array Value → State → Prop := va_Pc (.ref h0 :: as) (fun U => U.heap.size = sz ∧ va_P D vwCl [(h0, .inr (ci, z))] U.heap ∧ KC D cA U)
def QN (z : List Value) (ci h0 sz : Nat) (W1 : WF) (D : va_G) (cA : Nat → ClassId) : Array Value → State → Outcome → State → Prop := va_Qv (fun _ : Nat → Nat => True) (fun u t => va_P D vwCl (W1 cA h0 u) t.heap ∧ va_D (va_A [(h0, .inr (ci, z))] sz) (W1 cA h0 u)) (va_A [(h0, .inr (ci, z))] sz)
def CN (md : MD) (ci : Nat) (as z : List Value) (mc ms : Nat) (W1 : WF) : Prop := ∀ (l : Launch) (D : va_G) (cA : Nat → ClassId) (h0 sz : Nat), Met l (mdY md) (wsM md) (rmC md mc ms) (PN as z ci h0 sz D cA) (QN z ci h0 sz W1 D cA) mc ms (va_A [(h0, .inr (ci, z))] sz)
def RN (X : CX) (z : List Value) (ci h0 mc ms : Nat) (W1 : WF) : Prop := match X with
  | ((_, _, _, _, s, _, args, below, _, _), (D, cA, A), Q) => A = va_A [(h0, .inr (ci, z))] s.heap.size ∧ Q = MQ below (QN z ci h0 s.heap.size W1 D cA) args s mc ms A
theorem CN_of {md : MD} {ci : Nat} {as z : List Value} {mc ms : Nat} {W1 : WF} (hy : plainName (mdY md).cls = true) (hown : mdO md = (mdY md).cls) (h1 : 1 ≤ mdF md) (hret : mdR md = none) (hn : ∀ h0, (lg_sl (.ref h0 :: as)).length ≤ mdN md) (h : ∀ X h0, RN X z ci h0 mc ms W1 → GC md X mc ms 0 ((0, .ref h0) :: lv_args 1 as) [] 0 0 [(h0, .inr (ci, z))]) : CN md ci as z mc ms W1 := by
  intro l D cA h0 sz
  refine Met.ofW (cc := mdC md) (maxL := mdN md) (ret := mdR md) hy rfl ?_
  intro p e s m args below meth c s₁ B hml hv
  obtain ⟨rfl, hsz, hP, hK⟩ := hv
  subst hsz
  have hl := lv_entry (.ref h0 :: as) (n := mdN md) (hn h0)
  rw [lg_entry_eq]
  have hts := atoms_spec (ws := wsM md) B.pre
  have hD : va_D (va_A [(h0, .inr (ci, z))] s.heap.size) [(h0, .inr (ci, z))] := by
    refine ⟨fun i j p q hp hq _ => ?_, fun k q hk => va_A.in hk⟩
    have h1 := (List.getElem?_eq_some_iff.mp hp).1
    have h2 := (List.getElem?_eq_some_iff.mp hq).1
    simp only [List.length_cons, List.length_nil] at h1 h2
    omega
  refine h ((l, p, e, (headSpec (wsM md) (rmC md mc ms)).room, s, m, _, below, meth, c), (D, cA, va_A [(h0, .inr (ci, z))] s.heap.size), MQ below (QN z ci h0 s.heap.size W1 D cA) _ s mc ms (va_A [(h0, .inr (ci, z))] s.heap.size)) h0 ⟨rfl, rfl⟩ ⟨B.exec, B.bytes, hml, B.returns, ?_, fun w hw => hts w (List.mem_cons_of_mem _ hw), B.notSynchronized, ⟨h1, Nat.le_refl _⟩, Nat.le_refl _, Nat.le_refl _, Nat.le_refl _, hK, fun q hq => Or.inr hq, fun hq => ?_⟩ s.heap [] _ hP hD va_S.rf hl
  · rw [hown]
    exact findClass_of_methodNamed B.named
  · rw [(name_of_methodNamed B.named B.method).1]; exact hq
section MAKE2
variable {md : MD} {X : CX} {mc ms pc k n : Nat} {L : List (Nat × Value)} {S : List Value} {ws : va_W}
theorem GC.ret {z : List Value} {ci h0 : Nat} {W1 : WF} (hX : RN X z ci h0 mc ms W1) (hd : decode (mdC md) pc = .ok (.return_, 1)) (hr : mdR md = none) (hk : k ≤ mc) (hn : n ≤ ms) (u : Nat → Nat) (hw : ws = W1 (cyX X) h0 u) : GC md X mc ms pc L [] k n ws := by
  obtain ⟨⟨l, p, e, R, s, m, args, below, meth, c⟩, ⟨D, cA, A⟩, Q⟩ := X
  obtain ⟨hA', hQ⟩ := hX
  subst hA'
  subst hQ
  subst hw
  intro F H locs ls hP hD hS hl
  obtain ⟨hx, hb, hml, hr', hown, hts, hlk, ⟨hf0, hff⟩, hlo, hcc, hsl, hK, hA, hnm⟩ := id F
  refine W.widen (k := mc) (n := ms) hk hn ?_
  exact W.vret hx hb (hr'.trans hr) (fun t ht hW => ⟨⟨u, rfl, trivial, by rw [ht]; exact hP, hD⟩, hS.F ht⟩) (fun q hq => hS.2.2 q hq) hd hlk
theorem PN_blind {as z : List Value} {ci h0 sz : Nat} {D : va_G} {cA : Nat → ClassId} : FrameBlind (PN as z ci h0 sz D cA) := by
  intro a U g mk q
  obtain ⟨q0, q1, qP, qK, qN⟩ := q
  exact ⟨q0, q1, qP, va_K.moved (u := U) (U := U.calling g mk a) (Vm.Alike.refl U.vm) qK, NC.same (u := U) rfl qN⟩
/-- the caller's other cells, and what the constructor made -/
theorem join1 {A0 : Nat → Prop} {D : va_G} {cl : List vw_C} {wr w1 : va_W} {q : Nat × va_E} {H H1 : Heap} (hP : va_P D cl (wr ++ [q]) H) (hD : va_D A0 (wr ++ [q])) (hk : ∀ a : Nat, a < H.size → ¬ va_A [q] H.size a → H1[a]? = H[a]?) (hF : ∀ a, va_A [q] H.size a → A0 a) (hP1 : va_P D cl w1 H1) (hD1 : va_D (va_A [q] H.size) w1) : va_P D cl (wr ++ w1) H1 ∧ va_D A0 (wr ++ w1) := by
  have left : ∀ (i : Nat) (x : Nat × va_E), wr[i]? = some x → (wr ++ [q])[i]? = some x := fun i x h => by
    rw [List.getElem?_append_left (List.getElem?_eq_some_iff.mp h).1]; exact h
  have last : (wr ++ [q])[wr.length]? = some q := by simp
  have apart : ∀ (i : Nat) (x : Nat × va_E), wr[i]? = some x → x.1 < H.size ∧ ¬ va_A [q] H.size x.1 := by
    intro i x h
    have hl := (hP i x (left i x h)).lt
    have hi := (List.getElem?_eq_some_iff.mp h).1
    refine ⟨hl, fun g => ?_⟩
    rcases g with ⟨j, e, g⟩ | g
    · have hj := (List.getElem?_eq_some_iff.mp g).1
      simp only [List.length_cons, List.length_nil] at hj
      have j0 : j = 0 := by omega
      subst j0
      have eq : q = (x.1, e) := Option.some.inj g
      have := hD.1 i wr.length x q (left i x h) last (by rw [eq])
      omega
    · omega
  refine ⟨va_P.app (fun i x h => ?_) hP1, va_D.app ⟨fun i j x y hx hy e => hD.1 i j x y (left i x hx) (left j y hy) e, fun i x h => hD.2 i x (left i x h)⟩ (hD1.weaken (fun i x _ g => hF x.1 g)) (fun i j x y hx hy e => ?_)⟩
  · obtain ⟨g1, g2⟩ := apart i x h
    exact (hP i x (left i x h)).kept (hk x.1 g1 g2)
  · exact (apart i x hx).2 (by rw [e]; exact hD1.2 j y hy)
theorem free1 {A0 : Nat → Prop} {wr : va_W} {q : Nat × va_E} {H0 H : Heap} {locs : List Loc} (hD : va_D A0 (wr ++ [q])) (hS : va_S A0 H0 H locs) (hA : ∀ a, H0.size ≤ a → A0 a) : ∀ a, va_A [q] H.size a → A0 a := by
  intro a h
  rcases h with ⟨j, e, g⟩ | g
  · have hj := (List.getElem?_eq_some_iff.mp g).1
    simp only [List.length_cons, List.length_nil] at hj
    have j0 : j = 0 := by omega
    subst j0
    have eq : q = (a, e) := Option.some.inj g
    have := hD.2 wr.length q (by simp)
    rw [eq] at this
    exact this
  · exact hA a (Nat.le_trans hS.1 g)
theorem GC.init {md2 : MD} {idx i1 ci2 q : Nat} {as z S0 : List Value} {mc2 ms2 : Nat} {W1 : WF} {wr : va_W} (hd : decode (mdC md) pc = .ok (.invokespecial idx, 3)) (hl1 : lw_tbl[i1]? = some (.methodLink (mdO md) idx (mdY md2))) (hok : okM md2 as.length) (hi : Cond.instanceMethod (mdY md2) ∈ GW) (hname : (mdY md2).name = "<init>") (hret : mdR md2 = none) (hf1 : mdF md2 + 1 ≤ mdF md) (hM : CN md2 ci2 as z mc2 ms2 W1) (hws : ws = wr ++ [(q, .inr (ci2, z))]) (hS0 : S0 = as.reverse ++ .ref q :: S) (hr : (S.map fun v => v.category).sum ≤ 8) (hk : k + mc2 ≤ mc) (hn : n + ms2 ≤ ms) (kk : ∀ u, GC md X mc ms (pc + 3) L S (k + mc2) (n + ms2) (wr ++ W1 (cyX X) q u)) : GC md X mc ms pc L S0 k n ws := by
  subst hws; subst hS0
  obtain ⟨⟨l, p, e, R, s, m, args, below, meth, c⟩, ⟨D, cA, A⟩, Q⟩ := X
  intro F H locs ls hP hD hS hl
  obtain ⟨hx, hb, hml, hr', hown, hts, hlk, ⟨hf0, hff⟩, hlo, hcc, hsl, hK, hA, hnm⟩ := id F
  obtain ⟨w4, w5, w6, w7, w8, w9⟩ := hok
  have hPc : va_P D vwCl [(q, .inr (ci2, z))] H := fun i x h => by
    have hi := (List.getElem?_eq_some_iff.mp h).1
    simp only [List.length_cons, List.length_nil] at hi
    have i0 : i = 0 := by omega
    subst i0
    exact hP wr.length x (by simpa using h)
  have hF := free1 hD hS hA
  refine va_callv (va_runI (As := as) (rest := S) ⟨hx, hb, hml, hown, hts⟩ (hM l D cA q H.size) (cwI as.length hts (gw_goodIn (fun w h => ?_)) (by unfold wsM; rw [hret]) rfl rfl (hts _ w4) (hts _ (gw_at hl1 rfl)) (hts _ hi) hname ⟨w6, w7, w8⟩ ⟨?_, ?_⟩) ⟨PN_blind, fun U hU hW => ⟨rfl, by rw [hU], by rw [hU]; exact hPc, va_K.moved hW.alike hK.1, NC.warm hW hK.2⟩⟩ rfl rfl hl.1 rfl (lv_room hr) hd ⟨by omega, by omega⟩) hS (fun a _ h => hF a h) hF (fun u t H1 locs1 ht hvm h5 hB hz1 hk1 hS1 => ?_)
  · unfold wsM at h
    rcases List.mem_cons.mp h with rfl | h
    · exact w5
    · exact h
  · show mdF md2 + 1 ≤ R.frames
    omega
  · show 8 + (mdN md2 + 11) + 36 * mdF md2 ≤ R.locals
    omega
  · obtain ⟨hP1, hD1⟩ := hB
    rw [ht] at hP1
    obtain ⟨hP2, hD2⟩ := join1 hP hD hk1 hF hP1 hD1
    exact kk u F H1 locs1 ls hP2 hD2 hS1 hl
theorem GC.initN {md2 : MD} {idx ci2 q : Nat} {as z S0 : List Value} {mc2 ms2 : Nat} {W1 : WF} {wr : va_W} (hd : decode (mdC md) pc = .ok (.invokespecial idx, 3)) (hl1 : (mdO md, idx, mdY md2) ∈ nestW) (hok : okM md2 as.length) (hi : Cond.instanceMethod (mdY md2) ∈ GW) (hname : (mdY md2).name = "<init>") (hret : mdR md2 = none) (hf1 : mdF md2 + 1 ≤ mdF md) (hM : CN md2 ci2 as z mc2 ms2 W1) (hws : ws = wr ++ [(q, .inr (ci2, z))]) (hS0 : S0 = as.reverse ++ .ref q :: S) (hr : (S.map fun v => v.category).sum ≤ 8) (hk : k + mc2 ≤ mc) (hn : n + ms2 ≤ ms) (kk : ∀ u, GC md X mc ms (pc + 3) L S (k + mc2) (n + ms2) (wr ++ W1 (cyX X) q u)) : GC md X mc ms pc L S0 k n ws := by
  subst hws; subst hS0
  obtain ⟨⟨l, p, e, R, s, m, args, below, meth, c⟩, ⟨D, cA, A⟩, Q⟩ := X
  intro F H locs ls hP hD hS hl
  obtain ⟨hx, hb, hml, hr', hown, hts, hlk, ⟨hf0, hff⟩, hlo, hcc, hsl, hK, hA, hnm⟩ := id F
  obtain ⟨w4, w5, w6, w7, w8, w9⟩ := hok
  have hPc : va_P D vwCl [(q, .inr (ci2, z))] H := fun i x h => by
    have hi := (List.getElem?_eq_some_iff.mp h).1
    simp only [List.length_cons, List.length_nil] at hi
    have i0 : i = 0 := by omega
    subst i0
    exact hP wr.length x (by simpa using h)
  have hF := free1 hD hS hA
  have hnw : va_Nw (.methodLinkNest (mdO md) idx (mdY md2) "TwistedLight") s := hK.2.1 _ hl1
  refine va_callv (va_runIN (As := as) (rest := S) ⟨hx, hb, hml, hown, hts⟩ (hM l D cA q H.size) ⟨va_cnB as.length hts (gw_goodIn (fun w h => ?_)) (by unfold wsM; rw [hret]) rfl rfl hnw (hts _ w4) ⟨w6, w7, w8⟩ ⟨?_, ?_⟩, hname, hts _ hi⟩ ⟨PN_blind, fun U hU hW => ⟨rfl, by rw [hU], by rw [hU]; exact hPc, va_K.moved hW.alike hK.1, NC.warm hW hK.2⟩⟩ rfl rfl hl.1 rfl (lv_room hr) hd ⟨by omega, by omega⟩) hS (fun a _ h => hF a h) hF (fun u t H1 locs1 ht hvm h5 hB hz1 hk1 hS1 => ?_)
  · unfold wsM at h
    rcases List.mem_cons.mp h with rfl | h
    · exact w5
    · exact h
  · show mdF md2 + 1 ≤ R.frames
    omega
  · show 8 + (mdN md2 + 11) + 36 * mdF md2 ≤ R.locals
    omega
  · obtain ⟨hP1, hD1⟩ := hB
    rw [ht] at hP1
    obtain ⟨hP2, hD2⟩ := join1 hP hD hk1 hF hP1 hD1
    exact kk u F H1 locs1 ls hP2 hD2 hS1 hl
end MAKE2
