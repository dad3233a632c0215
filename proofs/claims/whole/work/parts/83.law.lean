/-! the law: the script, both sides after one another -/
theorem CR.dn {N : Int} {a : AS} {σ u : St} (h : CR N a σ) (e : dn σ u) : CR N a u := h.low (fun x hx => e x (by omega)) (by rw [e 72 (by decide)]; exact h.z1) (by rw [e 77 (by decide)]; exact h.z2)
theorem MR.up {N : Int} {a : AS} {σ u : St} (h : MR N a σ) (e : up σ u) : MR N a u := by
  obtain ⟨hP, hH, hI, hT, hS, hz⟩ := h
  refine ⟨?_, ?_, ?_, ?_, ?_, by rw [e 96 (by decide)]; exact hz⟩
  · unfold mP vwM at *
    rw [e 87 (by decide), e 88 (by decide)]; exact hP
  · unfold mH pastM at *
    rw [e 87 (by decide), e 89 (by decide), e 90 (by decide)]; exact hH
  · unfold mI imgM at *
    rw [e 93 (by decide), e 91 (by decide), e 92 (by decide)]; exact hI
  · unfold mT at *
    rw [e 87 (by decide), e 94 (by decide)]; exact hT
  · unfold mS at *
    rw [e 87 (by decide), e 103 (by decide), e 104 (by decide)]; exact hS
theorem MR.mm {N M : Int} {a : AS} {σ : St} (h : MR N a σ) (g : N ≤ M) : MR M a σ := h.setP g (P := a.1) (fun _ _ => rfl) (fun _ _ => rfl) h.1.1 (h.1.2.mono g)
def SC (X : CT) (n : Nat) (xs : Nat → Int32) : Prop := match X with
  | ((_, _, _, _, s, _, _, _, _, _), (_, _, ad, A), _) => va_X (ad 108) n xs s s.heap ∧ ad 108 < s.heap.size ∧ ¬ A (ad 108)
def RE (X : CT) (b : Nat) : Prop := match X with
  | ((_, _, _, R, s, _, args, below, _, _), (_, _, _, A), (k, n, Q)) => R = room_1 ∧ args = #[.ref b] ∧ A = (fun q => s.heap.size ≤ q) ∧ k ≤ 600000 ∧ n ≤ 7302250 ∧ Q = lw_Z below #[.ref b] s
section LAW
variable {md : MD} {X : CT} {pc : Nat} {L : List (Nat × AV)} {S : List AV} {σ : St}
theorem G.sld {n : Nat} {xs : Nat → Int32} (hX : SC X n xs) {i : Int} (h : 0 ≤ i ∧ i < n) (hn : n < 2147483648) (hd : decode (mdC md) pc = .ok (.iaload, 1)) (k : G md X (pc + 1) L (vi (xs i.toNat).toInt :: S) σ) : G md X pc L (vi i :: vr 108 :: S) σ := by
  obtain ⟨⟨l, p, e, R, s, m', args, below, meth, c⟩, ⟨D, cA, ad, A⟩, ⟨kc, n', Q⟩⟩ := X
  obtain ⟨hXs, hbl, hbA⟩ := hX
  intro F H locs ls hP hS hl
  refine va_sld F.1 F.2.1 hXs hbl hbA hS (i := Int32.ofInt i) (oi_in h.1 (by omega) hn) hd ?_
  rw [oi_cl h.1 (by omega)]
  have := k F H locs ls hP hS hl
  rw [List.map_cons] at this
  show W p l e R s m' args below meth c H locs kc n' Q (F0 m' (pc + 1) ls (Value.int (xs i.toNat) :: S.map (cv ad)))
  rw [← oi_as (xs i.toNat)]
  exact this
theorem G.slen {n : Nat} {xs : Nat → Int32} (hX : SC X n xs) (hd : decode (mdC md) pc = .ok (.arraylength, 1)) (k : G md X (pc + 1) L (vi (n : Int) :: S) σ) : G md X pc L (vr 108 :: S) σ := by
  obtain ⟨⟨l, p, e, R, s, m', args, below, meth, c⟩, ⟨D, cA, ad, A⟩, ⟨kc, n', Q⟩⟩ := X
  obtain ⟨hXs, hbl, hbA⟩ := hX
  intro F H locs ls hP hS hl
  exact va_slen F.1 F.2.1 hXs hbl hbA hS hd (k F H locs ls hP hS hl)
theorem G.ldA {n : Nat} {xs : Nat → Int32} (hX : SC X n xs) {t j : Int} (h : 0 ≤ t + j ∧ t + j < n) (hn : n < 2147483648) (d0 : decode (mdC md) pc = .ok (.aload_n 0, 1)) (d1 : decode (mdC md) (pc + 1) = .ok (.iload_n 3, 1)) (d2 : decode (mdC md) (pc + 2) = .ok (.iconst j, 1)) (d3 : decode (mdC md) (pc + 3) = .ok (.iadd, 1)) (d4 : decode (mdC md) (pc + 4) = .ok (.iaload, 1)) (h0 : lk L 0 = some (vr 108)) (h3 : lk L 3 = some (vi t)) (k : G md X (pc + 5) L (vi (xs (t + j).toNat).toInt :: S) σ) : G md X pc L S σ :=
  G.aload_n d0 h0 (G.iload_n d1 h3 (G.iconst d2 (G.iadd d3 (G.sld hX h hn d4 k))))
/-- the law's own end -/
theorem G.fin {b : Nat} (hX : RE X b) : G mdL_law X 1004 L [] σ := by
  obtain ⟨⟨l, p, e, R, s, m', args, below, meth, c⟩, ⟨D, cA, ad, A⟩, ⟨kc, n', Q⟩⟩ := X
  obtain ⟨rfl, rfl, rfl, hk, hn, rfl⟩ := hX
  intro F H locs ls hP hS hl
  obtain ⟨hx, hb, hml, hr', hown, hts, hlk, hff, hlo, hcc, hsl, hK⟩ := id F
  refine lv_iconst hx hb dL_law_1004 rfl ?_
  refine va_forget (fun q hq => hS.2.2 q hq) ?_
  refine W.widen (k := 600000) (n := 7302250) hk hn ?_
  exact lw_ret (d0 := s.drawn) (Drawn.sameBut.refl s.drawn lw_cs) hx hb hr' hlk dL_law_1005
end LAW
