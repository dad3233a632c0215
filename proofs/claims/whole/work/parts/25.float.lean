/-! the loss is never a NaN -/
def nnD (d : Jvm.FP.Core.Datum) : Prop := (∃ c q, d = .fin false c q) ∨ d = .inf false
def nnF (a : UInt32) : Prop := nnD (Jvm.FP.Core.val32 a)
theorem nn_bound (c : Nat) (q : Int) : nnD (Jvm.FP.Core.bound Jvm.FP.Core.b32 false c q) := by
  unfold Jvm.FP.Core.bound
  split
  · exact Or.inl ⟨_, _, rfl⟩
  · exact Or.inr rfl
theorem nn_round {d : Jvm.FP.Core.Datum} (h : nnD d) : nnD (Jvm.FP.Core.round Jvm.FP.Core.b32 d) := by
  rcases h with ⟨c, q, rfl⟩ | rfl
  · show nnD (Jvm.FP.Core.roundRatio _ _ _ _ _)
    unfold Jvm.FP.Core.roundRatio
    split
    · exact Or.inl ⟨_, _, rfl⟩
    · unfold Jvm.FP.Core.roundAt Jvm.FP.Core.settle
      split
      · exact nn_bound _ _
      · exact nn_bound _ _
  · exact Or.inr rfl
theorem nn_prod {c : Nat} {q : Int} (hc : c ≠ 0) {d : Jvm.FP.Core.Datum} (h : nnD d) : nnD (Jvm.FP.Core.exactProduct (.fin false c q) d) := by
  rcases h with ⟨e, r, rfl⟩ | rfl
  · exact Or.inl ⟨_, _, rfl⟩
  · show nnD (if c = 0 then _ else _)
    rw [if_neg hc]
    exact Or.inr rfl
theorem nn_sum {x y : Jvm.FP.Core.Datum} (hx : nnD x) (hy : nnD y) : nnD (Jvm.FP.Core.exactSum x y) := by
  rcases hx with ⟨c, q, rfl⟩ | rfl
  · rcases hy with ⟨d, r, rfl⟩ | rfl
    · refine Or.inl ⟨(Jvm.FP.Core.sumUnits false c q false d r (min q r)).natAbs, min q r, ?_⟩
      show Jvm.FP.Core.Datum.fin (Jvm.FP.Core.sumSign _ _ _) _ _ = _
      congr 1
      have hv : 0 ≤ Jvm.FP.Core.sumUnits false c q false d r (min q r) := by
        unfold Jvm.FP.Core.sumUnits Jvm.FP.Core.signed
        simp only [Bool.false_eq_true, if_false]
        omega
      unfold Jvm.FP.Core.sumSign
      split
      · rfl
      · exact decide_eq_false (by omega)
    · exact Or.inr rfl
  · rcases hy with ⟨d, r, rfl⟩ | rfl
    · exact Or.inr rfl
    · exact Or.inr rfl
theorem nn_fmul {a b : UInt32} {c : Nat} {q : Int} (ha : Jvm.FP.Core.val32 a = .fin false c q) (hc : c ≠ 0) (hb : nnF b) : nnF (FP.fmul a b) := by
  unfold nnF
  rw [show Jvm.FP.Core.val32 (FP.fmul a b) = _ from Jvm.FP.Core.val32_fmul a b, ha]
  exact nn_round (nn_prod hc hb)
theorem nn_fadd {a b : UInt32} (ha : nnF a) (hb : nnF b) : nnF (FP.fadd a b) := by
  unfold nnF
  rw [show Jvm.FP.Core.val32 (FP.fadd a b) = _ from Jvm.FP.Core.val32_fadd a b]
  exact nn_round (nn_sum ha hb)
theorem nn_i2f {i : Int32} (h : 0 ≤ i.toInt) : nnF (FP.i2f i) := by
  unfold nnF
  rw [show Jvm.FP.Core.val32 (FP.i2f i) = _ from Jvm.FP.Core.val32_i2f i]
  refine nn_round (Or.inl ⟨i.toInt.natAbs, 0, ?_⟩)
  unfold Jvm.FP.Core.ofInt
  rw [decide_eq_false (by omega)]
theorem nn_n32 {a : UInt32} (h : nnF a) : vf_n32 a := by
  unfold nnF Jvm.FP.Core.val32 at h
  have hn : ¬ Jvm.FP.Core.decode Jvm.FP.Core.b32 a.toNat = .nan := by
    intro e
    rw [e] at h
    rcases h with ⟨c, q, h⟩ | h <;> exact absurd h (by simp)
  rw [Jvm.FP.Core.decode_nan] at hn
  have h1 : Jvm.FP.Core.infBits Jvm.FP.Core.b32 = 2139095040 := by decide
  have h2 : Jvm.FP.Core.mag Jvm.FP.Core.b32 a.toNat = a.toNat % 2147483648 := by
    unfold Jvm.FP.Core.mag
    rw [show Jvm.FP.Core.half Jvm.FP.Core.b32 = 2147483648 by decide]
  rw [h1, h2] at hn
  unfold vf_n32
  rw [UInt32.le_iff_toNat_le, UInt32.toNat_and]
  show a.toNat &&& 2147483647 ≤ 2139095040
  rw [show (2147483647 : Nat) = 2 ^ 31 - 1 by decide, Nat.and_two_pow_sub_one_eq_mod]
  omega
theorem v_34 : Jvm.FP.Core.val32 1061158912 = .fin false 12582912 (-24) := by decide +kernel
theorem v_14 : Jvm.FP.Core.val32 1048576000 = .fin false 8388608 (-25) := by decide +kernel
theorem v_100 : Jvm.FP.Core.val32 1120403456 = .fin false 13107200 (-17) := by decide +kernel
theorem v_0 : Jvm.FP.Core.val32 0 = .fin false 0 (-149) := by decide +kernel
/-- the bits of a loss -/
def lossOK (x : Int) : Prop := fbit x ∧ nnF (fl x)
def lossN (x e : Int) : Int := ((FP.fadd (FP.fmul 1061158912 (fl x)) (FP.fmul 1048576000 (FP.i2f (Int32.ofInt e)))).toNat : Int)
def lossV (x : Int) : Int := (FP.f2i (FP.fmul 1120403456 (fl x))).toInt
theorem fbit_nat (a : UInt32) : fbit (a.toNat : Int) := by
  have := a.toNat_lt
  unfold fbit
  omega
theorem loss_n {x e : Int} (h : lossOK x) (he : 0 ≤ e ∧ e ≤ 32) : vf_n32 (FP.fmul 1061158912 (fl x)) ∧ vf_n32 (FP.fmul 1048576000 (FP.i2f (Int32.ofInt e))) ∧ vf_n32 (FP.fadd (FP.fmul 1061158912 (fl x)) (FP.fmul 1048576000 (FP.i2f (Int32.ofInt e)))) ∧ lossOK (lossN x e) := by
  have h1 := nn_fmul v_34 (by decide) h.2
  have h2 := nn_fmul v_14 (by decide) (nn_i2f (i := Int32.ofInt e) (by rw [show (Int32.ofInt e).toInt = e from oi_to ⟨by omega, by omega⟩]; exact he.1))
  have h3 := nn_fadd h1 h2
  exact ⟨nn_n32 h1, nn_n32 h2, nn_n32 h3, fbit_nat _, by unfold lossN; rw [fl_nat]; exact h3⟩
theorem loss_v {x : Int} (h : lossOK x) : vf_n32 (FP.fmul 1120403456 (fl x)) := nn_n32 (nn_fmul v_100 (by decide) h.2)
theorem loss_0 : lossOK 0 := ⟨⟨by decide, by decide⟩, Or.inl ⟨0, -149, v_0⟩⟩
