/-! THE FRAME: the whole store as one function (object id, slot) -> Int; a judgement G over it; a rule an instruction -/
theorem inX0 : ∀ w ∈ wsX00, w ∈ lw_tbl := by decide +kernel
theorem inX1 : ∀ w ∈ wsX10, w ∈ lw_tbl := by decide +kernel
theorem inX3 : ∀ w ∈ wsX30, w ∈ lw_tbl := by decide +kernel
theorem inX4 : ∀ w ∈ wsX40, w ∈ lw_tbl := by decide +kernel
theorem inX6 : ∀ w ∈ wsX60, w ∈ lw_tbl := by decide +kernel
theorem inX7 : ∀ w ∈ wsX70, w ∈ lw_tbl := by decide +kernel
theorem inX8 : ∀ w ∈ wsX80, w ∈ lw_tbl := by decide +kernel
theorem inX9 : ∀ w ∈ wsX90, w ∈ lw_tbl := by decide +kernel
theorem inX10 : ∀ w ∈ wsX100, w ∈ lw_tbl := by decide +kernel
theorem inX11 : ∀ w ∈ wsX110, w ∈ lw_tbl := by decide +kernel
def GW : List Cond := lw_tbl.filter goodWord
theorem gw_mem {w : Cond} (h : w ∈ lw_tbl) (g : goodWord w = true) : w ∈ GW := List.mem_filter.mpr ⟨h, g⟩
theorem gw_at {w : Cond} {i : Nat} (h : lw_tbl[i]? = some w) (g : goodWord w = true) : w ∈ GW := gw_mem (List.mem_of_getElem? h) g
theorem gw_good {w : Cond} (h : w ∈ GW) : goodWord w = true := (List.mem_filter.mp h).2
/-- the words of a class's fields are good -/
theorem u_ws_good {C : String} {T : u_T} {N : Nat} : ∀ w ∈ u_ws C T N, w ∈ lw_tbl → w ∈ GW := by
  intro w hw hm
  refine gw_mem hm ?_
  obtain ⟨k, -, rfl⟩ := List.mem_map.mp hw
  unfold u_lay
  split <;> rfl
/-- a class of the world: its number, its table -/
def ckT (ci : Nat) : Nat → FieldType := match ci with
  | 0 => tyX0 | 1 => tyX1 | 2 => tyX3 | 3 => tyX4 | 4 => tyX6 | 5 => tyX7 | 6 => tyX8 | 7 => tyX9 | 8 => tyX10 | _ => tyX11
theorem cl_in {ci : Nat} {q : vw_C} (h : vwCl[ci]? = some q) : ∀ w ∈ u_ws q.1 q.2.1 q.2.2, w ∈ GW := by
  intro w hw
  refine u_ws_good w hw ?_
  match ci, h with
  | 0, h => cases h; exact inX0 w hw
  | 1, h => cases h; exact inX1 w hw
  | 2, h => cases h; exact inX3 w hw
  | 3, h => cases h; exact inX4 w hw
  | 4, h => cases h; exact inX6 w hw
  | 5, h => cases h; exact inX7 w hw
  | 6, h => cases h; exact inX8 w hw
  | 7, h => cases h; exact inX9 w hw
  | 8, h => cases h; exact inX10 w hw
  | 9, h => cases h; exact inX11 w hw
  | n + 10, h => simp [vwCl] at h
theorem cl_ty {ci : Nat} {q : vw_C} (h : vwCl[ci]? = some q) : ∀ k, k < q.2.2 → parseFieldDescriptor (q.2.1 k).2.2.1 = some (ckT ci k) := by
  match ci, h with
  | 0, h => cases h; exact tyX0_ok
  | 1, h => cases h; exact tyX1_ok
  | 2, h => cases h; exact tyX3_ok
  | 3, h => cases h; exact tyX4_ok
  | 4, h => cases h; exact tyX6_ok
  | 5, h => cases h; exact tyX7_ok
  | 6, h => cases h; exact tyX8_ok
  | 7, h => cases h; exact tyX9_ok
  | 8, h => cases h; exact tyX10_ok
  | 9, h => cases h; exact tyX11_ok
  | n + 10, h => simp [vwCl] at h
theorem cl_nm {ci : Nat} {q : vw_C} (h : vwCl[ci]? = some q) : ∀ a, a < q.2.2 → ∀ b, b < q.2.2 → a ≠ b → (q.2.1 a).2.1 ≠ (q.2.1 b).2.1 := by
  match ci, h with
  | 0, h => cases h; exact nmX0
  | 1, h => cases h; exact nmX1
  | 2, h => cases h; exact nmX3
  | 3, h => cases h; exact nmX4
  | 4, h => cases h; exact nmX6
  | 5, h => cases h; exact nmX7
  | 6, h => cases h; exact nmX8
  | 7, h => cases h; exact nmX9
  | 8, h => cases h; exact nmX10
  | 9, h => cases h; exact nmX11
  | n + 10, h => simp [vwCl] at h
-- ints as Int
theorem oi_rng {z : Int} (h1 : -2147483648 ≤ z) (h2 : z < 2147483648) : (Int32.ofInt z).toInt = z := by
  rw [Int32.toInt_ofInt]
  have e : (Int32.size : Int) = 4294967296 := by decide
  exact Int.bmod_eq_of_le (by rw [e]; omega) (by rw [e]; omega)
def inI (z : Int) : Prop := -2147483648 ≤ z ∧ z < 2147483648
theorem oi_to {z : Int} (h : inI z) : (Int32.ofInt z).toInt = z := oi_rng h.1 h.2
theorem inI_of (x : Int32) : inI x.toInt := ⟨Int32.le_toInt x, Int32.toInt_lt x⟩
theorem oi_lt {x y : Int} (hx : inI x) (hy : inI y) : Int32.ofInt x < Int32.ofInt y ↔ x < y := by rw [Int32.lt_iff_toInt_lt, oi_to hx, oi_to hy]
theorem oi_le {x y : Int} (hx : inI x) (hy : inI y) : Int32.ofInt x ≤ Int32.ofInt y ↔ x ≤ y := by rw [Int32.le_iff_toInt_le, oi_to hx, oi_to hy]
theorem oi_eq {x y : Int} (hx : inI x) (hy : inI y) : Int32.ofInt x = Int32.ofInt y ↔ x = y := by
  constructor
  · intro h
    rw [← oi_to hx, ← oi_to hy, h]
  · intro h; rw [h]
theorem oi_0 : (0 : Int32) = Int32.ofInt 0 := rfl
theorem inI_0 : inI 0 := ⟨by decide, by decide⟩
theorem oi_cl {z : Int} (h0 : 0 ≤ z) (h : z < 2147483648) : (Int32.ofInt z).toNatClampNeg = z.toNat := by
  show (Int32.ofInt z).toInt.toNat = z.toNat
  rw [oi_rng (by omega) h]
theorem oi_in {z : Int} {n : Nat} (h0 : 0 ≤ z) (h : z < n) (hn : n < 2147483648) : vp_in (Int32.ofInt z) n := by
  intro q
  rcases q with q | q
  · rw [oi_0, oi_lt ⟨by omega, by omega⟩ inI_0] at q
    omega
  · rw [oi_cl h0 (by omega)] at q
    omega
theorem oi_div {x y : Int} (hx : inI x) (h0 : 0 < y) (hy : y < 2147483648) : Int32.ofInt x / Int32.ofInt y = Int32.ofInt (x.tdiv y) := by
  have hb : -2147483648 ≤ x.tdiv y ∧ x.tdiv y < 2147483648 := by
    obtain ⟨h1, h2⟩ := hx
    have h3 : (x.tdiv y).natAbs ≤ x.natAbs := Int.natAbs_tdiv_le_natAbs x y
    have h4 : 0 ≤ x → 0 ≤ x.tdiv y := fun h => Int.tdiv_nonneg h (Int.le_of_lt h0)
    have h5 : x ≤ 0 → x.tdiv y ≤ 0 := fun h => by
      have h6 : 0 ≤ (-x).tdiv y := Int.tdiv_nonneg (by omega) (Int.le_of_lt h0)
      rw [Int.neg_tdiv] at h6
      omega
    omega
  apply Int32.toInt_inj.mp
  rw [Int32.toInt_div, oi_to hx, oi_rng (by omega) hy, oi_rng hb.1 hb.2]
  exact Int.bmod_eq_of_le (by omega) (by omega)
theorem oi_rem {x y : Int} (hx : inI x) (h0 : 0 < y) (hy : y < 2147483648) : Int32.ofInt x - Int32.ofInt x / Int32.ofInt y * Int32.ofInt y = Int32.ofInt (x.tmod y) := by
  rw [oi_div hx h0 hy, ← Int32.ofInt_mul, ← Int32.ofInt_sub]
  congr 1
  have := Int.mul_tdiv_add_tmod x y
  have e : x.tdiv y * y = y * x.tdiv y := Int.mul_comm _ _
  omega
theorem oi_nz {y : Int} (h0 : 0 < y) (hy : y < 2147483648) : ¬ Int32.ofInt y = 0 := by
  rw [oi_0, oi_eq ⟨by omega, hy⟩ inI_0]
  omega
theorem oi_as (x : Int32) : Int32.ofInt x.toInt = x := by
  apply Int32.toInt_inj.mp
  exact oi_to (inI_of x)
theorem oi_nI {z : Int} (h : 0 ≤ z) : Int32.ofInt z = nI z.toNat := by
  obtain ⟨n, rfl⟩ := Int.eq_ofNat_of_zero_le h
  rfl
/-- x & (2^k - 1) -/
theorem oi_and {z m : Int} (k : Nat) (hm : m = 2 ^ k - 1) (hk : k ≤ 30) : Int32.ofInt z &&& Int32.ofInt m = Int32.ofInt (z % 2 ^ k) := by
  have hm2 : (Int32.ofInt m).toBitVec.toNat = 2 ^ k - 1 := by
    have hp : (2:Nat) ^ k ≤ 2 ^ 30 := Nat.pow_le_pow_right (by decide) hk
    have hp0 : 0 < (2:Nat) ^ k := Nat.pow_pos (by decide)
    have e : m = ((2 ^ k - 1 : Nat) : Int) := by
      rw [hm]; push_cast [Nat.one_le_two_pow]; rfl
    rw [e]
    show (BitVec.ofInt 32 _).toNat = _
    rw [BitVec.ofInt_natCast, BitVec.toNat_ofNat]
    apply Nat.mod_eq_of_lt
    have : (2:Nat)^30 = 1073741824 := by decide
    have : (2:Nat)^32 = 4294967296 := by decide
    omega
  rw [pk_and _ k hm2]
  have e1 : ((Int32.ofInt z).toBitVec.toNat : Int) = z % 4294967296 := by
    show ((BitVec.ofInt 32 z).toNat : Int) = _
    rw [BitVec.toNat_ofInt]
    have : (0:Int) ≤ z % 4294967296 := Int.emod_nonneg _ (by decide)
    exact Int.toNat_of_nonneg this
  have e2 : ((((Int32.ofInt z).toBitVec.toNat % 2 ^ k : Nat)) : Int) = z % 2 ^ k := by
    rw [Int.natCast_emod, e1]
    push_cast
    apply Int.emod_emod_of_dvd
    refine ⟨2 ^ (32 - k), ?_⟩
    rw [← Int.pow_add, show k + (32 - k) = 32 by omega]
    rfl
  rw [← e2]
  rfl
theorem oi_shr {x y : Int} (h0 : 0 ≤ x) (hx : x < 2147483648) (hy0 : 0 ≤ y) (hy : y < 32) : Int32.ofInt x >>> (Int32.ofInt y &&& 31) = Int32.ofInt (x / 2 ^ y.toNat) := by
  have e : Int32.ofInt y &&& 31 = Int32.ofInt y := by
    rw [show (31 : Int32) = Int32.ofInt 31 from rfl, oi_and (m := 31) 5 (by decide) (by decide)]
    rw [show y % 2 ^ 5 = y by omega]
  have hs : ((Int32.ofInt y).toBitVec.smod 32).toNat = y.toNat := by
    have : ∀ n, n < 32 → ((Int32.ofInt (n : Nat)).toBitVec.smod 32).toNat = n := by decide +kernel
    have h2 := this y.toNat (by omega)
    rwa [Int.toNat_of_nonneg hy0] at h2
  rw [e, oi_nI h0, pk_shrN (by omega) _ _ hs]
  show Int32.ofInt ((x.toNat / 2 ^ y.toNat : Nat) : Int) = _
  congr 1
  rw [Int.natCast_ediv, Int.toNat_of_nonneg h0]
  push_cast
  rfl
def bAnd (x y : Int) : Int := (Int32.ofInt x &&& Int32.ofInt y).toInt
def bOr (x y : Int) : Int := (Int32.ofInt x ||| Int32.ofInt y).toInt
def bXor (x y : Int) : Int := (Int32.ofInt x ^^^ Int32.ofInt y).toInt
def bShl (x y : Int) : Int := (Int32.ofInt x <<< (Int32.ofInt y &&& 31)).toInt
def bUshr (x y : Int) : Int := ((Int32.ofInt x).toUInt32 >>> ((Int32.ofInt y).toUInt32 &&& Int32.toUInt32 31)).toInt32.toInt
-- the world: object ids 0 .. 104; 105 .. 107 the static tables; 108 the law's script
abbrev AV : Type := Int ⊕ (Nat ⊕ UInt32)
abbrev vi (z : Int) : AV := .inl z
abbrev vr (o : Nat) : AV := .inr (.inl o)
abbrev vf (f : UInt32) : AV := .inr (.inr f)
abbrev St : Type := Nat → Int → Int
def cv (ad : Nat → Nat) (v : AV) : Value := match v with
  | .inl z => .int (Int32.ofInt z)
  | .inr (.inl o) => .ref (ad o)
  | .inr (.inr f) => .float f
theorem cv_cat (ad : Nat → Nat) (v : AV) : (cv ad v).category = 1 := by
  rcases v with z | o | f <;> rfl
def fl (z : Int) : UInt32 := UInt32.ofNat z.toNat
abbrev Shp : Type := Nat × Nat × List (Nat × Nat)
def shpT : List Shp := [
  (0, 8, [(2, 0), (2, 6), (2, 61), (2, 62), (2, 63), (2, 65), (2, 68), (2, 71), (2, 76), (2, 81), (2, 84), (2, 85), (2, 86)]),
  (4, 2, [(12, 0)]), (2, 2, []),
  (0, 2, [(2, 64), (0, 0), (0, 0)]), (4, 6, [(24, 0)]),
  (0, 7, [(2, 66), (2, 67), (0, 0), (0, 0), (0, 0), (0, 0), (5, 0)]), (1, 160, []), (1, 5, []),
  (0, 4, [(2, 69), (2, 70), (0, 0)]), (1, 6, []), (1, 6, []),
  (0, 1, [(2, 72), (2, 73), (2, 74), (2, 75)]), (1, 32, []), (1, 16, []), (1, 97, []), (0, 3, [(0, 0), (0, 0), (0, 0), (0, 0)]),
  (0, 1, [(2, 77), (2, 78), (2, 79), (2, 80)]), (1, 32, []), (1, 16, []), (1, 97, []), (0, 3, [(0, 0), (0, 0), (0, 0), (0, 0)]),
  (0, 0, [(2, 82), (2, 83), (0, 0)]), (1, 4, []), (1, 4, []),
  (1, 5, []), (0, 3, [(0, 0), (0, 0), (0, 0), (0, 0)]), (0, 3, [(0, 0), (0, 0), (0, 0), (0, 0)]),
  (0, 9, [(2, 88), (1, 0), (2, 89), (2, 90), (0, 0), (2, 91), (2, 92), (2, 93), (2, 94), (0, 0), (2, 95), (0, 0), (0, 0), (0, 0), (0, 0), (0, 0), (5, 0), (2, 96), (2, 97), (0, 0), (0, 0), (2, 98), (2, 99), (2, 100), (0, 0), (2, 101), (2, 102), (0, 0), (2, 103), (2, 104)]),
  (1, 86, []), (1, 516, []), (3, 6, []), (1, 172, []), (3, 2, []), (2, 2, []), (1, 160, []), (1, 86, []), (1, 32, []), (1, 32, []), (1, 4, []), (1, 4, []), (1, 4, []), (1, 20, []), (1, 32, []), (1, 6, []), (1, 6, [])]
def shp (o : Nat) : Shp :=
  if o < 60 then
    (match o % 6 with
    | 0 => (0, 5, [(2, o + 1), (0, 0), (2, o + 2), (2, o + 4), (1, 0), (0, 0)])
    | 1 => (1, 32, [])
    | 2 => (0, 6, [(2, o + 1), (0, 0), (0, 0)])
    | 3 => (1, 30, [])
    | 4 => (0, 6, [(2, o + 1), (0, 0), (0, 0)])
    | _ => (1, 30, []))
  else shpT.getD (o - 60) (9, 0, [])
def isSt (o : Nat) : Prop := o % 6 = 0 ∧ o < 60
def isSp (o : Nat) : Prop := (o % 6 = 2 ∨ o % 6 = 4) ∧ o < 60
def isBk (o : Nat) : Prop := o = 71 ∨ o = 76
def isMx (o : Nat) : Prop := o = 75 ∨ o = 80 ∨ o = 85 ∨ o = 86
theorem sh_st {o : Nat} (h : isSt o) : shp o = (0, 5, [(2, o + 1), (0, 0), (2, o + 2), (2, o + 4), (1, 0), (0, 0)]) := by
  obtain ⟨h1, h2⟩ := h
  simp [shp, h1, h2]
theorem sh_sent {o : Nat} (h : isSt o) : shp (o + 1) = (1, 32, []) := by
  obtain ⟨h1, h2⟩ := h
  simp [shp, show (o + 1) % 6 = 1 by omega, show o + 1 < 60 by omega]
theorem sp_line {o : Nat} (h : isSt o) : isSp (o + 2) := by
  obtain ⟨h1, h2⟩ := h
  exact ⟨by omega, by omega⟩
theorem sp_chain {o : Nat} (h : isSt o) : isSp (o + 4) := by
  obtain ⟨h1, h2⟩ := h
  exact ⟨by omega, by omega⟩
theorem sh_sp {o : Nat} (h : isSp o) : shp o = (0, 6, [(2, o + 1), (0, 0), (0, 0)]) := by
  obtain ⟨h1, h2⟩ := h
  rcases h1 with h1 | h1 <;> simp [shp, h1, h2]
theorem sh_spn {o : Nat} (h : isSp o) : shp (o + 1) = (1, 30, []) := by
  obtain ⟨h1, h2⟩ := h
  rcases h1 with h1 | h1
  · simp [shp, show (o + 1) % 6 = 3 by omega, show o + 1 < 60 by omega]
  · simp [shp, show (o + 1) % 6 = 5 by omega, show o + 1 < 60 by omega]
theorem sh_bk {o : Nat} (h : isBk o) : shp o = (0, 1, [(2, o + 1), (2, o + 2), (2, o + 3), (2, o + 4)]) := by
  rcases h with rfl | rfl <;> rfl
theorem sh_bkn {o : Nat} (h : isBk o) : shp (o + 1) = (1, 32, []) := by
  rcases h with rfl | rfl <;> rfl
theorem sh_bkm {o : Nat} (h : isBk o) : shp (o + 2) = (1, 16, []) := by
  rcases h with rfl | rfl <;> rfl
theorem sh_bkt {o : Nat} (h : isBk o) : shp (o + 3) = (1, 97, []) := by
  rcases h with rfl | rfl <;> rfl
theorem mx_bk {o : Nat} (h : isBk o) : isMx (o + 4) := by
  rcases h with rfl | rfl <;> simp [isMx]
theorem sh_mx {o : Nat} (h : isMx o) : shp o = (0, 3, [(0, 0), (0, 0), (0, 0), (0, 0)]) := by
  rcases h with rfl | rfl | rfl | rfl <;> rfl
theorem shp_lt {o : Nat} (h : (shp o).1 < 9) : o < 105 := by
  unfold shp at h
  split at h
  · omega
  · rcases Nat.lt_or_ge o 105 with q | q
    · exact q
    · have e : shpT.getD (o - 60) (9, 0, []) = (9, 0, []) := by
        rw [List.getD_eq_getElem?_getD, List.getElem?_eq_none (show shpT.length ≤ o - 60 by show 45 ≤ o - 60; omega)]
        rfl
      rw [e] at h
      exact absurd h (by decide)
def fv (ad : Nat → Nat) (row : Int → Int) (k : Nat) (q : Nat × Nat) : Value := match q.1 with
  | 0 => .int (Int32.ofInt (row k))
  | 5 => .int (Int32.ofInt (row k))
  | 1 => .float (fl (row k))
  | _ => .ref (ad q.2)
def fvs (ad : Nat → Nat) (row : Int → Int) (fs : List (Nat × Nat)) : List Value := fs.zipIdx.map (fun q => fv ad row q.2 q.1)
def ent (ad : Nat → Nat) (cA : Nat → ClassId) (h : Shp) (row : Int → Int) : va_E := match h.1 with
  | 0 => .inr (h.2.1, fvs ad row h.2.2)
  | 1 => .inl (cA 0, h.2.1, .inl (fun i => Int32.ofInt (row i)))
  | 2 => .inl (cA 1, h.2.1, .inl (fun i => Int32.ofInt (row i)))
  | 3 => .inl (cA 2, h.2.1, .inr (.inr (.inl (fun i => fl (row i)))))
  | _ => .inl (cA 3, h.2.1, .inr (.inr (.inr (.inr (fun i => some (ad (6 * i + (h.2.2.headD (0, 0)).1)))))))
def WL (ad : Nat → Nat) (cA : Nat → ClassId) (σ : St) : va_W := (List.range 105).map (fun o => (ad o, ent ad cA (shp o) (σ o)))
def tysA (cA : Nat → ClassId) : List (ClassId × FieldType) := [(cA 0, .int), (cA 1, .boolean), (cA 2, .float), (cA 3, .object RX7)]
theorem wl_at {ad : Nat → Nat} {cA : Nat → ClassId} {σ : St} {o : Nat} (h : o < 105) : (WL ad cA σ)[o]? = some (ad o, ent ad cA (shp o) (σ o)) := by
  simp [WL, h]
/-- a store at one slot -/
def wr (σ : St) (o : Nat) (i v : Int) : St := fun a j => if a = o ∧ j = i then v else σ a j
theorem wr_at (σ : St) (o : Nat) (i v : Int) (a : Nat) (j : Int) : wr σ o i v a j = if a = o ∧ j = i then v else σ a j := rfl
/-- a stretch copied -/
def cp (σ : St) (p : Nat) (sp : Int) (q : Nat) (dp n : Int) : St := fun a j => if a = q ∧ dp ≤ j ∧ j < dp + n then σ p (j - dp + sp) else σ a j
theorem wl_set {ad : Nat → Nat} {cA : Nat → ClassId} {σ σ' : St} {o : Nat} {e : va_E} (h : ∀ a, a ≠ o → σ' a = σ a) (he : e = ent ad cA (shp o) (σ' o)) : (WL ad cA σ).set o (ad o, e) = WL ad cA σ' := by
  apply List.ext_getElem?
  intro i
  by_cases hi : i < 105
  · rw [wl_at hi, List.getElem?_set]
    by_cases hio : o = i
    · subst hio
      rw [if_pos rfl, if_pos (by simp [WL]; exact hi), he]
    · rw [if_neg hio, wl_at hi, h i (fun q => hio q.symm)]
  · rw [List.getElem?_eq_none (by simp [WL]; omega), List.getElem?_eq_none (by simp [WL]; omega)]
theorem wr_ne (σ : St) (o : Nat) (i v : Int) : ∀ a, a ≠ o → wr σ o i v a = σ a := by
  intro a ha
  funext j
  simp [wr, ha]
theorem cp_ne (σ : St) (p : Nat) (sp : Int) (q : Nat) (dp n : Int) : ∀ a, a ≠ q → cp σ p sp q dp n a = σ a := by
  intro a ha
  funext j
  simp [cp, ha]
theorem fvs_at {ad : Nat → Nat} {row : Int → Int} {fs : List (Nat × Nat)} {k : Nat} {q : Nat × Nat} (h : fs[k]? = some q) : (fvs ad row fs)[k]? = some (fv ad row k q) := by
  simp [fvs, h]
theorem fvs_set {ad : Nat → Nat} {row row' : Int → Int} {fs : List (Nat × Nat)} {k : Nat} {q : Nat × Nat} (h : fs[k]? = some q) (hr : ∀ j : Nat, j ≠ k → row' j = row j) {v : Value} (hv : v = fv ad row' k q) : (fvs ad row fs).set k v = fvs ad row' fs := by
  apply List.ext_getElem?
  intro i
  rw [List.getElem?_set]
  by_cases hi : k = i
  · subst hi
    have hl : k < (fvs ad row fs).length := (List.getElem?_eq_some_iff.mp (fvs_at (ad := ad) (row := row) h)).1
    rw [if_pos rfl, if_pos hl, fvs_at h, hv]
  · rw [if_neg hi]
    simp only [fvs, List.getElem?_map, List.getElem?_zipIdx]
    cases fs[i]? with
    | none => rfl
    | some q' =>
      simp only [Option.map_some, Nat.zero_add]
      have e := hr i (fun z => hi z.symm)
      unfold fv
      rw [e]
-- the frame of a method: name, class, code, locals, answer, frames
abbrev MD : Type := MethodName × String × ByteArray × Nat × Option FieldType × Nat
abbrev mdY (md : MD) : MethodName := md.1
abbrev mdO (md : MD) : String := md.2.1
abbrev mdC (md : MD) : ByteArray := md.2.2.1
abbrev mdN (md : MD) : Nat := md.2.2.2.1
abbrev mdR (md : MD) : Option FieldType := md.2.2.2.2.1
abbrev mdF (md : MD) : Nat := md.2.2.2.2.2
def tblL (j : Nat) : Value := .int (Int32.ofInt (([1, 22, 96, 75] : List Int).getD j 0))
def rowD : List Int := [1, 96, 0, 0, 0, 0, 0, 0, 0, 96, 0, 96, 0, 96, 0, 96, 0, 15, 1, 3, 0, 0, 0, 0, 1, 15, 0, 0, 0, 0, 0, 0, 0, 1, 0, 15, 1, 96, 0, 0]
def rowS : List Int := [1, 96, 0, 0, 0, 0, 0, 0, 0, 96, 0, 96, 0, 96, 0, 96, 1, 15, 0, 0, 0, 0, 0, 0, 0, 0, 0, 0, 0, 0, 0, 0, 0, 0, 0, 0, 0, 0, 0, 0]
/-- what a static table holds: 105 LIGHT, 106 DEED, 107 STAGE -/
def rot (o : Nat) (i : Int) : Int := if o = 105 then ([1, 22, 96, 75] : List Int).getD i.toNat 0 else if o = 106 then rowD.getD i.toNat 0 else rowS.getD i.toNat 0
def rol (o : Nat) : Nat := if o = 105 then 4 else 40
def AD (ad : Nat → Nat) : Addr → Prop := fun q => ∃ o, o < 105 ∧ q = ad o
def NW (s : State) : Prop := va_Nw (.methodLinkNest RX9 93 yX10_isSymbol "TwistedLight") s ∧ va_Nw (.methodLinkNest RX9 99 yX10_isPlace "TwistedLight") s
theorem NW.same {u U : State} (h : u.vm = U.vm) (hN : NW u) : NW U := ⟨va_Nw.same rfl h hN.1, va_Nw.same rfl h hN.2⟩
theorem NW.warm {s U : State} (hW : s.WarmedH U.vm) (hN : NW s) : NW U := ⟨va_Nw.warmM hW hN.1, va_Nw.warmM hW hN.2⟩
/-- what is known of the start: classes, addresses apart, static tables -/
def KW (D : va_G) (cA : Nat → ClassId) (ad : Nat → Nat) (A : Addr → Prop) (s : State) (H : Heap) : Prop :=
  va_K D vwCl (tysA cA) s ∧ (∀ i j, i < 105 → j < 105 → ad i = ad j → i = j) ∧ (∀ i, i < 105 → A (ad i)) ∧
  va_Z RX2 "LIGHT" "[I" (.ref (ad 105)) A s H ∧ va_Z RX8 "DEED" "[I" (.ref (ad 106)) A s H ∧ va_Z RX8 "STAGE" "[I" (.ref (ad 107)) A s H ∧
  (∀ o, o = 105 ∨ o = 106 ∨ o = 107 → va_T .int (ad o) (rol o) (fun j => .int (Int32.ofInt (rot o j))) A s H) ∧ NW s
theorem KW.moved {D : va_G} {cA : Nat → ClassId} {ad : Nat → Nat} {A : Addr → Prop} {s U : State} {H : Heap} (hvm : s.vm.Alike U.vm) (hN : NW U) (h : KW D cA ad A s H) : KW D cA ad A U H := by
  obtain ⟨h1, h2, h3, h4, h5, h6, h7, h8⟩ := h
  exact ⟨va_K.moved hvm h1, h2, h3, va_Z.moved hvm h4, va_Z.moved hvm h5, va_Z.moved hvm h6, fun o ho => va_T.moved hvm (h7 o ho), hN⟩
theorem KW.kept {D : va_G} {cA : Nat → ClassId} {ad : Nat → Nat} {A : Addr → Prop} {s : State} {H H1 : Heap} (hq : ∀ a : Nat, a < H.size → ¬ A a → H1[a]? = H[a]?) (h : KW D cA ad A s H) : KW D cA ad A s H1 := by
  obtain ⟨h1, h2, h3, h4, h5, h6, h7, h8⟩ := h
  exact ⟨h1, h2, h3, va_Z.kept h4 hq, va_Z.kept h5 hq, va_Z.kept h6 hq, fun o ho => va_T.kept (h7 o ho) hq, h8⟩
theorem KW.narrow {D : va_G} {cA : Nat → ClassId} {ad : Nat → Nat} {A : Addr → Prop} {s : State} {H : Heap} (h : KW D cA ad A s H) : KW D cA ad (AD ad) s H := by
  obtain ⟨h1, h2, h3, h4, h5, h6, h7, h8⟩ := h
  have hAB : ∀ q, AD ad q → A q := fun q ⟨o, ho, e⟩ => e ▸ h3 o ho
  exact ⟨h1, h2, fun i hi => ⟨i, hi, rfl⟩, va_Z.narrow h4 hAB, va_Z.narrow h5 hAB, va_Z.narrow h6 hAB, fun o ho => va_T.narrow (h7 o ho) hAB, h8⟩
theorem wl_D {D : va_G} {cA : Nat → ClassId} {ad : Nat → Nat} {A : Addr → Prop} {s : State} {H : Heap} {σ : St} (h : KW D cA ad A s H) : va_D A (WL ad cA σ) := by
  have key : ∀ (k : Nat) (q : Nat × va_E), (WL ad cA σ)[k]? = some q → k < 105 ∧ q.1 = ad k := by
    intro k q hq
    have hk : k < 105 := by
      have := (List.getElem?_eq_some_iff.mp hq).1
      simpa [WL] using this
    rw [wl_at hk] at hq
    cases hq
    exact ⟨hk, rfl⟩
  refine ⟨fun i j p q hp hq e => ?_, fun k q hq => ?_⟩
  · obtain ⟨h1, e1⟩ := key i p hp
    obtain ⟨h2, e2⟩ := key j q hq
    exact h.2.1 i j h1 h2 (by rw [← e1, ← e2, e])
  · obtain ⟨h1, e1⟩ := key k q hq
    rw [e1]
    exact h.2.2.1 k h1
-- the judgement
abbrev CT : Type := (Launch × Program × Env × Room × State × MethodId × Array Value × List Frame × Method × Code) × (va_G × (Nat → ClassId) × (Nat → Nat) × (Addr → Prop)) × (Nat × Nat × (State → Prop))
def Fx (md : MD) (X : CT) : Prop := match X with
  | ((_, p, _, R, s, m, args, _, meth, c), (D, cA, ad, A), (k, n, _)) => p.tables.exec = Jvm.exec ∧ c.code = mdC md ∧ c.maxLocals = mdN md ∧ meth.sig.returnType = mdR md ∧ s.vm.findClass (mdO md) = some m.cls ∧ (∀ w ∈ GW, w.before args s = true) ∧ meth.locks = false ∧ mdF md ≤ R.frames ∧ 36 * mdF md ≤ R.locals ∧ k ≤ R.cells ∧ n ≤ R.slots ∧ KW D cA ad A s s.heap
def G (md : MD) (X : CT) (pc : Nat) (L : List (Nat × AV)) (S : List AV) (σ : St) : Prop := Fx md X → match X with
  | ((l, p, e, R, s, m, args, below, meth, c), (D, cA, ad, A), (k, n, Q)) => ∀ (H : Heap) (locs : List Loc) (ls : Array Slot), va_P D vwCl (WL ad cA σ) H → va_S A s.heap H locs → lv_has ls (mdN md) (L.map (fun q => (q.1, cv ad q.2))) → W p l e R s m args below meth c H locs k n Q (F0 m pc ls (S.map (cv ad)))
def lk : List (Nat × AV) → Nat → Option AV
  | [], _ => none
  | q :: L, i => bif q.1 == i then some q.2 else lk L i
def stL : List (Nat × AV) → Nat → AV → List (Nat × AV)
  | [], i, v => [(i, v)]
  | q :: L, i, v => bif q.1 == i then (i, v) :: L else q :: stL L i v
def pickL (L : List (Nat × AV)) : List Nat → List (Nat × AV)
  | [] => []
  | i :: is => match lk L i with
    | some v => (i, v) :: pickL L is
    | none => pickL L is
theorem lk_mem : ∀ {L : List (Nat × AV)} {i : Nat} {v : AV}, lk L i = some v → (i, v) ∈ L
  | [], _, _, h => by cases h
  | q :: L, i, v, h => by
    unfold lk at h
    by_cases hq : q.1 = i
    · rw [show (q.1 == i) = true by simpa using hq] at h
      simp only [cond_true, Option.some.injEq] at h
      subst hq; subst h
      exact List.mem_cons_self
    · rw [show (q.1 == i) = false by simpa using hq] at h
      exact List.mem_cons_of_mem _ (lk_mem h)
theorem stL_mem : ∀ {L : List (Nat × AV)} {i : Nat} {v : AV} {q : Nat × AV}, q ∈ stL L i v → q = (i, v) ∨ q ∈ L
  | [], _, _, _, h => by
    unfold stL at h
    exact Or.inl (List.mem_singleton.mp h)
  | r :: L, i, v, q, h => by
    unfold stL at h
    by_cases hq : r.1 = i
    · rw [show (r.1 == i) = true by simpa using hq] at h
      rcases List.mem_cons.mp h with h | h
      · exact Or.inl h
      · exact Or.inr (List.mem_cons_of_mem _ h)
    · rw [show (r.1 == i) = false by simpa using hq] at h
      rcases List.mem_cons.mp h with h | h
      · exact Or.inr (h ▸ List.mem_cons_self)
      · rcases stL_mem h with h | h
        · exact Or.inl h
        · exact Or.inr (List.mem_cons_of_mem _ h)
theorem lk_at {ad : Nat → Nat} {ls : Array Slot} {n : Nat} {L : List (Nat × AV)} {i : Nat} {v : AV} (h : lk L i = some v) (hl : lv_has ls n (L.map (fun q => (q.1, cv ad q.2)))) : ls[i]? = some (.val (cv ad v)) :=
  hl.2.2 (i, cv ad v) (List.mem_map.mpr ⟨(i, v), lk_mem h, rfl⟩)
theorem pick_mem {L : List (Nat × AV)} : ∀ {is : List Nat} {q : Nat × AV}, q ∈ pickL L is → q ∈ L
  | [], _, h => by cases h
  | i :: is, q, h => by
    unfold pickL at h
    cases hk : lk L i with
    | none => rw [hk] at h; exact pick_mem h
    | some v =>
      rw [hk] at h
      rcases List.mem_cons.mp h with h | h
      · rw [h]; exact lk_mem hk
      · exact pick_mem h
/-- the rows that store: at most one listed value a local, no long: what the store leaves -/
def dist (L : List (Nat × AV)) : Bool := match L with
  | [] => true
  | q :: L => !(L.any (fun r => r.1 == q.1)) && dist L
theorem st_has {ad : Nat → Nat} {ls : Array Slot} {n : Nat} {L : List (Nat × AV)} {i : Nat} {v : AV} (hd : dist L = true)
    (h : lv_has ls n ((i, cv ad v) :: (L.map (fun q => (q.1, cv ad q.2))).filter (fun q => !(q.1 == i) && !(q.1 + 1 == i && q.2.category == 2)))) : lv_has ls n ((stL L i v).map (fun q => (q.1, cv ad q.2))) := by
  refine ⟨h.1, h.2.1, fun q hq => ?_⟩
  obtain ⟨r, hr, rfl⟩ := List.mem_map.mp hq
  have key : r = (i, v) ∨ (r ∈ L ∧ ¬ r.1 = i) := by
    clear h hq
    induction L with
    | nil => exact Or.inl (List.mem_singleton.mp (by simpa [stL] using hr))
    | cons a L ih =>
      unfold dist at hd
      rw [Bool.and_eq_true] at hd
      unfold stL at hr
      by_cases ha : a.1 = i
      · rw [show (a.1 == i) = true by simpa using ha] at hr
        rcases List.mem_cons.mp hr with h1 | h1
        · exact Or.inl h1
        · refine Or.inr ⟨List.mem_cons_of_mem _ h1, fun e => ?_⟩
          have h2 := hd.1
          rw [Bool.not_eq_true', List.any_eq_false] at h2
          exact h2 r h1 (by simp [e, ha])
      · rw [show (a.1 == i) = false by simpa using ha] at hr
        rcases List.mem_cons.mp hr with h1 | h1
        · exact Or.inr ⟨h1 ▸ List.mem_cons_self, h1 ▸ ha⟩
        · rcases ih hd.2 h1 with h2 | h2
          · exact Or.inl h2
          · exact Or.inr ⟨List.mem_cons_of_mem _ h2.1, h2.2⟩
  rcases key with e | ⟨h1, h2⟩
  · subst e
    exact h.2.2 _ List.mem_cons_self
  · refine h.2.2 _ (List.mem_cons_of_mem _ (List.mem_filter.mpr ⟨List.mem_map.mpr ⟨r, h1, rfl⟩, ?_⟩))
    simp [h2, cv_cat]
section RULES
variable {md : MD} {X : CT} {pc : Nat} {L : List (Nat × AV)} {S : List AV} {σ : St}
theorem G.pick (is : List Nat) (k : G md X pc (pickL L is) S σ) : G md X pc L S σ := by
  obtain ⟨⟨l, p, e, R, s, m, args, below, meth, c⟩, ⟨D, cA, ad, A⟩, ⟨kc, n, Q⟩⟩ := X
  intro F H locs ls hP hS hl
  refine k F H locs ls hP hS ⟨hl.1, hl.2.1, fun q hq => ?_⟩
  obtain ⟨r, hr, rfl⟩ := List.mem_map.mp hq
  exact hl.2.2 _ (List.mem_map.mpr ⟨r, pick_mem hr, rfl⟩)
theorem G.iconst {n : Int} (hd : decode (mdC md) pc = .ok (.iconst n, 1)) (k : G md X (pc + 1) L (vi n :: S) σ) : G md X pc L S σ := by
  obtain ⟨⟨l, p, e, R, s, m, args, below, meth, c⟩, ⟨D, cA, ad, A⟩, ⟨kc, n', Q⟩⟩ := X
  intro F H locs ls hP hS hl
  exact lv_iconst F.1 F.2.1 hd rfl (k F H locs ls hP hS hl)
theorem G.bipush {n : Int} (hd : decode (mdC md) pc = .ok (.bipush n, 2)) (hn : (Int8.ofInt n).toInt32 = Int32.ofInt n) (k : G md X (pc + 2) L (vi n :: S) σ) : G md X pc L S σ := by
  obtain ⟨⟨l, p, e, R, s, m, args, below, meth, c⟩, ⟨D, cA, ad, A⟩, ⟨kc, n', Q⟩⟩ := X
  intro F H locs ls hP hS hl
  exact lv_bipush F.1 F.2.1 hd hn (k F H locs ls hP hS hl)
theorem G.sipush {n : Int} (hd : decode (mdC md) pc = .ok (.sipush n, 3)) (hn : (Int16.ofInt n).toInt32 = Int32.ofInt n) (k : G md X (pc + 3) L (vi n :: S) σ) : G md X pc L S σ := by
  obtain ⟨⟨l, p, e, R, s, m, args, below, meth, c⟩, ⟨D, cA, ad, A⟩, ⟨kc, n', Q⟩⟩ := X
  intro F H locs ls hP hS hl
  exact lv_sipush F.1 F.2.1 hd hn (k F H locs ls hP hS hl)
theorem G.ldcf {index i : Nat} {v : UInt32} (hd : decode (mdC md) pc = .ok (.ldc index, 2)) (hw : lw_tbl[i]? = some (.constantFloat (mdO md) index v)) (k : G md X (pc + 2) L (vf v :: S) σ) : G md X pc L S σ := by
  obtain ⟨⟨l, p, e, R, s, m, args, below, meth, c⟩, ⟨D, cA, ad, A⟩, ⟨kc, n', Q⟩⟩ := X
  intro F H locs ls hP hS hl
  obtain ⟨hx, hb, hml, hr, hown, hts, hlk, hf, hlo, hc, hsl, hK⟩ := id F
  exact lv_ldcf hx hb hown (hts _ (gw_at hw rfl)) hd (k F H locs ls hP hS hl)
theorem G.iload_n {j : Fin 4} {z : Int} (hd : decode (mdC md) pc = .ok (.iload_n j, 1)) (h : lk L j = some (vi z)) (k : G md X (pc + 1) L (vi z :: S) σ) : G md X pc L S σ := by
  obtain ⟨⟨l, p, e, R, s, m, args, below, meth, c⟩, ⟨D, cA, ad, A⟩, ⟨kc, n', Q⟩⟩ := X
  intro F H locs ls hP hS hl
  exact lv_iload_n F.1 F.2.1 hd rfl (lk_at h hl) (k F H locs ls hP hS hl)
theorem G.iload {j : Nat} {z : Int} (hd : decode (mdC md) pc = .ok (.iload j, 2)) (h : lk L j = some (vi z)) (k : G md X (pc + 2) L (vi z :: S) σ) : G md X pc L S σ := by
  obtain ⟨⟨l, p, e, R, s, m, args, below, meth, c⟩, ⟨D, cA, ad, A⟩, ⟨kc, n', Q⟩⟩ := X
  intro F H locs ls hP hS hl
  exact lv_iload F.1 F.2.1 hd (lk_at h hl) (k F H locs ls hP hS hl)
theorem G.aload_n {j : Fin 4} {o : Nat} (hd : decode (mdC md) pc = .ok (.aload_n j, 1)) (h : lk L j = some (vr o)) (k : G md X (pc + 1) L (vr o :: S) σ) : G md X pc L S σ := by
  obtain ⟨⟨l, p, e, R, s, m, args, below, meth, c⟩, ⟨D, cA, ad, A⟩, ⟨kc, n', Q⟩⟩ := X
  intro F H locs ls hP hS hl
  exact lv_aload_n F.1 F.2.1 hd rfl (lk_at h hl) (k F H locs ls hP hS hl)
theorem G.aload {j : Nat} {o : Nat} (hd : decode (mdC md) pc = .ok (.aload j, 2)) (h : lk L j = some (vr o)) (k : G md X (pc + 2) L (vr o :: S) σ) : G md X pc L S σ := by
  obtain ⟨⟨l, p, e, R, s, m, args, below, meth, c⟩, ⟨D, cA, ad, A⟩, ⟨kc, n', Q⟩⟩ := X
  intro F H locs ls hP hS hl
  exact lv_aload F.1 F.2.1 hd (lk_at h hl) (k F H locs ls hP hS hl)
theorem G.istore_n {j : Fin 4} {z : Int} (hd : decode (mdC md) pc = .ok (.istore_n j, 1)) (hn : (j : Nat) < mdN md) (hq : dist (L.map (fun q => (q.1, vi 0))) = true) (k : G md X (pc + 1) (stL L j (vi z)) S σ) : G md X pc L (vi z :: S) σ := by
  obtain ⟨⟨l, p, e, R, s, m, args, below, meth, c⟩, ⟨D, cA, ad, A⟩, ⟨kc, n', Q⟩⟩ := X
  intro F H locs ls hP hS hl
  have hq : dist L = true := by
    have e : ∀ L : List (Nat × AV), dist (L.map (fun q => (q.1, vi 0))) = dist L := by
      intro L
      induction L with
      | nil => rfl
      | cons a L ih =>
        show (!((L.map (fun q => (q.1, vi 0))).any (fun r => r.1 == a.1)) && dist (L.map (fun q => (q.1, vi 0)))) = (!(L.any (fun r => r.1 == a.1)) && dist L)
        rw [ih, List.any_map]
        rfl
    rw [← e]; exact hq
  exact lv_istore_n F.1 F.2.1 hd rfl hl hn rfl (fun ls' h' => k F H locs ls' hP hS (st_has hq h'))
theorem dist_vi (L : List (Nat × AV)) : dist (L.map (fun q => (q.1, vi 0))) = dist L := by
  induction L with
  | nil => rfl
  | cons a L ih =>
    show (!((L.map (fun q => (q.1, vi 0))).any (fun r => r.1 == a.1)) && dist (L.map (fun q => (q.1, vi 0)))) = (!(L.any (fun r => r.1 == a.1)) && dist L)
    rw [ih, List.any_map]
    rfl
theorem G.istore {j : Nat} {z : Int} (hd : decode (mdC md) pc = .ok (.istore j, 2)) (hn : j < mdN md) (hq : dist (L.map (fun q => (q.1, vi 0))) = true) (k : G md X (pc + 2) (stL L j (vi z)) S σ) : G md X pc L (vi z :: S) σ := by
  obtain ⟨⟨l, p, e, R, s, m, args, below, meth, c⟩, ⟨D, cA, ad, A⟩, ⟨kc, n', Q⟩⟩ := X
  intro F H locs ls hP hS hl
  rw [dist_vi] at hq
  exact lv_istore F.1 F.2.1 hd hl hn rfl (fun ls' h' => k F H locs ls' hP hS (st_has hq h'))
theorem G.astore_n {j : Fin 4} {o : Nat} (hd : decode (mdC md) pc = .ok (.astore_n j, 1)) (hn : (j : Nat) < mdN md) (hq : dist (L.map (fun q => (q.1, vi 0))) = true) (k : G md X (pc + 1) (stL L j (vr o)) S σ) : G md X pc L (vr o :: S) σ := by
  obtain ⟨⟨l, p, e, R, s, m, args, below, meth, c⟩, ⟨D, cA, ad, A⟩, ⟨kc, n', Q⟩⟩ := X
  intro F H locs ls hP hS hl
  rw [dist_vi] at hq
  exact lv_astore_n F.1 F.2.1 hd rfl hl hn rfl (fun ls' h' => k F H locs ls' hP hS (st_has hq h'))
theorem G.astore {j : Nat} {o : Nat} (hd : decode (mdC md) pc = .ok (.astore j, 2)) (hn : j < mdN md) (hq : dist (L.map (fun q => (q.1, vi 0))) = true) (k : G md X (pc + 2) (stL L j (vr o)) S σ) : G md X pc L (vr o :: S) σ := by
  obtain ⟨⟨l, p, e, R, s, m, args, below, meth, c⟩, ⟨D, cA, ad, A⟩, ⟨kc, n', Q⟩⟩ := X
  intro F H locs ls hP hS hl
  rw [dist_vi] at hq
  exact lv_astore F.1 F.2.1 hd hl hn rfl (fun ls' h' => k F H locs ls' hP hS (st_has hq h'))
theorem G.iinc {j : Nat} {n z : Int} (hd : decode (mdC md) pc = .ok (.iinc j n, 3)) (h : lk L j = some (vi z)) (hn : j < mdN md) (hq : dist (L.map (fun q => (q.1, vi 0))) = true) (k : G md X (pc + 3) (stL L j (vi (z + n))) S σ) : G md X pc L S σ := by
  obtain ⟨⟨l, p, e, R, s, m, args, below, meth, c⟩, ⟨D, cA, ad, A⟩, ⟨kc, n', Q⟩⟩ := X
  intro F H locs ls hP hS hl
  rw [dist_vi] at hq
  obtain ⟨i, hi⟩ := List.getElem?_of_mem (List.mem_map.mpr ⟨(j, vi z), lk_mem h, rfl⟩ : (j, cv ad (vi z)) ∈ L.map (fun q => (q.1, cv ad q.2)))
  exact lv_iinc F.1 F.2.1 hd hl hi (v := Int32.ofInt (z + n)) (by rw [Int32.ofInt_add]) hn rfl (fun ls' h' => k F H locs ls' hP hS (st_has hq h'))
theorem G.dup {v : AV} (hd : decode (mdC md) pc = .ok (.dup, 1)) (k : G md X (pc + 1) L (v :: v :: S) σ) : G md X pc L (v :: S) σ := by
  obtain ⟨⟨l, p, e, R, s, m, args, below, meth, c⟩, ⟨D, cA, ad, A⟩, ⟨kc, n', Q⟩⟩ := X
  intro F H locs ls hP hS hl
  exact lv_dup F.1 F.2.1 hd (cv_cat ad v) (k F H locs ls hP hS hl)
theorem G.dup2 {v w : AV} (hd : decode (mdC md) pc = .ok (.dup2, 1)) (k : G md X (pc + 1) L (v :: w :: v :: w :: S) σ) : G md X pc L (v :: w :: S) σ := by
  obtain ⟨⟨l, p, e, R, s, m, args, below, meth, c⟩, ⟨D, cA, ad, A⟩, ⟨kc, n', Q⟩⟩ := X
  intro F H locs ls hP hS hl
  exact lv_dup2_11 F.1 F.2.1 hd (cv_cat ad v) (cv_cat ad w) (k F H locs ls hP hS hl)
theorem G.pop {v : AV} (hd : decode (mdC md) pc = .ok (.pop, 1)) (k : G md X (pc + 1) L S σ) : G md X pc L (v :: S) σ := by
  obtain ⟨⟨l, p, e, R, s, m, args, below, meth, c⟩, ⟨D, cA, ad, A⟩, ⟨kc, n', Q⟩⟩ := X
  intro F H locs ls hP hS hl
  exact lv_pop F.1 F.2.1 hd (cv_cat ad v) (k F H locs ls hP hS hl)
theorem G.iadd {x y : Int} (hd : decode (mdC md) pc = .ok (.iadd, 1)) (k : G md X (pc + 1) L (vi (x + y) :: S) σ) : G md X pc L (vi y :: vi x :: S) σ := by
  obtain ⟨⟨l, p, e, R, s, m, args, below, meth, c⟩, ⟨D, cA, ad, A⟩, ⟨kc, n', Q⟩⟩ := X
  intro F H locs ls hP hS hl
  refine lv_iadd F.1 F.2.1 hd ?_
  rw [← Int32.ofInt_add]
  exact k F H locs ls hP hS hl
theorem G.isub {x y : Int} (hd : decode (mdC md) pc = .ok (.isub, 1)) (k : G md X (pc + 1) L (vi (x - y) :: S) σ) : G md X pc L (vi y :: vi x :: S) σ := by
  obtain ⟨⟨l, p, e, R, s, m, args, below, meth, c⟩, ⟨D, cA, ad, A⟩, ⟨kc, n', Q⟩⟩ := X
  intro F H locs ls hP hS hl
  refine lv_isub F.1 F.2.1 hd ?_
  rw [← Int32.ofInt_sub]
  exact k F H locs ls hP hS hl
theorem G.imul {x y : Int} (hd : decode (mdC md) pc = .ok (.imul, 1)) (k : G md X (pc + 1) L (vi (x * y) :: S) σ) : G md X pc L (vi y :: vi x :: S) σ := by
  obtain ⟨⟨l, p, e, R, s, m, args, below, meth, c⟩, ⟨D, cA, ad, A⟩, ⟨kc, n', Q⟩⟩ := X
  intro F H locs ls hP hS hl
  refine lv_imul F.1 F.2.1 hd ?_
  rw [← Int32.ofInt_mul]
  exact k F H locs ls hP hS hl
theorem G.ineg {x : Int} (hd : decode (mdC md) pc = .ok (.ineg, 1)) (k : G md X (pc + 1) L (vi (-x) :: S) σ) : G md X pc L (vi x :: S) σ := by
  obtain ⟨⟨l, p, e, R, s, m, args, below, meth, c⟩, ⟨D, cA, ad, A⟩, ⟨kc, n', Q⟩⟩ := X
  intro F H locs ls hP hS hl
  refine lv_ineg F.1 F.2.1 hd ?_
  rw [← Int32.ofInt_neg]
  exact k F H locs ls hP hS hl
/-- of a number that is not negative -/
theorem G.irem {x y : Int} (hd : decode (mdC md) pc = .ok (.irem, 1)) (hx : 0 ≤ x ∧ x < 2147483648) (hy : 0 < y ∧ y < 2147483648) (k : G md X (pc + 1) L (vi (x % y) :: S) σ) : G md X pc L (vi y :: vi x :: S) σ := by
  obtain ⟨⟨l, p, e, R, s, m, args, below, meth, c⟩, ⟨D, cA, ad, A⟩, ⟨kc, n', Q⟩⟩ := X
  intro F H locs ls hP hS hl
  refine lv_irem F.1 F.2.1 hd (oi_nz hy.1 hy.2) ?_
  rw [oi_rem ⟨by omega, hx.2⟩ hy.1 hy.2, Int.tmod_eq_emod_of_nonneg hx.1]
  exact k F H locs ls hP hS hl
theorem G.iremT {x y : Int} (hd : decode (mdC md) pc = .ok (.irem, 1)) (hx : inI x) (hy : 0 < y ∧ y < 2147483648) (k : G md X (pc + 1) L (vi (x.tmod y) :: S) σ) : G md X pc L (vi y :: vi x :: S) σ := by
  obtain ⟨⟨l, p, e, R, s, m, args, below, meth, c⟩, ⟨D, cA, ad, A⟩, ⟨kc, n', Q⟩⟩ := X
  intro F H locs ls hP hS hl
  refine lv_irem F.1 F.2.1 hd (oi_nz hy.1 hy.2) ?_
  rw [oi_rem hx hy.1 hy.2]
  exact k F H locs ls hP hS hl
theorem G.idiv {x y : Int} (hd : decode (mdC md) pc = .ok (.idiv, 1)) (hx : 0 ≤ x ∧ x < 2147483648) (hy : 0 < y ∧ y < 2147483648) (k : G md X (pc + 1) L (vi (x / y) :: S) σ) : G md X pc L (vi y :: vi x :: S) σ := by
  obtain ⟨⟨l, p, e, R, s, m, args, below, meth, c⟩, ⟨D, cA, ad, A⟩, ⟨kc, n', Q⟩⟩ := X
  intro F H locs ls hP hS hl
  refine lv_idiv F.1 F.2.1 hd (oi_nz hy.1 hy.2) ?_
  rw [oi_div ⟨by omega, hx.2⟩ hy.1 hy.2, Int.tdiv_eq_ediv_of_nonneg hx.1]
  exact k F H locs ls hP hS hl
theorem G.iandm {x m : Int} (kk : Nat) (hm : m = 2 ^ kk - 1) (hk : kk ≤ 30) (hd : decode (mdC md) pc = .ok (.iand, 1)) (k : G md X (pc + 1) L (vi (x % 2 ^ kk) :: S) σ) : G md X pc L (vi m :: vi x :: S) σ := by
  obtain ⟨⟨l, p, e, R, s, m', args, below, meth, c⟩, ⟨D, cA, ad, A⟩, ⟨kc, n', Q⟩⟩ := X
  intro F H locs ls hP hS hl
  refine lv_iand F.1 F.2.1 hd ?_
  rw [oi_and kk hm hk]
  exact k F H locs ls hP hS hl
theorem G.iand {x y : Int} (hd : decode (mdC md) pc = .ok (.iand, 1)) (k : G md X (pc + 1) L (vi (bAnd x y) :: S) σ) : G md X pc L (vi y :: vi x :: S) σ := by
  obtain ⟨⟨l, p, e, R, s, m', args, below, meth, c⟩, ⟨D, cA, ad, A⟩, ⟨kc, n', Q⟩⟩ := X
  intro F H locs ls hP hS hl
  refine lv_iand F.1 F.2.1 hd ?_
  have h := k F H locs ls hP hS hl
  unfold bAnd at h
  rw [← oi_as (Int32.ofInt x &&& Int32.ofInt y)]
  exact h
theorem G.ior {x y : Int} (hd : decode (mdC md) pc = .ok (.ior, 1)) (k : G md X (pc + 1) L (vi (bOr x y) :: S) σ) : G md X pc L (vi y :: vi x :: S) σ := by
  obtain ⟨⟨l, p, e, R, s, m', args, below, meth, c⟩, ⟨D, cA, ad, A⟩, ⟨kc, n', Q⟩⟩ := X
  intro F H locs ls hP hS hl
  refine lv_ior F.1 F.2.1 hd ?_
  have h := k F H locs ls hP hS hl
  unfold bOr at h
  rw [← oi_as (Int32.ofInt x ||| Int32.ofInt y)]
  exact h
theorem G.ixor {x y : Int} (hd : decode (mdC md) pc = .ok (.ixor, 1)) (k : G md X (pc + 1) L (vi (bXor x y) :: S) σ) : G md X pc L (vi y :: vi x :: S) σ := by
  obtain ⟨⟨l, p, e, R, s, m', args, below, meth, c⟩, ⟨D, cA, ad, A⟩, ⟨kc, n', Q⟩⟩ := X
  intro F H locs ls hP hS hl
  refine lv_ixor F.1 F.2.1 hd ?_
  have h := k F H locs ls hP hS hl
  unfold bXor at h
  rw [← oi_as (Int32.ofInt x ^^^ Int32.ofInt y)]
  exact h
theorem G.ishl {x y : Int} (hd : decode (mdC md) pc = .ok (.ishl, 1)) (k : G md X (pc + 1) L (vi (bShl x y) :: S) σ) : G md X pc L (vi y :: vi x :: S) σ := by
  obtain ⟨⟨l, p, e, R, s, m', args, below, meth, c⟩, ⟨D, cA, ad, A⟩, ⟨kc, n', Q⟩⟩ := X
  intro F H locs ls hP hS hl
  refine lv_ishl F.1 F.2.1 hd ?_
  have h := k F H locs ls hP hS hl
  unfold bShl at h
  rw [← oi_as (Int32.ofInt x <<< (Int32.ofInt y &&& 31))]
  exact h
theorem G.iushr {x y : Int} (hd : decode (mdC md) pc = .ok (.iushr, 1)) (k : G md X (pc + 1) L (vi (bUshr x y) :: S) σ) : G md X pc L (vi y :: vi x :: S) σ := by
  obtain ⟨⟨l, p, e, R, s, m', args, below, meth, c⟩, ⟨D, cA, ad, A⟩, ⟨kc, n', Q⟩⟩ := X
  intro F H locs ls hP hS hl
  refine lv_iushr F.1 F.2.1 hd (v := Int32.ofInt (bUshr x y)) (by unfold bUshr; rw [oi_as]) ?_
  exact k F H locs ls hP hS hl
theorem G.ishr {x y : Int} (hd : decode (mdC md) pc = .ok (.ishr, 1)) (hx : 0 ≤ x ∧ x < 2147483648) (hy : 0 ≤ y ∧ y < 32) (k : G md X (pc + 1) L (vi (x / 2 ^ y.toNat) :: S) σ) : G md X pc L (vi y :: vi x :: S) σ := by
  obtain ⟨⟨l, p, e, R, s, m', args, below, meth, c⟩, ⟨D, cA, ad, A⟩, ⟨kc, n', Q⟩⟩ := X
  intro F H locs ls hP hS hl
  refine lv_ishr F.1 F.2.1 hd ?_
  rw [oi_shr hx.1 hx.2 hy.1 hy.2]
  exact k F H locs ls hP hS hl
theorem G.goto {off : Int} {tgt : Nat} (hd : decode (mdC md) pc = .ok (.goto off, 3)) (ht : (pc : Int) + off = (tgt : Int)) (k : G md X tgt L S σ) : G md X pc L S σ := by
  obtain ⟨⟨l, p, e, R, s, m', args, below, meth, c⟩, ⟨D, cA, ad, A⟩, ⟨kc, n', Q⟩⟩ := X
  intro F H locs ls hP hS hl
  exact lv_goto F.1 F.2.1 hd ht (k F H locs ls hP hS hl)
theorem G.icmp_eq {x y : Int} {off : Int} {tgt : Nat} (hd : decode (mdC md) pc = .ok (.if_icmp .eq off, 3)) (ht : (pc : Int) + off = (tgt : Int)) (hx : inI x) (hy : inI y) (kt : x = y → G md X tgt L S σ) (kf : ¬ x = y → G md X (pc + 3) L S σ) : G md X pc L (vi y :: vi x :: S) σ := by
  obtain ⟨⟨l, p, e, R, s, m', args, below, meth, c⟩, ⟨D, cA, ad, A⟩, ⟨kc, n', Q⟩⟩ := X
  intro F H locs ls hP hS hl
  have cvv := oi_eq hx hy
  exact lv_icmp_eq (tgt := tgt) F.1 F.2.1 hd ht (fun q => kt (cvv.mp q) F H locs ls hP hS hl) (fun q => kf (fun z => q (cvv.mpr z)) F H locs ls hP hS hl)
theorem G.if_eq {x : Int} {off : Int} {tgt : Nat} (hd : decode (mdC md) pc = .ok (.ifCond .eq off, 3)) (ht : (pc : Int) + off = (tgt : Int)) (hx : inI x) (kt : x = 0 → G md X tgt L S σ) (kf : ¬ x = 0 → G md X (pc + 3) L S σ) : G md X pc L (vi x :: S) σ := by
  obtain ⟨⟨l, p, e, R, s, m', args, below, meth, c⟩, ⟨D, cA, ad, A⟩, ⟨kc, n', Q⟩⟩ := X
  intro F H locs ls hP hS hl
  have cvv := oi_eq hx inI_0
  exact lv_if_eq (tgt := tgt) F.1 F.2.1 hd ht (fun q => kt (cvv.mp q) F H locs ls hP hS hl) (fun q => kf (fun z => q (cvv.mpr z)) F H locs ls hP hS hl)
theorem G.icmp_ne {x y : Int} {off : Int} {tgt : Nat} (hd : decode (mdC md) pc = .ok (.if_icmp .ne off, 3)) (ht : (pc : Int) + off = (tgt : Int)) (hx : inI x) (hy : inI y) (kt : ¬ x = y → G md X tgt L S σ) (kf : x = y → G md X (pc + 3) L S σ) : G md X pc L (vi y :: vi x :: S) σ := by
  obtain ⟨⟨l, p, e, R, s, m', args, below, meth, c⟩, ⟨D, cA, ad, A⟩, ⟨kc, n', Q⟩⟩ := X
  intro F H locs ls hP hS hl
  have cvv := oi_eq hx hy
  exact lv_icmp_ne (tgt := tgt) F.1 F.2.1 hd ht (fun q => kt (fun z => q (cvv.mpr z)) F H locs ls hP hS hl) (fun q => kf (cvv.mp q) F H locs ls hP hS hl)
theorem G.if_ne {x : Int} {off : Int} {tgt : Nat} (hd : decode (mdC md) pc = .ok (.ifCond .ne off, 3)) (ht : (pc : Int) + off = (tgt : Int)) (hx : inI x) (kt : ¬ x = 0 → G md X tgt L S σ) (kf : x = 0 → G md X (pc + 3) L S σ) : G md X pc L (vi x :: S) σ := by
  obtain ⟨⟨l, p, e, R, s, m', args, below, meth, c⟩, ⟨D, cA, ad, A⟩, ⟨kc, n', Q⟩⟩ := X
  intro F H locs ls hP hS hl
  have cvv := oi_eq hx inI_0
  exact lv_if_ne (tgt := tgt) F.1 F.2.1 hd ht (fun q => kt (fun z => q (cvv.mpr z)) F H locs ls hP hS hl) (fun q => kf (cvv.mp q) F H locs ls hP hS hl)
theorem G.icmp_lt {x y : Int} {off : Int} {tgt : Nat} (hd : decode (mdC md) pc = .ok (.if_icmp .lt off, 3)) (ht : (pc : Int) + off = (tgt : Int)) (hx : inI x) (hy : inI y) (kt : x < y → G md X tgt L S σ) (kf : y ≤ x → G md X (pc + 3) L S σ) : G md X pc L (vi y :: vi x :: S) σ := by
  obtain ⟨⟨l, p, e, R, s, m', args, below, meth, c⟩, ⟨D, cA, ad, A⟩, ⟨kc, n', Q⟩⟩ := X
  intro F H locs ls hP hS hl
  have cvv := oi_lt hx hy
  exact lv_icmp_lt (tgt := tgt) F.1 F.2.1 hd ht (fun q => kt (cvv.mp q) F H locs ls hP hS hl) (fun q => kf (Int.not_lt.mp fun w => q (cvv.mpr w)) F H locs ls hP hS hl)
theorem G.if_lt {x : Int} {off : Int} {tgt : Nat} (hd : decode (mdC md) pc = .ok (.ifCond .lt off, 3)) (ht : (pc : Int) + off = (tgt : Int)) (hx : inI x) (kt : x < 0 → G md X tgt L S σ) (kf : 0 ≤ x → G md X (pc + 3) L S σ) : G md X pc L (vi x :: S) σ := by
  obtain ⟨⟨l, p, e, R, s, m', args, below, meth, c⟩, ⟨D, cA, ad, A⟩, ⟨kc, n', Q⟩⟩ := X
  intro F H locs ls hP hS hl
  have cvv := oi_lt hx inI_0
  exact lv_if_lt (tgt := tgt) F.1 F.2.1 hd ht (fun q => kt (cvv.mp q) F H locs ls hP hS hl) (fun q => kf (Int.not_lt.mp fun w => q (cvv.mpr w)) F H locs ls hP hS hl)
theorem G.icmp_le {x y : Int} {off : Int} {tgt : Nat} (hd : decode (mdC md) pc = .ok (.if_icmp .le off, 3)) (ht : (pc : Int) + off = (tgt : Int)) (hx : inI x) (hy : inI y) (kt : x ≤ y → G md X tgt L S σ) (kf : y < x → G md X (pc + 3) L S σ) : G md X pc L (vi y :: vi x :: S) σ := by
  obtain ⟨⟨l, p, e, R, s, m', args, below, meth, c⟩, ⟨D, cA, ad, A⟩, ⟨kc, n', Q⟩⟩ := X
  intro F H locs ls hP hS hl
  have cvv := oi_le hx hy
  exact lv_icmp_le (tgt := tgt) F.1 F.2.1 hd ht (fun q => kt (cvv.mp q) F H locs ls hP hS hl) (fun q => kf (Int.not_le.mp fun w => q (cvv.mpr w)) F H locs ls hP hS hl)
theorem G.if_le {x : Int} {off : Int} {tgt : Nat} (hd : decode (mdC md) pc = .ok (.ifCond .le off, 3)) (ht : (pc : Int) + off = (tgt : Int)) (hx : inI x) (kt : x ≤ 0 → G md X tgt L S σ) (kf : 0 < x → G md X (pc + 3) L S σ) : G md X pc L (vi x :: S) σ := by
  obtain ⟨⟨l, p, e, R, s, m', args, below, meth, c⟩, ⟨D, cA, ad, A⟩, ⟨kc, n', Q⟩⟩ := X
  intro F H locs ls hP hS hl
  have cvv := oi_le hx inI_0
  exact lv_if_le (tgt := tgt) F.1 F.2.1 hd ht (fun q => kt (cvv.mp q) F H locs ls hP hS hl) (fun q => kf (Int.not_le.mp fun w => q (cvv.mpr w)) F H locs ls hP hS hl)
theorem G.icmp_gt {x y : Int} {off : Int} {tgt : Nat} (hd : decode (mdC md) pc = .ok (.if_icmp .gt off, 3)) (ht : (pc : Int) + off = (tgt : Int)) (hx : inI x) (hy : inI y) (kt : y < x → G md X tgt L S σ) (kf : x ≤ y → G md X (pc + 3) L S σ) : G md X pc L (vi y :: vi x :: S) σ := by
  obtain ⟨⟨l, p, e, R, s, m', args, below, meth, c⟩, ⟨D, cA, ad, A⟩, ⟨kc, n', Q⟩⟩ := X
  intro F H locs ls hP hS hl
  have cvv := oi_lt hy hx
  exact lv_icmp_gt (tgt := tgt) F.1 F.2.1 hd ht (fun q => kt (cvv.mp q) F H locs ls hP hS hl) (fun q => kf (Int.not_lt.mp fun w => q (cvv.mpr w)) F H locs ls hP hS hl)
theorem G.if_gt {x : Int} {off : Int} {tgt : Nat} (hd : decode (mdC md) pc = .ok (.ifCond .gt off, 3)) (ht : (pc : Int) + off = (tgt : Int)) (hx : inI x) (kt : 0 < x → G md X tgt L S σ) (kf : x ≤ 0 → G md X (pc + 3) L S σ) : G md X pc L (vi x :: S) σ := by
  obtain ⟨⟨l, p, e, R, s, m', args, below, meth, c⟩, ⟨D, cA, ad, A⟩, ⟨kc, n', Q⟩⟩ := X
  intro F H locs ls hP hS hl
  have cvv := oi_lt inI_0 hx
  exact lv_if_gt (tgt := tgt) F.1 F.2.1 hd ht (fun q => kt (cvv.mp q) F H locs ls hP hS hl) (fun q => kf (Int.not_lt.mp fun w => q (cvv.mpr w)) F H locs ls hP hS hl)
theorem G.icmp_ge {x y : Int} {off : Int} {tgt : Nat} (hd : decode (mdC md) pc = .ok (.if_icmp .ge off, 3)) (ht : (pc : Int) + off = (tgt : Int)) (hx : inI x) (hy : inI y) (kt : y ≤ x → G md X tgt L S σ) (kf : x < y → G md X (pc + 3) L S σ) : G md X pc L (vi y :: vi x :: S) σ := by
  obtain ⟨⟨l, p, e, R, s, m', args, below, meth, c⟩, ⟨D, cA, ad, A⟩, ⟨kc, n', Q⟩⟩ := X
  intro F H locs ls hP hS hl
  have cvv := oi_le hy hx
  exact lv_icmp_ge (tgt := tgt) F.1 F.2.1 hd ht (fun q => kt (cvv.mp q) F H locs ls hP hS hl) (fun q => kf (Int.not_le.mp fun w => q (cvv.mpr w)) F H locs ls hP hS hl)
theorem G.if_ge {x : Int} {off : Int} {tgt : Nat} (hd : decode (mdC md) pc = .ok (.ifCond .ge off, 3)) (ht : (pc : Int) + off = (tgt : Int)) (hx : inI x) (kt : 0 ≤ x → G md X tgt L S σ) (kf : x < 0 → G md X (pc + 3) L S σ) : G md X pc L (vi x :: S) σ := by
  obtain ⟨⟨l, p, e, R, s, m', args, below, meth, c⟩, ⟨D, cA, ad, A⟩, ⟨kc, n', Q⟩⟩ := X
  intro F H locs ls hP hS hl
  have cvv := oi_le inI_0 hx
  exact lv_if_ge (tgt := tgt) F.1 F.2.1 hd ht (fun q => kt (cvv.mp q) F H locs ls hP hS hl) (fun q => kf (Int.not_le.mp fun w => q (cvv.mpr w)) F H locs ls hP hS hl)
theorem G.tswIn {dflt lo hi : Int} {offs : Array Int} {len : Nat} {x off v : Int} {tgt : Nat} (hd : decode (mdC md) pc = .ok (.tableswitch dflt lo hi offs, len)) (hx : inI x) (hv : x = v) (h1 : lo ≤ v ∧ v ≤ hi) (ho : offs[(v - lo).toNat]? = some off) (ht : (pc : Int) + off = (tgt : Int)) (k : G md X tgt L S σ) : G md X pc L (vi x :: S) σ := by
  obtain ⟨⟨l, p, e, R, s, m', args, below, meth, c⟩, ⟨D, cA, ad, A⟩, ⟨kc, n', Q⟩⟩ := X
  intro F H locs ls hP hS hl
  have e : (Int32.ofInt x).toInt = v := by rw [oi_to hx, hv]
  exact lv_tableIn F.1 F.2.1 hd (by rw [e]; omega) (by rw [e]; omega) (by rw [e]; exact ho) ht (k F H locs ls hP hS hl)
theorem G.tswOut {dflt lo hi : Int} {offs : Array Int} {len : Nat} {x : Int} {tgt : Nat} (hd : decode (mdC md) pc = .ok (.tableswitch dflt lo hi offs, len)) (hx : inI x) (h : x < lo ∨ hi < x) (ht : (pc : Int) + dflt = (tgt : Int)) (k : G md X tgt L S σ) : G md X pc L (vi x :: S) σ := by
  obtain ⟨⟨l, p, e, R, s, m', args, below, meth, c⟩, ⟨D, cA, ad, A⟩, ⟨kc, n', Q⟩⟩ := X
  intro F H locs ls hP hS hl
  exact lv_tableOut F.1 F.2.1 hd (by rw [oi_to hx]; exact h) ht (k F H locs ls hP hS hl)
theorem G.lsw {dflt : Int} {ps : Array (Int × Int)} {len : Nat} {x off : Int} {tgt : Nat} (hd : decode (mdC md) pc = .ok (.lookupswitch dflt ps, len)) (hp : (ps.toList.zip (ps.toList.drop 1)).all (fun (a, next) => a.1 < next.1) = true) (hx : inI x) (ho : Op.lookupswitch.offset ps.toList dflt x = off) (ht : (pc : Int) + off = (tgt : Int)) (k : G md X tgt L S σ) : G md X pc L (vi x :: S) σ := by
  obtain ⟨⟨l, p, e, R, s, m', args, below, meth, c⟩, ⟨D, cA, ad, A⟩, ⟨kc, n', Q⟩⟩ := X
  intro F H locs ls hP hS hl
  exact lv_lookup F.1 F.2.1 hd hp (by rw [oi_to hx]; exact ho) ht (k F H locs ls hP hS hl)
-- arrays
theorem shp_len (o : Nat) : (shp o).2.1 < 1000 := by
  unfold shp
  split
  · split <;> exact Nat.le_of_ble_eq_true rfl
  · rw [List.getD_eq_getElem?_getD]
    cases h : shpT[o - 60]? with
    | none => decide
    | some q =>
      have : ∀ q ∈ shpT, q.2.1 < 1000 := by decide +kernel
      exact this q (List.mem_of_getElem? h)
theorem sh_arr {ad : Nat → Nat} {cA : Nat → ClassId} {σ : St} {o t n : Nat} {fs : List (Nat × Nat)} (hs : shp o = (t, n, fs)) (ht : t < 9) : o < 105 ∧ n < 1000 ∧ (WL ad cA σ)[o]? = some (ad o, ent ad cA (t, n, fs) (σ o)) := by
  have h1 : o < 105 := shp_lt (by rw [hs]; exact ht)
  have h2 := shp_len o
  rw [hs] at h2
  exact ⟨h1, h2, by rw [wl_at h1, hs]⟩
theorem int_tn {z : Int} (h : 0 ≤ z) : ((z.toNat : Nat) : Int) = z := Int.toNat_of_nonneg h
theorem G.iald {o n : Nat} {z : Int} (hd : decode (mdC md) pc = .ok (.iaload, 1)) (hs : shp o = (1, n, [])) (hz : 0 ≤ z ∧ z < n) (k : G md X (pc + 1) L (vi (σ o z) :: S) σ) : G md X pc L (vi z :: vr o :: S) σ := by
  obtain ⟨⟨l, p, e, R, s, m', args, below, meth, c⟩, ⟨D, cA, ad, A⟩, ⟨kc, n', Q⟩⟩ := X
  intro F H locs ls hP hS hl
  obtain ⟨hx, hb, hml, hr, hown, hts, hlk, hf, hlo, hc, hsl, hK⟩ := id F
  obtain ⟨h1, h2, h3⟩ := sh_arr (ad := ad) (cA := cA) (σ := σ) hs (by decide)
  refine va_iald hx hb hK.1 hP o 0 h3 rfl (oi_in (n := n) hz.1 hz.2 (by omega)) hd ?_
  rw [oi_cl hz.1 (by omega), int_tn hz.1]
  exact k F H locs ls hP hS hl
theorem G.zald {o n : Nat} {z : Int} (hd : decode (mdC md) pc = .ok (.baload, 1)) (hs : shp o = (2, n, [])) (hz : 0 ≤ z ∧ z < n) (k : G md X (pc + 1) L (vi (σ o z) :: S) σ) : G md X pc L (vi z :: vr o :: S) σ := by
  obtain ⟨⟨l, p, e, R, s, m', args, below, meth, c⟩, ⟨D, cA, ad, A⟩, ⟨kc, n', Q⟩⟩ := X
  intro F H locs ls hP hS hl
  obtain ⟨hx, hb, hml, hr, hown, hts, hlk, hf, hlo, hc, hsl, hK⟩ := id F
  obtain ⟨h1, h2, h3⟩ := sh_arr (ad := ad) (cA := cA) (σ := σ) hs (by decide)
  refine va_zald hx hb hK.1 hP o 1 h3 rfl (oi_in (n := n) hz.1 hz.2 (by omega)) hd ?_
  rw [oi_cl hz.1 (by omega), int_tn hz.1]
  exact k F H locs ls hP hS hl
theorem G.fald {o n : Nat} {z : Int} (hd : decode (mdC md) pc = .ok (.faload, 1)) (hs : shp o = (3, n, [])) (hz : 0 ≤ z ∧ z < n) (k : G md X (pc + 1) L (vf (fl (σ o z)) :: S) σ) : G md X pc L (vi z :: vr o :: S) σ := by
  obtain ⟨⟨l, p, e, R, s, m', args, below, meth, c⟩, ⟨D, cA, ad, A⟩, ⟨kc, n', Q⟩⟩ := X
  intro F H locs ls hP hS hl
  obtain ⟨hx, hb, hml, hr, hown, hts, hlk, hf, hlo, hc, hsl, hK⟩ := id F
  obtain ⟨h1, h2, h3⟩ := sh_arr (ad := ad) (cA := cA) (σ := σ) hs (by decide)
  refine va_fald hx hb hK.1 hP o 2 h3 rfl (oi_in (n := n) hz.1 hz.2 (by omega)) hd ?_
  rw [oi_cl hz.1 (by omega), int_tn hz.1]
  exact k F H locs ls hP hS hl
theorem G.aald {o n b : Nat} {z : Int} (hd : decode (mdC md) pc = .ok (.aaload, 1)) (hs : shp o = (4, n, [(b, 0)])) (hz : 0 ≤ z ∧ z < n) (k : G md X (pc + 1) L (vr (6 * z.toNat + b) :: S) σ) : G md X pc L (vi z :: vr o :: S) σ := by
  obtain ⟨⟨l, p, e, R, s, m', args, below, meth, c⟩, ⟨D, cA, ad, A⟩, ⟨kc, n', Q⟩⟩ := X
  intro F H locs ls hP hS hl
  obtain ⟨hx, hb, hml, hr, hown, hts, hlk, hf, hlo, hc, hsl, hK⟩ := id F
  obtain ⟨h1, h2, h3⟩ := sh_arr (ad := ad) (cA := cA) (σ := σ) hs (by decide)
  refine va_aldq hx hb hK.1 hP o 3 h3 rfl (oi_in (n := n) hz.1 hz.2 (by omega)) hd ?_
  rw [oi_cl hz.1 (by omega)]
  exact k F H locs ls hP hS hl
theorem G.roald {o : Nat} {z : Int} (hd : decode (mdC md) pc = .ok (.iaload, 1)) (ho : o = 105 ∨ o = 106 ∨ o = 107) (hz : 0 ≤ z ∧ z < rol o) (k : G md X (pc + 1) L (vi (rot o z) :: S) σ) : G md X pc L (vi z :: vr o :: S) σ := by
  obtain ⟨⟨l, p, e, R, s, m', args, below, meth, c⟩, ⟨D, cA, ad, A⟩, ⟨kc, n', Q⟩⟩ := X
  intro F H locs ls hP hS hl
  obtain ⟨hx, hb, hml, hr, hown, hts, hlk, hf, hlo, hc, hsl, hK⟩ := id F
  have h2 : rol o ≤ 40 := by unfold rol; split <;> decide
  refine va_ti hx hb (hK.2.2.2.2.2.2.1 o ho) hS (oi_in hz.1 hz.2 (by omega)) rfl hd ?_
  rw [oi_cl hz.1 (by omega), int_tn hz.1]
  exact k F H locs ls hP hS hl
theorem G.alen {o n : Nat} (hd : decode (mdC md) pc = .ok (.arraylength, 1)) (hs : shp o = (1, n, [])) (k : G md X (pc + 1) L (vi n :: S) σ) : G md X pc L (vr o :: S) σ := by
  obtain ⟨⟨l, p, e, R, s, m', args, below, meth, c⟩, ⟨D, cA, ad, A⟩, ⟨kc, n', Q⟩⟩ := X
  intro F H locs ls hP hS hl
  obtain ⟨hx, hb, hml, hr, hown, hts, hlk, hf, hlo, hc, hsl, hK⟩ := id F
  obtain ⟨h1, h2, h3⟩ := sh_arr (ad := ad) (cA := cA) (σ := σ) hs (by decide)
  exact va_alen hx hb hK.1 hP o 0 h3 rfl (v := Int32.ofInt n) rfl hd (k F H locs ls hP hS hl)
theorem G.iast {o n : Nat} {z v : Int} (hd : decode (mdC md) pc = .ok (.iastore, 1)) (hs : shp o = (1, n, [])) (hz : 0 ≤ z ∧ z < n) (k : G md X (pc + 1) L S (wr σ o z v)) : G md X pc L (vi v :: vi z :: vr o :: S) σ := by
  obtain ⟨⟨l, p, e, R, s, m', args, below, meth, c⟩, ⟨D, cA, ad, A⟩, ⟨kc, n', Q⟩⟩ := X
  intro F H locs ls hP hS hl
  obtain ⟨hx, hb, hml, hr, hown, hts, hlk, hf, hlo, hc, hsl, hK⟩ := id F
  obtain ⟨h1, h2, h3⟩ := sh_arr (ad := ad) (cA := cA) (σ := σ) hs (by decide)
  refine va_iast hx hb hK.1 hP (wl_D hK) hS o 0 h3 rfl (oi_in (n := n) hz.1 hz.2 (by omega)) hd (fun H1 locs1 hP1 hD1 hS1 => ?_)
  rw [wl_set (wr_ne σ o z v) (by
    rw [hs]
    show _ = Sum.inl (cA 0, n, Sum.inl _)
    congr 4
    rw [oi_cl hz.1 (by omega)]
    funext j
    unfold upd wr
    by_cases hj : j = z.toNat
    · rw [if_pos hj, if_pos ⟨rfl, by omega⟩]
    · rw [if_neg hj, if_neg (by omega)])] at hP1
  exact k F H1 locs1 ls hP1 hS1 hl
theorem G.zast {o n : Nat} {z v : Int} (hd : decode (mdC md) pc = .ok (.bastore, 1)) (hs : shp o = (2, n, [])) (hz : 0 ≤ z ∧ z < n) (hv : v = 0 ∨ v = 1) (k : G md X (pc + 1) L S (wr σ o z v)) : G md X pc L (vi v :: vi z :: vr o :: S) σ := by
  obtain ⟨⟨l, p, e, R, s, m', args, below, meth, c⟩, ⟨D, cA, ad, A⟩, ⟨kc, n', Q⟩⟩ := X
  intro F H locs ls hP hS hl
  obtain ⟨hx, hb, hml, hr, hown, hts, hlk, hf, hlo, hc, hsl, hK⟩ := id F
  obtain ⟨h1, h2, h3⟩ := sh_arr (ad := ad) (cA := cA) (σ := σ) hs (by decide)
  refine va_zast hx hb hK.1 hP (wl_D hK) hS o 1 h3 rfl (oi_in (n := n) hz.1 hz.2 (by omega)) hd (fun H1 locs1 hP1 hD1 hS1 => ?_)
  rw [wl_set (wr_ne σ o z v) (by
    rw [hs]
    show _ = Sum.inl (cA 1, n, Sum.inl _)
    congr 4
    rw [oi_cl hz.1 (by omega)]
    have hnv : vp_nar .boolean (Int32.ofInt v) = Int32.ofInt v := by
      rcases hv with rfl | rfl <;> decide
    rw [hnv]
    funext j
    unfold upd wr
    by_cases hj : j = z.toNat
    · rw [if_pos hj, if_pos ⟨rfl, by omega⟩]
    · rw [if_neg hj, if_neg (by omega)])] at hP1
  exact k F H1 locs1 ls hP1 hS1 hl
theorem fl_nat (v : UInt32) : fl (v.toNat : Int) = v := by simp [fl]
theorem G.fast {o n : Nat} {z : Int} {v : UInt32} (hd : decode (mdC md) pc = .ok (.fastore, 1)) (hs : shp o = (3, n, [])) (hz : 0 ≤ z ∧ z < n) (k : G md X (pc + 1) L S (wr σ o z v.toNat)) : G md X pc L (vf v :: vi z :: vr o :: S) σ := by
  obtain ⟨⟨l, p, e, R, s, m', args, below, meth, c⟩, ⟨D, cA, ad, A⟩, ⟨kc, n', Q⟩⟩ := X
  intro F H locs ls hP hS hl
  obtain ⟨hx, hb, hml, hr, hown, hts, hlk, hf, hlo, hc, hsl, hK⟩ := id F
  obtain ⟨h1, h2, h3⟩ := sh_arr (ad := ad) (cA := cA) (σ := σ) hs (by decide)
  refine va_fast hx hb hK.1 hP (wl_D hK) hS o 2 h3 rfl (oi_in (n := n) hz.1 hz.2 (by omega)) hd (fun H1 locs1 hP1 hD1 hS1 => ?_)
  rw [wl_set (wr_ne σ o z v.toNat) (by
    rw [hs]
    show _ = Sum.inl (cA 2, n, Sum.inr (Sum.inr (Sum.inl _)))
    congr 6
    rw [oi_cl hz.1 (by omega)]
    funext j
    unfold vf_upd wr
    by_cases hj : j = z.toNat
    · rw [if_pos hj, if_pos ⟨rfl, by omega⟩, fl_nat]
    · rw [if_neg hj, if_neg (by omega)])] at hP1
  exact k F H1 locs1 ls hP1 hS1 hl
-- fields
def flk (own : String) (idx ci k : Nat) : Prop := ∃ q : vw_C, vwCl[ci]? = some q ∧ k < q.2.2 ∧ Cond.fieldLink own idx (q.2.1 k).1 (q.2.1 k).2.1 (q.2.1 k).2.2.1 ∈ GW
theorem G.getV {idx ci kf : Nat} {o : Nat} {fs : List (Nat × Nat)} {q : Nat × Nat} {v : AV} (hd : decode (mdC md) pc = .ok (.getfield idx, 3)) (hf : flk (mdO md) idx ci kf) (hs : shp o = (0, ci, fs)) (hk : fs[kf]? = some q) (hv : ∀ ad, fv ad (σ o) kf q = cv ad v) (k : G md X (pc + 3) L (v :: S) σ) : G md X pc L (vr o :: S) σ := by
  obtain ⟨⟨l, p, e, R, s, m', args, below, meth, c⟩, ⟨D, cA, ad, A⟩, ⟨kc, n', Q⟩⟩ := X
  intro F H locs ls hP hS hl
  obtain ⟨hx, hb, hml, hr, hown, hts, hlk, hff, hlo, hc, hsl, hK⟩ := id F
  obtain ⟨h1, h2, h3⟩ := sh_arr (ad := ad) (cA := cA) (σ := σ) hs (by decide)
  obtain ⟨⟨C, T, N⟩, g1, g2, g3⟩ := hf
  exact va_get hx hb hts (cl_in g1) hown hK.1 hP o h3 g1 kf g2 (hts _ g3) (fun x hx => hx) (v := cv ad v) (by rw [fvs_at hk, hv]) hd (k F H locs ls hP hS hl)
theorem G.getI {idx ci kf : Nat} {o t : Nat} {fs : List (Nat × Nat)} {j : Int} (hd : decode (mdC md) pc = .ok (.getfield idx, 3)) (hf : flk (mdO md) idx ci kf) (hs : shp o = (0, ci, fs)) (hk : fs[kf]? = some (t, 0)) (ht : (t == 0 || t == 5) = true) (hj : ((kf : Nat) : Int) = j) (k : G md X (pc + 3) L (vi (σ o j) :: S) σ) : G md X pc L (vr o :: S) σ := by
  subst hj
  refine G.getV hd hf hs hk (fun ad => ?_) k
  rcases Bool.or_eq_true_iff.mp ht with h | h
  · have e : t = 0 := by simpa using h
    subst e; rfl
  · have e : t = 5 := by simpa using h
    subst e; rfl
theorem G.getR {idx ci kf : Nat} {o o' : Nat} {fs : List (Nat × Nat)} (hd : decode (mdC md) pc = .ok (.getfield idx, 3)) (hf : flk (mdO md) idx ci kf) (hs : shp o = (0, ci, fs)) (hk : fs[kf]? = some (2, o')) (k : G md X (pc + 3) L (vr o' :: S) σ) : G md X pc L (vr o :: S) σ :=
  G.getV hd hf hs hk (fun ad => rfl) k
theorem G.getF {idx ci kf : Nat} {o : Nat} {fs : List (Nat × Nat)} {j : Int} (hd : decode (mdC md) pc = .ok (.getfield idx, 3)) (hf : flk (mdO md) idx ci kf) (hs : shp o = (0, ci, fs)) (hk : fs[kf]? = some (1, 0)) (hj : ((kf : Nat) : Int) = j) (k : G md X (pc + 3) L (vf (fl (σ o j)) :: S) σ) : G md X pc L (vr o :: S) σ := by
  subst hj
  exact G.getV hd hf hs hk (fun ad => rfl) k
theorem G.putV {idx ci kf : Nat} {o : Nat} {fs : List (Nat × Nat)} {q : Nat × Nat} {C : vw_C} {v : AV} {ty : FieldType} {w : Int} (hd : decode (mdC md) pc = .ok (.putfield idx, 3)) (hf : flk (mdO md) idx ci kf) (hs : shp o = (0, ci, fs)) (hk : fs[kf]? = some q) (hC : vwCl[ci]? = some C) (hfin : (C.2.1 kf).2.2.2 = false) (hty : ckT ci kf = ty)
    (hn : ∀ ad, narrow ty (cv ad v) = cv ad v ∧ fits ty (cv ad v) = true) (hv : ∀ ad, cv ad v = fv ad (wr σ o kf w o) kf q) (k : G md X (pc + 3) L S (wr σ o kf w)) : G md X pc L (v :: vr o :: S) σ := by
  obtain ⟨⟨l, p, e, R, s, m', args, below, meth, c⟩, ⟨D, cA, ad, A⟩, ⟨kc, n', Q⟩⟩ := X
  intro F H locs ls hP hS hl
  obtain ⟨hx, hb, hml, hr, hown, hts, hlk, hff, hlo, hc, hsl, hK⟩ := id F
  obtain ⟨h1, h2, h3⟩ := sh_arr (ad := ad) (cA := cA) (σ := σ) hs (by decide)
  obtain ⟨⟨C', T, N⟩, g1, g2, g3⟩ := hf
  cases hC.symm.trans g1
  subst hty
  refine va_put hx hb hts (cl_in g1) (ckT ci) (cl_ty g1) (cl_nm g1) hown hK.1 hP (wl_D hK) hS o h3 g1 kf g2 (hts _ g3) (fun x hx => hx) hfin (cl_ty g1 kf g2) (hn ad).1 (hn ad).2 (by have := (List.getElem?_eq_some_iff.mp (fvs_at (ad := ad) (row := σ o) hk)).1; exact this) hd (fun H1 locs1 hP1 hD1 hS1 => ?_)
  rw [wl_set (wr_ne σ o kf w) (by
    rw [hs]
    show _ = Sum.inr (ci, fvs ad (wr σ o kf w o) fs)
    rw [fvs_set (row' := wr σ o kf w o) hk (fun j hj => by unfold wr; rw [if_neg (by omega)]) (hv ad)])] at hP1
  exact k F H1 locs1 ls hP1 hS1 hl
theorem wr_self (σ : St) (o : Nat) (i v : Int) : wr σ o i v o i = v := by simp [wr]
theorem G.putI {idx ci kf : Nat} {o : Nat} {fs : List (Nat × Nat)} {C : vw_C} {v j : Int} (hd : decode (mdC md) pc = .ok (.putfield idx, 3)) (hf : flk (mdO md) idx ci kf) (hs : shp o = (0, ci, fs)) (hk : fs[kf]? = some (0, 0)) (hC : vwCl[ci]? = some C) (hfin : (C.2.1 kf).2.2.2 = false) (hty : ckT ci kf = .int) (hj : ((kf : Nat) : Int) = j) (k : G md X (pc + 3) L S (wr σ o j v)) : G md X pc L (vi v :: vr o :: S) σ := by
  subst hj
  refine G.putV hd hf hs hk hC hfin hty (fun ad => ⟨rfl, rfl⟩) (fun ad => ?_) k
  show Value.int (Int32.ofInt v) = Value.int (Int32.ofInt (wr σ o kf v o kf))
  rw [wr_self]
theorem G.putZ {idx ci kf : Nat} {o : Nat} {fs : List (Nat × Nat)} {C : vw_C} {v j : Int} (hd : decode (mdC md) pc = .ok (.putfield idx, 3)) (hf : flk (mdO md) idx ci kf) (hs : shp o = (0, ci, fs)) (hk : fs[kf]? = some (5, 0)) (hC : vwCl[ci]? = some C) (hfin : (C.2.1 kf).2.2.2 = false) (hty : ckT ci kf = .boolean) (hj : ((kf : Nat) : Int) = j) (hv : v = 0 ∨ v = 1) (k : G md X (pc + 3) L S (wr σ o j v)) : G md X pc L (vi v :: vr o :: S) σ := by
  subst hj
  refine G.putV hd hf hs hk hC hfin hty (fun ad => ?_) (fun ad => ?_) k
  · rcases hv with rfl | rfl
    · show narrow .boolean (.int (Int32.ofInt 0)) = .int (Int32.ofInt 0) ∧ fits .boolean (.int (Int32.ofInt 0)) = true
      exact ⟨by decide, by decide⟩
    · show narrow .boolean (.int (Int32.ofInt 1)) = .int (Int32.ofInt 1) ∧ fits .boolean (.int (Int32.ofInt 1)) = true
      exact ⟨by decide, by decide⟩
  · show Value.int (Int32.ofInt v) = Value.int (Int32.ofInt (wr σ o kf v o kf))
    rw [wr_self]
theorem G.putF {idx ci kf : Nat} {o : Nat} {fs : List (Nat × Nat)} {C : vw_C} {v : UInt32} {j : Int} (hd : decode (mdC md) pc = .ok (.putfield idx, 3)) (hf : flk (mdO md) idx ci kf) (hs : shp o = (0, ci, fs)) (hk : fs[kf]? = some (1, 0)) (hC : vwCl[ci]? = some C) (hfin : (C.2.1 kf).2.2.2 = false) (hty : ckT ci kf = .float) (hj : ((kf : Nat) : Int) = j) (k : G md X (pc + 3) L S (wr σ o j v.toNat)) : G md X pc L (vf v :: vr o :: S) σ := by
  subst hj
  refine G.putV hd hf hs hk hC hfin hty (fun ad => ⟨rfl, rfl⟩) (fun ad => ?_) k
  show Value.float v = Value.float (fl (wr σ o kf v.toNat o kf))
  rw [wr_self, fl_nat]
-- static tables
theorem G.getsL {idx i : Nat} (hd : decode (mdC md) pc = .ok (.getstatic idx, 3)) (hw : lw_tbl[i]? = some (.fieldLink (mdO md) idx RX2 "LIGHT" "[I")) (k : G md X (pc + 3) L (vr 105 :: S) σ) : G md X pc L S σ := by
  obtain ⟨⟨l, p, e, R, s, m', args, below, meth, c⟩, ⟨D, cA, ad, A⟩, ⟨kc, n', Q⟩⟩ := X
  intro F H locs ls hP hS hl
  obtain ⟨hx, hb, hml, hr, hown, hts, hlk, hff, hlo, hc, hsl, hK⟩ := id F
  exact va_gets hx hb hK.2.2.2.1 hS hown (hts _ (gw_at hw rfl)) (fun x hx => hx) hd (k F H locs ls hP hS hl)
theorem G.getsD {idx i : Nat} (hd : decode (mdC md) pc = .ok (.getstatic idx, 3)) (hw : lw_tbl[i]? = some (.fieldLink (mdO md) idx RX8 "DEED" "[I")) (k : G md X (pc + 3) L (vr 106 :: S) σ) : G md X pc L S σ := by
  obtain ⟨⟨l, p, e, R, s, m', args, below, meth, c⟩, ⟨D, cA, ad, A⟩, ⟨kc, n', Q⟩⟩ := X
  intro F H locs ls hP hS hl
  obtain ⟨hx, hb, hml, hr, hown, hts, hlk, hff, hlo, hc, hsl, hK⟩ := id F
  exact va_gets hx hb hK.2.2.2.2.1 hS hown (hts _ (gw_at hw rfl)) (fun x hx => hx) hd (k F H locs ls hP hS hl)
theorem G.getsS {idx i : Nat} (hd : decode (mdC md) pc = .ok (.getstatic idx, 3)) (hw : lw_tbl[i]? = some (.fieldLink (mdO md) idx RX8 "STAGE" "[I")) (k : G md X (pc + 3) L (vr 107 :: S) σ) : G md X pc L S σ := by
  obtain ⟨⟨l, p, e, R, s, m', args, below, meth, c⟩, ⟨D, cA, ad, A⟩, ⟨kc, n', Q⟩⟩ := X
  intro F H locs ls hP hS hl
  obtain ⟨hx, hb, hml, hr, hown, hts, hlk, hff, hlo, hc, hsl, hK⟩ := id F
  exact va_gets hx hb hK.2.2.2.2.2.1 hS hown (hts _ (gw_at hw rfl)) (fun x hx => hx) hd (k F H locs ls hP hS hl)
end RULES
section CALLS
variable {md : MD} {X : CT} {pc : Nat} {L : List (Nat × AV)} {S : List AV} {σ : St}
/-- contracts: from the store σ, with arguments av, the method answers z with a store: P z σ' -/
def WQ (D : va_G) (cA : Nat → ClassId) (ad : Nat → Nat) : St → State → Prop := fun u t => va_P D vwCl (WL ad cA u) t.heap
def PC (D : va_G) (cA : Nat → ClassId) (ad : Nat → Nat) (av : List AV) (σ : St) : Array Value → State → Prop := va_Pc (av.map (cv ad)) (fun U => va_P D vwCl (WL ad cA σ) U.heap ∧ KW D cA ad (AD ad) U U.heap)
def wsM (md : MD) : List Cond := Cond.code (mdY md) (mdC md) (mdN md) (mdR md) :: GW
def rmM (md : MD) : Room := { frames := mdF md, cells := 0, slots := 0, locals := 36 * mdF md }
def QI (P : Int → St → Prop) (D : va_G) (cA : Nat → ClassId) (ad : Nat → Nat) : Array Value → State → Outcome → State → Prop := va_Qi (fun (r : Int32) (u : St) => ∃ z, r = Int32.ofInt z ∧ inI z ∧ P z u) (WQ D cA ad) (AD ad)
def QV (P : St → Prop) (D : va_G) (cA : Nat → ClassId) (ad : Nat → Nat) : Array Value → State → Outcome → State → Prop := va_Qv (fun u : St => P u) (WQ D cA ad) (AD ad)
def CI (md : MD) (av : List AV) (σ : St) (P : Int → St → Prop) : Prop := ∀ (l : Launch) (D : va_G) (cA : Nat → ClassId) (ad : Nat → Nat), Met l (mdY md) (wsM md) (rmM md) (PC D cA ad av σ) (QI P D cA ad) 0 0 (AD ad)
def CV (md : MD) (av : List AV) (σ : St) (P : St → Prop) : Prop := ∀ (l : Launch) (D : va_G) (cA : Nat → ClassId) (ad : Nat → Nat), Met l (mdY md) (wsM md) (rmM md) (PC D cA ad av σ) (QV P D cA ad) 0 0 (AD ad)
def RI (X : CT) (P : Int → St → Prop) : Prop := match X with
  | ((_, _, _, _, s, _, args, below, _, _), (D, cA, ad, A), (k, n, Q)) => Q = MQ below (QI P D cA ad) args s 0 0 (AD ad) ∧ A = AD ad ∧ k = 0 ∧ n = 0
def RV (X : CT) (P : St → Prop) : Prop := match X with
  | ((_, _, _, _, s, _, args, below, _, _), (D, cA, ad, A), (k, n, Q)) => Q = MQ below (QV P D cA ad) args s 0 0 (AD ad) ∧ A = AD ad ∧ k = 0 ∧ n = 0
theorem G.iret {P : Int → St → Prop} {z : Int} (hX : RI X P) (hd : decode (mdC md) pc = .ok (.ireturn, 1)) (hr : mdR md = some .int) (hz : inI z) (hp : P z σ) : G md X pc L [vi z] σ := by
  obtain ⟨⟨l, p, e, R, s, m', args, below, meth, c⟩, ⟨D, cA, ad, A⟩, ⟨kc, n', Q⟩⟩ := X
  obtain ⟨hQ, hA, hk, hn⟩ := hX
  subst hQ; subst hA; subst hk; subst hn
  intro F H locs ls hP hS hl
  obtain ⟨hx, hb, hml, hr', hown, hts, hlk, hff, hlo, hc, hsl, hK⟩ := id F
  exact W.iret hx hb (hr'.trans hr) (fun t ht hW => ⟨⟨_, σ, rfl, ⟨z, rfl, hz, hp⟩, by unfold WQ; rw [ht]; exact hP⟩, hS.F ht⟩) (fun q hq => hS.2.2 q hq) hd hlk
theorem G.zret {P : Int → St → Prop} {z : Int} (hX : RI X P) (hd : decode (mdC md) pc = .ok (.ireturn, 1)) (hr : mdR md = some .boolean) (hz : z = 0 ∨ z = 1) (hp : P z σ) : G md X pc L [vi z] σ := by
  obtain ⟨⟨l, p, e, R, s, m', args, below, meth, c⟩, ⟨D, cA, ad, A⟩, ⟨kc, n', Q⟩⟩ := X
  obtain ⟨hQ, hA, hk, hn⟩ := hX
  subst hQ; subst hA; subst hk; subst hn
  intro F H locs ls hP hS hl
  obtain ⟨hx, hb, hml, hr', hown, hts, hlk, hff, hlo, hc, hsl, hK⟩ := id F
  exact W.zret hx hb (hr'.trans hr) (by rcases hz with rfl | rfl <;> decide) (fun t ht hW => ⟨⟨_, σ, rfl, ⟨z, rfl, by rcases hz with rfl | rfl <;> exact ⟨by decide, by decide⟩, hp⟩, by unfold WQ; rw [ht]; exact hP⟩, hS.F ht⟩) (fun q hq => hS.2.2 q hq) hd hlk
theorem G.vret {P : St → Prop} (hX : RV X P) (hd : decode (mdC md) pc = .ok (.return_, 1)) (hr : mdR md = none) (hp : P σ) : G md X pc L [] σ := by
  obtain ⟨⟨l, p, e, R, s, m', args, below, meth, c⟩, ⟨D, cA, ad, A⟩, ⟨kc, n', Q⟩⟩ := X
  obtain ⟨hQ, hA, hk, hn⟩ := hX
  subst hQ; subst hA; subst hk; subst hn
  intro F H locs ls hP hS hl
  obtain ⟨hx, hb, hml, hr', hown, hts, hlk, hff, hlo, hc, hsl, hK⟩ := id F
  exact W.vret hx hb (hr'.trans hr) (fun t ht hW => ⟨⟨σ, rfl, hp, by unfold WQ; rw [ht]; exact hP⟩, hS.F ht⟩) (fun q hq => hS.2.2 q hq) hd hlk
/-- the locals at a method's start -/
def arL : Nat → List AV → List (Nat × AV)
  | _, [] => []
  | i, v :: vs => (i, v) :: arL (i + 1) vs
theorem arL_args (ad : Nat → Nat) : ∀ (vs : List AV) (i : Nat), lv_args i (vs.map (cv ad)) = (arL i vs).map (fun q => (q.1, cv ad q.2))
  | [], _ => rfl
  | v :: vs, i => by
    have h := arL_args ad vs (i + 1)
    have hc := cv_cat ad v
    simp only [List.map_cons, arL, lv_args, hc]
    rw [← h]
    rfl
theorem arL_len (ad : Nat → Nat) (vs : List AV) : (lg_sl (vs.map (cv ad))).length = vs.length := by
  induction vs with
  | nil => rfl
  | cons v vs ih =>
    have hc := cv_cat ad v
    have h : lg_sl ((v :: vs).map (cv ad)) = lg_sl [cv ad v] ++ lg_sl (vs.map (cv ad)) := by simp [lg_sl]
    rw [h, List.length_append, ih]
    rcases v with z | o | f <;> simp [lg_sl, cv, Value.category] <;> omega
theorem fx_start {md : MD} {l : Launch} {D : va_G} {cA : Nat → ClassId} {ad : Nat → Nat} {av : List AV} {p : Program} {e : Env} {s : State} {m : MethodId} {args : Array Value} {below : List Frame} {meth : Method} {c : Code} {s₁ : State} {Q : State → Prop} (hown : mdO md = (mdY md).cls) (B : BodyLoose p l (mdY md) (headSpec (wsM md) (rmM md)) (mdC md) (mdN md) (mdR md) e s m args below meth c s₁) (hml : c.maxLocals = mdN md) (hK : KW D cA ad (AD ad) s s.heap) :
    Fx md ((l, p, e, (headSpec (wsM md) (rmM md)).room, s, m, args, below, meth, c), (D, cA, ad, AD ad), (0, 0, Q)) := by
  have hts := atoms_spec (ws := wsM md) B.pre
  refine ⟨B.exec, B.bytes, hml, B.returns, ?_, fun w hw => hts w (List.mem_cons_of_mem _ hw), B.notSynchronized, Nat.le_refl _, Nat.le_refl _, Nat.zero_le _, Nat.zero_le _, hK⟩
  rw [hown]
  exact findClass_of_methodNamed B.named
theorem CI_of {md : MD} {av : List AV} {σ : St} {P : Int → St → Prop} (hy : plainName (mdY md).cls = true) (hn : av.length ≤ mdN md) (hown : mdO md = (mdY md).cls) (h : ∀ X, RI X P → G md X 0 (arL 0 av) [] σ) : CI md av σ P := by
  intro l D cA ad
  refine Met.ofW (cc := mdC md) (maxL := mdN md) (ret := mdR md) hy rfl ?_
  intro p e s m args below meth c s₁ B hml hv
  obtain ⟨rfl, hP, hK⟩ := hv
  have hl := lv_entry (av.map (cv ad)) (n := mdN md) (by rw [arL_len]; exact hn)
  rw [lg_entry_eq]
  rw [arL_args] at hl
  exact h ((l, p, e, (headSpec (wsM md) (rmM md)).room, s, m, _, below, meth, c), (D, cA, ad, AD ad), (0, 0, MQ below (QI P D cA ad) _ s 0 0 (AD ad))) ⟨rfl, rfl, rfl, rfl⟩ (fx_start (av := av) hown B hml hK) s.heap [] _ hP va_S.rf hl
theorem CV_of {md : MD} {av : List AV} {σ : St} {P : St → Prop} (hy : plainName (mdY md).cls = true) (hn : av.length ≤ mdN md) (hown : mdO md = (mdY md).cls) (h : ∀ X, RV X P → G md X 0 (arL 0 av) [] σ) : CV md av σ P := by
  intro l D cA ad
  refine Met.ofW (cc := mdC md) (maxL := mdN md) (ret := mdR md) hy rfl ?_
  intro p e s m args below meth c s₁ B hml hv
  obtain ⟨rfl, hP, hK⟩ := hv
  have hl := lv_entry (av.map (cv ad)) (n := mdN md) (by rw [arL_len]; exact hn)
  rw [lg_entry_eq]
  rw [arL_args] at hl
  exact h ((l, p, e, (headSpec (wsM md) (rmM md)).room, s, m, _, below, meth, c), (D, cA, ad, AD ad), (0, 0, MQ below (QV P D cA ad) _ s 0 0 (AD ad))) ⟨rfl, rfl, rfl, rfl⟩ (fx_start (av := av) hown B hml hK) s.heap [] _ hP va_S.rf hl
theorem CI.mono {md : MD} {av : List AV} {σ : St} {P P' : Int → St → Prop} (h : CI md av σ P) (hp : ∀ z u, P z u → P' z u) : CI md av σ P' := by
  intro l D cA ad
  intro p e ha hc hk s m args below hf hfit hheap happ
  obtain ⟨k, o, h1, h2, h3, ⟨⟨⟨r, u, g1, ⟨z, g2, g3, g4⟩, g5⟩, g6⟩, g7⟩⟩ := h l D cA ad p e ha hc hk s m args below hf hfit hheap happ
  exact ⟨k, o, h1, h2, h3, ⟨⟨r, u, g1, ⟨z, g2, g3, hp z u g4⟩, g5⟩, g6⟩, g7⟩
theorem CV.mono {md : MD} {av : List AV} {σ : St} {P P' : St → Prop} (h : CV md av σ P) (hp : ∀ u, P u → P' u) : CV md av σ P' := by
  intro l D cA ad
  intro p e ha hc hk s m args below hf hfit hheap happ
  obtain ⟨k, o, h1, h2, h3, ⟨⟨⟨u, g1, g4, g5⟩, g6⟩, g7⟩⟩ := h l D cA ad p e ha hc hk s m args below hf hfit hheap happ
  exact ⟨k, o, h1, h2, h3, ⟨⟨u, g1, hp u g4, g5⟩, g6⟩, g7⟩
theorem PC_blind {D : va_G} {cA : Nat → ClassId} {ad : Nat → Nat} {av : List AV} {σ : St} : FrameBlind (PC D cA ad av σ) := by
  intro a U g mk q
  obtain ⟨h1, h2, h3⟩ := q
  exact ⟨h1, h2, KW.moved (U := U.calling g mk a) (Vm.Alike.refl U.vm) (NW.same (u := U) rfl h3.2.2.2.2.2.2.2) h3⟩
theorem cats_le {ad : Nat → Nat} {rest : List AV} (h : rest.length ≤ 8) : ((rest.map (cv ad)).map fun v => v.category).sum ≤ 8 := by
  have e : ∀ l : List AV, ((l.map (cv ad)).map fun v => v.category).sum = l.length := by
    intro l
    induction l with
    | nil => rfl
    | cons a l ih => simp only [List.map_cons, List.sum_cons, ih, cv_cat, List.length_cons]; omega
  rw [e]; exact h
def okM (md2 : MD) (n : Nat) : Prop := Cond.initialized (mdY md2).cls ∈ GW ∧ Cond.code (mdY md2) (mdC md2) (mdN md2) (mdR md2) ∈ GW ∧ (mdY md2).cls ≠ "java/lang/invoke/MethodHandle" ∧ (mdY md2).cls ≠ "java/lang/invoke/VarHandle" ∧ (parseMethodDescriptor (mdY md2).desc).map (fun d => d.parameters.length) = some n ∧ mdN md2 ≤ 17
def vlk (own : String) (idx : Nat) (md2 : MD) (n : Nat) : Prop := Cond.methodLink own idx (mdY md2) ∈ GW ∧ Cond.instanceMethod (mdY md2) ∈ GW ∧ Cond.selects (mdY md2).cls (mdY md2) (mdY md2) ∈ GW ∧ okM md2 n
def slk (own : String) (idx : Nat) (md2 : MD) (n : Nat) : Prop := Cond.methodLink own idx (mdY md2) ∈ GW ∧ Cond.static (mdY md2) ∈ GW ∧ okM md2 n
theorem gw_goodIn {ws : List Cond} (h : ∀ w ∈ ws, w ∈ GW) : GoodIn GW ws := fun w hw => ⟨h w hw, good_of_word (gw_good (h w hw))⟩
theorem KW.at {D : va_G} {cA : Nat → ClassId} {ad : Nat → Nat} {A : Addr → Prop} {s U : State} {H : Heap} {locs : List Loc} (hK : KW D cA ad A s s.heap) (hS : va_S A s.heap H locs) (hU : U.heap = H) (hW : s.WarmedH U.vm) : KW D cA ad (AD ad) U U.heap := by
  rw [hU]
  exact KW.moved hW.alike (NW.warm hW hK.2.2.2.2.2.2.2) (KW.narrow (KW.kept (fun a h1 h2 => hS.2.1 a h1 h2) hK))
theorem cwVm {md md2 : MD} {R : Room} {s : State} {args : Array Value} {idx n : Nat} (hts : ∀ w ∈ GW, w.before args s = true) (hw : vlk (mdO md) idx md2 n) (hf1 : mdF md2 + 1 ≤ mdF md) (hff : mdF md ≤ R.frames) (hlo : 36 * mdF md ≤ R.locals) :
    CallW R s args (mdO md) (mdY md2).cls idx (mdY md2) (mdC md2) (mdN md2) (mdR md2) (wsM md2) (rmM md2) 0 0 n := by
  obtain ⟨w1, w2, w3, w4, w5, w6, w7, w8, w9⟩ := hw
  refine cwV n hts (gw_goodIn (fun w h => ?_)) rfl rfl rfl ⟨rfl, w6, w7, w8⟩ ⟨?_, ?_⟩
  · unfold wsV wsM at h
    simp only [List.mem_append, List.mem_cons, List.not_mem_nil, or_false] at h
    rcases h with (rfl | rfl | rfl | rfl) | (rfl | h)
    · exact w1
    · exact w2
    · exact w3
    · exact w4
    · exact w5
    · exact h
  · show mdF md2 + 1 ≤ R.frames
    omega
  · show 8 + (mdN md2 + 11) + 36 * mdF md2 ≤ R.locals
    omega
theorem cwSm {md md2 : MD} {R : Room} {s : State} {args : Array Value} {idx n : Nat} (hts : ∀ w ∈ GW, w.before args s = true) (hw : slk (mdO md) idx md2 n) (hf1 : mdF md2 + 1 ≤ mdF md) (hff : mdF md ≤ R.frames) (hlo : 36 * mdF md ≤ R.locals) :
    CallB R s args (mdO md) idx (mdY md2) (mdC md2) (mdN md2) (mdR md2) (wsM md2) (rmM md2) 0 0 n ∧ (Cond.static (mdY md2)).before args s = true := by
  obtain ⟨w1, w2, w4, w5, w6, w7, w8, w9⟩ := hw
  refine va_cwS n hts (gw_goodIn (fun w h => ?_)) rfl rfl rfl ⟨w6, w7, w8⟩ ⟨?_, ?_⟩
  · unfold va_wsS wsM at h
    simp only [List.mem_append, List.mem_cons, List.not_mem_nil, or_false] at h
    rcases h with (rfl | rfl | rfl) | (rfl | h)
    · exact w1
    · exact w2
    · exact w4
    · exact w5
    · exact h
  · show mdF md2 + 1 ≤ R.frames
    omega
  · show 8 + (mdN md2 + 11) + 36 * mdF md2 ≤ R.locals
    omega
def clN (ci : Nat) : String := (vwCl.getD ci ("", fun _ => ("", "", "", false), 0)).1
theorem recvO {D : va_G} {cA : Nat → ClassId} {ad : Nat → Nat} {σ : St} {s : State} {H : Heap} {o ci : Nat} {fs : List (Nat × Nat)} {C : String} (hK : va_K D vwCl (tysA cA) s) (hP : va_P D vwCl (WL ad cA σ) H) (hs : shp o = (0, ci, fs)) (hc : clN ci = C) (hci : ci < 10) : ∃ cell : Cell, H[ad o]? = some cell ∧ cell.vm.isStatics = false ∧ s.vm.findClass C = some cell.cls := by
  obtain ⟨h1, h2, h3⟩ := sh_arr (ad := ad) (cA := cA) (σ := σ) hs (by decide)
  have e : vwCl[ci]? = some (vwCl.getD ci ("", fun _ => ("", "", "", false), 0)) := by
    rw [List.getD_eq_getElem?_getD, List.getElem?_eq_getElem (show ci < vwCl.length from hci)]
    rfl
  subst hc
  exact va_recv hK hP e h3
theorem G.callVI {md2 : MD} {idx o ci : Nat} {fs : List (Nat × Nat)} {as rest S0 : List AV} {P : Int → St → Prop} (hd : decode (mdC md) pc = .ok (.invokevirtual idx, 3)) (hS0 : S0 = as.reverse ++ vr o :: rest) (hw : vlk (mdO md) idx md2 as.length) (hf1 : mdF md2 + 1 ≤ mdF md) (hs : shp o = (0, ci, fs)) (hc : clN ci = (mdY md2).cls) (hci : ci < 10) (hr : rest.length ≤ 8)
    (hM : CI md2 (vr o :: as) σ P) (k : ∀ (z : Int) (σ' : St), inI z → P z σ' → G md X (pc + 3) L (vi z :: rest) σ') : G md X pc L S0 σ := by
  subst hS0
  obtain ⟨⟨l, p, e, R, s, m', args, below, meth, c⟩, ⟨D, cA, ad, A⟩, ⟨kc, n', Q⟩⟩ := X
  intro F H locs ls hP hS hl
  obtain ⟨hx, hb, hml, hr', hown, hts, hlk, hff, hlo, hcc, hsl, hK⟩ := id F
  have hAD : ∀ q, AD ad q → A q := fun q ⟨o, ho, e⟩ => e ▸ hK.2.2.1 o ho
  rw [show (as.reverse ++ vr o :: rest).map (cv ad) = (as.map (cv ad)).reverse ++ Value.ref (ad o) :: rest.map (cv ad) by simp [cv]]
  refine va_calli (va_runV (As := as.map (cv ad)) (rest := rest.map (cv ad)) ⟨hx, hb, hml, hown, hts⟩ (hM l D cA ad) (cwVm hts hw hf1 hff hlo) ⟨PC_blind, recvO hK.1 hP hs hc hci, fun U hU hW => ⟨rfl, by rw [hU]; exact hP, hK.at hS hU hW⟩⟩ rfl (by rw [List.length_map]) hl.1 rfl (lv_room (cats_le hr)) hd ⟨hcc, hsl⟩) hS (fun q _ h => hAD q h) hAD (fun r u t H1 locs1 ht hvm hp hB hz1 hk1 hS1 => ?_)
  obtain ⟨z, rfl, hz, hpz⟩ := hp
  unfold WQ at hB
  rw [ht] at hB
  exact k z u hz hpz F H1 locs1 ls hB hS1 hl
theorem G.callVV {md2 : MD} {idx o ci : Nat} {fs : List (Nat × Nat)} {as rest S0 : List AV} {P : St → Prop} (hd : decode (mdC md) pc = .ok (.invokevirtual idx, 3)) (hS0 : S0 = as.reverse ++ vr o :: rest) (hw : vlk (mdO md) idx md2 as.length) (hf1 : mdF md2 + 1 ≤ mdF md) (hs : shp o = (0, ci, fs)) (hc : clN ci = (mdY md2).cls) (hci : ci < 10) (hr : rest.length ≤ 8)
    (hM : CV md2 (vr o :: as) σ P) (k : ∀ (σ' : St), P σ' → G md X (pc + 3) L rest σ') : G md X pc L S0 σ := by
  subst hS0
  obtain ⟨⟨l, p, e, R, s, m', args, below, meth, c⟩, ⟨D, cA, ad, A⟩, ⟨kc, n', Q⟩⟩ := X
  intro F H locs ls hP hS hl
  obtain ⟨hx, hb, hml, hr', hown, hts, hlk, hff, hlo, hcc, hsl, hK⟩ := id F
  have hAD : ∀ q, AD ad q → A q := fun q ⟨o, ho, e⟩ => e ▸ hK.2.2.1 o ho
  rw [show (as.reverse ++ vr o :: rest).map (cv ad) = (as.map (cv ad)).reverse ++ Value.ref (ad o) :: rest.map (cv ad) by simp [cv]]
  refine va_callv (va_runV (As := as.map (cv ad)) (rest := rest.map (cv ad)) ⟨hx, hb, hml, hown, hts⟩ (hM l D cA ad) (cwVm hts hw hf1 hff hlo) ⟨PC_blind, recvO hK.1 hP hs hc hci, fun U hU hW => ⟨rfl, by rw [hU]; exact hP, hK.at hS hU hW⟩⟩ rfl (by rw [List.length_map]) hl.1 rfl (lv_room (cats_le hr)) hd ⟨hcc, hsl⟩) hS (fun q _ h => hAD q h) hAD (fun u t H1 locs1 ht hvm hp hB hz1 hk1 hS1 => ?_)
  unfold WQ at hB
  rw [ht] at hB
  exact k u hp F H1 locs1 ls hB hS1 hl
theorem G.callSI {md2 : MD} {idx : Nat} {as rest S0 : List AV} {P : Int → St → Prop} (hd : decode (mdC md) pc = .ok (.invokestatic idx, 3)) (hS0 : S0 = as.reverse ++ rest) (hw : slk (mdO md) idx md2 as.length) (hf1 : mdF md2 + 1 ≤ mdF md) (hr : rest.length ≤ 8)
    (hM : CI md2 as σ P) (k : ∀ (z : Int) (σ' : St), inI z → P z σ' → G md X (pc + 3) L (vi z :: rest) σ') : G md X pc L S0 σ := by
  subst hS0
  obtain ⟨⟨l, p, e, R, s, m', args, below, meth, c⟩, ⟨D, cA, ad, A⟩, ⟨kc, n', Q⟩⟩ := X
  intro F H locs ls hP hS hl
  obtain ⟨hx, hb, hml, hr', hown, hts, hlk, hff, hlo, hcc, hsl, hK⟩ := id F
  have hAD : ∀ q, AD ad q → A q := fun q ⟨o, ho, e⟩ => e ▸ hK.2.2.1 o ho
  rw [show (as.reverse ++ rest).map (cv ad) = (as.map (cv ad)).reverse ++ rest.map (cv ad) by simp]
  refine va_calli (va_runS (As := as.map (cv ad)) (rest := rest.map (cv ad)) ⟨hx, hb, hml, hown, hts⟩ (hM l D cA ad) (cwSm hts hw hf1 hff hlo) ⟨PC_blind, fun U hU hW => ⟨rfl, by rw [hU]; exact hP, hK.at hS hU hW⟩⟩ rfl (by rw [List.length_map]) hl.1 rfl (lv_room (cats_le hr)) hd ⟨hcc, hsl⟩) hS (fun q _ h => hAD q h) hAD (fun r u t H1 locs1 ht hvm hp hB hz1 hk1 hS1 => ?_)
  obtain ⟨z, rfl, hz, hpz⟩ := hp
  unfold WQ at hB
  rw [ht] at hB
  exact k z u hz hpz F H1 locs1 ls hB hS1 hl
theorem G.callSV {md2 : MD} {idx : Nat} {as rest S0 : List AV} {P : St → Prop} (hd : decode (mdC md) pc = .ok (.invokestatic idx, 3)) (hS0 : S0 = as.reverse ++ rest) (hw : slk (mdO md) idx md2 as.length) (hf1 : mdF md2 + 1 ≤ mdF md) (hr : rest.length ≤ 8)
    (hM : CV md2 as σ P) (k : ∀ (σ' : St), P σ' → G md X (pc + 3) L rest σ') : G md X pc L S0 σ := by
  subst hS0
  obtain ⟨⟨l, p, e, R, s, m', args, below, meth, c⟩, ⟨D, cA, ad, A⟩, ⟨kc, n', Q⟩⟩ := X
  intro F H locs ls hP hS hl
  obtain ⟨hx, hb, hml, hr', hown, hts, hlk, hff, hlo, hcc, hsl, hK⟩ := id F
  have hAD : ∀ q, AD ad q → A q := fun q ⟨o, ho, e⟩ => e ▸ hK.2.2.1 o ho
  rw [show (as.reverse ++ rest).map (cv ad) = (as.map (cv ad)).reverse ++ rest.map (cv ad) by simp]
  refine va_callv (va_runS (As := as.map (cv ad)) (rest := rest.map (cv ad)) ⟨hx, hb, hml, hown, hts⟩ (hM l D cA ad) (cwSm hts hw hf1 hff hlo) ⟨PC_blind, fun U hU hW => ⟨rfl, by rw [hU]; exact hP, hK.at hS hU hW⟩⟩ rfl (by rw [List.length_map]) hl.1 rfl (lv_room (cats_le hr)) hd ⟨hcc, hsl⟩) hS (fun q _ h => hAD q h) hAD (fun u t H1 locs1 ht hvm hp hB hz1 hk1 hS1 => ?_)
  unfold WQ at hB
  rw [ht] at hB
  exact k u hp F H1 locs1 ls hB hS1 hl
theorem G.acopy {i0 idx o1 n1 o2 n2 : Nat} {sp dp n : Int} (hd : decode (mdC md) pc = .ok (.invokestatic idx, 3)) (hw : lw_tbl[i0]? = some (.methodLink (mdO md) idx arraycopyName)) (hf1 : 1 ≤ mdF md) (h1 : shp o1 = (1, n1, [])) (h2 : shp o2 = (1, n2, [])) (hsp : 0 ≤ sp) (hdp : 0 ≤ dp) (hn : 0 ≤ n) (hs1 : sp + n ≤ n1) (hs2 : dp + n ≤ n2) (hr : S.length ≤ 8)
    (k : G md X (pc + 3) L S (cp σ o1 sp o2 dp n)) : G md X pc L (vi n :: vi dp :: vr o2 :: vi sp :: vr o1 :: S) σ := by
  obtain ⟨⟨l, p, e, R, s, m', args, below, meth, c⟩, ⟨D, cA, ad, A⟩, ⟨kc, n', Q⟩⟩ := X
  intro F H locs ls hP hS hl
  obtain ⟨hx, hb, hml, hr', hown, hts, hlk, hff, hlo, hcc, hsl, hK⟩ := id F
  obtain ⟨a1, a2, a3⟩ := sh_arr (ad := ad) (cA := cA) (σ := σ) h1 (by decide)
  obtain ⟨b1, b2, b3⟩ := sh_arr (ad := ad) (cA := cA) (σ := σ) h2 (by decide)
  have e1 := oi_cl hsp (by omega)
  have e2 := oi_cl hdp (by omega)
  have e3 := oi_cl hn (by omega)
  have nn : ∀ z : Int, 0 ≤ z → z < 2147483648 → ¬ Int32.ofInt z < 0 := fun z h h' q => by
    rw [oi_0, oi_lt ⟨by omega, h'⟩ inI_0] at q
    omega
  have h8 := cats_le (ad := ad) hr
  have h9 : nativeFrameWords "java/lang/System" "arraycopy" 5 ≤ 16 := by decide +kernel
  refine va_copyi hx hb (hml.trans hl.1.symm) hown (hts _ (gw_at hw rfl)) (hts (.native arraycopyName) (gw_at (i := 346) (by decide +kernel) rfl)) (hts (.static arraycopyName) (gw_at (i := 345) (by decide +kernel) rfl)) (hts (.initialized "java/lang/System") (gw_at (i := 76) (by decide +kernel) rfl)) hK.1 hP (wl_D hK) hS o1 o2 0 0 a3 b3 rfl rfl rfl (nn _ hsp (by omega)) (nn _ hdp (by omega)) (nn _ hn (by omega)) (by rw [e1, e3]; show _ ≤ n1; omega) (by rw [e2, e3]; show _ ≤ n2; omega) (fun i hi => rfl) (by omega) (by omega) hd (fun H1 locs1 hP1 hD1 hS1 => ?_)
  rw [wl_set (cp_ne σ o1 sp o2 dp n) (by
    rw [h2]
    show _ = Sum.inl (cA 0, n2, Sum.inl _)
    congr 4
    rw [e1, e2, e3]
    funext j
    unfold va_cpy cp
    by_cases hj : dp.toNat ≤ j ∧ j < dp.toNat + n.toNat
    · rw [if_pos hj, if_pos ⟨rfl, by omega, by omega⟩]
      have e4 : ((sp.toNat + (j - dp.toNat) : Nat) : Int) = (j : Int) - dp + sp := by omega
      rw [← e4]
    · rw [if_neg hj, if_neg (by omega)])] at hP1
  exact k F H1 locs1 ls hP1 hS1 hl
end CALLS
section MORE
variable {md : MD} {X : CT} {pc : Nat} {L : List (Nat × AV)} {S : List AV} {σ : St}
theorem G.iand1 {x : Int} (hd : decode (mdC md) pc = .ok (.iand, 1)) (k : G md X (pc + 1) L (vi (x % 2) :: S) σ) : G md X pc L (vi 1 :: vi x :: S) σ := G.iandm 1 (by decide) (by decide) hd k
theorem G.iand3 {x : Int} (hd : decode (mdC md) pc = .ok (.iand, 1)) (k : G md X (pc + 1) L (vi (x % 4) :: S) σ) : G md X pc L (vi 3 :: vi x :: S) σ := G.iandm 2 (by decide) (by decide) hd k
theorem G.iand31 {x : Int} (hd : decode (mdC md) pc = .ok (.iand, 1)) (k : G md X (pc + 1) L (vi (x % 32) :: S) σ) : G md X pc L (vi 31 :: vi x :: S) σ := G.iandm 5 (by decide) (by decide) hd k
theorem G.ishr1 {x : Int} (hd : decode (mdC md) pc = .ok (.ishr, 1)) (hx : 0 ≤ x ∧ x < 2147483648) (k : G md X (pc + 1) L (vi (x / 2) :: S) σ) : G md X pc L (vi 1 :: vi x :: S) σ := G.ishr hd hx ⟨by decide, by decide⟩ k
theorem G.i2f {x : Int} (hd : decode (mdC md) pc = .ok (.i2f, 1)) (k : G md X (pc + 1) L (vf (FP.i2f (Int32.ofInt x)) :: S) σ) : G md X pc L (vi x :: S) σ := by
  obtain ⟨⟨l, p, e, R, s, m', args, below, meth, c⟩, ⟨D, cA, ad, A⟩, ⟨kc, n', Q⟩⟩ := X
  intro F H locs ls hP hS hl
  exact lv_i2f F.1 F.2.1 hd (k F H locs ls hP hS hl)
theorem G.f2i {x : UInt32} (hd : decode (mdC md) pc = .ok (.f2i, 1)) (k : G md X (pc + 1) L (vi (FP.f2i x).toInt :: S) σ) : G md X pc L (vf x :: S) σ := by
  obtain ⟨⟨l, p, e, R, s, m', args, below, meth, c⟩, ⟨D, cA, ad, A⟩, ⟨kc, n', Q⟩⟩ := X
  intro F H locs ls hP hS hl
  refine lv_f2i F.1 F.2.1 hd ?_
  rw [← oi_as (FP.f2i x)]
  exact k F H locs ls hP hS hl
theorem G.fmul {x y : UInt32} (hd : decode (mdC md) pc = .ok (.fmul, 1)) (hn : vf_n32 (FP.fmul x y)) (k : G md X (pc + 1) L (vf (FP.fmul x y) :: S) σ) : G md X pc L (vf y :: vf x :: S) σ := by
  obtain ⟨⟨l, p, e, R, s, m', args, below, meth, c⟩, ⟨D, cA, ad, A⟩, ⟨kc, n', Q⟩⟩ := X
  intro F H locs ls hP hS hl
  exact lv_fmul F.1 F.2.1 hd hn (k F H locs ls hP hS hl)
theorem G.fadd {x y : UInt32} (hd : decode (mdC md) pc = .ok (.fadd, 1)) (hn : vf_n32 (FP.fadd x y)) (k : G md X (pc + 1) L (vf (FP.fadd x y) :: S) σ) : G md X pc L (vf y :: vf x :: S) σ := by
  obtain ⟨⟨l, p, e, R, s, m', args, below, meth, c⟩, ⟨D, cA, ad, A⟩, ⟨kc, n', Q⟩⟩ := X
  intro F H locs ls hP hS hl
  exact lv_fadd F.1 F.2.1 hd hn (k F H locs ls hP hS hl)
theorem G.ldcw {index i : Nat} {v : Int32} {n : Int} (hd : decode (mdC md) pc = .ok (.ldc_w index, 3)) (hw : lw_tbl[i]? = some (.constant (mdO md) index v)) (hn : v = Int32.ofInt n) (k : G md X (pc + 3) L (vi n :: S) σ) : G md X pc L S σ := by
  obtain ⟨⟨l, p, e, R, s, m, args, below, meth, c⟩, ⟨D, cA, ad, A⟩, ⟨kc, n', Q⟩⟩ := X
  intro F H locs ls hP hS hl
  obtain ⟨hx, hb, hml, hr, hown, hts, hlk, hf, hlo, hc, hsl, hK⟩ := id F
  subst hn
  exact lv_ldcw hx hb hown (hts _ (gw_at hw rfl)) hd (k F H locs ls hP hS hl)
theorem st_0 : isSt 0 := ⟨by decide, by decide⟩
theorem st_6 : isSt 6 := ⟨by decide, by decide⟩
theorem st_im {i : Int} (h : 0 ≤ i ∧ i < 2) : isSt (6 * i.toNat + 12) := ⟨by omega, by omega⟩
theorem st_pa {i : Int} (h : 0 ≤ i ∧ i < 6) : isSt (6 * i.toNat + 24) := ⟨by omega, by omega⟩
theorem bk_71 : isBk 71 := Or.inl rfl
theorem bk_76 : isBk 76 := Or.inr rfl
theorem mx_85 : isMx 85 := Or.inr (Or.inr (Or.inl rfl))
theorem mx_86 : isMx 86 := Or.inr (Or.inr (Or.inr rfl))
theorem G.callSNI {md2 : MD} {idx : Nat} {host : String} {as rest S0 : List AV} {P : Int → St → Prop} (hd : decode (mdC md) pc = .ok (.invokestatic idx, 3)) (hS0 : S0 = as.reverse ++ rest) (hw0 : ∀ s, NW s → va_Nw (.methodLinkNest (mdO md) idx (mdY md2) host) s) (hw1 : Cond.static (mdY md2) ∈ GW) (hw : okM md2 as.length) (hf1 : mdF md2 + 1 ≤ mdF md) (hr : rest.length ≤ 8)
    (hM : CI md2 as σ P) (k : ∀ (z : Int) (σ' : St), inI z → P z σ' → G md X (pc + 3) L (vi z :: rest) σ') : G md X pc L S0 σ := by
  subst hS0
  obtain ⟨⟨l, p, e, R, s, m', args, below, meth, c⟩, ⟨D, cA, ad, A⟩, ⟨kc, n', Q⟩⟩ := X
  intro F H locs ls hP hS hl
  obtain ⟨hx, hb, hml, hr', hown, hts, hlk, hff, hlo, hcc, hsl, hK⟩ := id F
  have hAD : ∀ q, AD ad q → A q := fun q ⟨o, ho, e⟩ => e ▸ hK.2.2.1 o ho
  rw [show (as.reverse ++ rest).map (cv ad) = (as.map (cv ad)).reverse ++ rest.map (cv ad) by simp]
  obtain ⟨w4, w5, w6, w7, w8, w9⟩ := hw
  have hcb : va_CN R s args (mdO md) idx (mdY md2) host (mdC md2) (mdN md2) (mdR md2) (wsM md2) (rmM md2) 0 0 as.length := by
    refine ⟨⟨rfl, rfl, by show mdF md2 + 1 ≤ R.frames; omega, by show 8 + (mdN md2 + 11) + 36 * mdF md2 ≤ R.locals; omega, pay_in hts (gw_goodIn (fun w h => ?_)), List.mem_cons_self⟩, hts _ w5, hts _ w4, ⟨w6, w7⟩, fun sig h => ?_, va_Nw.use rfl (hw0 s hK.2.2.2.2.2.2.2)⟩
    · unfold wsM at h
      rcases List.mem_cons.mp h with rfl | h
      · exact w5
      · exact h
    · rw [h] at w8
      exact (Option.some.inj w8).symm
  refine va_calli (va_runSN (As := as.map (cv ad)) (rest := rest.map (cv ad)) ⟨hx, hb, hml, hown, hts⟩ (hM l D cA ad) ⟨hcb, hts _ hw1, trivial⟩ ⟨PC_blind, fun U hU hW => ⟨rfl, by rw [hU]; exact hP, hK.at hS hU hW⟩⟩ rfl (by rw [List.length_map]) hl.1 rfl (lv_room (cats_le hr)) hd ⟨hcc, hsl⟩) hS (fun q _ h => hAD q h) hAD (fun r u t H1 locs1 ht hvm hp hB hz1 hk1 hS1 => ?_)
  obtain ⟨z, rfl, hz, hpz⟩ := hp
  unfold WQ at hB
  rw [ht] at hB
  exact k z u hz hpz F H1 locs1 ls hB hS1 hl
end MORE
