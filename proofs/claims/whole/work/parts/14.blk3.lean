/-! contracts: Block: unspread, bestTurn, mend, brightestFactor -/
theorem psum_per (m : Int) (f : Row) (base p : Int) : ∀ n : Nat, psum m (yc f base) (p + 16) n = psum m (yc f base) p n
  | 0 => rfl
  | n + 1 => by
    rw [psum, psum, psum_per m f base p n]
    congr 2
    unfold yc
    rw [show (p + 16 - (n : Int)) % 16 = (p - n) % 16 by omega]
theorem c_unspread {b : Nat} (hb : isBk b) (σ : St) (hr : r97 32 (σ (b + 1))) {a : Int} (ha : 1 ≤ a ∧ a ≤ 96) (hp : pw a 16 ≠ 1) : CVe mdX1_unspread [vr b, vi a] σ (setr σ (b + 1) (unspreadF a (σ (b + 1)))) := by
  refine CV_of (by decide +kernel) (Nat.le_of_ble_eq_true rfl) rfl (fun X hX => ?_)
  have hpb := pw_bd a 16
  refine bX1_unspread_0 hb (c_power (show c97 a from ⟨by omega, by omega⟩) (n := 16) (by decide) σ) ?_
  rintro z u hz ⟨rfl, rfl⟩
  refine bX1_unspread_12 hb (c_floorMod ⟨by omega, by omega⟩ σ) ?_
  rintro z u hz2 ⟨rfl, rfl⟩
  refine bX1_unspread_18 hb (c_inverse (md97 _) σ) ?_
  rintro z u hz3 ⟨rfl, rfl⟩
  refine bX1_unspread_21 hb ?_
  have hW : inv97 ((1 - pw a 16) % 97) = unsW a := rfl
  rw [hW]
  have hWb : 0 ≤ unsW a ∧ unsW a ≤ 96 := inv_bd _
  have pass : ∀ (first : Int) (f : Row), first = 0 ∨ first = 16 → r97 32 f →
      G mdX1_unspread X 25 [(0, vr b), (2, vi (97 - a)), (3, vi (unsW a)), (4, vi (first + 16))] [] (setr σ (b + 1) (fun j => if first ≤ j ∧ j < first + 16 then (psum (97 - a) (yc f first) (j - first) 16 % 97 * unsW a) % 97 else f j)) →
      G mdX1_unspread X 25 [(0, vr b), (2, vi (97 - a)), (3, vi (unsW a)), (4, vi first)] [] (setr σ (b + 1) f) := by
    intro first f hf hrf k
    refine bX1_unspread_25 hb (by omega) (fun q => by omega) (fun q => bX1_unspread_32 hb ?_)
    refine loopUp (Q := fun p => G mdX1_unspread X 38 [(0, vr b), (2, vi (97 - a)), (3, vi (unsW a)), (4, vi first), (5, vi (horn (97 - a) (yc f first) (p - 1).toNat % 97)), (6, vi p)] [] (setr σ (b + 1) f)) (a := 1) (n := 17) ?_ (fun p h1 h2 ih => ?_) (by decide)
    · refine bX1_unspread_38 hb (by decide) (fun q => ?_) (fun q => by omega)
      have h0 := md97 (horn (97 - a) (yc f first) (17 - 1 : Int).toNat)
      have hm := m_bd h0 hWb
      refine bX1_unspread_74 hb ⟨by omega, by omega⟩ ?_
      have e0 : (horn (97 - a) (yc f first) (17 - 1 : Int).toNat % 97 * unsW a) % 97 = (psum (97 - a) (yc f first) 0 16 % 97 * unsW a) % 97 := by
        rw [show (17 - 1 : Int).toNat = 16 from rfl, horn_psum]
        rw [show ((16 : Nat) : Int) = 0 + 16 from rfl, psum_per]
      rw [e0, wr_wr]
      have e1 : (fun j => if j = first then (psum (97 - a) (yc f first) 0 16 % 97 * unsW a) % 97 else f j) = (fun j => if first ≤ j ∧ j < first + 1 then (psum (97 - a) (yc f first) (j - first) 16 % 97 * unsW a) % 97 else f j) := by
        funext j
        by_cases c : j = first
        · rw [if_pos c, if_pos (by omega), show j - first = 0 by omega]
        · rw [if_neg c, if_neg (by omega)]
      rw [e1]
      refine loopUp (Q := fun p => G mdX1_unspread X 91 [(0, vr b), (2, vi (97 - a)), (3, vi (unsW a)), (4, vi first), (6, vi p)] [] (setr σ (b + 1) (fun j => if first ≤ j ∧ j < first + p then (psum (97 - a) (yc f first) (j - first) 16 % 97 * unsW a) % 97 else f j))) (a := 1) (n := 16) ?_ (fun p h1 h2 ih => ?_) (by decide)
      · exact bX1_unspread_91 hb (by decide) (fun q => bX1_unspread_146 hb k) (fun q => by omega)
      · refine bX1_unspread_91 hb (by omega) (fun q => by omega) (fun q => ?_)
        have e2 : setr σ (b + 1) (fun j => if first ≤ j ∧ j < first + p then (psum (97 - a) (yc f first) (j - first) 16 % 97 * unsW a) % 97 else f j) (b + 1) ((first + p) - 1) = (psum (97 - a) (yc f first) (p - 1) 16 % 97 * unsW a) % 97 := by
          rw [setr_at, if_pos (by omega), show first + p - 1 - first = p - 1 by omega]
        have e3 : setr σ (b + 1) (fun j => if first ≤ j ∧ j < first + p then (psum (97 - a) (yc f first) (j - first) 16 % 97 * unsW a) % 97 else f j) (b + 1) (first + p) = f (first + p) := by
          rw [setr_at, if_neg (by omega)]
        have g1 := hrf (first + p) (by omega) (by omega)
        have g2 := md97 (psum (97 - a) (yc f first) (p - 1) 16 % 97 * unsW a)
        have hm2 := m_bd (x := 97 - a) ⟨by omega, by omega⟩ g2
        refine bX1_unspread_98 hb ⟨by omega, by omega, by rw [e2, e3]; omega⟩ ?_
        have e4 := uns_step (show 0 ≤ a ∧ a ≤ 96 by omega) hp f first (p - 1)
        rw [show p - 1 + 1 = p by omega] at e4
        have e5 : yc f first p = f (first + p) := by unfold yc; rw [show p % 16 = p by omega]
        rw [e5] at e4
        rw [e2, e3, wr_wr, ← e4]
        have e6 : (fun j => if j = first + p then (psum (97 - a) (yc f first) p 16 % 97 * unsW a) % 97 else (if first ≤ j ∧ j < first + p then (psum (97 - a) (yc f first) (j - first) 16 % 97 * unsW a) % 97 else f j)) = (fun j => if first ≤ j ∧ j < first + (p + 1) then (psum (97 - a) (yc f first) (j - first) 16 % 97 * unsW a) % 97 else f j) := by
          funext j
          by_cases c : j = first + p
          · rw [if_pos c, if_pos (by omega), show j - first = p by omega]
          · rw [if_neg c]
            by_cases c2 : first ≤ j ∧ j < first + p
            · rw [if_pos c2, if_pos (by omega)]
            · rw [if_neg c2, if_neg (by omega)]
        rw [e6]
        exact ih
    · have h0 := md97 (horn (97 - a) (yc f first) (p - 1).toNat)
      have g1 := hrf (first + p % 16) (by omega) (by omega)
      have hm := m_bd (y := 97 - a) h0 ⟨by omega, by omega⟩
      refine bX1_unspread_38 hb (by omega) (fun q => by omega) (fun q => bX1_unspread_45 hb ⟨by omega, by omega, by rw [setr_at]; omega⟩ ?_)
      rw [setr_at]
      have e1 : (horn (97 - a) (yc f first) (p - 1).toNat % 97 * (97 - a) + f (first + p % 16)) % 97 = horn (97 - a) (yc f first) (p + 1 - 1).toNat % 97 := by
        rw [show (p + 1 - 1).toNat = (p - 1).toNat + 1 by omega, horn]
        have e2 := m97_mul (c := 97 - a) (d := 97 - a) (m97_id (horn (97 - a) (yc f first) (p - 1).toNat)) rfl
        have e3 : yc f first (((p - 1).toNat : Int) + 1) = f (first + p % 16) := by unfold yc; rw [show ((p - 1).toNat : Int) + 1 = p by omega]
        rw [e3]
        omega
      rw [e1]
      exact ih
  have h0 := pass 0 (σ (b + 1)) (Or.inl rfl) hr
  rw [setr_id] at h0
  refine h0 (pass 16 _ (Or.inr rfl) ?_ ?_)
  · intro i g1 g2
    dsimp only
    split
    · exact md97 _
    · exact hr i g1 g2
  · refine bX1_unspread_25 hb (by decide) (fun q => bX1_unspread_152 hX ?_) (fun q => by omega)
    congr 1
    funext j
    unfold unspreadF
    by_cases c1 : 16 ≤ j ∧ j < 16 + 16
    · rw [if_pos (by omega), if_pos c1]
      have e : ∀ p n, psum (97 - a) (yc (fun j => if 0 ≤ j ∧ j < 0 + 16 then (psum (97 - a) (yc (σ (b + 1)) 0) (j - 0) 16 % 97 * unsW a) % 97 else σ (b + 1) j) 16) p n = psum (97 - a) (yc (σ (b + 1)) 16) p n := by
        intro p n
        induction n with
        | zero => rfl
        | succ n ih =>
          rw [psum, psum, ih]
          congr 2
          unfold yc
          exact if_neg (by omega)
      rw [e, show j / 16 * 16 = 16 by omega, show j % 16 = j - 16 by omega]
    · rw [if_neg c1]
      by_cases c2 : 0 ≤ j ∧ j < 0 + 16
      · rw [if_pos (by omega), if_pos c2, show j / 16 * 16 = 0 by omega, show j % 16 = j - 0 by omega]
      · rw [if_neg (by omega), if_neg c2]
theorem r97_unspread {a : Int} {f : Row} : r97 32 (unspreadF a f) := by
  intro i h1 h2; unfold unspreadF; rw [if_pos ⟨h1, h2⟩]; exact md97 _
-- the best turn at a marked place
def hit2 (f s : Row) (m q : Int) : Int := bI (decide (dec ((f m * lgt q) % 97) = s m)) + bI (decide (dec ((f (16 + m) * lgt q) % 97) = s (16 + m)))
def bqL (f s : Row) (m : Int) : Nat → Int × Int
  | 0 => (0, -1)
  | n + 1 => if (bqL f s m n).2 < hit2 f s m n then ((n : Int), hit2 f s m n) else bqL f s m n
def bestQ (f s : Row) (m : Int) : Int := (bqL f s m 4).1
theorem bI_01 (b : Bool) : bI b = 0 ∨ bI b = 1 := by cases b <;> simp [bI]
theorem bI_t {p : Prop} [Decidable p] (h : p) : bI (decide p) = 1 := by rw [decide_eq_true h]; rfl
theorem bI_f {p : Prop} [Decidable p] (h : ¬ p) : bI (decide p) = 0 := by rw [decide_eq_false h]; rfl
theorem hit2_bd (f s : Row) (m q : Int) : 0 ≤ hit2 f s m q ∧ hit2 f s m q ≤ 2 := by
  unfold hit2
  have h1 := bI_01 (decide (dec ((f m * lgt q) % 97) = s m))
  have h2 := bI_01 (decide (dec ((f (16 + m) * lgt q) % 97) = s (16 + m)))
  omega
theorem bqL_bd (f s : Row) (m : Int) : ∀ n : Nat, 0 ≤ (bqL f s m n).1 ∧ (bqL f s m n).1 ≤ n ∧ -1 ≤ (bqL f s m n).2 ∧ (bqL f s m n).2 ≤ 2
  | 0 => by unfold bqL; decide
  | n + 1 => by
    have h := bqL_bd f s m n
    have h2 := hit2_bd f s m n
    unfold bqL
    split
    · dsimp only; omega
    · omega
theorem bestQ_bd (f s : Row) (m : Int) : 0 ≤ bestQ f s m ∧ bestQ f s m ≤ 3 := by
  have h := bqL_bd f s m 3
  have h2 : bqL f s m 4 = if (bqL f s m 3).2 < hit2 f s m (3 : Nat) then (((3 : Nat) : Int), hit2 f s m (3 : Nat)) else bqL f s m 3 := rfl
  unfold bestQ
  rw [h2]
  split
  · dsimp only; omega
  · omega
theorem c_bestTurn {b o : Nat} (hb : isBk b) (ho : isSt o) (σ : St) (hr : r97 32 (σ (b + 1))) (hs : ∀ i, 0 ≤ i → i < 32 → 0 ≤ σ (o + 1) i ∧ σ (o + 1) i ≤ 3) {m : Int} (hm : 0 ≤ m ∧ m < 16) : CIe mdX1_bestTurn [vr b, vr o, vi m] σ (bestQ (σ (b + 1)) (σ (o + 1)) m) σ := by
  refine CI_of (by decide +kernel) (Nat.le_of_ble_eq_true rfl) rfl (fun X hX => ?_)
  refine bX1_bestTurn_0 hb ho ?_
  refine loopUp (Q := fun i => G mdX1_bestTurn X 8 [(0, vr b), (1, vr o), (2, vi m), (3, vi (bqL (σ (b + 1)) (σ (o + 1)) m i.toNat).1), (4, vi (bqL (σ (b + 1)) (σ (o + 1)) m i.toNat).2), (5, vi i)] [] σ) (a := 0) (n := 4) ?_ (fun i h1 h2 ih => ?_) (by decide)
  · have hq := bestQ_bd (σ (b + 1)) (σ (o + 1)) m
    exact bX1_bestTurn_8 hb ho (by decide) (fun q => bX1_bestTurn_111 hX (by show -2147483648 ≤ bestQ _ _ _ ∧ bestQ _ _ _ < _; omega) ⟨rfl, rfl⟩) (fun q => by omega)
  · have hL := bqL_bd (σ (b + 1)) (σ (o + 1)) m i.toNat
    have s1 := hs m hm.1 (by omega)
    have s2 := hs (16 + m) (by omega) (by omega)
    refine bX1_bestTurn_8 hb ho (by omega) (fun q => by omega) (fun q => ?_)
    refine bX1_bestTurn_14 hb ho (c_turned (hr m hm.1 (by omega)) (by omega) σ) (by omega) ?_
    rintro z u hz ⟨rfl, rfl⟩
    refine bX1_bestTurn_25 hb ho (c_turned (hr (16 + m) (by omega) (by omega)) (by omega) σ) (by omega) ?_
    rintro z u hz2 ⟨rfl, rfl⟩
    have d1 := dec_bd ((σ (b + 1) m * lgt i) % 97)
    have d2 := dec_bd ((σ (b + 1) (16 + m) * lgt i) % 97)
    have k88 : ∀ x y, x = bI (decide (dec ((σ (b + 1) m * lgt i) % 97) = σ (o + 1) m)) → y = bI (decide (dec ((σ (b + 1) (16 + m) * lgt i) % 97) = σ (o + 1) (16 + m))) →
        G mdX1_bestTurn X 88 [(0, vr b), (1, vr o), (2, vi m), (3, vi (bqL (σ (b + 1)) (σ (o + 1)) m i.toNat).1), (4, vi (bqL (σ (b + 1)) (σ (o + 1)) m i.toNat).2), (5, vi i)] [vi y, vi x] σ := by
      intro x y hx hy
      have he : x + y = hit2 (σ (b + 1)) (σ (o + 1)) m i := by rw [hx, hy]; rfl
      have hbd := hit2_bd (σ (b + 1)) (σ (o + 1)) m i
      rw [show (i + 1).toNat = i.toNat + 1 by omega] at ih
      unfold bqL at ih
      rw [show ((i.toNat : Nat) : Int) = i by omega] at ih
      refine bX1_bestTurn_88 hb ho (by omega) (fun q => ?_) (fun q => ?_)
      · rw [if_neg (by omega)] at ih
        exact bX1_bestTurn_105 hb ho ih
      · rw [if_pos (by omega)] at ih
        refine bX1_bestTurn_98 hb ho (bX1_bestTurn_105 hb ho ?_)
        rw [he]
        exact ih
    have k62 : ∀ x, x = bI (decide (dec ((σ (b + 1) m * lgt i) % 97) = σ (o + 1) m)) → G mdX1_bestTurn X 62 [(0, vr b), (1, vr o), (2, vi m), (3, vi (bqL (σ (b + 1)) (σ (o + 1)) m i.toNat).1), (4, vi (bqL (σ (b + 1)) (σ (o + 1)) m i.toNat).2), (5, vi i), (7, vi ((σ (b + 1) (16 + m) * lgt i) % 97))] [vi x] σ := by
      intro x hx
      refine bX1_bestTurn_62 hb ho (c_decided (md97 _) σ) ?_
      rintro z u hz ⟨rfl, rfl⟩
      refine bX1_bestTurn_71 hb ho (by omega) (fun q => ?_) (fun q => ?_)
      · exact bX1_bestTurn_87 hb ho (k88 _ _ hx (bI_f q).symm)
      · exact bX1_bestTurn_83 hb ho (k88 _ _ hx (bI_t q).symm)
    refine bX1_bestTurn_41 hb ho (c_decided (md97 _) σ) ?_
    rintro z u hz3 ⟨rfl, rfl⟩
    refine bX1_bestTurn_48 hb ho (by omega) (fun q => ?_) (fun q => ?_)
    · exact bX1_bestTurn_61 hb ho (k62 _ (bI_f q).symm)
    · exact bX1_bestTurn_57 hb ho (k62 _ (bI_t q).symm)
