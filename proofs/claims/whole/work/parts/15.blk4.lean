/-! contracts: Block: mend, brightestFactor -/
/-- the marked place that a place belongs to, k places on from the first marked one -/
def nst (m start : Int) : Nat → Int
  | 0 => start
  | n + 1 => if mk m ((start + (n + 1 : Nat)) % 16) then (start + (n + 1 : Nat)) % 16 else nst m start n
def mendQ (m : Int) (f s : Row) (p : Int) : Int := bestQ f s (nst m (fstM m 16 0) ((p - fstM m 16 0) % 16).toNat)
def mendF (m : Int) (s f : Row) : Row := fun i => if 0 ≤ i ∧ i < 32 ∧ fstM m 16 0 ≠ -9 then (f i * lgt (mendQ m f s (i % 16))) % 97 else f i
theorem r97_mend {m : Int} {s f : Row} (h : r97 32 f) : r97 32 (mendF m s f) := by
  intro i h1 h2; unfold mendF; split
  · exact md97 _
  · exact h i h1 h2
theorem fstM_spec (m : Int) : ∀ (n : Nat) (p : Int), (fstM m n p = -9 ∧ ∀ j, p ≤ j → j < p + n → mk m j = false) ∨ (p ≤ fstM m n p ∧ fstM m n p < p + n ∧ mk m (fstM m n p) = true ∧ ∀ j, p ≤ j → j < fstM m n p → mk m j = false)
  | 0, p => Or.inl ⟨rfl, fun j h1 h2 => by omega⟩
  | n + 1, p => by
    unfold fstM
    cases h : mk m p with
    | true =>
      right
      simp only [if_true]
      exact ⟨by omega, by omega, h, fun j h1 h2 => by omega⟩
    | false =>
      simp only [Bool.false_eq_true, if_false]
      rcases fstM_spec m n (p + 1) with ⟨h1, h2⟩ | ⟨h1, h2, h3, h4⟩
      · refine Or.inl ⟨h1, fun j g1 g2 => ?_⟩
        by_cases e : j = p
        · rw [e]; exact h
        · exact h2 j (by omega) (by omega)
      · refine Or.inr ⟨by omega, by omega, h3, fun j g1 g2 => ?_⟩
        by_cases e : j = p
        · rw [e]; exact h
        · exact h4 j (by omega) g2
theorem nst_bd (m start : Int) (h : 0 ≤ start ∧ start < 16) : ∀ n, 0 ≤ nst m start n ∧ nst m start n < 16
  | 0 => h
  | n + 1 => by unfold nst; split; omega; exact nst_bd m start h n
theorem c_mend {b o : Nat} (hb : isBk b) (ho : isSt o) (σ : St) (hr : r97 32 (σ (b + 1))) (hs : ∀ i, 0 ≤ i → i < 32 → 0 ≤ σ (o + 1) i ∧ σ (o + 1) i ≤ 3) (hm : 0 ≤ σ o 1 ∧ σ o 1 < 65536) : CVe mdX1_mend [vr b, vr o] σ (setr σ (b + 1) (mendF (σ o 1) (σ (o + 1)) (σ (b + 1)))) := by
  refine CV_of (by decide +kernel) (Nat.le_of_ble_eq_true rfl) rfl (fun X hX => ?_)
  have hob : o < 60 := ho.2
  have hb7 : 71 ≤ b := by rcases hb with rfl | rfl <;> omega
  refine bX1_mend_0 hb ho (c_firstMarked ho σ hm) ?_
  rintro z u hz ⟨rfl, rfl⟩
  generalize hst : fstM (σ o 1) 16 0 = start
  rcases fstM_spec (σ o 1) 16 0 with ⟨h9, hno⟩ | ⟨g1, g2, g3, g4⟩
  · rw [hst] at h9
    refine bX1_mend_4 hb ho (by omega) (fun q => absurd h9 q) (fun q => bX1_mend_11 hX ?_)
    have e : mendF (σ o 1) (σ (o + 1)) (σ (b + 1)) = σ (b + 1) := by
      funext i; unfold mendF; rw [if_neg (by rw [hst]; omega)]
    rw [e, setr_id]
  · rw [hst] at g1 g2 g3 g4
    refine bX1_mend_4 hb ho (by omega) (fun q => ?_) (fun q => by omega)
    refine bX1_mend_12 hb ho ?_
    have hQ : ∀ p, mendQ (σ o 1) (σ (b + 1)) (σ (o + 1)) p = bestQ (σ (b + 1)) (σ (o + 1)) (nst (σ o 1) start ((p - start) % 16).toNat) := fun p => by unfold mendQ; rw [hst]
    have key : G mdX1_mend X 17 [(0, vr b), (1, vr o), (2, vi start), (3, vi (if (0 : Int) = 0 then 0 else bestQ (σ (b + 1)) (σ (o + 1)) (nst (σ o 1) start (0 - 1 : Int).toNat))), (4, vi 0)] [] (setr σ (b + 1) (fun i => if (0 ≤ i ∧ i < 32) ∧ (i % 16 - start) % 16 < 0 then (σ (b + 1) i * lgt (mendQ (σ o 1) (σ (b + 1)) (σ (o + 1)) (i % 16))) % 97 else σ (b + 1) i)) := by
      refine loopUp (Q := fun k => G mdX1_mend X 17 [(0, vr b), (1, vr o), (2, vi start), (3, vi (if k = 0 then 0 else bestQ (σ (b + 1)) (σ (o + 1)) (nst (σ o 1) start (k - 1).toNat))), (4, vi k)] [] (setr σ (b + 1) (fun i => if (0 ≤ i ∧ i < 32) ∧ (i % 16 - start) % 16 < k then (σ (b + 1) i * lgt (mendQ (σ o 1) (σ (b + 1)) (σ (o + 1)) (i % 16))) % 97 else σ (b + 1) i))) (n := 16) ?_ (fun k h1 h2 ih => ?_) (by decide)
      · refine bX1_mend_17 hb ho (by decide) (fun q => bX1_mend_63 hX ?_) (fun q => by omega)
        congr 1
        funext i
        unfold mendF
        rw [hst]
        by_cases c : 0 ≤ i ∧ i < 32
        · rw [if_pos (by omega), if_pos (by omega)]
        · rw [if_neg (by omega), if_neg (by omega)]
      · refine bX1_mend_17 hb ho (by omega) (fun q => by omega) (fun q => ?_)
        generalize hF : (fun i => if (0 ≤ i ∧ i < 32) ∧ (i % 16 - start) % 16 < k then (σ (b + 1) i * lgt (mendQ (σ o 1) (σ (b + 1)) (σ (o + 1)) (i % 16))) % 97 else σ (b + 1) i) = F
        have hFr : r97 32 F := by
          intro i a1 a2
          rw [← hF]
          dsimp only
          split
          · exact md97 _
          · exact hr i a1 a2
        have hFn : ∀ i, ¬ ((0 ≤ i ∧ i < 32) ∧ (i % 16 - start) % 16 < k) → F i = σ (b + 1) i := fun i hi => by rw [← hF]; exact if_neg hi
        have eo : setr σ (b + 1) F o = σ o := setr_ne _ _ (by omega)
        have eo1 : setr σ (b + 1) F (o + 1) = σ (o + 1) := setr_ne _ _ (by omega)
        refine bX1_mend_24 hb ho (c_isMarked ho _ (by rw [eo]; exact hm) (p := (start + k) % 16) (by omega)) (by omega) ?_
        rintro z u hz ⟨rfl, rfl⟩
        rw [eo]
        -- the turn at this place, and on
        have on : ∀ by1, by1 = bestQ (σ (b + 1)) (σ (o + 1)) (nst (σ o 1) start k.toNat) → G mdX1_mend X 50 [(0, vr b), (1, vr o), (2, vi start), (3, vi by1), (4, vi k), (5, vi ((start + k) % 16))] [] (setr σ (b + 1) F) := by
          intro by1 hby
          have hqb := bestQ_bd (σ (b + 1)) (σ (o + 1)) (nst (σ o 1) start k.toNat)
          refine bX1_mend_50 hb ho (c_turn hb _ (by rw [setr_at]; exact hFr) (p := (start + k) % 16) (by omega) (by omega)) ?_
          rintro u rfl
          refine bX1_mend_57 hb ho ?_
          rw [setr_at, setr_setr]
          have e1 : (fun i => if i = (start + k) % 16 ∨ i = 16 + (start + k) % 16 then (F i * lgt by1) % 97 else F i) = (fun i => if (0 ≤ i ∧ i < 32) ∧ (i % 16 - start) % 16 < k + 1 then (σ (b + 1) i * lgt (mendQ (σ o 1) (σ (b + 1)) (σ (o + 1)) (i % 16))) % 97 else σ (b + 1) i) := by
            funext i
            by_cases c : i = (start + k) % 16 ∨ i = 16 + (start + k) % 16
            · rw [if_pos c, if_pos (by omega), hFn i (by omega), hQ, hby]
              rw [show (i % 16 - start) % 16 = k by omega]
            · rw [if_neg c, ← hF]
              dsimp only
              by_cases c2 : (0 ≤ i ∧ i < 32) ∧ (i % 16 - start) % 16 < k
              · rw [if_pos c2, if_pos (by omega)]
              · rw [if_neg c2, if_neg (by omega)]
          rw [e1, hby]
          rw [if_neg (by omega), show k + 1 - 1 = k by omega] at ih
          exact ih
        refine bX1_mend_39 hb ho (bI_rng _) (fun q2 => ?_) (fun q2 => ?_)
        · have q3 := bI_0.mp q2
          refine on _ ?_
          have hk : k ≠ 0 := fun e => by
            rw [e, show (start + 0) % 16 = start by omega, g3] at q3
            cases q3
          rw [if_neg hk]
          congr 1
          have e : k.toNat = (k - 1).toNat + 1 := by omega
          rw [e]
          conv => rhs; unfold nst
          rw [if_neg (by rw [show (start + ((k - 1).toNat + 1 : Nat)) = start + k by omega, q3]; decide)]
        · have q3 := bI_1.mp q2
          have hn : nst (σ o 1) start k.toNat = (start + k) % 16 := by
            by_cases hk : k = 0
            · rw [hk]; show start = _; omega
            · have e : k.toNat = (k - 1).toNat + 1 := by omega
              rw [e]
              unfold nst
              rw [if_pos (by rw [show (start + ((k - 1).toNat + 1 : Nat)) = start + k by omega]; exact q3)]
              congr 1; omega
          refine bX1_mend_42 hb ho (c_bestTurn hb ho _ (by rw [setr_at]; exact hFr) (by rw [eo1]; exact hs) (m := (start + k) % 16) (by omega)) ?_
          rintro z u hz4 ⟨rfl, rfl⟩
          refine bX1_mend_49 hb ho ?_
          rw [setr_at, eo1]
          refine on _ ?_
          rw [hn]
          -- the row at this place is still as it was
          have e1 : ∀ q, hit2 F (σ (o + 1)) ((start + k) % 16) q = hit2 (σ (b + 1)) (σ (o + 1)) ((start + k) % 16) q := by
            intro q
            unfold hit2
            rw [hFn _ (by omega), hFn (16 + (start + k) % 16) (by omega)]
          have e2 : ∀ n, bqL F (σ (o + 1)) ((start + k) % 16) n = bqL (σ (b + 1)) (σ (o + 1)) ((start + k) % 16) n := by
            intro n
            induction n with
            | zero => rfl
            | succ n ih2 => unfold bqL; rw [ih2, e1]
          unfold bestQ
          rw [e2]
    have e0 : (fun i => if (0 ≤ i ∧ i < 32) ∧ (i % 16 - start) % 16 < 0 then (σ (b + 1) i * lgt (mendQ (σ o 1) (σ (b + 1)) (σ (o + 1)) (i % 16))) % 97 else σ (b + 1) i) = σ (b + 1) := by
      funext i; rw [if_neg (by omega)]
    rw [e0, setr_id, if_pos rfl] at key
    exact key
-- blind
def isL (v : Int) : Bool := v == 1 || v == 22 || v == 96 || v == 75
def hitsG (v g : Int) : Int := cnt (fun s => (inv97 v * lgt s) % 97 == g) 4
def tally (f : Row) : Nat → Int → Int
  | 0, _ => 0
  | n + 1, g => tally f n g + hitsG (f n) g
def cntL (f : Row) (g : Int) : Int := cnt (fun k => isL (g * f k % 97)) 32
theorem hitsG_ok {v g : Int} (hv : 0 ≤ v ∧ v ≤ 96) (hg : 1 ≤ g ∧ g ≤ 96) : hitsG v g = if isL (g * v % 97) then 1 else 0 := by
  have : ∀ n : Nat, n < 97 → ∀ k : Nat, k < 97 → k ≠ 0 → hitsG (n : Int) (k : Int) = if isL ((k : Int) * (n : Int) % 97) then 1 else 0 := by decide +kernel
  have h2 := this v.toNat (by omega) g.toNat (by omega) (by omega)
  rwa [Int.toNat_of_nonneg hv.1, Int.toNat_of_nonneg (by omega)] at h2
theorem tally_ok (f : Row) (h : r97 32 f) {g : Int} (hg : 1 ≤ g ∧ g ≤ 96) : ∀ n : Nat, n ≤ 32 → tally f n g = cnt (fun k => isL (g * f k % 97)) n
  | 0, _ => rfl
  | n + 1, hn => by
    unfold tally cnt
    rw [tally_ok f h hg n (by omega), hitsG_ok (h n (by omega) (by omega)) hg]
theorem tally_bd (f : Row) (g : Int) : ∀ n : Nat, 0 ≤ tally f n g ∧ tally f n g ≤ 4 * n
  | 0 => by unfold tally; omega
  | n + 1 => by
    have h := tally_bd f g n
    have h2 := cnt_bd (fun s => (inv97 (f n) * lgt s) % 97 == g) 4
    unfold tally hitsG
    omega
def amx (c : Int → Int) : Nat → Int
  | 0 => 1
  | n + 1 => if c (amx c n) < c (n + 2) then n + 2 else amx c n
theorem amx_bd (c : Int → Int) : ∀ n : Nat, 1 ≤ amx c n ∧ amx c n ≤ n + 1
  | 0 => by unfold amx; omega
  | n + 1 => by
    have h := amx_bd c n
    unfold amx
    split <;> omega
def bestG (f : Row) : Int := amx (cntL f) 95
theorem bestG_bd (f : Row) : 1 ≤ bestG f ∧ bestG f ≤ 96 := by
  have := amx_bd (cntL f) 95
  unfold bestG; omega
theorem c_brightest {b : Nat} (hb : isBk b) (σ : St) (hr : r97 32 (σ (b + 1))) : CI mdX1_brightestFactor [vr b] σ (fun z u => z = bestG (σ (b + 1)) ∧ u (b + 1) = σ (b + 1) ∧ Bch b σ u) := by
  refine CI_of (by decide +kernel) (Nat.le_of_ble_eq_true rfl) rfl (fun X hX => ?_)
  refine bX1_brightestFactor_0 hb (c_fill (sh_bkt hb) σ) ?_
  rintro u rfl
  refine bX1_brightestFactor_8 hb ?_
  have e1 : ∀ g, setr σ (b + 3) g (b + 1) = σ (b + 1) := fun g => setr_ne _ _ (by omega)
  have e3 : win ((97 : Nat) : Int) (fun _ => 0) (σ (b + 3)) = win 97 (tally (σ (b + 1)) (0 : Int).toNat) (σ (b + 3)) := rfl
  rw [e3]
  refine loopUp (Q := fun i => G mdX1_brightestFactor X 10 [(0, vr b), (1, vi i)] [] (setr σ (b + 3) (win 97 (tally (σ (b + 1)) i.toNat) (σ (b + 3))))) (a := 0) (n := 32) ?_ (fun i h1 h2 ih => ?_) (by decide)
  · refine bX1_brightestFactor_10 hb (by decide) (fun q => bX1_brightestFactor_59 hb ?_) (fun q => by omega)
    have et : ∀ g, 1 ≤ g → g ≤ 96 → setr σ (b + 3) (win 97 (tally (σ (b + 1)) (32 : Int).toNat) (σ (b + 3))) (b + 3) g = cntL (σ (b + 1)) g := by
      intro g g1 g2
      rw [setr_at, win_in (by omega)]
      exact tally_ok _ hr ⟨g1, g2⟩ 32 (by decide)
    have hcb : ∀ g, 0 ≤ cntL (σ (b + 1)) g ∧ cntL (σ (b + 1)) g ≤ 32 := fun g => cnt_bd _ 32
    refine loopUp (Q := fun j => G mdX1_brightestFactor X 63 [(0, vr b), (1, vi (amx (cntL (σ (b + 1))) (j - 2).toNat)), (2, vi j)] [] (setr σ (b + 3) (win 97 (tally (σ (b + 1)) (32 : Int).toNat) (σ (b + 3))))) (a := 2) (n := 97) ?_ (fun j h1 h2 ih => ?_) (by decide)
    · have hg := bestG_bd (σ (b + 1))
      exact bX1_brightestFactor_63 hb (by decide) (fun q => bX1_brightestFactor_92 hX (by show -2147483648 ≤ bestG _ ∧ bestG _ < _; omega) ⟨rfl, e1 _, fun a ha => setr_ne _ _ (by omega)⟩) (fun q => by omega)
    · have hA := amx_bd (cntL (σ (b + 1))) (j - 2).toNat
      have c1 := hcb j
      have c2 := hcb (amx (cntL (σ (b + 1))) (j - 2).toNat)
      have t1 := et j (by omega) (by omega)
      have t2 := et (amx (cntL (σ (b + 1))) (j - 2).toNat) (by omega) (by omega)
      rw [show (j + 1 - 2).toNat = (j - 2).toNat + 1 by omega] at ih
      unfold amx at ih
      rw [show (((j - 2).toNat : Nat) : Int) + 2 = j by omega] at ih
      refine bX1_brightestFactor_63 hb (by omega) (fun q => by omega) (fun q => bX1_brightestFactor_69 hb (by rw [t1, t2]; omega) (fun q2 => ?_) (fun q2 => ?_))
      · rw [t1, t2] at q2
        rw [if_neg (by omega)] at ih
        exact bX1_brightestFactor_86 hb ih
      · rw [t1, t2] at q2
        rw [if_pos q2] at ih
        exact bX1_brightestFactor_84 hb (bX1_brightestFactor_86 hb ih)
  · refine bX1_brightestFactor_10 hb (by omega) (fun q => by omega) (fun q => ?_)
    refine bX1_brightestFactor_16 hb (by rw [e1]; exact c_inverse (hr i h1 h2) _) ⟨h1, h2⟩ ?_
    rintro z u hz ⟨rfl, rfl⟩
    have hv := inv_bd (σ (b + 1) i)
    refine bX1_brightestFactor_25 hb ?_
    have key : G mdX1_brightestFactor X 28 [(0, vr b), (1, vi i), (2, vi (inv97 (σ (b + 1) i))), (3, vi 0)] [] (setr σ (b + 3) (win 97 (fun g => tally (σ (b + 1)) i.toNat g + cnt (fun s => (inv97 (σ (b + 1) i) * lgt s) % 97 == g) (0 : Int).toNat) (σ (b + 3)))) := by
      refine loopUp (Q := fun s => G mdX1_brightestFactor X 28 [(0, vr b), (1, vi i), (2, vi (inv97 (σ (b + 1) i))), (3, vi s)] [] (setr σ (b + 3) (win 97 (fun g => tally (σ (b + 1)) i.toNat g + cnt (fun s => (inv97 (σ (b + 1) i) * lgt s) % 97 == g) s.toNat) (σ (b + 3))))) (n := 4) ?_ (fun s h3 h4 ih2 => ?_) (by decide)
      · refine bX1_brightestFactor_28 hb (by decide) (fun q => bX1_brightestFactor_53 hb ?_) (fun q => by omega)
        have e4 : (fun g => tally (σ (b + 1)) i.toNat g + cnt (fun s => (inv97 (σ (b + 1) i) * lgt s) % 97 == g) (4 : Int).toNat) = tally (σ (b + 1)) (i + 1).toNat := by
          funext g
          rw [show (i + 1).toNat = i.toNat + 1 by omega]
          show _ = tally (σ (b + 1)) i.toNat g + hitsG (σ (b + 1) (i.toNat : Int)) g
          rw [int_tn h1]
          rfl
        rw [e4]
        exact ih
      · have hm := md97 (inv97 (σ (b + 1) i) * lgt s)
        refine bX1_brightestFactor_28 hb (by omega) (fun q => by omega) (fun q => ?_)
        refine bX1_brightestFactor_33 hb (c_turned hv (by omega) _) ?_
        rintro z u hz5 ⟨rfl, rfl⟩
        refine bX1_brightestFactor_42 hb (by omega) ?_
        rw [setr_at, wr_wr, win_in (by omega)]
        have e5 : (fun j => if j = (inv97 (σ (b + 1) i) * lgt s) % 97 then tally (σ (b + 1)) i.toNat ((inv97 (σ (b + 1) i) * lgt s) % 97) + cnt (fun s' => (inv97 (σ (b + 1) i) * lgt s') % 97 == (inv97 (σ (b + 1) i) * lgt s) % 97) s.toNat + 1 else win 97 (fun g => tally (σ (b + 1)) i.toNat g + cnt (fun s => (inv97 (σ (b + 1) i) * lgt s) % 97 == g) s.toNat) (σ (b + 3)) j) = win 97 (fun g => tally (σ (b + 1)) i.toNat g + cnt (fun s => (inv97 (σ (b + 1) i) * lgt s) % 97 == g) (s + 1).toNat) (σ (b + 3)) := by
          funext j
          by_cases c : j = (inv97 (σ (b + 1) i) * lgt s) % 97
          · subst c
            rw [if_pos rfl, win_in (by omega), cnt_step _ h3]
            simp only [beq_self_eq_true, if_true]
            omega
          · rw [if_neg c]
            unfold win
            by_cases c2 : 0 ≤ j ∧ j < 97
            · rw [if_pos c2, if_pos c2]
              dsimp only
              rw [cnt_step _ h3]
              have : ((inv97 (σ (b + 1) i) * lgt s) % 97 == j) = false := by simpa using fun h => c h.symm
              simp only [this, Bool.false_eq_true, if_false]
              omega
            · rw [if_neg c2, if_neg c2]
        rw [e5]
        exact ih2
    have e6 : (fun g => tally (σ (b + 1)) i.toNat g + cnt (fun s => (inv97 (σ (b + 1) i) * lgt s) % 97 == g) (0 : Int).toNat) = tally (σ (b + 1)) i.toNat := by
      funext g
      show _ + 0 = _
      omega
    rw [e6] at key
    exact key
