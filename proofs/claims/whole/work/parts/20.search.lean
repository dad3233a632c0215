/-! the best order: all orders, one behind the other -/
def prT : List (List Nat) := [[0], [0], [4, 1], [36, 24, 33, 9, 18, 6], [228, 180, 216, 120, 156, 108, 225, 177, 201, 57, 141, 45, 210, 114, 198, 54, 78, 30, 147, 99, 135, 39, 75, 27]]
def facN : Nat → Nat
  | 0 => 1
  | k + 1 => (k + 1) * facN k
def pr (n t : Nat) : Row := fun j => ((((prT.getD n []).getD t 0) / 4 ^ j.toNat % 4 : Nat) : Int)
theorem pr_lt : ∀ n : Nat, n < 5 → ∀ t : Nat, t < facN n → ∀ j : Nat, j < n → pr n t j < n := by decide +kernel
theorem pr_nx : ∀ n : Nat, n < 5 → ∀ t : Nat, t < facN n - 1 → 0 ≤ riseL (pr n t) ((n : Int) - 1).toNat ∧ ∀ j : Nat, j < n → nextR (pr n t) n j = pr n (t + 1) j := by decide +kernel
theorem pr_end : ∀ n : Nat, n < 5 → riseL (pr n (facN n - 1)) ((n : Int) - 1).toNat < 0 := by decide +kernel
theorem pr_0 : ∀ n : Nat, n < 5 → ∀ j : Nat, j < n → pr n 0 j = j := by decide +kernel
theorem facN_bd : ∀ n : Nat, n < 5 → 1 ≤ facN n ∧ facN n ≤ 24 := by decide +kernel
theorem pr_bd {n t : Nat} (hn : n < 5) (ht : t < facN n) {j : Int} (h0 : 0 ≤ j) (h1 : j < n) : 0 ≤ pr n t j ∧ pr n t j < n := by
  have h := pr_lt n hn t ht j.toNat (by omega)
  rw [Int.toNat_of_nonneg h0] at h
  exact ⟨by unfold pr; omega, h⟩
-- what lies outside does not count
def eqN (n : Int) (c e : Row) : Prop := ∀ j, 0 ≤ j → j < n → c j = e j
theorem riseL_eq {n : Int} {c e : Row} (h : eqN n c e) : ∀ k : Nat, (k : Int) < n → riseL c k = riseL e k
  | 0, _ => rfl
  | k + 1, hk => by
    rw [riseL_s, riseL_s, h (k + 1) (by omega) (by push_cast at hk; omega), h k (by omega) (by push_cast at hk; omega), riseL_eq h k (by push_cast at hk; omega)]
theorem largeL_eq {n : Int} {c e : Row} (h : eqN n c e) {r : Int} (hr : 0 ≤ r ∧ r < n) : ∀ k : Nat, (k : Int) < n → largeL c r k = largeL e r k
  | 0, _ => rfl
  | k + 1, hk => by
    rw [largeL_s, largeL_s, h (k + 1) (by omega) (by push_cast at hk; omega), h r hr.1 hr.2, largeL_eq h hr k (by push_cast at hk; omega)]
theorem swapR_eq {n : Int} {c e : Row} (h : eqN n c e) {i j : Int} (hi : 0 ≤ i ∧ i < n) (hj : 0 ≤ j ∧ j < n) : eqN n (swapR c i j) (swapR e i j) := by
  intro x h0 h1
  unfold swapR
  rw [h i hi.1 hi.2, h j hj.1 hj.2, h x h0 h1]
theorem revL_eq {n : Int} : ∀ (f : Nat) {c e : Row} (_ : eqN n c e) {lo hi : Int} (_ : 0 ≤ lo) (_ : hi < n), eqN n (revL c lo hi f) (revL e lo hi f)
  | 0, _, _, h, _, _, _, _ => h
  | f + 1, c, e, h, lo, hi, h0, h1 => by
    unfold revL
    by_cases q : lo < hi
    · rw [if_pos q, if_pos q]
      exact revL_eq f (swapR_eq h ⟨h0, by omega⟩ ⟨by omega, h1⟩) (by omega) (by omega)
    · rw [if_neg q, if_neg q]
      exact h
theorem nextR_eq {n : Int} {c e : Row} (h : eqN n c e) (hr : 0 ≤ riseL c (n - 1).toNat) : eqN n (nextR c n) (nextR e n) := by
  have hb := riseL_bd c (n - 1).toNat
  have hn : 0 < n := by omega
  have e1 := riseL_eq h (n - 1).toNat (by omega)
  have hb2 := largeL_bd c (riseL c (n - 1).toNat) (n - 1).toNat
  have e2 := largeL_eq h (r := riseL c (n - 1).toNat) ⟨hr, by omega⟩ (n - 1).toNat (by omega)
  unfold nextR
  rw [← e1, ← e2]
  exact revL_eq 4 (swapR_eq h ⟨hr, by omega⟩ ⟨by omega, by omega⟩) (by omega) (by omega)
-- the stages in an order
def permF (m : Int) (s a c : Row) : Nat → Row → Row
  | 0, g => g
  | k + 1, g => sF m s a (c k) (permF m s a c k g)
theorem permF_eq {m : Int} {s a c e g : Row} {n : Int} (h : eqN n c e) : ∀ k : Nat, (k : Int) ≤ n → permF m s a c k g = permF m s a e k g
  | 0, _ => rfl
  | k + 1, hk => by
    show sF m s a (c k) _ = sF m s a (e k) _
    rw [h k (by omega) (by push_cast at hk; omega), permF_eq h k (by push_cast at hk; omega)]
theorem permF_step (m : Int) (s a c : Row) {k : Int} (h : 0 ≤ k) (g : Row) : permF m s a c (k + 1).toNat g = sF m s a (c k) (permF m s a c k.toNat g) := by
  rw [show (k + 1).toNat = k.toNat + 1 by omega]
  show sF m s a (c (k.toNat : Int)) _ = _
  rw [int_tn h]
theorem good_perm {m : Int} {s a c : Row} {g : Row} (hg : good g) : ∀ k : Nat, good (permF m s a c k g)
  | 0 => hg
  | k + 1 => good_stage (good_perm hg k)
def ordE (σ : St) (o : Nat) (c : Row) : Int := errF (permF (σ o 1) (σ (o + 1)) (σ (o + 5)) c (σ (o + 4) 2).toNat (airF σ o)) (σ (o + 1))
theorem errF_bd (f s : Row) : 0 ≤ errF f s ∧ errF f s ≤ 32 := by
  have h := cnt_bd (fun i => !(dec (f i) == s i)) 32
  exact ⟨h.1, h.2⟩
theorem ordE_same {σ τ : St} {o : Nat} (h : same6 o σ τ) (c : Row) : ordE τ o c = ordE σ o c := by
  obtain ⟨e0, e1, e2, e3, e4, e5⟩ := h
  unfold ordE airF
  rw [e0, e1, e2, e3, e4, e5]
theorem airF_same {σ τ : St} {o : Nat} (h : same6 o σ τ) : airF τ o = airF σ o := by
  obtain ⟨e0, e1, e2, e3, e4, e5⟩ := h
  unfold airF
  rw [e1, e2, e3]
/-- the air stands in the received block; the trial block is used -/
theorem c_errorsInOrder (σ : St) (hair : σ 72 = airF σ 0) (hz : zo 32 (σ 77)) (hst : StOK σ 0) (hc : ∀ j, 0 ≤ j → j < σ 4 2 → 0 ≤ σ 82 j ∧ σ 82 j < σ 4 2) : CI mdX10_errorsInOrder [vr 60, vr 82] σ (fun z u => z = ordE σ 0 (σ 82) ∧ good (u 77) ∧ Bch 76 σ u) := by
  refine CI_of (by decide +kernel) (Nat.le_of_ble_eq_true rfl) rfl (fun X hX => ?_)
  have ho : isSt 0 := ⟨rfl, by decide⟩
  have hb : isBk 76 := Or.inr rfl
  have hcs : 0 ≤ σ 4 2 ∧ σ 4 2 ≤ 4 := hst.2.2.2.2.1
  refine bX10_errorsInOrder_0 (by decide) (c_bTake hb (Or.inl rfl) σ hz (by show zo 32 (σ 72); rw [hair]; exact (good_air hst).2)) ?_
  rintro u rfl
  refine bX10_errorsInOrder_11 (by decide) ?_
  have key : ∀ u : St, u 77 = permF (σ 0 1) (σ 1) (σ 5) (σ 82) (0 : Int).toNat (airF σ 0) → Bch 76 σ u → G mdX10_errorsInOrder X 13 [(0, vr 60), (1, vr 82), (2, vi 0)] [] u := by
    refine loopUp (Q := fun k => ∀ u : St, u 77 = permF (σ 0 1) (σ 1) (σ 5) (σ 82) k.toNat (airF σ 0) → Bch 76 σ u → G mdX10_errorsInOrder X 13 [(0, vr 60), (1, vr 82), (2, vi k)] [] u) (a := 0) (n := σ 4 2) ?_ (fun k g1 g2 ih => ?_) hcs.1
    · intro u hu hB
      have hs6 := hB.st (o := 0) hb (by decide)
      have hstu := hst.same hs6
      have hg : good (u 77) := by rw [hu]; exact good_perm (good_air hst) _
      have e4 : u 4 = σ 4 := hs6.2.2.2.2.1
      refine bX10_errorsInOrder_13 (by decide) ⟨by omega, by rw [e4]; omega⟩ (fun q => ?_) (fun q => by rw [e4] at q; omega)
      refine bX10_errorsInOrder_47 (c_errors hb ho u hg.1 hstu.1) ?_
      rintro z u2 hz2 ⟨rfl, rfl⟩
      have := errF_bd (u 77) (u 1)
      refine bX10_errorsInOrder_58 hX (by show -2147483648 ≤ errF (u 77) (u 1) ∧ errF (u 77) (u 1) < 2147483648; omega) ⟨?_, hg, hB⟩
      show errF (u 77) (u 1) = _
      rw [hu, show u 1 = σ 1 from hs6.2.1]
      rfl
    · intro u hu hB
      have hs6 := hB.st (o := 0) hb (by decide)
      have hstu := hst.same hs6
      obtain ⟨e0, e1, e2, e3, e4, e5⟩ := id hs6
      have e82 : u 82 = σ 82 := hB 82 (by decide)
      have hck := hc k g1 g2
      have e4' : u 4 = σ 4 := e4
      refine bX10_errorsInOrder_13 (by decide) ⟨by omega, by rw [e4']; omega⟩ (fun q => by rw [e4'] at q; omega) (fun q => ?_)
      refine bX10_errorsInOrder_27 (by decide) (c_passStage hb ho u (by show good (u 77); rw [hu]; exact good_perm (good_air hst) _) hstu.1 hstu.2.1 hstu.2.2.2.2.1 (k := u 82 k) (by rw [e82]; show _ ∧ _ < u 4 2; rw [e4']; exact hck) hstu.2.2.2.2.2) (by omega) ?_
      rintro u2 ⟨h3, h4⟩
      refine bX10_errorsInOrder_41 (by decide) (ih u2 ?_ (hB.tr h4))
      rw [permF_step _ _ _ _ g1]
      refine Eq.trans h3 ?_
      show sF (u 0 1) (u 1) (u 5) (u 82 k) (u 77) = _
      rw [hu, e82, show u 0 = σ 0 from e0, show u 1 = σ 1 from e1, show u 5 = σ 5 from e5]
  refine key (setr σ 77 (σ 72)) ?_ (Bch.set (by decide))
  rw [setr_at, hair]
  rfl
-- the least so far
def amn (E : Nat → Int) : Nat → Nat
  | 0 => 0
  | t + 1 => if E (t + 1) < E (amn E t) then t + 1 else amn E t
theorem amn_bd (E : Nat → Int) : ∀ t : Nat, amn E t ≤ t
  | 0 => Nat.le_refl 0
  | t + 1 => by
    have h := amn_bd E t
    unfold amn
    split <;> omega
/-- what a call that only asks may change -/
def Fq (σ u : St) : Prop := ∀ a, ¬ (71 ≤ a ∧ a ≤ 86) → u a = σ a
theorem Fq.rf {σ : St} : Fq σ σ := fun _ _ => rfl
theorem Fq.tr {σ τ υ : St} (h1 : Fq σ τ) (h2 : Fq τ υ) : Fq σ υ := fun a h => (h2 a h).trans (h1 a h)
theorem Fq.set {a : Nat} {σ : St} {f : Row} (h : 71 ≤ a ∧ a ≤ 86) : Fq σ (setr σ a f) := fun x hx => setr_ne σ f (by omega)
theorem Fq.ofB {b : Nat} {σ u : St} (hb : isBk b) (h : Bch b σ u) : Fq σ u := fun a ha => h a (by rcases hb with rfl | rfl <;> omega)
theorem Fq.st {σ τ : St} (h : Fq σ τ) {o : Nat} (ho : o < 60) : same6 o σ τ := ⟨h _ (by omega), h _ (by omega), h _ (by omega), h _ (by omega), h _ (by omega), h _ (by omega)⟩
def bestT (σ : St) (o : Nat) : Nat := amn (fun t => ordE σ o (pr (σ (o + 4) 2).toNat t)) (facN (σ (o + 4) 2).toNat - 1)
theorem c_findBestOrder (σ : St) (hz : zo 32 (σ 72)) (hz7 : zo 32 (σ 77)) (hst : StOK σ 0) : CI mdX10_findBestOrder [vr 60] σ (fun z u => z = ordE σ 0 (pr (σ 4 2).toNat (bestT σ 0)) ∧ eqN (σ 4 2) (u 83) (pr (σ 4 2).toNat (bestT σ 0)) ∧ u 81 2 = σ 4 2 ∧ zo 32 (u 72) ∧ zo 32 (u 77) ∧ Fq σ u) := by
  refine CI_of (by decide +kernel) (Nat.le_of_ble_eq_true rfl) rfl (fun X hX => ?_)
  have hcs : 0 ≤ σ 4 2 ∧ σ 4 2 ≤ 4 := hst.2.2.2.2.1
  obtain ⟨n, hn⟩ : ∃ n : Nat, σ 4 2 = n := ⟨(σ 4 2).toNat, by omega⟩
  have hn5 : n < 5 := by omega
  have hf := facN_bd n hn5
  have hbt : bestT σ 0 = amn (fun t => ordE σ 0 (pr n t)) (facN n - 1) := by
    unfold bestT
    show amn (fun t => ordE σ 0 (pr (σ 4 2).toNat t)) (facN (σ 4 2).toNat - 1) = _
    rw [hn, Int.toNat_natCast]
  rw [hbt, hn, Int.toNat_natCast] at hX
  generalize hE : (fun t => ordE σ 0 (pr n t)) = E at hX
  have hEt : ∀ t, ordE σ 0 (pr n t) = E t := fun t => by rw [← hE]
  refine bX10_findBestOrder_0 (c_receive (Or.inl rfl) ⟨rfl, by decide⟩ σ hz hst ⟨Int.le_refl 0, hcs.1⟩) ?_
  rintro ua ⟨ha, hBa⟩
  have ha72 : ua 72 = airF σ 0 := ha
  have hsa := hBa.st (o := 0) (Or.inl rfl) (by decide)
  have ha4 : ua 4 = σ 4 := hsa.2.2.2.2.1
  have ha77 : ua 77 = σ 77 := hBa 77 (by decide)
  have hFa : Fq σ ua := Fq.ofB (Or.inl rfl) hBa
  refine bX10_findBestOrder_12 (c_aStart ua (by rw [ha4]; exact hcs)) ?_
  rintro u0 rfl
  refine bX10_findBestOrder_32 ?_
  have fin : ∀ (u : St) (t : Nat), t + 1 = facN n → eqN n (u 83) (pr n (amn E t)) → u 81 2 = n → u 72 = airF σ 0 → zo 32 (u 77) → Fq σ u → G mdX10_findBestOrder X 85 [(1, vi (E (amn E t)))] [] u := by
    intro u t h1 h2 h3 h4 h5 h6
    have hb := errF_bd (permF (σ 0 1) (σ (0 + 1)) (σ (0 + 5)) (pr n (amn E t)) (σ (0 + 4) 2).toNat (airF σ 0)) (σ (0 + 1))
    have : E (amn E t) = errF (permF (σ 0 1) (σ (0 + 1)) (σ (0 + 5)) (pr n (amn E t)) (σ (0 + 4) 2).toNat (airF σ 0)) (σ (0 + 1)) := by rw [← hEt]; rfl
    refine bX10_findBestOrder_85 hX (by omega) ?_
    rw [show facN n - 1 = t by omega, hEt]
    exact ⟨rfl, h2, h3, by rw [h4]; exact (good_air hst).2, h5, h6⟩
  -- behind a try
  have move : ∀ (d : Nat), (∀ (t : Nat) (u : St), t + d = facN n → ∀ l : Int, 1 ≤ t → eqN n (u 82) (pr n t) → u 81 2 = n → u 72 = airF σ 0 → zo 32 (u 77) → Fq σ u → l = E (amn E (t - 1)) → eqN n (u 83) (pr n (amn E (t - 1))) → 1 ≤ d → G mdX10_findBestOrder X 34 [(0, vr 60), (1, vi l), (2, vi (t : Int))] [] u) → ∀ (t : Nat) (u : St), t + 1 + d = facN n → eqN n (u 82) (pr n t) → u 81 2 = n → u 72 = airF σ 0 → zo 32 (u 77) → Fq σ u → eqN n (u 83) (pr n (amn E t)) → G mdX10_findBestOrder X 66 [(0, vr 60), (1, vi (E (amn E t))), (2, vi (t : Int))] [] u := by
    intro d ih t u h1 h2 h3 h4 h5 h6 h7
    have hr := riseL_eq h2 ((n : Int) - 1).toNat
    refine bX10_findBestOrder_66 (c_moveOn u h3 (by omega) (fun j g1 g2 => by have := pr_bd hn5 (show t < facN n by omega) g1 g2; rw [h2 j g1 g2]; unfold inI; omega)) ?_
    rintro z u2 hz2 ⟨rfl, rfl⟩
    by_cases hd : d = 0
    · have he := pr_end n hn5
      rw [show facN n - 1 = t by omega] at he
      have hneg : ¬ 0 ≤ riseL (u 82) ((n : Int) - 1).toNat := by
        by_cases n0 : n = 0
        · rw [n0, show (((0 : Nat) : Int) - 1).toNat = 0 from rfl, riseL_z]; decide
        · rw [hr (by omega)]; omega
      rw [decide_eq_false hneg, if_neg hneg]
      exact bX10_findBestOrder_73 (by decide) (fun q => absurd rfl q) (fun _ => bX10_findBestOrder_76 (fin u t (by omega) h7 h3 h4 h5 h6))
    · have hx := pr_nx n hn5 t (by omega)
      have n0 : n ≠ 0 := by
        intro n0
        rw [n0] at h1
        have : facN 0 = 1 := rfl
        omega
      have hpos : 0 ≤ riseL (u 82) ((n : Int) - 1).toNat := by rw [hr (by omega)]; exact hx.1
      rw [decide_eq_true hpos, if_pos hpos]
      refine bX10_findBestOrder_73 (by decide) (fun _ => ?_) (fun q => absurd q (by decide))
      refine bX10_findBestOrder_79 ?_
      refine ih (t + 1) _ (by omega) _ (by omega) ?_ ?_ ?_ ?_ ?_ rfl ?_ (by omega)
      · rw [setr_at]
        intro j g1 g2
        rw [nextR_eq h2 hpos j g1 g2]
        have := hx.2 j.toNat (by omega)
        rwa [Int.toNat_of_nonneg g1] at this
      · rw [setr_ne _ _ (by decide)]; exact h3
      · rw [setr_ne _ _ (by decide)]; exact h4
      · rw [setr_ne _ _ (by decide)]; exact h5
      · exact h6.tr (Fq.set (by decide))
      · rw [setr_ne _ _ (by decide)]; exact h7
  -- a try
  have tryit : ∀ (d : Nat) (t : Nat) (u : St), t + d = facN n → ∀ l : Int, eqN n (u 82) (pr n t) → u 81 2 = n → u 72 = airF σ 0 → zo 32 (u 77) → Fq σ u → (t = 0 ∧ l = 33) ∨ (1 ≤ t ∧ l = E (amn E (t - 1)) ∧ eqN n (u 83) (pr n (amn E (t - 1)))) → 1 ≤ d → G mdX10_findBestOrder X 34 [(0, vr 60), (1, vi l), (2, vi (t : Int))] [] u := by
    intro d
    induction d with
    | zero => intro t u h1 l h2 h3 h4 h5 h6 h7 h8; omega
    | succ d ih =>
      intro t u h1 l h2 h3 h4 h5 h6 h7 h8
      have hs6 := h6.st (o := 0) (by decide)
      have hstu := hst.same hs6
      have e4 : u 4 = σ 4 := hs6.2.2.2.2.1
      have hm := move d (fun t2 u2 g1 l2 g2 g3 g4 g5 g6 g7 g8 g9 g10 => ih t2 u2 g1 l2 g3 g4 g5 g6 g7 (Or.inr ⟨g2, g8, g9⟩) g10) t
      refine bX10_findBestOrder_34 (by omega) (fun q => by omega) (fun q => ?_)
      refine bX10_findBestOrder_40 (c_errorsInOrder u (by rw [h4, airF_same hs6]) h5 hstu (fun j g1 g2 => ?_)) ?_
      · rw [e4, hn] at g2 ⊢
        rw [h2 j g1 g2]
        exact pr_bd hn5 (by omega) g1 g2
      rintro z u2 hz2 ⟨e1, e2, e3⟩
      have ez : z = E t := by
        rw [e1, ordE_same hs6, ← hEt]
        unfold ordE
        rw [permF_eq h2 _ (by show ((σ 4 2).toNat : Int) ≤ _; omega)]
      have eb : 0 ≤ E t ∧ E t ≤ 32 := by
        rw [← hEt]; exact errF_bd _ _
      subst ez
      have hF2 : Fq σ u2 := h6.tr (Fq.ofB (Or.inr rfl) e3)
      have f82 : u2 82 = u 82 := e3 82 (by decide)
      have f81 : u2 81 = u 81 := e3 81 (by decide)
      have f83 : u2 83 = u 83 := e3 83 (by decide)
      have f72 : u2 72 = u 72 := e3 72 (by decide)
      have hl : l ≤ 33 ∧ 0 ≤ l := by
        rcases h7 with ⟨_, g⟩ | ⟨_, g, _⟩
        · omega
        · have : 0 ≤ E (amn E (t - 1)) ∧ E (amn E (t - 1)) ≤ 32 := by rw [← hEt]; exact errF_bd _ _
          omega
      refine bX10_findBestOrder_51 ⟨by omega, by omega⟩ (fun q => ?_) (fun q => ?_)
      · rcases h7 with ⟨_, g⟩ | ⟨g0, g, g'⟩
        · omega
        · have ea : amn E t = amn E (t - 1) := by
            rw [show t = (t - 1) + 1 by omega]
            show (if E (t - 1 + 1) < _ then _ else _) = _
            rw [if_neg (by rw [show t - 1 + 1 = t by omega]; omega)]
            rfl
          have := hm u2 (by omega) (by rw [f82]; exact h2) (by rw [f81]; exact h3) (by rw [f72]; exact h4) e2.2 hF2 (by rw [f83, ea]; exact g')
          rw [ea] at this
          rw [g]; exact this
      · have ea : amn E t = t := by
          rcases h7 with ⟨g0, g⟩ | ⟨g0, g, g'⟩
          · rw [g0]; rfl
          · rw [show t = (t - 1) + 1 by omega]
            show (if E (t - 1 + 1) < _ then _ else _) = _
            rw [if_pos (by rw [show t - 1 + 1 = t by omega]; omega)]
        refine bX10_findBestOrder_57 (c_keepCurrent u2 (by rw [f81, h3]; omega)) ?_
        rintro u3 rfl
        have := hm (setr u2 83 (win (u2 81 2) (u2 82) (u2 83))) (by omega) (by rw [setr_ne _ _ (by decide), f82]; exact h2) (by rw [setr_ne _ _ (by decide), f81]; exact h3) (by rw [setr_ne _ _ (by decide), f72]; exact h4) (by rw [setr_ne _ _ (by decide)]; exact e2.2) (hF2.tr (Fq.set (by decide))) (by
          rw [setr_at, ea, f81, h3, f82]
          intro j g1 g2
          unfold win
          rw [if_pos ⟨g1, g2⟩]
          exact h2 j g1 g2)
        rw [ea] at this
        exact this
  refine tryit (facN n) 0 _ (by omega) 33 ?_ ?_ ?_ ?_ ?_ (Or.inl ⟨rfl, rfl⟩) hf.1
  · rw [setr_at, ha4, hn]
    intro j g1 g2
    unfold win
    rw [if_pos ⟨g1, g2⟩]
    have := pr_0 n hn5 j.toNat (by omega)
    rw [Int.toNat_of_nonneg g1] at this
    exact this.symm
  · rw [setr_ne _ _ (by decide)]
    unfold setS
    rw [setr_at, if_pos rfl, ha4]
    exact hn
  · rw [setr_ne _ _ (by decide)]
    unfold setS
    rw [setr_ne _ _ (by decide)]
    exact ha72
  · rw [setr_ne _ _ (by decide)]
    unfold setS
    rw [setr_ne _ _ (by decide), ha77]
    exact hz7
  · exact hFa.tr (Fq.tr (Fq.set (by decide)) (Fq.set (by decide)))
