/-! what is asked of the class: spreads, fits, odds -/
def acL (p : Nat → Bool) (val : Nat → Int) : Nat → Int × Int
  | 0 => (0, -9)
  | n + 1 => if p n then ((acL p val n).1 + 1, if (acL p val n).2 = -9 then val n else (acL p val n).2) else acL p val n
theorem acL_bd (p : Nat → Bool) (val : Nat → Int) (h : ∀ n, n < 1000 → 0 ≤ val n ∧ val n ≤ 10000) : ∀ n, n ≤ 1000 → (0 ≤ (acL p val n).1 ∧ (acL p val n).1 ≤ n) ∧ -9 ≤ (acL p val n).2 ∧ (acL p val n).2 ≤ 10000
  | 0, _ => by unfold acL; exact ⟨⟨by decide, by decide⟩, by decide, by decide⟩
  | n + 1, hn => by
    have ih := acL_bd p val h n (by omega)
    have hv := h n (by omega)
    unfold acL
    split
    · refine ⟨⟨by show 0 ≤ _ + 1; omega, by show _ + 1 ≤ _; omega⟩, ?_⟩
      by_cases q : (acL p val n).2 = -9
      · simp only [if_pos q]; omega
      · simp only [if_neg q]; exact ih.2
    · exact ⟨⟨ih.1.1, by omega⟩, ih.2⟩
def spP (v : Row) (n : Nat) : Bool := decide (¬ pw ((n : Int) + 1) 16 = 1 ∧ errM (v 32) (unspreadF ((n : Int) + 1) (rcvV v (v 64))) v = 0)
def spVal (n : Nat) : Int := (n : Int) + 1
def spreadsV (v : Row) (w : Int) : Int := if 0 ≤ w ∧ w ≤ 1 then (if w = 0 then (acL (spP v) spVal 96).1 else (acL (spP v) spVal 96).2) else -1
theorem k_spreads {N : Int} {a : AS} {σ : St} (h : CR N a σ) {w : Int} (hw : inI w) : CI mdX10_spreads [vr 60, vi w] σ (fun z u => z = spreadsV a.1 w ∧ CR N a u ∧ up σ u) := by
  refine CI_of (by decide +kernel) (Nat.le_of_ble_eq_true rfl) rfl (fun X hX => ?_)
  have e := h.n64
  have bad : ¬ (0 ≤ w ∧ w ≤ 1) → G mdX10_spreads X 9 [] [] σ := fun g => bX10_spreads_9 hX ⟨by unfold spreadsV; rw [if_neg g], h, up.rf⟩
  refine bX10_spreads_0 hw (fun q => bad (by omega)) (fun q1 => ?_)
  refine bX10_spreads_4 hw (fun q2 => ?_) (fun q2 => bad (by omega))
  have ev : spreadsV a.1 w = if w = 0 then (acL (spP a.1) spVal 96).1 else (acL (spP a.1) spVal 96).2 := by unfold spreadsV; rw [if_pos ⟨q1, q2⟩]
  rw [ev] at hX
  refine bX10_spreads_11 (by rw [e.1]; exact c_rcv σ h.z1 h.st ⟨e.2.1, by rw [e.1]; omega⟩) ?_
  rintro u ⟨h1, hB⟩
  rw [h.rcv ⟨e.2.1, Int.le_refl _⟩] at h1
  have hg := good_rcvV h.1.2 (a.1 64)
  have hu := h.bA hB (by rw [h1]; exact hg.2)
  have huF : Fq σ u := Fq.ofB isBkA hB
  refine bX10_spreads_32 ?_
  have hb := acL_bd (spP a.1) spVal (fun n hn => by unfold spVal; omega)
  have key : ∀ (d n : Nat) (u : St), n + d = 96 → u 72 = rcvV a.1 (a.1 64) → CR N a u → Fq σ u → G mdX10_spreads X 40 [(0, vr 60), (1, vi w), (2, vi (acL (spP a.1) spVal n).1), (3, vi (acL (spP a.1) spVal n).2), (4, vi ((n : Int) + 1))] [] u := by
    intro d
    induction d with
    | zero =>
      intro n u hn hu1 hu2 hu3
      have hbn := hb n (by omega)
      obtain rfl : n = 96 := by omega
      refine bX10_spreads_40 (by decide) (fun _ => ?_) (fun q => by omega)
      refine bX10_spreads_89 hw (fun q => ?_) (fun q => ?_)
      · rw [if_neg q] at hX
        exact bX10_spreads_97 (bX10_spreads_98 hX (by omega) ⟨rfl, hu2, up.fq hu3⟩)
      · rw [if_pos q] at hX
        exact bX10_spreads_93 (bX10_spreads_98 hX (by omega) ⟨rfl, hu2, up.fq hu3⟩)
    | succ d ih =>
      intro n u hn hu1 hu2 hu3
      have hbn := hb n (by omega)
      have es : acL (spP a.1) spVal (n + 1) = if spP a.1 n then ((acL (spP a.1) spVal n).1 + 1, if (acL (spP a.1) spVal n).2 = -9 then spVal n else (acL (spP a.1) spVal n).2) else acL (spP a.1) spVal n := rfl
      -- behind the body
      have no : ∀ u : St, spP a.1 n = false → u 72 = rcvV a.1 (a.1 64) → CR N a u → Fq σ u → G mdX10_spreads X 83 [(0, vr 60), (1, vi w), (2, vi (acL (spP a.1) spVal n).1), (3, vi (acL (spP a.1) spVal n).2), (4, vi ((n : Int) + 1))] [] u := by
        intro u hp g1 g2 g3
        have nx := ih (n + 1) u (by omega) g1 g2 g3
        rw [es, hp] at nx
        push_cast at nx
        exact bX10_spreads_83 nx
      refine bX10_spreads_40 (by omega) (fun q => by omega) (fun _ => ?_)
      refine bX10_spreads_47 (c_power (v := (n : Int) + 1) (by unfold c97; omega) (n := 16) (by decide) u) ?_
      rintro z u2 hz ⟨rfl, rfl⟩
      refine bX10_spreads_54 hz (fun q => ?_) (fun q => ?_)
      · exact no u (decide_eq_false (fun g => g.1 q)) hu1 hu2 hu3
      · refine bX10_spreads_58 (c_unspreadFits u (by rw [hu1]; exact hg) hu2.z2 hu2.st (by omega) q) ?_
        rintro z u3 hz2 ⟨e1, e2, e3⟩
        have hu4 : CR N a u3 := hu2.fq (Fq.ofB isBkB e3) (by rw [e3 72 (by decide)]; exact hu2.z1) e2
        have hu5 : u3 72 = rcvV a.1 (a.1 64) := by rw [e3 72 (by decide)]; exact hu1
        have hu6 : Fq σ u3 := hu3.tr (Fq.ofB isBkB e3)
        have ee : errM (u 0 1) (unspreadF ((n : Int) + 1) (u 72)) (u 1) = errM (a.1 32) (unspreadF ((n : Int) + 1) (rcvV a.1 (a.1 64))) a.1 := by
          rw [hu2.m, hu1]
          exact (errM_eq hu2.s32).symm
        rw [ee] at e1
        subst e1
        refine bX10_spreads_64 hz2 (fun q5 => ?_) (fun q5 => ?_)
        · exact no u3 (decide_eq_false (fun g => bI_d0 q5 g.2)) hu5 hu4 hu6
        · have hp : spP a.1 n = true := decide_eq_true ⟨q, bI_d1 q5⟩
          have nx := ih (n + 1) u3 (by omega) hu5 hu4 hu6
          rw [es, hp] at nx
          push_cast at nx
          refine bX10_spreads_67 (by omega) (fun q6 => ?_) (fun q6 => ?_)
          · rw [if_neg q6] at nx
            exact bX10_spreads_81 (bX10_spreads_82 (bX10_spreads_83 nx))
          · rw [if_pos q6] at nx
            exact bX10_spreads_76 (bX10_spreads_82 (bX10_spreads_83 nx))
  exact key 96 0 u rfl h1 hu huF
-- fits
def seenB (A S f : Row) : Nat → Bool
  | 0 => true
  | n + 1 => seenB A S f n && decide (dec (f (A n)) = S n)
theorem seenB_ok (A S f : Row) : ∀ n : Nat, seenB A S f n = true ↔ seenOK n A S f
  | 0 => ⟨fun _ j a b => by omega, fun _ => rfl⟩
  | n + 1 => by
    unfold seenB
    rw [Bool.and_eq_true, seenB_ok A S f n, decide_eq_true_iff]
    constructor
    · rintro ⟨g1, g2⟩ j a b
      by_cases e : j = n
      · rw [e]; exact g2
      · exact g1 j a (by push_cast at b; omega)
    · intro g
      exact ⟨fun j a b => g j a (by push_cast; omega), g n (by omega) (by push_cast; omega)⟩
def fiP (a : AS) (n : Nat) : Bool := seenB a.2.2.2.2.2.1 a.2.2.2.2.2.2 (slipV a.1 (n / 3 : Nat) ((n % 3 : Nat) + 1)) a.2.2.2.2.1.toNat
def fiVal (n : Nat) : Int := 4 * ((n / 3 : Nat) : Int) + (((n % 3 : Nat) : Int) + 1)
def fitsV (a : AS) (w : Int) : Int := if 0 ≤ w ∧ w ≤ 1 then (if w = 0 then (acL (fiP a) fiVal 48).1 else (acL (fiP a) fiVal 48).2) else -1
theorem CR.se {N : Int} {a : AS} {σ : St} (h : CR N a σ) : SeOK σ := by
  obtain ⟨h1, h2, h3⟩ := h.2.2.2.2.1
  refine ⟨by rw [h1]; exact h2, fun j g1 g2 => ?_⟩
  obtain ⟨a1, a2, a3, a4⟩ := h3 j g1 (by omega)
  rw [a1, a2]
  exact ⟨a3, a4⟩
theorem CR.slip {N : Int} {a : AS} {σ : St} (h : CR N a σ) (x q : Int) : slipG σ x q (airV a.1) = slipV a.1 x q := by
  have e := h.n64
  unfold slipG slipV
  rw [h.m, e.1]
  exact chainF_eq (fun j g1 g2 => (h.s32 j g1 g2).symm) _ (fun j g1 g2 => ((h.1.1.2.2.2.1 j g1 (by omega)).trans (vw_ch σ 0 j g1 (by omega))).symm)
theorem k_fits {N : Int} {a : AS} {σ : St} (h : CR N a σ) {w : Int} (hw : inI w) : CI mdX10_fits [vr 60, vi w] σ (fun z u => z = fitsV a w ∧ CR N a u ∧ up σ u) := by
  refine CI_of (by decide +kernel) (Nat.le_of_ble_eq_true rfl) rfl (fun X hX => ?_)
  have e := h.n64
  have bad : ¬ (0 ≤ w ∧ w ≤ 1) → G mdX10_fits X 9 [] [] σ := fun g => bX10_fits_9 hX ⟨by unfold fitsV; rw [if_neg g], h, up.rf⟩
  refine bX10_fits_0 hw (fun q => bad (by omega)) (fun q1 => ?_)
  refine bX10_fits_4 hw (fun q2 => ?_) (fun q2 => bad (by omega))
  have ev : fitsV a w = if w = 0 then (acL (fiP a) fiVal 48).1 else (acL (fiP a) fiVal 48).2 := by unfold fitsV; rw [if_pos ⟨q1, q2⟩]
  rw [ev] at hX
  refine bX10_fits_11 (c_rcv σ h.z1 h.st ⟨by decide, by rw [e.1]; exact e.2.1⟩) ?_
  rintro u ⟨h1, hB⟩
  rw [h.rcv ⟨Int.le_refl 0, e.2.1⟩] at h1
  have h1' : u 72 = airV a.1 := h1
  have hg := good_airV h.1.2
  have hu := h.bA hB (by rw [h1']; exact hg.2)
  have huF : Fq σ u := Fq.ofB isBkA hB
  refine bX10_fits_23 ?_
  have hb := acL_bd (fiP a) fiVal (fun n hn => by unfold fiVal; omega)
  -- the end of an inner turn, and of an outer one
  have key : ∀ (d n : Nat) (u : St), n + d = 48 → u 72 = airV a.1 → CR N a u → Fq σ u → (n % 3 = 0 → G mdX10_fits X 31 [(0, vr 60), (1, vi w), (2, vi (acL (fiP a) fiVal n).1), (3, vi (acL (fiP a) fiVal n).2), (4, vi ((n / 3 : Nat) : Int))] [] u) ∧ (n < 48 → G mdX10_fits X 41 [(0, vr 60), (1, vi w), (2, vi (acL (fiP a) fiVal n).1), (3, vi (acL (fiP a) fiVal n).2), (4, vi ((n / 3 : Nat) : Int)), (5, vi (((n % 3 : Nat) : Int) + 1))] [] u) := by
    intro d
    induction d with
    | zero =>
      intro n u hn hu1 hu2 hu3
      have hbn := hb n (by omega)
      obtain rfl : n = 48 := by omega
      refine ⟨fun _ => ?_, fun q => absurd q (by decide)⟩
      refine bX10_fits_31 (by decide) (fun _ => ?_) (fun q => absurd q (by decide))
      refine bX10_fits_91 hw (fun q => ?_) (fun q => ?_)
      · rw [if_neg q] at hX
        exact bX10_fits_99 (bX10_fits_100 hX (by omega) ⟨rfl, hu2, up.fq hu3⟩)
      · rw [if_pos q] at hX
        exact bX10_fits_95 (bX10_fits_100 hX (by omega) ⟨rfl, hu2, up.fq hu3⟩)
    | succ d ih =>
      intro n u hn hu1 hu2 hu3
      have hbn := hb n (by omega)
      have es : acL (fiP a) fiVal (n + 1) = if fiP a n then ((acL (fiP a) fiVal n).1 + 1, if (acL (fiP a) fiVal n).2 = -9 then fiVal n else (acL (fiP a) fiVal n).2) else acL (fiP a) fiVal n := rfl
      -- to the next
      have next : ∀ u : St, u 72 = airV a.1 → CR N a u → Fq σ u → G mdX10_fits X 79 [(0, vr 60), (1, vi w), (2, vi (acL (fiP a) fiVal (n + 1)).1), (3, vi (acL (fiP a) fiVal (n + 1)).2), (4, vi ((n / 3 : Nat) : Int)), (5, vi (((n % 3 : Nat) : Int) + 1))] [] u := by
        intro u g1 g2 g3
        obtain ⟨n1, n2⟩ := ih (n + 1) u (by omega) g1 g2 g3
        refine bX10_fits_79 ?_
        by_cases h3 : n % 3 = 2
        · refine bX10_fits_41 (by omega) (fun _ => ?_) (fun q => by omega)
          refine bX10_fits_85 ?_
          have := n1 (by omega)
          rw [show ((n / 3 : Nat) : Int) + 1 = (((n + 1) / 3 : Nat) : Int) by omega]
          exact this
        · have := n2 (by omega)
          rw [show (((n + 1) / 3 : Nat) : Int) = ((n / 3 : Nat) : Int) by omega, show (((n + 1) % 3 : Nat) : Int) + 1 = (((n % 3 : Nat) : Int) + 1) + 1 by omega] at this
          exact this
      have body : G mdX10_fits X 41 [(0, vr 60), (1, vi w), (2, vi (acL (fiP a) fiVal n).1), (3, vi (acL (fiP a) fiVal n).2), (4, vi ((n / 3 : Nat) : Int)), (5, vi (((n % 3 : Nat) : Int) + 1))] [] u := by
        refine bX10_fits_41 (by omega) (fun q => by omega) (fun _ => ?_)
        refine bX10_fits_47 (c_slipFits u (by rw [hu1]; exact hg) hu2.z2 hu2.st hu2.se (by omega) (by omega)) ?_
        rintro z u3 hz2 ⟨e1, e2, e3⟩
        have hu4 : CR N a u3 := hu2.fq (Fq.ofB isBkB e3) (by rw [e3 72 (by decide)]; exact hu2.z1) e2
        have hu5 : u3 72 = airV a.1 := by rw [e3 72 (by decide)]; exact hu1
        have hu6 : Fq σ u3 := hu3.tr (Fq.ofB isBkB e3)
        have nx := next u3 hu5 hu4 hu6
        obtain ⟨s1, s2, s3⟩ := hu2.2.2.2.2.1
        have ep : seenOK (u 68 2) (u 69) (u 70) (slipG u ((n / 3 : Nat) : Int) (((n % 3 : Nat) : Int) + 1) (u 72)) ↔ fiP a n = true := by
          unfold fiP
          rw [seenB_ok, hu1, hu2.slip, s1, Int.toNat_of_nonneg s2.1]
          unfold seenOK
          constructor
          · intro g j a1 a2
            have := g j a1 a2
            rw [(s3 j a1 a2).1, (s3 j a1 a2).2.1] at this
            exact this
          · intro g j a1 a2
            rw [(s3 j a1 a2).1, (s3 j a1 a2).2.1]
            exact g j a1 a2
        rw [ep] at e1
        refine bX10_fits_55 hz2 (fun q5 => ?_) (fun q5 => ?_)
        · have hp : fiP a n = false := by
            rcases e1 with ⟨c1, c2⟩ | ⟨c1, c2⟩
            · omega
            · exact Bool.eq_false_iff.mpr c2
          rw [es, hp] at nx
          exact nx
        · have hp : fiP a n = true := by
            rcases e1 with ⟨c1, c2⟩ | ⟨c1, c2⟩
            · exact c2
            · omega
          rw [es, hp] at nx
          refine bX10_fits_58 (by omega) (fun q6 => ?_) (fun q6 => ?_)
          · rw [if_pos rfl, if_neg q6] at nx
            exact bX10_fits_77 (bX10_fits_78 nx)
          · rw [if_pos rfl, if_pos q6] at nx
            exact bX10_fits_67 (bX10_fits_78 nx)
      refine ⟨fun h3 => ?_, fun _ => body⟩
      refine bX10_fits_31 (by omega) (fun q => by omega) (fun _ => bX10_fits_38 ?_)
      rw [show ((n % 3 : Nat) : Int) + 1 = 1 by omega] at body
      exact body
  exact (key 48 0 u rfl h1' hu huF).1 rfl
