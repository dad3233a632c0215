/-! the model: mend -/
theorem nst_spec (m start : Int) (hs : 0 ≤ start ∧ start < 16) (h : mk m start = true) : ∀ n : Nat, ∃ e : Nat, e ≤ n ∧ nst m start n = (start + e) % 16 ∧ mk m (nst m start n) = true ∧ ∀ i : Nat, e < i → i ≤ n → mk m ((start + i) % 16) = false
  | 0 => ⟨0, Nat.le_refl 0, by show start = _; omega, h, fun i a b => by omega⟩
  | n + 1 => by
    by_cases q : mk m ((start + (n + 1 : Nat)) % 16) = true
    · refine ⟨n + 1, Nat.le_refl _, ?_, ?_, fun i a b => by omega⟩
      · unfold nst; rw [if_pos q]
      · unfold nst; rw [if_pos q]; exact q
    · obtain ⟨e, h1, h2, h3, h4⟩ := nst_spec m start hs h n
      refine ⟨e, by omega, ?_, ?_, fun i a b => ?_⟩
      · unfold nst; rw [if_neg q]; exact h2
      · unfold nst; rw [if_neg q]; exact h3
      · by_cases c : i = n + 1
        · rw [c]; exact Bool.eq_false_iff.mpr q
        · exact h4 i a (by omega)
def owM (m start p : Int) : Int := nst m start ((p - start) % 16).toNat
theorem ow_iff {m start : Int} (hs : 0 ≤ start ∧ start < 16) (h : mk m start = true) {k T : Int} (hk : 0 ≤ k ∧ k < 16) (hmk : mk m k = true) (hT : 1 ≤ T ∧ T ≤ 16) (hno : ∀ t, 1 ≤ t → t < T → mk m ((k + t) % 16) = false) (hTm : mk m ((k + T) % 16) = true) {p : Int} (hp : 0 ≤ p ∧ p < 16) : owM m start p = k ↔ (p - k) % 16 < T := by
  obtain ⟨e, h1, h2, h3, h4⟩ := nst_spec m start hs h ((p - start) % 16).toNat
  obtain ⟨d, hd⟩ : ∃ d : Nat, d = ((p - start) % 16).toNat := ⟨_, rfl⟩
  have hd2 : (d : Int) = (p - start) % 16 := by omega
  unfold owM
  rw [← hd] at h1 h2 h3 h4 ⊢
  rw [h2] at h3 ⊢
  constructor
  · intro g
    by_cases c : (p - k) % 16 < T
    · exact c
    · exfalso
      have f := h4 (e + T.toNat) (by omega) (by omega)
      rw [show (start + ((e + T.toNat : Nat) : Int)) % 16 = (k + T) % 16 by omega] at f
      rw [f] at hTm
      exact absurd hTm (by decide)
  · intro g
    obtain ⟨ek, hek⟩ : ∃ ek : Nat, (ek : Int) = (k - start) % 16 := ⟨((k - start) % 16).toNat, by omega⟩
    by_cases c : ek ≤ d
    · have c2 : ek ≤ e := by
        by_cases c3 : ek ≤ e
        · exact c3
        · have f := h4 ek (by omega) c
          rw [show (start + (ek : Int)) % 16 = k by omega, hmk] at f
          exact absurd f (by decide)
      by_cases c3 : e = ek
      · omega
      · have f := hno (e - ek) (by omega) (by omega)
        rw [show (k + ((e : Int) - ek)) % 16 = (start + e) % 16 by omega, h3] at f
        exact absurd f (by decide)
    · have f := hno (16 - ek) (by omega) (by omega)
      rw [show (k + (16 - (ek : Int))) % 16 = start by omega, h] at f
      exact absurd f (by decide)
theorem ow_self {m start : Int} (hs : 0 ≤ start ∧ start < 16) (h : mk m start = true) {k : Int} (hk : 0 ≤ k ∧ k < 16) (hmk : mk m k = true) : owM m start k = k := by
  obtain ⟨e, h1, h2, h3, h4⟩ := nst_spec m start hs h ((k - start) % 16).toNat
  unfold owM
  by_cases c : e = ((k - start) % 16).toNat
  · rw [h2, c]; omega
  · have f := h4 ((k - start) % 16).toNat (by omega) (Nat.le_refl _)
    rw [show (start + ((((k - start) % 16).toNat : Nat) : Int)) % 16 = k by omega, hmk] at f
    exact absurd f (by decide)
def walkF (k T q : Int) (g : Row) : Row := fun j => if (0 ≤ j ∧ j < 32) ∧ (j % 16 - k) % 16 < T then (g j * lgt q) % 97 else g j
theorem m_mendFrom (σ : St) (hr : r97 32 (σ 96)) (hm : 0 ≤ σ 88 32 ∧ σ 88 32 < 65536) {k q : Int} (hk : 0 ≤ k ∧ k < 16) (hmk : mk (σ 88 32) k = true) (hq : 0 ≤ q ∧ q ≤ 3) : CV mdX11_mendFrom [vr 87, vi k, vi q] σ (fun u => ∃ T, (1 ≤ T ∧ T ≤ 16) ∧ (∀ t, 1 ≤ t → t < T → mk (σ 88 32) ((k + t) % 16) = false) ∧ mk (σ 88 32) ((k + T) % 16) = true ∧ u = setr σ 96 (walkF k T q (σ 96))) := by
  refine CV_of (by decide +kernel) (Nat.le_of_ble_eq_true rfl) rfl (fun X hX => ?_)
  refine bX11_mendFrom_0 ?_
  have hl := lgt97 q
  -- one step
  have one : ∀ (t : Int), 0 ≤ t → t < 16 → (mk (σ 88 32) ((k + (t + 1)) % 16) = true → G mdX11_mendFrom X 87 [] [] (setr σ 96 (walkF k (t + 1) q (σ 96)))) → (mk (σ 88 32) ((k + (t + 1)) % 16) = false → G mdX11_mendFrom X 10 [(0, vr 87), (2, vi q), (3, vi ((k + (t + 1)) % 16))] [] (setr σ 96 (walkF k (t + 1) q (σ 96)))) → G mdX11_mendFrom X 10 [(0, vr 87), (2, vi q), (3, vi ((k + t) % 16))] [] (setr σ 96 (walkF k t q (σ 96))) := by
    intro t h0 h1 kt kf
    obtain ⟨p, hp⟩ : ∃ p, p = (k + t) % 16 := ⟨_, rfl⟩
    have hpb : 0 ≤ p ∧ p < 16 := by omega
    have e1 : setr σ 96 (walkF k t q (σ 96)) 96 p = σ 96 p := by
      rw [setr_at]; unfold walkF; rw [if_neg (by omega)]
    have e2 : walkF k t q (σ 96) (16 + p) = σ 96 (16 + p) := by unfold walkF; rw [if_neg (by omega)]
    have r1 := hr p (by omega) (by omega)
    have r2 := hr (16 + p) (by omega) (by omega)
    have m1 := m_bd r1 hl
    have m2 := m_bd r2 hl
    rw [← hp]
    refine bX11_mendFrom_10 (m_light ⟨by omega, by omega⟩ _) ⟨by omega, by omega⟩ ?_
    rintro z u hz ⟨rfl, rfl⟩
    rw [e1]
    refine bX11_mendFrom_25 (m_light ⟨by omega, by omega⟩ _) ⟨⟨m1.1, by omega⟩, ⟨by omega, by omega⟩, ⟨by omega, by omega⟩⟩ ?_
    rintro z u hz ⟨rfl, rfl⟩
    have e3 : wr (setr σ 96 (walkF k t q (σ 96))) 96 p ((σ 96 p * lgt q) % 97) 96 (16 + p) = σ 96 (16 + p) := by
      rw [wr_wr, setr_at]
      show (if 16 + p = p then _ else walkF k t q (σ 96) (16 + p)) = _
      rw [if_neg (by omega), e2]
    rw [e3]
    have ew : wr (wr (setr σ 96 (walkF k t q (σ 96))) 96 p ((σ 96 p * lgt q) % 97)) 96 (16 + p) ((σ 96 (16 + p) * lgt q) % 97) = setr σ 96 (walkF k (t + 1) q (σ 96)) := by
      rw [wr_wr, wr_wr]
      congr 1
      funext j
      unfold walkF
      by_cases q1 : j = 16 + p
      · rw [if_pos q1, if_pos (by omega), q1]
      · rw [if_neg q1]
        by_cases q2 : j = p
        · rw [if_pos q2, if_pos (by omega), q2]
        · rw [if_neg q2]
          by_cases q3 : (0 ≤ j ∧ j < 32) ∧ (j % 16 - k) % 16 < t
          · rw [if_pos q3, if_pos (by omega)]
          · rw [if_neg q3, if_neg (by omega)]
    have ep : (p + 1) % 16 = (k + (t + 1)) % 16 := by omega
    have e88 : setr σ 96 (walkF k (t + 1) q (σ 96)) 88 32 = σ 88 32 := by rw [setr_ne _ _ (by decide)]
    refine bX11_mendFrom_51 (by rw [ew, e88]; exact m_has hm (by omega) _) ⟨⟨m2.1, by omega⟩, ⟨by omega, by omega⟩, ⟨by omega, by omega⟩⟩ ?_
    rw [ep]
    rintro z u hz ⟨rfl, rfl⟩
    refine bX11_mendFrom_74 hz (fun q1 => ?_) (fun q1 => ?_)
    · exact bX11_mendFrom_81 (bX11_mendFrom_82 (bX11_mendFrom_5 (by decide) (fun _ => kt (bI_1.mp q1)) (fun q2 => absurd rfl q2)))
    · exact bX11_mendFrom_77 (bX11_mendFrom_82 (bX11_mendFrom_5 (by decide) (fun q2 => absurd q2 (by decide)) (fun _ => kf (bI_0.mp q1))))
  have key : ∀ (d : Nat) (t : Int), t + d = 15 → 0 ≤ t → (∀ i, 1 ≤ i → i < t + 1 → mk (σ 88 32) ((k + i) % 16) = false) → G mdX11_mendFrom X 10 [(0, vr 87), (2, vi q), (3, vi ((k + t) % 16))] [] (setr σ 96 (walkF k t q (σ 96))) := by
    intro d
    induction d with
    | zero =>
      intro t h1 h2 h3
      refine one t h2 (by omega) (fun g => bX11_mendFrom_87 hX ⟨t + 1, by omega, h3, g, rfl⟩) (fun g => ?_)
      rw [show (k + (t + 1)) % 16 = k by omega, hmk] at g
      exact absurd g (by decide)
    | succ d ih =>
      intro t h1 h2 h3
      refine one t h2 (by omega) (fun g => bX11_mendFrom_87 hX ⟨t + 1, by omega, h3, g, rfl⟩) (fun g => ih (t + 1) (by omega) (by omega) (fun i a b => ?_))
      by_cases c : i = t + 1
      · rw [c]; exact g
      · exact h3 i a (by omega)
  have k0 := key 15 0 (by decide) (by decide) (fun i a b => by omega)
  have ez : walkF k 0 q (σ 96) = σ 96 := by
    funext j
    unfold walkF
    rw [if_neg (by omega)]
  rw [ez, setr_id, show (k + 0) % 16 = k by omega] at k0
  exact bX11_mendFrom_5 (by decide) (fun q2 => absurd q2 (by decide)) (fun _ => k0)
