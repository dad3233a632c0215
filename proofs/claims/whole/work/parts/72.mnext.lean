/-! the model: the next token -/
def tkC (c : Int) : Int := if c = 120 ∨ c = 121 ∨ c = 109 ∨ c = 100 ∨ c = 59 then c else 2
def tkN (T : Row) (L p : Int) : Int := if L ≤ p then 0 else if isDg (T p) then (if valT T p (endT T L p) < 0 then 2 else 1) else tkC (T p)
def txM (T : Row) (L : Int) (σ : St) : Prop := σ 87 9 = L ∧ (0 ≤ L ∧ L ≤ 160) ∧ ∀ j, 0 ≤ j → j < L → σ 94 j = T j ∧ 0 ≤ T j ∧ T j ≤ 255
def TokAt (T : Row) (L p : Int) (u : St) : Prop := (0 ≤ p ∧ p ≤ L) ∧ u 87 12 = p ∧ u 87 13 = tkN T L p ∧ (p < L → T p ≠ 32 ∧ u 87 11 = endT T L p) ∧ (tkN T L p = 1 → u 87 14 = valT T p (endT T L p))
/-- the place of reading alone has changed -/
def Nf (σ u : St) : Prop := (∀ x, x ≠ 87 → u x = σ x) ∧ ∀ j, ¬ (11 ≤ j ∧ j ≤ 14) → u 87 j = σ 87 j
theorem Nf.of {σ : St} {g : Row} (h : ∀ j, ¬ (11 ≤ j ∧ j ≤ 14) → g j = σ 87 j) : Nf σ (setr σ 87 g) := ⟨fun x c => setr_ne _ _ c, fun j c => by rw [setr_at]; exact h j c⟩
def vInv (T : Row) (p k v : Int) : Prop := (0 ≤ v ∧ v ≤ 1000) ∧ (k = p → v = 0) ∧ (k = p + 1 → v = T p - 48) ∧ (k = p + 2 → v = 10 * (T p - 48) + T (p + 1) - 48) ∧ (p + 3 ≤ k → T p ≠ 48 → 99 < v)
theorem tkC_eq (c : Int) : (c = 120 → tkC c = c) ∧ (c = 121 → tkC c = c) ∧ (c = 109 → tkC c = c) ∧ (c = 100 → tkC c = c) ∧ (c = 59 → tkC c = c) := by
  unfold tkC
  refine ⟨fun h => ?_, fun h => ?_, fun h => ?_, fun h => ?_, fun h => ?_⟩ <;> rw [if_pos (by omega)]
theorem m_next {T : Row} {L : Int} (σ : St) (ht : txM T L σ) {e : Int} (h11 : σ 87 11 = e) (he : 0 ≤ e ∧ e ≤ L) : CV mdX11_next [vr 87] σ (fun u => (∃ p, e ≤ p ∧ TokAt T L p u ∧ ∀ q, runT T L e q = runT T L p q) ∧ Nf σ u) := by
  refine CV_of (by decide +kernel) (Nat.le_of_ble_eq_true rfl) rfl (fun X hX => ?_)
  obtain ⟨t1, t2, t3⟩ := ht
  -- behind a number
  have num : ∀ (p k : Int) (g : Row), e ≤ p → p < k → k ≤ L → T p ≠ 32 → (∀ j, p ≤ j → j < k → isDg (T j)) → (k = L ∨ ¬ isDg (T k)) → (∀ q, runT T L e q = runT T L p q) → g 11 = k → g 12 = p → vInv T p k (g 14) → (∀ j, ¬ (11 ≤ j ∧ j ≤ 14) → g j = σ 87 j) → G mdX11_next X 172 [(0, vr 87)] [] (setr σ 87 g) := by
    intro p k g c1 c2 c3 c4 c5 c6 c7 c8 c9 c10 c11
    obtain ⟨v1, v2, v3, v4, v5⟩ := c10
    have ee : endT T L p = k := endT_num (by omega) t2.2 c2 c3 c5 c6
    have dp := c5 p (by omega) c2
    have f94 : ∀ j, setr σ 87 g 94 j = σ 94 j := fun j => by rw [setr_ne _ _ (by decide)]
    have fin : ∀ t : Int, t = (if valT T p k < 0 then 2 else 1) → (t = 1 → g 14 = valT T p k) → G mdX11_next X 214 [] [vi t, vr 87] (setr σ 87 g) := by
      intro t d1 d2
      refine bX11_next_214 (bX11_next_279 hX ?_)
      rw [wr_wr]
      have et : tkN T L p = t := by unfold tkN; rw [if_neg (by omega), if_pos dp, ee, d1]
      refine ⟨⟨p, c1, ⟨⟨by omega, by omega⟩, ?_, ?_, fun _ => ⟨c4, ?_⟩, fun h1 => ?_⟩, c7⟩, Nf.of (fun j cj => ?_)⟩
      · rw [setr_at]; show (if (12 : Int) = 13 then t else g 12) = p; rw [if_neg (by decide)]; exact c9
      · rw [setr_at, et]; show (if (13 : Int) = 13 then t else g 13) = t; rw [if_pos rfl]
      · rw [setr_at, ee]; show (if (11 : Int) = 13 then t else g 11) = k; rw [if_neg (by decide)]; exact c8
      · rw [setr_at, ee]; show (if (14 : Int) = 13 then t else g 14) = _; rw [if_neg (by decide)]; exact d2 (by rw [← et]; exact h1)
      · show (if j = 13 then t else g j) = σ 87 j
        rw [if_neg (by omega)]; exact c11 j cj
    have two : valT T p k < 0 → G mdX11_next X 209 [] [vr 87] (setr σ 87 g) := fun d => bX11_next_209 (fin 2 (by rw [if_pos d]) (fun d2 => absurd d2 (by decide)))
    have one : ¬ valT T p k < 0 → g 14 = valT T p k → G mdX11_next X 213 [] [vr 87] (setr σ 87 g) := fun d d2 => bX11_next_213 (fin 1 (by rw [if_neg d]) (fun _ => d2))
    obtain ⟨l1, l2, l3⟩ := t3 p (by omega) (by omega)
    have w14 : setr σ 87 g 87 14 = g 14 := by rw [setr_at]
    have w12 : setr σ 87 g 87 12 = p := by rw [setr_at]; exact c9
    have w11 : setr σ 87 g 87 11 = k := by rw [setr_at]; exact c8
    have hv : (k = p + 1 ∧ valT T p k = T p - 48) ∨ (k = p + 2 ∧ T p ≠ 48 ∧ valT T p k = 10 * (T p - 48) + T (p + 1) - 48) ∨ ((k = p + 2 ∧ T p = 48 ∨ p + 3 ≤ k) ∧ valT T p k = -1) := by
      unfold valT
      by_cases q1 : k - p = 1
      · rw [if_pos q1]; exact Or.inl ⟨by omega, rfl⟩
      · rw [if_neg q1]
        by_cases q2 : 2 < k - p ∨ T p = 48
        · rw [if_pos q2]; exact Or.inr (Or.inr ⟨by omega, rfl⟩)
        · rw [if_neg q2]; exact Or.inr (Or.inl ⟨by omega, by omega, rfl⟩)
    have d2 : p + 2 ≤ k → isDg (T (p + 1)) := fun d => c5 (p + 1) (by omega) (by omega)
    refine bX11_next_172 (by rw [w14]; exact ⟨by omega, by omega⟩) (fun q => ?_) (fun q => ?_)
    · rw [w14] at q
      refine two ?_
      rcases hv with ⟨a1, a2⟩ | ⟨a1, a2, a3⟩ | ⟨a1, a2⟩
      · have := v3 a1; omega
      · have := v4 a1; have := d2 (by omega); omega
      · omega
    · rw [w14] at q
      refine bX11_next_182 (by rw [w12, f94, l1]; exact ⟨⟨by omega, by omega⟩, by omega, by omega⟩) (fun q2 => ?_) (fun q2 => ?_)
      · rw [w12, f94, l1] at q2
        rcases hv with ⟨a1, a2⟩ | ⟨a1, a2, a3⟩ | ⟨a1, a2⟩
        · have := v3 a1; exact one (by omega) (by omega)
        · have := v4 a1; have := d2 (by omega); exact one (by omega) (by omega)
        · have := v5 (by omega) q2; omega
      · rw [w12, f94, l1] at q2
        refine bX11_next_196 (by rw [w11, w12]; exact ⟨by omega, by omega⟩) (fun q3 => ?_) (fun q3 => ?_)
        · rw [w11, w12] at q3
          rcases hv with ⟨a1, a2⟩ | ⟨a1, a2, a3⟩ | ⟨a1, a2⟩
          · have := v3 a1; exact one (by omega) (by omega)
          · omega
          · omega
        · rw [w11, w12] at q3
          refine two ?_
          rcases hv with ⟨a1, a2⟩ | ⟨a1, a2, a3⟩ | ⟨a1, a2⟩
          · omega
          · omega
          · omega
  -- a number
  have dig : ∀ (d : Nat) (p k : Int) (g : Row), L - k = d → e ≤ p → p ≤ k → p < L → isDg (T p) → T p ≠ 32 → (∀ j, p ≤ j → j < k → isDg (T j)) → (∀ q, runT T L e q = runT T L p q) → g 11 = k → g 12 = p → vInv T p k (g 14) → (∀ j, ¬ (11 ≤ j ∧ j ≤ 14) → g j = σ 87 j) → G mdX11_next X 89 [(0, vr 87)] [] (setr σ 87 g) := by
    intro d
    induction d with
    | zero =>
      intro p k g c0 c1 c2 c3 c4 c5 c6 c7 c8 c9 c10 c11
      have w11 : setr σ 87 g 87 11 = k := by rw [setr_at]; exact c8
      have w9 : setr σ 87 g 87 9 = L := by rw [setr_at, c11 9 (by decide)]; exact t1
      exact bX11_next_89 (by rw [w11, w9]; exact ⟨⟨by omega, by omega⟩, by omega, by omega⟩) (fun _ => num p k g c1 (by omega) (by omega) c5 c6 (Or.inl (by omega)) c7 c8 c9 c10 c11) (fun q => by rw [w11, w9] at q; omega)
    | succ d ih =>
      intro p k g c0 c1 c2 c3 c4 c5 c6 c7 c8 c9 c10 c11
      have w11 : setr σ 87 g 87 11 = k := by rw [setr_at]; exact c8
      have w9 : setr σ 87 g 87 9 = L := by rw [setr_at, c11 9 (by decide)]; exact t1
      have w14 : setr σ 87 g 87 14 = g 14 := by rw [setr_at]
      have w94 : setr σ 87 g 94 k = T k := by rw [setr_ne _ _ (by decide)]; exact (t3 k (by omega) (by omega)).1
      obtain ⟨-, l2, l3⟩ := t3 k (by omega) (by omega)
      refine bX11_next_89 (by rw [w11, w9]; exact ⟨⟨by omega, by omega⟩, by omega, by omega⟩) (fun q => by rw [w11, w9] at q; omega) (fun _ => ?_)
      refine bX11_next_100 (by rw [w11, w94]; exact m_in ⟨by omega, by omega⟩ ⟨by decide, by decide⟩ ⟨by decide, by decide⟩ _) (by rw [w11]; exact ⟨by omega, by omega⟩) ?_
      rintro z u hz ⟨rfl, rfl⟩
      have no : ¬ isDg (T k) → p < k := fun h => by
        by_cases q : p = k
        · rw [q] at c4; exact absurd c4 h
        · omega
      refine bX11_next_116 hz (fun q => ?_) (fun q => ?_)
      · have hq : ¬ isDg (T k) := fun h => bI_d0 q h
        exact num p k g c1 (no hq) (by omega) c5 c6 (Or.inr hq) c7 c8 c9 c10 c11
      · have hq : isDg (T k) := bI_d1 q
        obtain ⟨v1, v2, v3, v4, v5⟩ := c10
        -- the value grows
        have grow : ∀ v : Int, vInv T p (k + 1) v → G mdX11_next X 156 [(0, vr 87)] [vi v, vr 87] (setr σ 87 g) := by
          intro v hv
          refine bX11_next_156 ?_
          rw [wr_wr, setr_at]
          have f : (if (11 : Int) = 14 then v else g 11) = k := by rw [if_neg (by decide)]; exact c8
          rw [f, wr_wr]
          refine ih p (k + 1) _ (by omega) c1 (by omega) c3 c4 c5 (fun j x y => ?_) c7 ?_ ?_ ?_ (fun j cj => ?_)
          · by_cases q2 : j = k
            · rw [q2]; exact hq
            · exact c6 j x (by omega)
          · show (if (11 : Int) = 11 then k + 1 else _) = k + 1
            rw [if_pos rfl]
          · show (if (12 : Int) = 11 then k + 1 else if (12 : Int) = 14 then v else g 12) = p
            rw [if_neg (by decide), if_neg (by decide)]; exact c9
          · show vInv T p (k + 1) (if (14 : Int) = 11 then k + 1 else if (14 : Int) = 14 then v else g 14)
            rw [if_neg (by decide), if_pos rfl]; exact hv
          · show (if j = 11 then k + 1 else if j = 14 then v else g j) = σ 87 j
            rw [if_neg (by omega), if_neg (by omega)]; exact c11 j cj
        refine bX11_next_119 (by rw [w14]; exact ⟨by omega, by omega⟩) (fun q2 => ?_) (fun q2 => ?_)
        · rw [w14] at q2
          refine bX11_next_136 (by rw [w11]; exact ⟨by omega, by omega⟩) ?_
          rw [w11, w94, w14]
          refine grow _ ⟨by omega, fun h => by omega, fun h => ?_, fun h => ?_, fun h1 h2 => ?_⟩
          · have hk : k = p := by omega
            have := v2 hk
            rw [hk]; omega
          · have hk : k = p + 1 := by omega
            have := v3 hk
            rw [hk]; omega
          · by_cases hk : k = p + 2
            · have h3 := v4 hk
              have dp := c6 (p + 1) (by omega) (by omega)
              omega
            · have := v5 (by omega) h2
              omega
        · rw [w14] at q2
          refine bX11_next_129 ?_
          rw [w14]
          refine grow _ ⟨by omega, fun h => by omega, fun h => ?_, fun h => ?_, fun h1 h2 => by omega⟩
          · have := v2 (by omega); omega
          · have := v3 (by omega); omega
  -- behind the blanks
  have tok : ∀ (p : Int) (g : Row), e ≤ p → p ≤ L → (p < L → T p ≠ 32) → (∀ q, runT T L e q = runT T L p q) → g 11 = p → (∀ j, ¬ (11 ≤ j ∧ j ≤ 14) → g j = σ 87 j) → G mdX11_next X 38 [(0, vr 87)] [] (setr σ 87 g) := by
    intro p g c1 c3 c5 c7 c8 c11
    have w11 : setr σ 87 g 87 11 = p := by rw [setr_at]; exact c8
    have ew : wr (wr (setr σ 87 g) 87 12 (setr σ 87 g 87 11)) 87 14 0 = setr σ 87 (fun j => if j = 14 then 0 else if j = 12 then p else g j) := by rw [w11, wr_wr, wr_wr]
    generalize hg' : (fun j => if j = 14 then 0 else if j = 12 then p else g j) = g' at ew
    have g11 : g' 11 = p := by rw [← hg']; exact c8
    have g12 : g' 12 = p := by rw [← hg']; rfl
    have g14 : g' 14 = 0 := by rw [← hg']; rfl
    have gf : ∀ j, ¬ (11 ≤ j ∧ j ≤ 14) → g' j = σ 87 j := fun j cj => by
      rw [← hg']
      show (if j = 14 then 0 else if j = 12 then p else g j) = σ 87 j
      rw [if_neg (by omega), if_neg (by omega)]; exact c11 j cj
    have u11 : setr σ 87 g' 87 11 = p := by rw [setr_at]; exact g11
    have u9 : setr σ 87 g' 87 9 = L := by rw [setr_at, gf 9 (by decide)]; exact t1
    refine bX11_next_38 (by rw [ew, u11, u9]; exact ⟨⟨by omega, by omega⟩, by omega, by omega⟩) (fun q => ?_) (fun q => ?_)
    · rw [ew] at q ⊢
      rw [u11, u9] at q
      have hlt : p < L := by omega
      obtain ⟨l1, l2, l3⟩ := t3 p (by omega) hlt
      have w94 : setr σ 87 g' 94 p = T p := by rw [setr_ne _ _ (by decide)]; exact l1
      refine bX11_next_70 (by rw [u11, w94]; exact m_in ⟨by omega, by omega⟩ ⟨by decide, by decide⟩ ⟨by decide, by decide⟩ _) (by rw [u11]; exact ⟨by omega, by omega⟩) ?_
      rintro z u hz ⟨rfl, rfl⟩
      refine bX11_next_86 hz (fun q2 => ?_) (fun q2 => ?_)
      · have hq : ¬ isDg (T p) := fun h => bI_d0 q2 h
        have fin : G mdX11_next X 266 [(0, vr 87)] [vi (tkC (T p)), vr 87] (setr σ 87 g') := by
          refine bX11_next_266 (bX11_next_279 hX ?_)
          rw [wr_wr, setr_at]
          have f : (if (11 : Int) = 13 then tkC (T p) else g' 11) = p := by rw [if_neg (by decide)]; exact g11
          rw [f, wr_wr]
          refine ⟨⟨p, c1, ⟨⟨by omega, by omega⟩, ?_, ?_, fun _ => ⟨c5 hlt, ?_⟩, fun h1 => ?_⟩, c7⟩, Nf.of (fun j cj => ?_)⟩
          · rw [setr_at]; show (if (12 : Int) = 11 then p + 1 else if (12 : Int) = 13 then tkC (T p) else g' 12) = p; rw [if_neg (by decide), if_neg (by decide)]; exact g12
          · rw [setr_at]; show (if (13 : Int) = 11 then p + 1 else if (13 : Int) = 13 then tkC (T p) else g' 13) = _; rw [if_neg (by decide), if_pos rfl]; unfold tkN; rw [if_neg (by omega), if_neg hq]
          · rw [setr_at, endT_1 hq]; show (if (11 : Int) = 11 then p + 1 else _) = _; rw [if_pos rfl]
          · unfold tkN at h1
            rw [if_neg (by omega), if_neg hq] at h1
            unfold tkC at h1
            by_cases qc : T p = 120 ∨ T p = 121 ∨ T p = 109 ∨ T p = 100 ∨ T p = 59
            · rw [if_pos qc] at h1; omega
            · rw [if_neg qc] at h1; exact absurd h1 (by decide)
          · show (if j = 11 then p + 1 else if j = 13 then tkC (T p) else g' j) = σ 87 j
            rw [if_neg (by omega), if_neg (by omega)]; exact gf j cj
        have hit : tkC (T p) = T p → G mdX11_next X 261 [(0, vr 87), (1, vi (T p))] [vr 87] (setr σ 87 g') := fun h => by
          refine bX11_next_261 ?_
          rw [h] at fin
          exact fin
        have hi : inI (T p) := ⟨by omega, by omega⟩
        obtain ⟨x1, x2, x3, x4, x5⟩ := tkC_eq (T p)
        refine bX11_next_220 (by rw [u11, w94]; exact ⟨⟨by omega, by omega⟩, hi⟩) (fun q3 => ?_) (fun q3 => ?_)
        · rw [u11, w94] at q3 ⊢; exact hit (x1 q3)
        rw [u11, w94] at q3 ⊢
        refine bX11_next_237 hi (fun q4 => hit (x2 q4)) (fun q4 => ?_)
        refine bX11_next_243 hi (fun q5 => hit (x3 q5)) (fun q5 => ?_)
        refine bX11_next_249 hi (fun q6 => hit (x4 q6)) (fun q6 => ?_)
        refine bX11_next_255 hi (fun q7 => bX11_next_265 ?_) (fun q7 => hit (x5 q7))
        have : tkC (T p) = 2 := by unfold tkC; rw [if_neg (by omega)]
        rw [this] at fin
        exact fin
      · have hq : isDg (T p) := bI_d1 q2
        exact dig (L - p).toNat p p g' (by omega) c1 (by omega) hlt hq (c5 hlt) (fun j x y => by omega) c7 g11 g12 ⟨by omega, fun _ => g14, fun h => by omega, fun h => by omega, fun h => by omega⟩ gf
    · rw [ew] at q ⊢
      rw [u11, u9] at q
      refine bX11_next_62 (bX11_next_279 hX ?_)
      rw [wr_wr]
      refine ⟨⟨p, c1, ⟨⟨by omega, by omega⟩, ?_, ?_, fun h => by omega, fun h1 => ?_⟩, c7⟩, Nf.of (fun j cj => ?_)⟩
      · rw [setr_at]; show (if (12 : Int) = 13 then 0 else g' 12) = p; rw [if_neg (by decide)]; exact g12
      · rw [setr_at]; show (if (13 : Int) = 13 then 0 else g' 13) = _; rw [if_pos rfl]; unfold tkN; rw [if_pos (by omega)]
      · unfold tkN at h1
        rw [if_pos (by omega)] at h1
        exact absurd h1 (by decide)
      · show (if j = 13 then 0 else g' j) = σ 87 j
        rw [if_neg (by omega)]; exact gf j cj
  have skip : ∀ (d : Nat) (i : Int) (g : Row), L - i = d → e ≤ i → (∀ q, runT T L e q = runT T L i q) → g 11 = i → (∀ j, ¬ (11 ≤ j ∧ j ≤ 14) → g j = σ 87 j) → G mdX11_next X 0 [(0, vr 87)] [] (setr σ 87 g) := by
    intro d
    induction d with
    | zero =>
      intro i g c0 c1 c7 c8 c11
      have w11 : setr σ 87 g 87 11 = i := by rw [setr_at]; exact c8
      have w9 : setr σ 87 g 87 9 = L := by rw [setr_at, c11 9 (by decide)]; exact t1
      exact bX11_next_0 (by rw [w11, w9]; exact ⟨⟨by omega, by omega⟩, by omega, by omega⟩) (fun _ => tok i g c1 (by omega) (fun h => by omega) c7 c8 c11) (fun q => by rw [w11, w9] at q; omega)
    | succ d ih =>
      intro i g c0 c1 c7 c8 c11
      have w11 : setr σ 87 g 87 11 = i := by rw [setr_at]; exact c8
      have w9 : setr σ 87 g 87 9 = L := by rw [setr_at, c11 9 (by decide)]; exact t1
      obtain ⟨l1, l2, l3⟩ := t3 i (by omega) (by omega)
      have w94 : setr σ 87 g 94 i = T i := by rw [setr_ne _ _ (by decide)]; exact l1
      refine bX11_next_0 (by rw [w11, w9]; exact ⟨⟨by omega, by omega⟩, by omega, by omega⟩) (fun q => by rw [w11, w9] at q; omega) (fun _ => ?_)
      refine bX11_next_11 (by rw [w11, w94]; exact ⟨⟨by omega, by omega⟩, by omega, by omega⟩) (fun q => ?_) (fun q => ?_)
      · rw [w11, w94] at q
        exact tok i g c1 (by omega) (fun _ => q) c7 c8 c11
      · rw [w11, w94] at q
        refine bX11_next_25 ?_
        rw [w11, wr_wr]
        refine ih (i + 1) _ (by omega) (by omega) (fun q2 => by rw [c7 q2, run_blank t2.2 (by omega) (by omega) q]) ?_ (fun j cj => ?_)
        · show (if (11 : Int) = 11 then i + 1 else _) = i + 1
          rw [if_pos rfl]
        · show (if j = 11 then i + 1 else g j) = σ 87 j
          rw [if_neg (by omega)]; exact c11 j cj
  have := skip (L - e).toNat e (σ 87) (by omega) (by omega) (fun _ => rfl) h11 (fun _ _ => rfl)
  rw [setr_id] at this
  exact this
