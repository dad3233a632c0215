/-! the law: its loop -/
theorem law_loop {X : CT} {b n : Nat} {xs : Nat → Int32} (hE : RE X b) (hX : SC X n xs) (hn : n ≤ 3072) : ∀ (d : Nat) (N t : Int) (a : AS) (σ : St), (n : Int) - t < 6 * d → 0 ≤ t → t ≤ n → N * 6 = t → CR N a σ → MR N a σ → G mdL_law X 18 [(0, vr 108), (1, vr 60), (2, vr 87), (3, vi t)] [] σ := by
  intro d
  induction d with
  | zero =>
    intro N t a σ h1 h2 htn h3 hC hM
    refine G.iload_n dL_law_18 rfl (G.aload_n dL_law_19 rfl (G.slen hX dL_law_20 (G.bipush dL_law_21 (by decide) (G.isub dL_law_23 ?_))))
    exact G.icmp_gt (tgt := 1004) dL_law_24 (by decide) ⟨by omega, by omega⟩ ⟨by omega, by omega⟩ (fun _ => G.fin hE) (fun q => by omega)
  | succ d ih =>
    intro N t a σ h1 h2 htn h3 hC hM
    refine G.iload_n dL_law_18 rfl (G.aload_n dL_law_19 rfl (G.slen hX dL_law_20 (G.bipush dL_law_21 (by decide) (G.isub dL_law_23 ?_))))
    by_cases hq : (n : Int) - 6 < t
    · exact G.icmp_gt (tgt := 1004) dL_law_24 (by decide) ⟨by omega, by omega⟩ ⟨by omega, by omega⟩ (fun _ => G.fin hE) (fun q => by omega)
    refine G.icmp_gt (tgt := 1004) dL_law_24 (by decide) ⟨by omega, by omega⟩ ⟨by omega, by omega⟩ (fun q => absurd q hq) (fun _ => ?_)
    have hn2 : n < 2147483648 := by omega
    have ht : 0 ≤ t ∧ t + 5 < n := by omega
    have hN : N < 1000000 := by omega
    -- on to the next call
    have nx : ∀ a' σ', CR (N + 1) a' σ' → MR (N + 1) a' σ' → G mdL_law X 998 [(0, vr 108), (1, vr 60), (2, vr 87), (3, vi t)] [] σ' := by
      intro a' σ' g1 g2
      refine G.iinc (j := 3) (n := 6) (z := t) dL_law_998 rfl (by decide) rfl ?_
      exact G.goto (tgt := 18) dL_law_1001 (by decide) (ih (N + 1) (t + 6) a' σ' (by push_cast at h1; omega) (by omega) (by omega) (by omega) g1 g2)
    refine G.aload_n dL_law_27 rfl (G.iload_n dL_law_28 rfl (G.sld hX ⟨h2, by omega⟩ hn2 dL_law_29 (G.bipush dL_law_30 (by decide) (G.iandm (m := 31) 5 (by decide) (by decide) dL_law_32 ?_))))
    obtain ⟨c, hc⟩ : ∃ c, c = (xs t.toNat).toInt % 2 ^ 5 := ⟨_, rfl⟩
    rw [← hc]
    have cb : 0 ≤ c ∧ c < 32 := by omega
    have ci : inI c := ⟨by omega, by omega⟩
    have skip : G mdL_law X 998 [(0, vr 108), (1, vr 60), (2, vr 87), (3, vi t)] [] σ := nx a σ (hC.mm (by omega)) (hM.mm (by omega))
    by_cases c0 : c = 0
    · exact G.tswIn (v := 0) (tgt := 168) dL_law_33 ci c0 (by decide) rfl (by decide) (L_type hX hn2 ht hN hC hM nx)
    by_cases c1 : c = 1
    · exact G.tswIn (v := 1) (tgt := 191) dL_law_33 ci c1 (by decide) rfl (by decide) (L_clear hX hn2 ht hN hC hM nx)
    by_cases c2 : c = 2
    · exact G.tswIn (v := 2) (tgt := 204) dL_law_33 ci c2 (by decide) rfl (by decide) (L_block hX hn2 ht hN hC hM nx)
    by_cases c3 : c = 3
    · exact G.tswIn (v := 3) (tgt := 217) dL_law_33 ci c3 (by decide) rfl (by decide) (L_sends hX hn2 ht hN hC hM nx)
    by_cases c4 : c = 4
    · exact G.tswIn (v := 4) (tgt := 260) dL_law_33 ci c4 (by decide) rfl (by decide) (L_marks hX hn2 ht hN hC hM nx)
    by_cases c5 : c = 5
    · exact G.tswIn (v := 5) (tgt := 293) dL_law_33 ci c5 (by decide) rfl (by decide) (L_adds hX hn2 ht hN hC hM nx)
    by_cases c6 : c = 6
    · exact G.tswIn (v := 6) (tgt := 356) dL_law_33 ci c6 (by decide) rfl (by decide) (L_cuts hX hn2 ht hN hC hM nx)
    by_cases c7 : c = 7
    · exact G.tswIn (v := 7) (tgt := 369) dL_law_33 ci c7 (by decide) rfl (by decide) (L_stages hX hn2 ht hN hC hM nx)
    by_cases c8 : c = 8
    · exact G.tswIn (v := 8) (tgt := 432) dL_law_33 ci c8 (by decide) rfl (by decide) (L_drops hX hn2 ht hN hC hM nx)
    by_cases c9 : c = 9
    · exact G.tswIn (v := 9) (tgt := 455) dL_law_33 ci c9 (by decide) rfl (by decide) (L_learns hX hn2 ht hN hC hM nx)
    by_cases c10 : c = 10
    · exact G.tswIn (v := 10) (tgt := 488) dL_law_33 ci c10 (by decide) rfl (by decide) (L_orders hX hn2 ht hN hC hM nx)
    by_cases c11 : c = 11
    · exact G.tswIn (v := 11) (tgt := 501) dL_law_33 ci c11 (by decide) rfl (by decide) (L_hears hX hn2 ht hN hC hM nx)
    by_cases c12 : c = 12
    · exact G.tswIn (v := 12) (tgt := 514) dL_law_33 ci c12 (by decide) rfl (by decide) (L_undo hX hn2 ht hN hC hM nx)
    by_cases c13 : c = 13
    · exact G.tswIn (v := 13) (tgt := 527) dL_law_33 ci c13 (by decide) rfl (by decide) (L_at hX hn2 ht hN hC hM nx)
    by_cases c14 : c = 14
    · exact G.tswIn (v := 14) (tgt := 570) dL_law_33 ci c14 (by decide) rfl (by decide) (L_deed hX hn2 ht hN hC hM nx)
    by_cases c15 : c = 15
    · exact G.tswIn (v := 15) (tgt := 603) dL_law_33 ci c15 (by decide) rfl (by decide) (L_stage hX hn2 ht hN hC hM nx)
    by_cases c16 : c = 16
    · exact G.tswIn (v := 16) (tgt := 636) dL_law_33 ci c16 (by decide) rfl (by decide) (L_wrong hX hn2 ht hN hC hM nx)
    by_cases c17 : c = 17
    · exact G.tswIn (v := 17) (tgt := 659) dL_law_33 ci c17 (by decide) rfl (by decide) (L_loss hX hn2 ht hN hC hM nx)
    by_cases c18 : c = 18
    · exact G.tswIn (v := 18) (tgt := 672) dL_law_33 ci c18 (by decide) rfl (by decide) (L_taps hX hn2 ht hN hC hM nx)
    by_cases c19 : c = 19
    · exact G.tswIn (v := 19) (tgt := 715) dL_law_33 ci c19 (by decide) rfl (by decide) (L_skew hX hn2 ht hN hC hM nx)
    by_cases c20 : c = 20
    · exact G.tswIn (v := 20) (tgt := 728) dL_law_33 ci c20 (by decide) rfl (by decide) (L_spreads hX hn2 ht hN hC hM nx)
    by_cases c21 : c = 21
    · exact G.tswIn (v := 21) (tgt := 751) dL_law_33 ci c21 (by decide) rfl (by decide) (L_order hX hn2 ht hN hC hM nx)
    by_cases c22 : c = 22
    · exact G.tswIn (v := 22) (tgt := 774) dL_law_33 ci c22 (by decide) rfl (by decide) (L_lag hX hn2 ht hN hC hM nx)
    by_cases c23 : c = 23
    · exact G.tswIn (v := 23) (tgt := 797) dL_law_33 ci c23 (by decide) rfl (by decide) (L_sees hX hn2 ht hN hC hM nx)
    by_cases c24 : c = 24
    · exact G.tswIn (v := 24) (tgt := 840) dL_law_33 ci c24 (by decide) rfl (by decide) (L_forget hX hn2 ht hN hC hM nx)
    by_cases c25 : c = 25
    · exact G.tswIn (v := 25) (tgt := 853) dL_law_33 ci c25 (by decide) rfl (by decide) (L_fits hX hn2 ht hN hC hM nx)
    by_cases c26 : c = 26
    · exact G.tswIn (v := 26) (tgt := 876) dL_law_33 ci c26 (by decide) rfl (by decide) (L_odds hX hn2 ht hN hC hM nx)
    by_cases c27 : c = 27
    · exact G.tswIn (v := 27) (tgt := 929) dL_law_33 ci c27 (by decide) rfl (by decide) (L_keep hX hn2 ht hN hC hM nx)
    by_cases c28 : c = 28
    · exact G.tswIn (v := 28) (tgt := 952) dL_law_33 ci c28 (by decide) rfl (by decide) (L_back hX hn2 ht hN hC hM nx)
    by_cases c29 : c = 29
    · exact G.tswIn (v := 29) (tgt := 975) dL_law_33 ci c29 (by decide) rfl (by decide) (L_count hX hn2 ht hN hC hM nx)
    exact G.tswOut (tgt := 998) dL_law_33 ci (Or.inr (by omega)) (by decide) skip
