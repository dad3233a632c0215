/-! the law: its cases (made by wip/whole/gen5.py) -/
theorem vL_X10_type : vlk RL 13 mdX10_type 1 := ⟨gw_at (i := 324) (by decide +kernel) rfl, gw_at (i := 325) (by decide +kernel) rfl, gw_at (i := 326) (by decide +kernel) rfl, ⟨gw_at (i := 65) (by decide +kernel) rfl, gw_at (i := 327) (by decide +kernel) rfl, by decide, by decide, by decide +kernel, by decide⟩⟩
theorem vL_X11_type : vlk RL 17 mdX11_type 1 := ⟨gw_at (i := 916) (by decide +kernel) rfl, gw_at (i := 917) (by decide +kernel) rfl, gw_at (i := 918) (by decide +kernel) rfl, ⟨gw_at (i := 75) (by decide +kernel) rfl, gw_at (i := 919) (by decide +kernel) rfl, by decide, by decide, by decide +kernel, by decide⟩⟩
theorem L_type {X : CT} {n : Nat} {xs : Nat → Int32} (hX : SC X n xs) (hn : n < 2147483648) {N t : Int} (ht : 0 ≤ t ∧ t + 5 < n) (hN : N < 1000000) {a : AS} {σ : St} (hC : CR N a σ) (hM : MR N a σ) (k : ∀ a' σ', CR (N + 1) a' σ' → MR (N + 1) a' σ' → G mdL_law X 998 [(0, vr 108), (1, vr 60), (2, vr 87), (3, vi t)] [] σ') : G mdL_law X 168 [(0, vr 108), (1, vr 60), (2, vr 87), (3, vi t)] [] σ := by
  refine G.aload_n dL_law_168 rfl ?_
  refine G.ldA hX (t := t) (j := 1) ⟨by omega, by omega⟩ hn dL_law_169 dL_law_170 dL_law_171 dL_law_172 dL_law_173 rfl rfl ?_
  refine G.callVI (md2 := mdX10_type) (as := [vi (xs (t + 1).toNat).toInt]) dL_law_174 rfl vL_X10_type (by decide) sh60 rfl (by decide) (Nat.le_of_ble_eq_true rfl) (k_type hC (inI_of _)) ?_
  rintro z u hz ⟨rfl, h1, h2⟩
  refine G.aload_n dL_law_177 rfl ?_
  refine G.ldA hX (t := t) (j := 1) ⟨by omega, by omega⟩ hn dL_law_178 dL_law_179 dL_law_180 dL_law_181 dL_law_182 rfl rfl ?_
  refine G.callVI (md2 := mdX11_type) (as := [vi (xs (t + 1).toNat).toInt]) dL_law_183 rfl vL_X11_type (by decide) sh87 rfl (by decide) (Nat.le_of_ble_eq_true rfl) (n_type (hM.up h2) (inI_of _)) ?_
  rintro z u2 hz2 ⟨rfl, h3, h4⟩
  exact G.icmp_eq (tgt := 998) dL_law_186 (by decide) hz hz2 (fun _ => k _ _ ((h1.dn h4).mm (by omega)) (h3.mm (by omega))) (fun q => absurd rfl q)
theorem vL_X10_clear : vlk RL 18 mdX10_clear 0 := ⟨gw_at (i := 332) (by decide +kernel) rfl, gw_at (i := 333) (by decide +kernel) rfl, gw_at (i := 334) (by decide +kernel) rfl, ⟨gw_at (i := 65) (by decide +kernel) rfl, gw_at (i := 335) (by decide +kernel) rfl, by decide, by decide, by decide +kernel, by decide⟩⟩
theorem vL_X11_clear : vlk RL 22 mdX11_clear 0 := ⟨gw_at (i := 923) (by decide +kernel) rfl, gw_at (i := 924) (by decide +kernel) rfl, gw_at (i := 925) (by decide +kernel) rfl, ⟨gw_at (i := 75) (by decide +kernel) rfl, gw_at (i := 926) (by decide +kernel) rfl, by decide, by decide, by decide +kernel, by decide⟩⟩
theorem L_clear {X : CT} {n : Nat} {xs : Nat → Int32} (hX : SC X n xs) (hn : n < 2147483648) {N t : Int} (ht : 0 ≤ t ∧ t + 5 < n) (hN : N < 1000000) {a : AS} {σ : St} (hC : CR N a σ) (hM : MR N a σ) (k : ∀ a' σ', CR (N + 1) a' σ' → MR (N + 1) a' σ' → G mdL_law X 998 [(0, vr 108), (1, vr 60), (2, vr 87), (3, vi t)] [] σ') : G mdL_law X 191 [(0, vr 108), (1, vr 60), (2, vr 87), (3, vi t)] [] σ := by
  refine G.aload_n dL_law_191 rfl ?_
  refine G.callVI (md2 := mdX10_clear) (as := []) dL_law_192 rfl vL_X10_clear (by decide) sh60 rfl (by decide) (Nat.le_of_ble_eq_true rfl) (k_clear hC) ?_
  rintro z u hz ⟨rfl, h1, h2⟩
  refine G.aload_n dL_law_195 rfl ?_
  refine G.callVI (md2 := mdX11_clear) (as := []) dL_law_196 rfl vL_X11_clear (by decide) sh87 rfl (by decide) (Nat.le_of_ble_eq_true rfl) (n_clear (hM.up h2)) ?_
  rintro z u2 hz2 ⟨rfl, h3, h4⟩
  exact G.icmp_eq (tgt := 998) dL_law_199 (by decide) hz hz2 (fun _ => k _ _ ((h1.dn h4).mm (by omega)) (h3.mm (by omega))) (fun q => absurd rfl q)
theorem vL_X10_block : vlk RL 23 mdX10_block 0 := ⟨gw_at (i := 336) (by decide +kernel) rfl, gw_at (i := 337) (by decide +kernel) rfl, gw_at (i := 338) (by decide +kernel) rfl, ⟨gw_at (i := 65) (by decide +kernel) rfl, gw_at (i := 339) (by decide +kernel) rfl, by decide, by decide, by decide +kernel, by decide⟩⟩
theorem vL_X11_block : vlk RL 26 mdX11_block 0 := ⟨gw_at (i := 927) (by decide +kernel) rfl, gw_at (i := 928) (by decide +kernel) rfl, gw_at (i := 929) (by decide +kernel) rfl, ⟨gw_at (i := 75) (by decide +kernel) rfl, gw_at (i := 930) (by decide +kernel) rfl, by decide, by decide, by decide +kernel, by decide⟩⟩
theorem L_block {X : CT} {n : Nat} {xs : Nat → Int32} (hX : SC X n xs) (hn : n < 2147483648) {N t : Int} (ht : 0 ≤ t ∧ t + 5 < n) (hN : N < 1000000) {a : AS} {σ : St} (hC : CR N a σ) (hM : MR N a σ) (k : ∀ a' σ', CR (N + 1) a' σ' → MR (N + 1) a' σ' → G mdL_law X 998 [(0, vr 108), (1, vr 60), (2, vr 87), (3, vi t)] [] σ') : G mdL_law X 204 [(0, vr 108), (1, vr 60), (2, vr 87), (3, vi t)] [] σ := by
  refine G.aload_n dL_law_204 rfl ?_
  refine G.callVI (md2 := mdX10_block) (as := []) dL_law_205 rfl vL_X10_block (by decide) sh60 rfl (by decide) (Nat.le_of_ble_eq_true rfl) (k_block hC) ?_
  rintro z u hz ⟨rfl, h1, h2⟩
  refine G.aload_n dL_law_208 rfl ?_
  refine G.callVI (md2 := mdX11_block) (as := []) dL_law_209 rfl vL_X11_block (by decide) sh87 rfl (by decide) (Nat.le_of_ble_eq_true rfl) (n_block (hM.up h2)) ?_
  rintro z u2 hz2 ⟨rfl, h3, h4⟩
  exact G.icmp_eq (tgt := 998) dL_law_212 (by decide) hz hz2 (fun _ => k _ _ ((h1.dn h4).mm (by omega)) (h3.mm (by omega))) (fun q => absurd rfl q)
theorem vL_X10_sends : vlk RL 27 mdX10_sends 3 := ⟨gw_at (i := 450) (by decide +kernel) rfl, gw_at (i := 451) (by decide +kernel) rfl, gw_at (i := 452) (by decide +kernel) rfl, ⟨gw_at (i := 65) (by decide +kernel) rfl, gw_at (i := 453) (by decide +kernel) rfl, by decide, by decide, by decide +kernel, by decide⟩⟩
theorem vL_X11_sends : vlk RL 31 mdX11_sends 3 := ⟨gw_at (i := 971) (by decide +kernel) rfl, gw_at (i := 972) (by decide +kernel) rfl, gw_at (i := 973) (by decide +kernel) rfl, ⟨gw_at (i := 75) (by decide +kernel) rfl, gw_at (i := 974) (by decide +kernel) rfl, by decide, by decide, by decide +kernel, by decide⟩⟩
theorem L_sends {X : CT} {n : Nat} {xs : Nat → Int32} (hX : SC X n xs) (hn : n < 2147483648) {N t : Int} (ht : 0 ≤ t ∧ t + 5 < n) (hN : N < 1000000) {a : AS} {σ : St} (hC : CR N a σ) (hM : MR N a σ) (k : ∀ a' σ', CR (N + 1) a' σ' → MR (N + 1) a' σ' → G mdL_law X 998 [(0, vr 108), (1, vr 60), (2, vr 87), (3, vi t)] [] σ') : G mdL_law X 217 [(0, vr 108), (1, vr 60), (2, vr 87), (3, vi t)] [] σ := by
  refine G.aload_n dL_law_217 rfl ?_
  refine G.ldA hX (t := t) (j := 1) ⟨by omega, by omega⟩ hn dL_law_218 dL_law_219 dL_law_220 dL_law_221 dL_law_222 rfl rfl ?_
  refine G.ldA hX (t := t) (j := 2) ⟨by omega, by omega⟩ hn dL_law_223 dL_law_224 dL_law_225 dL_law_226 dL_law_227 rfl rfl ?_
  refine G.ldA hX (t := t) (j := 3) ⟨by omega, by omega⟩ hn dL_law_228 dL_law_229 dL_law_230 dL_law_231 dL_law_232 rfl rfl ?_
  refine G.callVI (md2 := mdX10_sends) (as := [vi (xs (t + 1).toNat).toInt, vi (xs (t + 2).toNat).toInt, vi (xs (t + 3).toNat).toInt]) dL_law_233 rfl vL_X10_sends (by decide) sh60 rfl (by decide) (Nat.le_of_ble_eq_true rfl) (k_sends hC (inI_of _) (inI_of _) (inI_of _)) ?_
  rintro z u hz ⟨rfl, h1, h2⟩
  refine G.aload_n dL_law_236 rfl ?_
  refine G.ldA hX (t := t) (j := 1) ⟨by omega, by omega⟩ hn dL_law_237 dL_law_238 dL_law_239 dL_law_240 dL_law_241 rfl rfl ?_
  refine G.ldA hX (t := t) (j := 2) ⟨by omega, by omega⟩ hn dL_law_242 dL_law_243 dL_law_244 dL_law_245 dL_law_246 rfl rfl ?_
  refine G.ldA hX (t := t) (j := 3) ⟨by omega, by omega⟩ hn dL_law_247 dL_law_248 dL_law_249 dL_law_250 dL_law_251 rfl rfl ?_
  refine G.callVI (md2 := mdX11_sends) (as := [vi (xs (t + 1).toNat).toInt, vi (xs (t + 2).toNat).toInt, vi (xs (t + 3).toNat).toInt]) dL_law_252 rfl vL_X11_sends (by decide) sh87 rfl (by decide) (Nat.le_of_ble_eq_true rfl) (n_sends (hM.up h2) (inI_of _) (inI_of _) (inI_of _) (inI_of _)) ?_
  rintro z u2 hz2 ⟨rfl, h3, h4⟩
  exact G.icmp_eq (tgt := 998) dL_law_255 (by decide) hz hz2 (fun _ => k _ _ ((h1.dn h4).mm (by omega)) (h3.mm (by omega))) (fun q => absurd rfl q)
theorem vL_X10_marks : vlk RL 32 mdX10_marks 2 := ⟨gw_at (i := 459) (by decide +kernel) rfl, gw_at (i := 460) (by decide +kernel) rfl, gw_at (i := 461) (by decide +kernel) rfl, ⟨gw_at (i := 65) (by decide +kernel) rfl, gw_at (i := 462) (by decide +kernel) rfl, by decide, by decide, by decide +kernel, by decide⟩⟩
theorem vL_X11_marks : vlk RL 36 mdX11_marks 2 := ⟨gw_at (i := 975) (by decide +kernel) rfl, gw_at (i := 976) (by decide +kernel) rfl, gw_at (i := 977) (by decide +kernel) rfl, ⟨gw_at (i := 75) (by decide +kernel) rfl, gw_at (i := 978) (by decide +kernel) rfl, by decide, by decide, by decide +kernel, by decide⟩⟩
theorem L_marks {X : CT} {n : Nat} {xs : Nat → Int32} (hX : SC X n xs) (hn : n < 2147483648) {N t : Int} (ht : 0 ≤ t ∧ t + 5 < n) (hN : N < 1000000) {a : AS} {σ : St} (hC : CR N a σ) (hM : MR N a σ) (k : ∀ a' σ', CR (N + 1) a' σ' → MR (N + 1) a' σ' → G mdL_law X 998 [(0, vr 108), (1, vr 60), (2, vr 87), (3, vi t)] [] σ') : G mdL_law X 260 [(0, vr 108), (1, vr 60), (2, vr 87), (3, vi t)] [] σ := by
  refine G.aload_n dL_law_260 rfl ?_
  refine G.ldA hX (t := t) (j := 1) ⟨by omega, by omega⟩ hn dL_law_261 dL_law_262 dL_law_263 dL_law_264 dL_law_265 rfl rfl ?_
  refine G.ldA hX (t := t) (j := 2) ⟨by omega, by omega⟩ hn dL_law_266 dL_law_267 dL_law_268 dL_law_269 dL_law_270 rfl rfl ?_
  refine G.callVI (md2 := mdX10_marks) (as := [vi (xs (t + 1).toNat).toInt, vi (xs (t + 2).toNat).toInt]) dL_law_271 rfl vL_X10_marks (by decide) sh60 rfl (by decide) (Nat.le_of_ble_eq_true rfl) (k_marks hC (inI_of _) (inI_of _)) ?_
  rintro z u hz ⟨rfl, h1, h2⟩
  refine G.aload_n dL_law_274 rfl ?_
  refine G.ldA hX (t := t) (j := 1) ⟨by omega, by omega⟩ hn dL_law_275 dL_law_276 dL_law_277 dL_law_278 dL_law_279 rfl rfl ?_
  refine G.ldA hX (t := t) (j := 2) ⟨by omega, by omega⟩ hn dL_law_280 dL_law_281 dL_law_282 dL_law_283 dL_law_284 rfl rfl ?_
  refine G.callVI (md2 := mdX11_marks) (as := [vi (xs (t + 1).toNat).toInt, vi (xs (t + 2).toNat).toInt]) dL_law_285 rfl vL_X11_marks (by decide) sh87 rfl (by decide) (Nat.le_of_ble_eq_true rfl) (n_marks (hM.up h2) (inI_of _) (inI_of _)) ?_
  rintro z u2 hz2 ⟨rfl, h3, h4⟩
  exact G.icmp_eq (tgt := 998) dL_law_288 (by decide) hz hz2 (fun _ => k _ _ ((h1.dn h4).mm (by omega)) (h3.mm (by omega))) (fun q => absurd rfl q)
theorem vL_X10_adds : vlk RL 37 mdX10_adds 5 := ⟨gw_at (i := 471) (by decide +kernel) rfl, gw_at (i := 472) (by decide +kernel) rfl, gw_at (i := 473) (by decide +kernel) rfl, ⟨gw_at (i := 65) (by decide +kernel) rfl, gw_at (i := 474) (by decide +kernel) rfl, by decide, by decide, by decide +kernel, by decide⟩⟩
theorem vL_X11_adds : vlk RL 41 mdX11_adds 5 := ⟨gw_at (i := 983) (by decide +kernel) rfl, gw_at (i := 984) (by decide +kernel) rfl, gw_at (i := 985) (by decide +kernel) rfl, ⟨gw_at (i := 75) (by decide +kernel) rfl, gw_at (i := 986) (by decide +kernel) rfl, by decide, by decide, by decide +kernel, by decide⟩⟩
theorem L_adds {X : CT} {n : Nat} {xs : Nat → Int32} (hX : SC X n xs) (hn : n < 2147483648) {N t : Int} (ht : 0 ≤ t ∧ t + 5 < n) (hN : N < 1000000) {a : AS} {σ : St} (hC : CR N a σ) (hM : MR N a σ) (k : ∀ a' σ', CR (N + 1) a' σ' → MR (N + 1) a' σ' → G mdL_law X 998 [(0, vr 108), (1, vr 60), (2, vr 87), (3, vi t)] [] σ') : G mdL_law X 293 [(0, vr 108), (1, vr 60), (2, vr 87), (3, vi t)] [] σ := by
  refine G.aload_n dL_law_293 rfl ?_
  refine G.ldA hX (t := t) (j := 1) ⟨by omega, by omega⟩ hn dL_law_294 dL_law_295 dL_law_296 dL_law_297 dL_law_298 rfl rfl ?_
  refine G.ldA hX (t := t) (j := 2) ⟨by omega, by omega⟩ hn dL_law_299 dL_law_300 dL_law_301 dL_law_302 dL_law_303 rfl rfl ?_
  refine G.ldA hX (t := t) (j := 3) ⟨by omega, by omega⟩ hn dL_law_304 dL_law_305 dL_law_306 dL_law_307 dL_law_308 rfl rfl ?_
  refine G.ldA hX (t := t) (j := 4) ⟨by omega, by omega⟩ hn dL_law_309 dL_law_310 dL_law_311 dL_law_312 dL_law_313 rfl rfl ?_
  refine G.ldA hX (t := t) (j := 5) ⟨by omega, by omega⟩ hn dL_law_314 dL_law_315 dL_law_316 dL_law_317 dL_law_318 rfl rfl ?_
  refine G.callVI (md2 := mdX10_adds) (as := [vi (xs (t + 1).toNat).toInt, vi (xs (t + 2).toNat).toInt, vi (xs (t + 3).toNat).toInt, vi (xs (t + 4).toNat).toInt, vi (xs (t + 5).toNat).toInt]) dL_law_319 rfl vL_X10_adds (by decide) sh60 rfl (by decide) (Nat.le_of_ble_eq_true rfl) (k_adds hC (inI_of _) (inI_of _) (inI_of _) (inI_of _) (inI_of _)) ?_
  rintro z u hz ⟨rfl, h1, h2⟩
  refine G.aload_n dL_law_322 rfl ?_
  refine G.ldA hX (t := t) (j := 1) ⟨by omega, by omega⟩ hn dL_law_323 dL_law_324 dL_law_325 dL_law_326 dL_law_327 rfl rfl ?_
  refine G.ldA hX (t := t) (j := 2) ⟨by omega, by omega⟩ hn dL_law_328 dL_law_329 dL_law_330 dL_law_331 dL_law_332 rfl rfl ?_
  refine G.ldA hX (t := t) (j := 3) ⟨by omega, by omega⟩ hn dL_law_333 dL_law_334 dL_law_335 dL_law_336 dL_law_337 rfl rfl ?_
  refine G.ldA hX (t := t) (j := 4) ⟨by omega, by omega⟩ hn dL_law_338 dL_law_339 dL_law_340 dL_law_341 dL_law_342 rfl rfl ?_
  refine G.ldA hX (t := t) (j := 5) ⟨by omega, by omega⟩ hn dL_law_343 dL_law_344 dL_law_345 dL_law_346 dL_law_347 rfl rfl ?_
  refine G.callVI (md2 := mdX11_adds) (as := [vi (xs (t + 1).toNat).toInt, vi (xs (t + 2).toNat).toInt, vi (xs (t + 3).toNat).toInt, vi (xs (t + 4).toNat).toInt, vi (xs (t + 5).toNat).toInt]) dL_law_348 rfl vL_X11_adds (by decide) sh87 rfl (by decide) (Nat.le_of_ble_eq_true rfl) (n_adds (hM.up h2) (inI_of _) (inI_of _) (inI_of _) (inI_of _) (inI_of _)) ?_
  rintro z u2 hz2 ⟨rfl, h3, h4⟩
  exact G.icmp_eq (tgt := 998) dL_law_351 (by decide) hz hz2 (fun _ => k _ _ ((h1.dn h4).mm (by omega)) (h3.mm (by omega))) (fun q => absurd rfl q)
theorem vL_X10_cuts : vlk RL 42 mdX10_cuts 0 := ⟨gw_at (i := 490) (by decide +kernel) rfl, gw_at (i := 491) (by decide +kernel) rfl, gw_at (i := 492) (by decide +kernel) rfl, ⟨gw_at (i := 65) (by decide +kernel) rfl, gw_at (i := 493) (by decide +kernel) rfl, by decide, by decide, by decide +kernel, by decide⟩⟩
theorem vL_X11_cuts : vlk RL 45 mdX11_cuts 0 := ⟨gw_at (i := 994) (by decide +kernel) rfl, gw_at (i := 995) (by decide +kernel) rfl, gw_at (i := 996) (by decide +kernel) rfl, ⟨gw_at (i := 75) (by decide +kernel) rfl, gw_at (i := 997) (by decide +kernel) rfl, by decide, by decide, by decide +kernel, by decide⟩⟩
theorem L_cuts {X : CT} {n : Nat} {xs : Nat → Int32} (hX : SC X n xs) (hn : n < 2147483648) {N t : Int} (ht : 0 ≤ t ∧ t + 5 < n) (hN : N < 1000000) {a : AS} {σ : St} (hC : CR N a σ) (hM : MR N a σ) (k : ∀ a' σ', CR (N + 1) a' σ' → MR (N + 1) a' σ' → G mdL_law X 998 [(0, vr 108), (1, vr 60), (2, vr 87), (3, vi t)] [] σ') : G mdL_law X 356 [(0, vr 108), (1, vr 60), (2, vr 87), (3, vi t)] [] σ := by
  refine G.aload_n dL_law_356 rfl ?_
  refine G.callVI (md2 := mdX10_cuts) (as := []) dL_law_357 rfl vL_X10_cuts (by decide) sh60 rfl (by decide) (Nat.le_of_ble_eq_true rfl) (k_cuts hC) ?_
  rintro z u hz ⟨rfl, h1, h2⟩
  refine G.aload_n dL_law_360 rfl ?_
  refine G.callVI (md2 := mdX11_cuts) (as := []) dL_law_361 rfl vL_X11_cuts (by decide) sh87 rfl (by decide) (Nat.le_of_ble_eq_true rfl) (n_cuts (hM.up h2)) ?_
  rintro z u2 hz2 ⟨rfl, h3, h4⟩
  exact G.icmp_eq (tgt := 998) dL_law_364 (by decide) hz hz2 (fun _ => k _ _ ((h1.dn h4).mm (by omega)) (h3.mm (by omega))) (fun q => absurd rfl q)
theorem vL_X10_stages : vlk RL 46 mdX10_stages 5 := ⟨gw_at (i := 498) (by decide +kernel) rfl, gw_at (i := 499) (by decide +kernel) rfl, gw_at (i := 500) (by decide +kernel) rfl, ⟨gw_at (i := 65) (by decide +kernel) rfl, gw_at (i := 501) (by decide +kernel) rfl, by decide, by decide, by decide +kernel, by decide⟩⟩
theorem vL_X11_stages : vlk RL 49 mdX11_stages 5 := ⟨gw_at (i := 998) (by decide +kernel) rfl, gw_at (i := 999) (by decide +kernel) rfl, gw_at (i := 1000) (by decide +kernel) rfl, ⟨gw_at (i := 75) (by decide +kernel) rfl, gw_at (i := 1001) (by decide +kernel) rfl, by decide, by decide, by decide +kernel, by decide⟩⟩
theorem L_stages {X : CT} {n : Nat} {xs : Nat → Int32} (hX : SC X n xs) (hn : n < 2147483648) {N t : Int} (ht : 0 ≤ t ∧ t + 5 < n) (hN : N < 1000000) {a : AS} {σ : St} (hC : CR N a σ) (hM : MR N a σ) (k : ∀ a' σ', CR (N + 1) a' σ' → MR (N + 1) a' σ' → G mdL_law X 998 [(0, vr 108), (1, vr 60), (2, vr 87), (3, vi t)] [] σ') : G mdL_law X 369 [(0, vr 108), (1, vr 60), (2, vr 87), (3, vi t)] [] σ := by
  refine G.aload_n dL_law_369 rfl ?_
  refine G.ldA hX (t := t) (j := 1) ⟨by omega, by omega⟩ hn dL_law_370 dL_law_371 dL_law_372 dL_law_373 dL_law_374 rfl rfl ?_
  refine G.ldA hX (t := t) (j := 2) ⟨by omega, by omega⟩ hn dL_law_375 dL_law_376 dL_law_377 dL_law_378 dL_law_379 rfl rfl ?_
  refine G.ldA hX (t := t) (j := 3) ⟨by omega, by omega⟩ hn dL_law_380 dL_law_381 dL_law_382 dL_law_383 dL_law_384 rfl rfl ?_
  refine G.ldA hX (t := t) (j := 4) ⟨by omega, by omega⟩ hn dL_law_385 dL_law_386 dL_law_387 dL_law_388 dL_law_389 rfl rfl ?_
  refine G.ldA hX (t := t) (j := 5) ⟨by omega, by omega⟩ hn dL_law_390 dL_law_391 dL_law_392 dL_law_393 dL_law_394 rfl rfl ?_
  refine G.callVI (md2 := mdX10_stages) (as := [vi (xs (t + 1).toNat).toInt, vi (xs (t + 2).toNat).toInt, vi (xs (t + 3).toNat).toInt, vi (xs (t + 4).toNat).toInt, vi (xs (t + 5).toNat).toInt]) dL_law_395 rfl vL_X10_stages (by decide) sh60 rfl (by decide) (Nat.le_of_ble_eq_true rfl) (k_stages hC (inI_of _) (inI_of _) (inI_of _) (inI_of _) (inI_of _)) ?_
  rintro z u hz ⟨rfl, h1, h2⟩
  refine G.aload_n dL_law_398 rfl ?_
  refine G.ldA hX (t := t) (j := 1) ⟨by omega, by omega⟩ hn dL_law_399 dL_law_400 dL_law_401 dL_law_402 dL_law_403 rfl rfl ?_
  refine G.ldA hX (t := t) (j := 2) ⟨by omega, by omega⟩ hn dL_law_404 dL_law_405 dL_law_406 dL_law_407 dL_law_408 rfl rfl ?_
  refine G.ldA hX (t := t) (j := 3) ⟨by omega, by omega⟩ hn dL_law_409 dL_law_410 dL_law_411 dL_law_412 dL_law_413 rfl rfl ?_
  refine G.ldA hX (t := t) (j := 4) ⟨by omega, by omega⟩ hn dL_law_414 dL_law_415 dL_law_416 dL_law_417 dL_law_418 rfl rfl ?_
  refine G.ldA hX (t := t) (j := 5) ⟨by omega, by omega⟩ hn dL_law_419 dL_law_420 dL_law_421 dL_law_422 dL_law_423 rfl rfl ?_
  refine G.callVI (md2 := mdX11_stages) (as := [vi (xs (t + 1).toNat).toInt, vi (xs (t + 2).toNat).toInt, vi (xs (t + 3).toNat).toInt, vi (xs (t + 4).toNat).toInt, vi (xs (t + 5).toNat).toInt]) dL_law_424 rfl vL_X11_stages (by decide) sh87 rfl (by decide) (Nat.le_of_ble_eq_true rfl) (n_stages (hM.up h2) (inI_of _) (inI_of _) (inI_of _) (inI_of _) (inI_of _)) ?_
  rintro z u2 hz2 ⟨rfl, h3, h4⟩
  exact G.icmp_eq (tgt := 998) dL_law_427 (by decide) hz hz2 (fun _ => k _ _ ((h1.dn h4).mm (by omega)) (h3.mm (by omega))) (fun q => absurd rfl q)
theorem vL_X10_drops : vlk RL 50 mdX10_drops 1 := ⟨gw_at (i := 504) (by decide +kernel) rfl, gw_at (i := 505) (by decide +kernel) rfl, gw_at (i := 506) (by decide +kernel) rfl, ⟨gw_at (i := 65) (by decide +kernel) rfl, gw_at (i := 507) (by decide +kernel) rfl, by decide, by decide, by decide +kernel, by decide⟩⟩
theorem vL_X11_drops : vlk RL 53 mdX11_drops 1 := ⟨gw_at (i := 1005) (by decide +kernel) rfl, gw_at (i := 1006) (by decide +kernel) rfl, gw_at (i := 1007) (by decide +kernel) rfl, ⟨gw_at (i := 75) (by decide +kernel) rfl, gw_at (i := 1008) (by decide +kernel) rfl, by decide, by decide, by decide +kernel, by decide⟩⟩
theorem L_drops {X : CT} {n : Nat} {xs : Nat → Int32} (hX : SC X n xs) (hn : n < 2147483648) {N t : Int} (ht : 0 ≤ t ∧ t + 5 < n) (hN : N < 1000000) {a : AS} {σ : St} (hC : CR N a σ) (hM : MR N a σ) (k : ∀ a' σ', CR (N + 1) a' σ' → MR (N + 1) a' σ' → G mdL_law X 998 [(0, vr 108), (1, vr 60), (2, vr 87), (3, vi t)] [] σ') : G mdL_law X 432 [(0, vr 108), (1, vr 60), (2, vr 87), (3, vi t)] [] σ := by
  refine G.aload_n dL_law_432 rfl ?_
  refine G.ldA hX (t := t) (j := 1) ⟨by omega, by omega⟩ hn dL_law_433 dL_law_434 dL_law_435 dL_law_436 dL_law_437 rfl rfl ?_
  refine G.callVI (md2 := mdX10_drops) (as := [vi (xs (t + 1).toNat).toInt]) dL_law_438 rfl vL_X10_drops (by decide) sh60 rfl (by decide) (Nat.le_of_ble_eq_true rfl) (k_drops hC (inI_of _)) ?_
  rintro z u hz ⟨rfl, h1, h2⟩
  refine G.aload_n dL_law_441 rfl ?_
  refine G.ldA hX (t := t) (j := 1) ⟨by omega, by omega⟩ hn dL_law_442 dL_law_443 dL_law_444 dL_law_445 dL_law_446 rfl rfl ?_
  refine G.callVI (md2 := mdX11_drops) (as := [vi (xs (t + 1).toNat).toInt]) dL_law_447 rfl vL_X11_drops (by decide) sh87 rfl (by decide) (Nat.le_of_ble_eq_true rfl) (n_drops (hM.up h2) (inI_of _)) ?_
  rintro z u2 hz2 ⟨rfl, h3, h4⟩
  exact G.icmp_eq (tgt := 998) dL_law_450 (by decide) hz hz2 (fun _ => k _ _ ((h1.dn h4).mm (by omega)) (h3.mm (by omega))) (fun q => absurd rfl q)
theorem vL_X10_learns : vlk RL 54 mdX10_learns 2 := ⟨gw_at (i := 508) (by decide +kernel) rfl, gw_at (i := 509) (by decide +kernel) rfl, gw_at (i := 510) (by decide +kernel) rfl, ⟨gw_at (i := 65) (by decide +kernel) rfl, gw_at (i := 511) (by decide +kernel) rfl, by decide, by decide, by decide +kernel, by decide⟩⟩
theorem vL_X11_learns : vlk RL 57 mdX11_learns 2 := ⟨gw_at (i := 1009) (by decide +kernel) rfl, gw_at (i := 1010) (by decide +kernel) rfl, gw_at (i := 1011) (by decide +kernel) rfl, ⟨gw_at (i := 75) (by decide +kernel) rfl, gw_at (i := 1012) (by decide +kernel) rfl, by decide, by decide, by decide +kernel, by decide⟩⟩
theorem L_learns {X : CT} {n : Nat} {xs : Nat → Int32} (hX : SC X n xs) (hn : n < 2147483648) {N t : Int} (ht : 0 ≤ t ∧ t + 5 < n) (hN : N < 1000000) {a : AS} {σ : St} (hC : CR N a σ) (hM : MR N a σ) (k : ∀ a' σ', CR (N + 1) a' σ' → MR (N + 1) a' σ' → G mdL_law X 998 [(0, vr 108), (1, vr 60), (2, vr 87), (3, vi t)] [] σ') : G mdL_law X 455 [(0, vr 108), (1, vr 60), (2, vr 87), (3, vi t)] [] σ := by
  refine G.aload_n dL_law_455 rfl ?_
  refine G.ldA hX (t := t) (j := 1) ⟨by omega, by omega⟩ hn dL_law_456 dL_law_457 dL_law_458 dL_law_459 dL_law_460 rfl rfl ?_
  refine G.ldA hX (t := t) (j := 2) ⟨by omega, by omega⟩ hn dL_law_461 dL_law_462 dL_law_463 dL_law_464 dL_law_465 rfl rfl ?_
  refine G.callVI (md2 := mdX10_learns) (as := [vi (xs (t + 1).toNat).toInt, vi (xs (t + 2).toNat).toInt]) dL_law_466 rfl vL_X10_learns (by decide) sh60 rfl (by decide) (Nat.le_of_ble_eq_true rfl) (k_learns hC (inI_of _) (inI_of _)) ?_
  rintro z u hz ⟨rfl, h1, h2⟩
  refine G.aload_n dL_law_469 rfl ?_
  refine G.ldA hX (t := t) (j := 1) ⟨by omega, by omega⟩ hn dL_law_470 dL_law_471 dL_law_472 dL_law_473 dL_law_474 rfl rfl ?_
  refine G.ldA hX (t := t) (j := 2) ⟨by omega, by omega⟩ hn dL_law_475 dL_law_476 dL_law_477 dL_law_478 dL_law_479 rfl rfl ?_
  refine G.callVI (md2 := mdX11_learns) (as := [vi (xs (t + 1).toNat).toInt, vi (xs (t + 2).toNat).toInt]) dL_law_480 rfl vL_X11_learns (by decide) sh87 rfl (by decide) (Nat.le_of_ble_eq_true rfl) (n_learns (hM.up h2) (inI_of _) (inI_of _)) ?_
  rintro z u2 hz2 ⟨rfl, h3, h4⟩
  exact G.icmp_eq (tgt := 998) dL_law_483 (by decide) hz hz2 (fun _ => k _ _ ((h1.dn h4).mm (by omega)) (h3.mm (by omega))) (fun q => absurd rfl q)
theorem vL_X10_orders : vlk RL 58 mdX10_orders 0 := ⟨gw_at (i := 631) (by decide +kernel) rfl, gw_at (i := 632) (by decide +kernel) rfl, gw_at (i := 633) (by decide +kernel) rfl, ⟨gw_at (i := 65) (by decide +kernel) rfl, gw_at (i := 634) (by decide +kernel) rfl, by decide, by decide, by decide +kernel, by decide⟩⟩
theorem vL_X11_orders : vlk RL 61 mdX11_orders 0 := ⟨gw_at (i := 1120) (by decide +kernel) rfl, gw_at (i := 1121) (by decide +kernel) rfl, gw_at (i := 1122) (by decide +kernel) rfl, ⟨gw_at (i := 75) (by decide +kernel) rfl, gw_at (i := 1123) (by decide +kernel) rfl, by decide, by decide, by decide +kernel, by decide⟩⟩
theorem L_orders {X : CT} {n : Nat} {xs : Nat → Int32} (hX : SC X n xs) (hn : n < 2147483648) {N t : Int} (ht : 0 ≤ t ∧ t + 5 < n) (hN : N < 1000000) {a : AS} {σ : St} (hC : CR N a σ) (hM : MR N a σ) (k : ∀ a' σ', CR (N + 1) a' σ' → MR (N + 1) a' σ' → G mdL_law X 998 [(0, vr 108), (1, vr 60), (2, vr 87), (3, vi t)] [] σ') : G mdL_law X 488 [(0, vr 108), (1, vr 60), (2, vr 87), (3, vi t)] [] σ := by
  refine G.aload_n dL_law_488 rfl ?_
  refine G.callVI (md2 := mdX10_orders) (as := []) dL_law_489 rfl vL_X10_orders (by decide) sh60 rfl (by decide) (Nat.le_of_ble_eq_true rfl) (k_orders hC) ?_
  rintro z u hz ⟨rfl, h1, h2⟩
  refine G.aload_n dL_law_492 rfl ?_
  refine G.callVI (md2 := mdX11_orders) (as := []) dL_law_493 rfl vL_X11_orders (by decide) sh87 rfl (by decide) (Nat.le_of_ble_eq_true rfl) (n_orders (hM.up h2)) ?_
  rintro z u2 hz2 ⟨rfl, h3, h4⟩
  exact G.icmp_eq (tgt := 998) dL_law_496 (by decide) hz hz2 (fun _ => k _ _ ((h1.dn h4).mm (by omega)) (h3.mm (by omega))) (fun q => absurd rfl q)
theorem vL_X10_hears : vlk RL 62 mdX10_hears 0 := ⟨gw_at (i := 679) (by decide +kernel) rfl, gw_at (i := 680) (by decide +kernel) rfl, gw_at (i := 681) (by decide +kernel) rfl, ⟨gw_at (i := 65) (by decide +kernel) rfl, gw_at (i := 682) (by decide +kernel) rfl, by decide, by decide, by decide +kernel, by decide⟩⟩
theorem vL_X11_hears : vlk RL 65 mdX11_hears 0 := ⟨gw_at (i := 1124) (by decide +kernel) rfl, gw_at (i := 1125) (by decide +kernel) rfl, gw_at (i := 1126) (by decide +kernel) rfl, ⟨gw_at (i := 75) (by decide +kernel) rfl, gw_at (i := 1127) (by decide +kernel) rfl, by decide, by decide, by decide +kernel, by decide⟩⟩
theorem L_hears {X : CT} {n : Nat} {xs : Nat → Int32} (hX : SC X n xs) (hn : n < 2147483648) {N t : Int} (ht : 0 ≤ t ∧ t + 5 < n) (hN : N < 1000000) {a : AS} {σ : St} (hC : CR N a σ) (hM : MR N a σ) (k : ∀ a' σ', CR (N + 1) a' σ' → MR (N + 1) a' σ' → G mdL_law X 998 [(0, vr 108), (1, vr 60), (2, vr 87), (3, vi t)] [] σ') : G mdL_law X 501 [(0, vr 108), (1, vr 60), (2, vr 87), (3, vi t)] [] σ := by
  refine G.aload_n dL_law_501 rfl ?_
  refine G.callVI (md2 := mdX10_hears) (as := []) dL_law_502 rfl vL_X10_hears (by decide) sh60 rfl (by decide) (Nat.le_of_ble_eq_true rfl) (k_hears hN hC) ?_
  rintro z u hz ⟨rfl, h1, h2⟩
  refine G.aload_n dL_law_505 rfl ?_
  refine G.callVI (md2 := mdX11_hears) (as := []) dL_law_506 rfl vL_X11_hears (by decide) sh87 rfl (by decide) (Nat.le_of_ble_eq_true rfl) (n_hears hN (hM.up h2)) ?_
  rintro z u2 hz2 ⟨rfl, h3, h4⟩
  exact G.icmp_eq (tgt := 998) dL_law_509 (by decide) hz hz2 (fun _ => k _ _ ((h1.dn h4)) (h3)) (fun q => absurd rfl q)
theorem vL_X10_undo : vlk RL 66 mdX10_undo 0 := ⟨gw_at (i := 689) (by decide +kernel) rfl, gw_at (i := 690) (by decide +kernel) rfl, gw_at (i := 691) (by decide +kernel) rfl, ⟨gw_at (i := 65) (by decide +kernel) rfl, gw_at (i := 692) (by decide +kernel) rfl, by decide, by decide, by decide +kernel, by decide⟩⟩
theorem vL_X11_undo : vlk RL 69 mdX11_undo 0 := ⟨gw_at (i := 912) (by decide +kernel) rfl, gw_at (i := 913) (by decide +kernel) rfl, gw_at (i := 914) (by decide +kernel) rfl, ⟨gw_at (i := 75) (by decide +kernel) rfl, gw_at (i := 915) (by decide +kernel) rfl, by decide, by decide, by decide +kernel, by decide⟩⟩
theorem L_undo {X : CT} {n : Nat} {xs : Nat → Int32} (hX : SC X n xs) (hn : n < 2147483648) {N t : Int} (ht : 0 ≤ t ∧ t + 5 < n) (hN : N < 1000000) {a : AS} {σ : St} (hC : CR N a σ) (hM : MR N a σ) (k : ∀ a' σ', CR (N + 1) a' σ' → MR (N + 1) a' σ' → G mdL_law X 998 [(0, vr 108), (1, vr 60), (2, vr 87), (3, vi t)] [] σ') : G mdL_law X 514 [(0, vr 108), (1, vr 60), (2, vr 87), (3, vi t)] [] σ := by
  refine G.aload_n dL_law_514 rfl ?_
  refine G.callVI (md2 := mdX10_undo) (as := []) dL_law_515 rfl vL_X10_undo (by decide) sh60 rfl (by decide) (Nat.le_of_ble_eq_true rfl) (k_undo hC) ?_
  rintro z u hz ⟨rfl, h1, h2⟩
  refine G.aload_n dL_law_518 rfl ?_
  refine G.callVI (md2 := mdX11_undo) (as := []) dL_law_519 rfl vL_X11_undo (by decide) sh87 rfl (by decide) (Nat.le_of_ble_eq_true rfl) (n_undo (hM.up h2)) ?_
  rintro z u2 hz2 ⟨rfl, h3, h4⟩
  exact G.icmp_eq (tgt := 998) dL_law_522 (by decide) hz hz2 (fun _ => k _ _ ((h1.dn h4).mm (by omega)) (h3.mm (by omega))) (fun q => absurd rfl q)
theorem vL_X10_at : vlk RL 70 mdX10_at 3 := ⟨gw_at (i := 700) (by decide +kernel) rfl, gw_at (i := 701) (by decide +kernel) rfl, gw_at (i := 702) (by decide +kernel) rfl, ⟨gw_at (i := 65) (by decide +kernel) rfl, gw_at (i := 703) (by decide +kernel) rfl, by decide, by decide, by decide +kernel, by decide⟩⟩
theorem vL_X11_at : vlk RL 73 mdX11_at 3 := ⟨gw_at (i := 1134) (by decide +kernel) rfl, gw_at (i := 1135) (by decide +kernel) rfl, gw_at (i := 1136) (by decide +kernel) rfl, ⟨gw_at (i := 75) (by decide +kernel) rfl, gw_at (i := 1137) (by decide +kernel) rfl, by decide, by decide, by decide +kernel, by decide⟩⟩
theorem L_at {X : CT} {n : Nat} {xs : Nat → Int32} (hX : SC X n xs) (hn : n < 2147483648) {N t : Int} (ht : 0 ≤ t ∧ t + 5 < n) (hN : N < 1000000) {a : AS} {σ : St} (hC : CR N a σ) (hM : MR N a σ) (k : ∀ a' σ', CR (N + 1) a' σ' → MR (N + 1) a' σ' → G mdL_law X 998 [(0, vr 108), (1, vr 60), (2, vr 87), (3, vi t)] [] σ') : G mdL_law X 527 [(0, vr 108), (1, vr 60), (2, vr 87), (3, vi t)] [] σ := by
  refine G.aload_n dL_law_527 rfl ?_
  refine G.ldA hX (t := t) (j := 1) ⟨by omega, by omega⟩ hn dL_law_528 dL_law_529 dL_law_530 dL_law_531 dL_law_532 rfl rfl ?_
  refine G.ldA hX (t := t) (j := 2) ⟨by omega, by omega⟩ hn dL_law_533 dL_law_534 dL_law_535 dL_law_536 dL_law_537 rfl rfl ?_
  refine G.ldA hX (t := t) (j := 3) ⟨by omega, by omega⟩ hn dL_law_538 dL_law_539 dL_law_540 dL_law_541 dL_law_542 rfl rfl ?_
  refine G.callVI (md2 := mdX10_at) (as := [vi (xs (t + 1).toNat).toInt, vi (xs (t + 2).toNat).toInt, vi (xs (t + 3).toNat).toInt]) dL_law_543 rfl vL_X10_at (by decide) sh60 rfl (by decide) (Nat.le_of_ble_eq_true rfl) (k_at hC (inI_of _) (inI_of _) (inI_of _)) ?_
  rintro z u hz ⟨rfl, h1, h2⟩
  refine G.aload_n dL_law_546 rfl ?_
  refine G.ldA hX (t := t) (j := 1) ⟨by omega, by omega⟩ hn dL_law_547 dL_law_548 dL_law_549 dL_law_550 dL_law_551 rfl rfl ?_
  refine G.ldA hX (t := t) (j := 2) ⟨by omega, by omega⟩ hn dL_law_552 dL_law_553 dL_law_554 dL_law_555 dL_law_556 rfl rfl ?_
  refine G.ldA hX (t := t) (j := 3) ⟨by omega, by omega⟩ hn dL_law_557 dL_law_558 dL_law_559 dL_law_560 dL_law_561 rfl rfl ?_
  refine G.callVI (md2 := mdX11_at) (as := [vi (xs (t + 1).toNat).toInt, vi (xs (t + 2).toNat).toInt, vi (xs (t + 3).toNat).toInt]) dL_law_562 rfl vL_X11_at (by decide) sh87 rfl (by decide) (Nat.le_of_ble_eq_true rfl) (n_at (hM.up h2) (inI_of _) (inI_of _) (inI_of _)) ?_
  rintro z u2 hz2 ⟨rfl, h3, h4⟩
  exact G.icmp_eq (tgt := 998) dL_law_565 (by decide) hz hz2 (fun _ => k _ _ ((h1.dn h4).mm (by omega)) (h3.mm (by omega))) (fun q => absurd rfl q)
theorem vL_X10_deed : vlk RL 74 mdX10_deed 2 := ⟨gw_at (i := 705) (by decide +kernel) rfl, gw_at (i := 706) (by decide +kernel) rfl, gw_at (i := 707) (by decide +kernel) rfl, ⟨gw_at (i := 65) (by decide +kernel) rfl, gw_at (i := 708) (by decide +kernel) rfl, by decide, by decide, by decide +kernel, by decide⟩⟩
theorem vL_X11_deed : vlk RL 77 mdX11_deed 2 := ⟨gw_at (i := 1138) (by decide +kernel) rfl, gw_at (i := 1139) (by decide +kernel) rfl, gw_at (i := 1140) (by decide +kernel) rfl, ⟨gw_at (i := 75) (by decide +kernel) rfl, gw_at (i := 1141) (by decide +kernel) rfl, by decide, by decide, by decide +kernel, by decide⟩⟩
theorem L_deed {X : CT} {n : Nat} {xs : Nat → Int32} (hX : SC X n xs) (hn : n < 2147483648) {N t : Int} (ht : 0 ≤ t ∧ t + 5 < n) (hN : N < 1000000) {a : AS} {σ : St} (hC : CR N a σ) (hM : MR N a σ) (k : ∀ a' σ', CR (N + 1) a' σ' → MR (N + 1) a' σ' → G mdL_law X 998 [(0, vr 108), (1, vr 60), (2, vr 87), (3, vi t)] [] σ') : G mdL_law X 570 [(0, vr 108), (1, vr 60), (2, vr 87), (3, vi t)] [] σ := by
  refine G.aload_n dL_law_570 rfl ?_
  refine G.ldA hX (t := t) (j := 1) ⟨by omega, by omega⟩ hn dL_law_571 dL_law_572 dL_law_573 dL_law_574 dL_law_575 rfl rfl ?_
  refine G.ldA hX (t := t) (j := 2) ⟨by omega, by omega⟩ hn dL_law_576 dL_law_577 dL_law_578 dL_law_579 dL_law_580 rfl rfl ?_
  refine G.callVI (md2 := mdX10_deed) (as := [vi (xs (t + 1).toNat).toInt, vi (xs (t + 2).toNat).toInt]) dL_law_581 rfl vL_X10_deed (by decide) sh60 rfl (by decide) (Nat.le_of_ble_eq_true rfl) (k_deed hC (inI_of _) (inI_of _)) ?_
  rintro z u hz ⟨rfl, h1, h2⟩
  refine G.aload_n dL_law_584 rfl ?_
  refine G.ldA hX (t := t) (j := 1) ⟨by omega, by omega⟩ hn dL_law_585 dL_law_586 dL_law_587 dL_law_588 dL_law_589 rfl rfl ?_
  refine G.ldA hX (t := t) (j := 2) ⟨by omega, by omega⟩ hn dL_law_590 dL_law_591 dL_law_592 dL_law_593 dL_law_594 rfl rfl ?_
  refine G.callVI (md2 := mdX11_deed) (as := [vi (xs (t + 1).toNat).toInt, vi (xs (t + 2).toNat).toInt]) dL_law_595 rfl vL_X11_deed (by decide) sh87 rfl (by decide) (Nat.le_of_ble_eq_true rfl) (n_deed (hM.up h2) (inI_of _) (inI_of _)) ?_
  rintro z u2 hz2 ⟨rfl, h3, h4⟩
  exact G.icmp_eq (tgt := 998) dL_law_598 (by decide) hz hz2 (fun _ => k _ _ ((h1.dn h4).mm (by omega)) (h3.mm (by omega))) (fun q => absurd rfl q)
theorem vL_X10_stage : vlk RL 78 mdX10_stage 2 := ⟨gw_at (i := 710) (by decide +kernel) rfl, gw_at (i := 711) (by decide +kernel) rfl, gw_at (i := 712) (by decide +kernel) rfl, ⟨gw_at (i := 65) (by decide +kernel) rfl, gw_at (i := 713) (by decide +kernel) rfl, by decide, by decide, by decide +kernel, by decide⟩⟩
theorem vL_X11_stage : vlk RL 81 mdX11_stage 2 := ⟨gw_at (i := 1142) (by decide +kernel) rfl, gw_at (i := 1143) (by decide +kernel) rfl, gw_at (i := 1144) (by decide +kernel) rfl, ⟨gw_at (i := 75) (by decide +kernel) rfl, gw_at (i := 1145) (by decide +kernel) rfl, by decide, by decide, by decide +kernel, by decide⟩⟩
theorem L_stage {X : CT} {n : Nat} {xs : Nat → Int32} (hX : SC X n xs) (hn : n < 2147483648) {N t : Int} (ht : 0 ≤ t ∧ t + 5 < n) (hN : N < 1000000) {a : AS} {σ : St} (hC : CR N a σ) (hM : MR N a σ) (k : ∀ a' σ', CR (N + 1) a' σ' → MR (N + 1) a' σ' → G mdL_law X 998 [(0, vr 108), (1, vr 60), (2, vr 87), (3, vi t)] [] σ') : G mdL_law X 603 [(0, vr 108), (1, vr 60), (2, vr 87), (3, vi t)] [] σ := by
  refine G.aload_n dL_law_603 rfl ?_
  refine G.ldA hX (t := t) (j := 1) ⟨by omega, by omega⟩ hn dL_law_604 dL_law_605 dL_law_606 dL_law_607 dL_law_608 rfl rfl ?_
  refine G.ldA hX (t := t) (j := 2) ⟨by omega, by omega⟩ hn dL_law_609 dL_law_610 dL_law_611 dL_law_612 dL_law_613 rfl rfl ?_
  refine G.callVI (md2 := mdX10_stage) (as := [vi (xs (t + 1).toNat).toInt, vi (xs (t + 2).toNat).toInt]) dL_law_614 rfl vL_X10_stage (by decide) sh60 rfl (by decide) (Nat.le_of_ble_eq_true rfl) (k_stage hC (inI_of _) (inI_of _)) ?_
  rintro z u hz ⟨rfl, h1, h2⟩
  refine G.aload_n dL_law_617 rfl ?_
  refine G.ldA hX (t := t) (j := 1) ⟨by omega, by omega⟩ hn dL_law_618 dL_law_619 dL_law_620 dL_law_621 dL_law_622 rfl rfl ?_
  refine G.ldA hX (t := t) (j := 2) ⟨by omega, by omega⟩ hn dL_law_623 dL_law_624 dL_law_625 dL_law_626 dL_law_627 rfl rfl ?_
  refine G.callVI (md2 := mdX11_stage) (as := [vi (xs (t + 1).toNat).toInt, vi (xs (t + 2).toNat).toInt]) dL_law_628 rfl vL_X11_stage (by decide) sh87 rfl (by decide) (Nat.le_of_ble_eq_true rfl) (n_stage (hM.up h2) (inI_of _) (inI_of _)) ?_
  rintro z u2 hz2 ⟨rfl, h3, h4⟩
  exact G.icmp_eq (tgt := 998) dL_law_631 (by decide) hz hz2 (fun _ => k _ _ ((h1.dn h4).mm (by omega)) (h3.mm (by omega))) (fun q => absurd rfl q)
theorem vL_X10_wrong : vlk RL 82 mdX10_wrong 1 := ⟨gw_at (i := 714) (by decide +kernel) rfl, gw_at (i := 715) (by decide +kernel) rfl, gw_at (i := 716) (by decide +kernel) rfl, ⟨gw_at (i := 65) (by decide +kernel) rfl, gw_at (i := 717) (by decide +kernel) rfl, by decide, by decide, by decide +kernel, by decide⟩⟩
theorem vL_X11_wrong : vlk RL 85 mdX11_wrong 1 := ⟨gw_at (i := 1146) (by decide +kernel) rfl, gw_at (i := 1147) (by decide +kernel) rfl, gw_at (i := 1148) (by decide +kernel) rfl, ⟨gw_at (i := 75) (by decide +kernel) rfl, gw_at (i := 1149) (by decide +kernel) rfl, by decide, by decide, by decide +kernel, by decide⟩⟩
theorem L_wrong {X : CT} {n : Nat} {xs : Nat → Int32} (hX : SC X n xs) (hn : n < 2147483648) {N t : Int} (ht : 0 ≤ t ∧ t + 5 < n) (hN : N < 1000000) {a : AS} {σ : St} (hC : CR N a σ) (hM : MR N a σ) (k : ∀ a' σ', CR (N + 1) a' σ' → MR (N + 1) a' σ' → G mdL_law X 998 [(0, vr 108), (1, vr 60), (2, vr 87), (3, vi t)] [] σ') : G mdL_law X 636 [(0, vr 108), (1, vr 60), (2, vr 87), (3, vi t)] [] σ := by
  refine G.aload_n dL_law_636 rfl ?_
  refine G.ldA hX (t := t) (j := 1) ⟨by omega, by omega⟩ hn dL_law_637 dL_law_638 dL_law_639 dL_law_640 dL_law_641 rfl rfl ?_
  refine G.callVI (md2 := mdX10_wrong) (as := [vi (xs (t + 1).toNat).toInt]) dL_law_642 rfl vL_X10_wrong (by decide) sh60 rfl (by decide) (Nat.le_of_ble_eq_true rfl) (k_wrong hC (inI_of _)) ?_
  rintro z u hz ⟨rfl, h1, h2⟩
  refine G.aload_n dL_law_645 rfl ?_
  refine G.ldA hX (t := t) (j := 1) ⟨by omega, by omega⟩ hn dL_law_646 dL_law_647 dL_law_648 dL_law_649 dL_law_650 rfl rfl ?_
  refine G.callVI (md2 := mdX11_wrong) (as := [vi (xs (t + 1).toNat).toInt]) dL_law_651 rfl vL_X11_wrong (by decide) sh87 rfl (by decide) (Nat.le_of_ble_eq_true rfl) (n_wrong (hM.up h2) (inI_of _)) ?_
  rintro z u2 hz2 ⟨rfl, h3, h4⟩
  exact G.icmp_eq (tgt := 998) dL_law_654 (by decide) hz hz2 (fun _ => k _ _ ((h1.dn h4).mm (by omega)) (h3.mm (by omega))) (fun q => absurd rfl q)
theorem vL_X10_loss : vlk RL 86 mdX10_loss 0 := ⟨gw_at (i := 718) (by decide +kernel) rfl, gw_at (i := 719) (by decide +kernel) rfl, gw_at (i := 720) (by decide +kernel) rfl, ⟨gw_at (i := 65) (by decide +kernel) rfl, gw_at (i := 721) (by decide +kernel) rfl, by decide, by decide, by decide +kernel, by decide⟩⟩
theorem vL_X11_loss : vlk RL 89 mdX11_loss 0 := ⟨gw_at (i := 1150) (by decide +kernel) rfl, gw_at (i := 1151) (by decide +kernel) rfl, gw_at (i := 1152) (by decide +kernel) rfl, ⟨gw_at (i := 75) (by decide +kernel) rfl, gw_at (i := 1153) (by decide +kernel) rfl, by decide, by decide, by decide +kernel, by decide⟩⟩
theorem L_loss {X : CT} {n : Nat} {xs : Nat → Int32} (hX : SC X n xs) (hn : n < 2147483648) {N t : Int} (ht : 0 ≤ t ∧ t + 5 < n) (hN : N < 1000000) {a : AS} {σ : St} (hC : CR N a σ) (hM : MR N a σ) (k : ∀ a' σ', CR (N + 1) a' σ' → MR (N + 1) a' σ' → G mdL_law X 998 [(0, vr 108), (1, vr 60), (2, vr 87), (3, vi t)] [] σ') : G mdL_law X 659 [(0, vr 108), (1, vr 60), (2, vr 87), (3, vi t)] [] σ := by
  refine G.aload_n dL_law_659 rfl ?_
  refine G.callVI (md2 := mdX10_loss) (as := []) dL_law_660 rfl vL_X10_loss (by decide) sh60 rfl (by decide) (Nat.le_of_ble_eq_true rfl) (k_loss hC) ?_
  rintro z u hz ⟨rfl, h1, h2⟩
  refine G.aload_n dL_law_663 rfl ?_
  refine G.callVI (md2 := mdX11_loss) (as := []) dL_law_664 rfl vL_X11_loss (by decide) sh87 rfl (by decide) (Nat.le_of_ble_eq_true rfl) (n_loss (hM.up h2)) ?_
  rintro z u2 hz2 ⟨rfl, h3, h4⟩
  exact G.icmp_eq (tgt := 998) dL_law_667 (by decide) hz hz2 (fun _ => k _ _ ((h1.dn h4).mm (by omega)) (h3.mm (by omega))) (fun q => absurd rfl q)
theorem vL_X10_taps : vlk RL 90 mdX10_taps 3 := ⟨gw_at (i := 723) (by decide +kernel) rfl, gw_at (i := 724) (by decide +kernel) rfl, gw_at (i := 725) (by decide +kernel) rfl, ⟨gw_at (i := 65) (by decide +kernel) rfl, gw_at (i := 726) (by decide +kernel) rfl, by decide, by decide, by decide +kernel, by decide⟩⟩
theorem vL_X11_taps : vlk RL 93 mdX11_taps 3 := ⟨gw_at (i := 1096) (by decide +kernel) rfl, gw_at (i := 1097) (by decide +kernel) rfl, gw_at (i := 1098) (by decide +kernel) rfl, ⟨gw_at (i := 75) (by decide +kernel) rfl, gw_at (i := 1099) (by decide +kernel) rfl, by decide, by decide, by decide +kernel, by decide⟩⟩
theorem L_taps {X : CT} {n : Nat} {xs : Nat → Int32} (hX : SC X n xs) (hn : n < 2147483648) {N t : Int} (ht : 0 ≤ t ∧ t + 5 < n) (hN : N < 1000000) {a : AS} {σ : St} (hC : CR N a σ) (hM : MR N a σ) (k : ∀ a' σ', CR (N + 1) a' σ' → MR (N + 1) a' σ' → G mdL_law X 998 [(0, vr 108), (1, vr 60), (2, vr 87), (3, vi t)] [] σ') : G mdL_law X 672 [(0, vr 108), (1, vr 60), (2, vr 87), (3, vi t)] [] σ := by
  refine G.aload_n dL_law_672 rfl ?_
  refine G.ldA hX (t := t) (j := 1) ⟨by omega, by omega⟩ hn dL_law_673 dL_law_674 dL_law_675 dL_law_676 dL_law_677 rfl rfl ?_
  refine G.ldA hX (t := t) (j := 2) ⟨by omega, by omega⟩ hn dL_law_678 dL_law_679 dL_law_680 dL_law_681 dL_law_682 rfl rfl ?_
  refine G.ldA hX (t := t) (j := 3) ⟨by omega, by omega⟩ hn dL_law_683 dL_law_684 dL_law_685 dL_law_686 dL_law_687 rfl rfl ?_
  refine G.callVI (md2 := mdX10_taps) (as := [vi (xs (t + 1).toNat).toInt, vi (xs (t + 2).toNat).toInt, vi (xs (t + 3).toNat).toInt]) dL_law_688 rfl vL_X10_taps (by decide) sh60 rfl (by decide) (Nat.le_of_ble_eq_true rfl) (k_taps hC (inI_of _) (inI_of _) (inI_of _)) ?_
  rintro z u hz ⟨rfl, h1, h2⟩
  refine G.aload_n dL_law_691 rfl ?_
  refine G.ldA hX (t := t) (j := 1) ⟨by omega, by omega⟩ hn dL_law_692 dL_law_693 dL_law_694 dL_law_695 dL_law_696 rfl rfl ?_
  refine G.ldA hX (t := t) (j := 2) ⟨by omega, by omega⟩ hn dL_law_697 dL_law_698 dL_law_699 dL_law_700 dL_law_701 rfl rfl ?_
  refine G.ldA hX (t := t) (j := 3) ⟨by omega, by omega⟩ hn dL_law_702 dL_law_703 dL_law_704 dL_law_705 dL_law_706 rfl rfl ?_
  refine G.callVI (md2 := mdX11_taps) (as := [vi (xs (t + 1).toNat).toInt, vi (xs (t + 2).toNat).toInt, vi (xs (t + 3).toNat).toInt]) dL_law_707 rfl vL_X11_taps (by decide) sh87 rfl (by decide) (Nat.le_of_ble_eq_true rfl) (n_taps (hM.up h2) (inI_of _) (inI_of _) (inI_of _)) ?_
  rintro z u2 hz2 ⟨rfl, h3, h4⟩
  exact G.icmp_eq (tgt := 998) dL_law_710 (by decide) hz hz2 (fun _ => k _ _ ((h1.dn h4).mm (by omega)) (h3.mm (by omega))) (fun q => absurd rfl q)
theorem vL_X10_skew : vlk RL 94 mdX10_skew 0 := ⟨gw_at (i := 731) (by decide +kernel) rfl, gw_at (i := 732) (by decide +kernel) rfl, gw_at (i := 733) (by decide +kernel) rfl, ⟨gw_at (i := 65) (by decide +kernel) rfl, gw_at (i := 734) (by decide +kernel) rfl, by decide, by decide, by decide +kernel, by decide⟩⟩
theorem vL_X11_skew : vlk RL 97 mdX11_skew 0 := ⟨gw_at (i := 1155) (by decide +kernel) rfl, gw_at (i := 1156) (by decide +kernel) rfl, gw_at (i := 1157) (by decide +kernel) rfl, ⟨gw_at (i := 75) (by decide +kernel) rfl, gw_at (i := 1158) (by decide +kernel) rfl, by decide, by decide, by decide +kernel, by decide⟩⟩
theorem L_skew {X : CT} {n : Nat} {xs : Nat → Int32} (hX : SC X n xs) (hn : n < 2147483648) {N t : Int} (ht : 0 ≤ t ∧ t + 5 < n) (hN : N < 1000000) {a : AS} {σ : St} (hC : CR N a σ) (hM : MR N a σ) (k : ∀ a' σ', CR (N + 1) a' σ' → MR (N + 1) a' σ' → G mdL_law X 998 [(0, vr 108), (1, vr 60), (2, vr 87), (3, vi t)] [] σ') : G mdL_law X 715 [(0, vr 108), (1, vr 60), (2, vr 87), (3, vi t)] [] σ := by
  refine G.aload_n dL_law_715 rfl ?_
  refine G.callVI (md2 := mdX10_skew) (as := []) dL_law_716 rfl vL_X10_skew (by decide) sh60 rfl (by decide) (Nat.le_of_ble_eq_true rfl) (k_skew hC) ?_
  rintro z u hz ⟨rfl, h1, h2⟩
  refine G.aload_n dL_law_719 rfl ?_
  refine G.callVI (md2 := mdX11_skew) (as := []) dL_law_720 rfl vL_X11_skew (by decide) sh87 rfl (by decide) (Nat.le_of_ble_eq_true rfl) (n_skew (hM.up h2)) ?_
  rintro z u2 hz2 ⟨rfl, h3, h4⟩
  exact G.icmp_eq (tgt := 998) dL_law_723 (by decide) hz hz2 (fun _ => k _ _ ((h1.dn h4).mm (by omega)) (h3.mm (by omega))) (fun q => absurd rfl q)
theorem vL_X10_spreads : vlk RL 98 mdX10_spreads 1 := ⟨gw_at (i := 740) (by decide +kernel) rfl, gw_at (i := 741) (by decide +kernel) rfl, gw_at (i := 742) (by decide +kernel) rfl, ⟨gw_at (i := 65) (by decide +kernel) rfl, gw_at (i := 743) (by decide +kernel) rfl, by decide, by decide, by decide +kernel, by decide⟩⟩
theorem vL_X11_spreads : vlk RL 101 mdX11_spreads 1 := ⟨gw_at (i := 1171) (by decide +kernel) rfl, gw_at (i := 1172) (by decide +kernel) rfl, gw_at (i := 1173) (by decide +kernel) rfl, ⟨gw_at (i := 75) (by decide +kernel) rfl, gw_at (i := 1174) (by decide +kernel) rfl, by decide, by decide, by decide +kernel, by decide⟩⟩
theorem L_spreads {X : CT} {n : Nat} {xs : Nat → Int32} (hX : SC X n xs) (hn : n < 2147483648) {N t : Int} (ht : 0 ≤ t ∧ t + 5 < n) (hN : N < 1000000) {a : AS} {σ : St} (hC : CR N a σ) (hM : MR N a σ) (k : ∀ a' σ', CR (N + 1) a' σ' → MR (N + 1) a' σ' → G mdL_law X 998 [(0, vr 108), (1, vr 60), (2, vr 87), (3, vi t)] [] σ') : G mdL_law X 728 [(0, vr 108), (1, vr 60), (2, vr 87), (3, vi t)] [] σ := by
  refine G.aload_n dL_law_728 rfl ?_
  refine G.ldA hX (t := t) (j := 1) ⟨by omega, by omega⟩ hn dL_law_729 dL_law_730 dL_law_731 dL_law_732 dL_law_733 rfl rfl ?_
  refine G.callVI (md2 := mdX10_spreads) (as := [vi (xs (t + 1).toNat).toInt]) dL_law_734 rfl vL_X10_spreads (by decide) sh60 rfl (by decide) (Nat.le_of_ble_eq_true rfl) (k_spreads hC (inI_of _)) ?_
  rintro z u hz ⟨rfl, h1, h2⟩
  refine G.aload_n dL_law_737 rfl ?_
  refine G.ldA hX (t := t) (j := 1) ⟨by omega, by omega⟩ hn dL_law_738 dL_law_739 dL_law_740 dL_law_741 dL_law_742 rfl rfl ?_
  refine G.callVI (md2 := mdX11_spreads) (as := [vi (xs (t + 1).toNat).toInt]) dL_law_743 rfl vL_X11_spreads (by decide) sh87 rfl (by decide) (Nat.le_of_ble_eq_true rfl) (n_spreads (hM.up h2) (inI_of _)) ?_
  rintro z u2 hz2 ⟨rfl, h3, h4⟩
  exact G.icmp_eq (tgt := 998) dL_law_746 (by decide) hz hz2 (fun _ => k _ _ ((h1.dn h4).mm (by omega)) (h3.mm (by omega))) (fun q => absurd rfl q)
theorem vL_X10_order : vlk RL 102 mdX10_order 1 := ⟨gw_at (i := 750) (by decide +kernel) rfl, gw_at (i := 751) (by decide +kernel) rfl, gw_at (i := 752) (by decide +kernel) rfl, ⟨gw_at (i := 65) (by decide +kernel) rfl, gw_at (i := 753) (by decide +kernel) rfl, by decide, by decide, by decide +kernel, by decide⟩⟩
theorem vL_X11_order : vlk RL 105 mdX11_order 1 := ⟨gw_at (i := 1100) (by decide +kernel) rfl, gw_at (i := 1101) (by decide +kernel) rfl, gw_at (i := 1102) (by decide +kernel) rfl, ⟨gw_at (i := 75) (by decide +kernel) rfl, gw_at (i := 1103) (by decide +kernel) rfl, by decide, by decide, by decide +kernel, by decide⟩⟩
theorem L_order {X : CT} {n : Nat} {xs : Nat → Int32} (hX : SC X n xs) (hn : n < 2147483648) {N t : Int} (ht : 0 ≤ t ∧ t + 5 < n) (hN : N < 1000000) {a : AS} {σ : St} (hC : CR N a σ) (hM : MR N a σ) (k : ∀ a' σ', CR (N + 1) a' σ' → MR (N + 1) a' σ' → G mdL_law X 998 [(0, vr 108), (1, vr 60), (2, vr 87), (3, vi t)] [] σ') : G mdL_law X 751 [(0, vr 108), (1, vr 60), (2, vr 87), (3, vi t)] [] σ := by
  refine G.aload_n dL_law_751 rfl ?_
  refine G.ldA hX (t := t) (j := 1) ⟨by omega, by omega⟩ hn dL_law_752 dL_law_753 dL_law_754 dL_law_755 dL_law_756 rfl rfl ?_
  refine G.callVI (md2 := mdX10_order) (as := [vi (xs (t + 1).toNat).toInt]) dL_law_757 rfl vL_X10_order (by decide) sh60 rfl (by decide) (Nat.le_of_ble_eq_true rfl) (k_order hC (inI_of _)) ?_
  rintro z u hz ⟨rfl, h1, h2⟩
  refine G.aload_n dL_law_760 rfl ?_
  refine G.ldA hX (t := t) (j := 1) ⟨by omega, by omega⟩ hn dL_law_761 dL_law_762 dL_law_763 dL_law_764 dL_law_765 rfl rfl ?_
  refine G.callVI (md2 := mdX11_order) (as := [vi (xs (t + 1).toNat).toInt]) dL_law_766 rfl vL_X11_order (by decide) sh87 rfl (by decide) (Nat.le_of_ble_eq_true rfl) (n_order (hM.up h2) (inI_of _)) ?_
  rintro z u2 hz2 ⟨rfl, h3, h4⟩
  exact G.icmp_eq (tgt := 998) dL_law_769 (by decide) hz hz2 (fun _ => k _ _ ((h1.dn h4).mm (by omega)) (h3.mm (by omega))) (fun q => absurd rfl q)
theorem vL_X10_lag : vlk RL 106 mdX10_lag 1 := ⟨gw_at (i := 754) (by decide +kernel) rfl, gw_at (i := 755) (by decide +kernel) rfl, gw_at (i := 756) (by decide +kernel) rfl, ⟨gw_at (i := 65) (by decide +kernel) rfl, gw_at (i := 757) (by decide +kernel) rfl, by decide, by decide, by decide +kernel, by decide⟩⟩
theorem vL_X11_lag : vlk RL 109 mdX11_lag 1 := ⟨gw_at (i := 1175) (by decide +kernel) rfl, gw_at (i := 1176) (by decide +kernel) rfl, gw_at (i := 1177) (by decide +kernel) rfl, ⟨gw_at (i := 75) (by decide +kernel) rfl, gw_at (i := 1178) (by decide +kernel) rfl, by decide, by decide, by decide +kernel, by decide⟩⟩
theorem L_lag {X : CT} {n : Nat} {xs : Nat → Int32} (hX : SC X n xs) (hn : n < 2147483648) {N t : Int} (ht : 0 ≤ t ∧ t + 5 < n) (hN : N < 1000000) {a : AS} {σ : St} (hC : CR N a σ) (hM : MR N a σ) (k : ∀ a' σ', CR (N + 1) a' σ' → MR (N + 1) a' σ' → G mdL_law X 998 [(0, vr 108), (1, vr 60), (2, vr 87), (3, vi t)] [] σ') : G mdL_law X 774 [(0, vr 108), (1, vr 60), (2, vr 87), (3, vi t)] [] σ := by
  refine G.aload_n dL_law_774 rfl ?_
  refine G.ldA hX (t := t) (j := 1) ⟨by omega, by omega⟩ hn dL_law_775 dL_law_776 dL_law_777 dL_law_778 dL_law_779 rfl rfl ?_
  refine G.callVI (md2 := mdX10_lag) (as := [vi (xs (t + 1).toNat).toInt]) dL_law_780 rfl vL_X10_lag (by decide) sh60 rfl (by decide) (Nat.le_of_ble_eq_true rfl) (k_lag hC (inI_of _)) ?_
  rintro z u hz ⟨rfl, h1, h2⟩
  refine G.aload_n dL_law_783 rfl ?_
  refine G.ldA hX (t := t) (j := 1) ⟨by omega, by omega⟩ hn dL_law_784 dL_law_785 dL_law_786 dL_law_787 dL_law_788 rfl rfl ?_
  refine G.callVI (md2 := mdX11_lag) (as := [vi (xs (t + 1).toNat).toInt]) dL_law_789 rfl vL_X11_lag (by decide) sh87 rfl (by decide) (Nat.le_of_ble_eq_true rfl) (n_lag (hM.up h2) (inI_of _)) ?_
  rintro z u2 hz2 ⟨rfl, h3, h4⟩
  exact G.icmp_eq (tgt := 998) dL_law_792 (by decide) hz hz2 (fun _ => k _ _ ((h1.dn h4).mm (by omega)) (h3.mm (by omega))) (fun q => absurd rfl q)
theorem vL_X10_sees : vlk RL 110 mdX10_sees 3 := ⟨gw_at (i := 758) (by decide +kernel) rfl, gw_at (i := 759) (by decide +kernel) rfl, gw_at (i := 760) (by decide +kernel) rfl, ⟨gw_at (i := 65) (by decide +kernel) rfl, gw_at (i := 761) (by decide +kernel) rfl, by decide, by decide, by decide +kernel, by decide⟩⟩
theorem vL_X11_sees : vlk RL 113 mdX11_sees 3 := ⟨gw_at (i := 1179) (by decide +kernel) rfl, gw_at (i := 1180) (by decide +kernel) rfl, gw_at (i := 1181) (by decide +kernel) rfl, ⟨gw_at (i := 75) (by decide +kernel) rfl, gw_at (i := 1182) (by decide +kernel) rfl, by decide, by decide, by decide +kernel, by decide⟩⟩
theorem L_sees {X : CT} {n : Nat} {xs : Nat → Int32} (hX : SC X n xs) (hn : n < 2147483648) {N t : Int} (ht : 0 ≤ t ∧ t + 5 < n) (hN : N < 1000000) {a : AS} {σ : St} (hC : CR N a σ) (hM : MR N a σ) (k : ∀ a' σ', CR (N + 1) a' σ' → MR (N + 1) a' σ' → G mdL_law X 998 [(0, vr 108), (1, vr 60), (2, vr 87), (3, vi t)] [] σ') : G mdL_law X 797 [(0, vr 108), (1, vr 60), (2, vr 87), (3, vi t)] [] σ := by
  refine G.aload_n dL_law_797 rfl ?_
  refine G.ldA hX (t := t) (j := 1) ⟨by omega, by omega⟩ hn dL_law_798 dL_law_799 dL_law_800 dL_law_801 dL_law_802 rfl rfl ?_
  refine G.ldA hX (t := t) (j := 2) ⟨by omega, by omega⟩ hn dL_law_803 dL_law_804 dL_law_805 dL_law_806 dL_law_807 rfl rfl ?_
  refine G.ldA hX (t := t) (j := 3) ⟨by omega, by omega⟩ hn dL_law_808 dL_law_809 dL_law_810 dL_law_811 dL_law_812 rfl rfl ?_
  refine G.callVI (md2 := mdX10_sees) (as := [vi (xs (t + 1).toNat).toInt, vi (xs (t + 2).toNat).toInt, vi (xs (t + 3).toNat).toInt]) dL_law_813 rfl vL_X10_sees (by decide) sh60 rfl (by decide) (Nat.le_of_ble_eq_true rfl) (k_sees hC (inI_of _) (inI_of _) (inI_of _)) ?_
  rintro z u hz ⟨rfl, h1, h2⟩
  refine G.aload_n dL_law_816 rfl ?_
  refine G.ldA hX (t := t) (j := 1) ⟨by omega, by omega⟩ hn dL_law_817 dL_law_818 dL_law_819 dL_law_820 dL_law_821 rfl rfl ?_
  refine G.ldA hX (t := t) (j := 2) ⟨by omega, by omega⟩ hn dL_law_822 dL_law_823 dL_law_824 dL_law_825 dL_law_826 rfl rfl ?_
  refine G.ldA hX (t := t) (j := 3) ⟨by omega, by omega⟩ hn dL_law_827 dL_law_828 dL_law_829 dL_law_830 dL_law_831 rfl rfl ?_
  refine G.callVI (md2 := mdX11_sees) (as := [vi (xs (t + 1).toNat).toInt, vi (xs (t + 2).toNat).toInt, vi (xs (t + 3).toNat).toInt]) dL_law_832 rfl vL_X11_sees (by decide) sh87 rfl (by decide) (Nat.le_of_ble_eq_true rfl) (n_sees (hM.up h2) (inI_of _) (inI_of _) (inI_of _)) ?_
  rintro z u2 hz2 ⟨rfl, h3, h4⟩
  exact G.icmp_eq (tgt := 998) dL_law_835 (by decide) hz hz2 (fun _ => k _ _ ((h1.dn h4).mm (by omega)) (h3.mm (by omega))) (fun q => absurd rfl q)
theorem vL_X10_forget : vlk RL 114 mdX10_forget 0 := ⟨gw_at (i := 766) (by decide +kernel) rfl, gw_at (i := 767) (by decide +kernel) rfl, gw_at (i := 768) (by decide +kernel) rfl, ⟨gw_at (i := 65) (by decide +kernel) rfl, gw_at (i := 769) (by decide +kernel) rfl, by decide, by decide, by decide +kernel, by decide⟩⟩
theorem vL_X11_forget : vlk RL 117 mdX11_forget 0 := ⟨gw_at (i := 1183) (by decide +kernel) rfl, gw_at (i := 1184) (by decide +kernel) rfl, gw_at (i := 1185) (by decide +kernel) rfl, ⟨gw_at (i := 75) (by decide +kernel) rfl, gw_at (i := 1186) (by decide +kernel) rfl, by decide, by decide, by decide +kernel, by decide⟩⟩
theorem L_forget {X : CT} {n : Nat} {xs : Nat → Int32} (hX : SC X n xs) (hn : n < 2147483648) {N t : Int} (ht : 0 ≤ t ∧ t + 5 < n) (hN : N < 1000000) {a : AS} {σ : St} (hC : CR N a σ) (hM : MR N a σ) (k : ∀ a' σ', CR (N + 1) a' σ' → MR (N + 1) a' σ' → G mdL_law X 998 [(0, vr 108), (1, vr 60), (2, vr 87), (3, vi t)] [] σ') : G mdL_law X 840 [(0, vr 108), (1, vr 60), (2, vr 87), (3, vi t)] [] σ := by
  refine G.aload_n dL_law_840 rfl ?_
  refine G.callVI (md2 := mdX10_forget) (as := []) dL_law_841 rfl vL_X10_forget (by decide) sh60 rfl (by decide) (Nat.le_of_ble_eq_true rfl) (k_forget hC) ?_
  rintro z u hz ⟨rfl, h1, h2⟩
  refine G.aload_n dL_law_844 rfl ?_
  refine G.callVI (md2 := mdX11_forget) (as := []) dL_law_845 rfl vL_X11_forget (by decide) sh87 rfl (by decide) (Nat.le_of_ble_eq_true rfl) (n_forget (hM.up h2)) ?_
  rintro z u2 hz2 ⟨rfl, h3, h4⟩
  exact G.icmp_eq (tgt := 998) dL_law_848 (by decide) hz hz2 (fun _ => k _ _ ((h1.dn h4).mm (by omega)) (h3.mm (by omega))) (fun q => absurd rfl q)
theorem vL_X10_fits : vlk RL 118 mdX10_fits 1 := ⟨gw_at (i := 770) (by decide +kernel) rfl, gw_at (i := 771) (by decide +kernel) rfl, gw_at (i := 772) (by decide +kernel) rfl, ⟨gw_at (i := 65) (by decide +kernel) rfl, gw_at (i := 773) (by decide +kernel) rfl, by decide, by decide, by decide +kernel, by decide⟩⟩
theorem vL_X11_fits : vlk RL 121 mdX11_fits 1 := ⟨gw_at (i := 1187) (by decide +kernel) rfl, gw_at (i := 1188) (by decide +kernel) rfl, gw_at (i := 1189) (by decide +kernel) rfl, ⟨gw_at (i := 75) (by decide +kernel) rfl, gw_at (i := 1190) (by decide +kernel) rfl, by decide, by decide, by decide +kernel, by decide⟩⟩
theorem L_fits {X : CT} {n : Nat} {xs : Nat → Int32} (hX : SC X n xs) (hn : n < 2147483648) {N t : Int} (ht : 0 ≤ t ∧ t + 5 < n) (hN : N < 1000000) {a : AS} {σ : St} (hC : CR N a σ) (hM : MR N a σ) (k : ∀ a' σ', CR (N + 1) a' σ' → MR (N + 1) a' σ' → G mdL_law X 998 [(0, vr 108), (1, vr 60), (2, vr 87), (3, vi t)] [] σ') : G mdL_law X 853 [(0, vr 108), (1, vr 60), (2, vr 87), (3, vi t)] [] σ := by
  refine G.aload_n dL_law_853 rfl ?_
  refine G.ldA hX (t := t) (j := 1) ⟨by omega, by omega⟩ hn dL_law_854 dL_law_855 dL_law_856 dL_law_857 dL_law_858 rfl rfl ?_
  refine G.callVI (md2 := mdX10_fits) (as := [vi (xs (t + 1).toNat).toInt]) dL_law_859 rfl vL_X10_fits (by decide) sh60 rfl (by decide) (Nat.le_of_ble_eq_true rfl) (k_fits hC (inI_of _)) ?_
  rintro z u hz ⟨rfl, h1, h2⟩
  refine G.aload_n dL_law_862 rfl ?_
  refine G.ldA hX (t := t) (j := 1) ⟨by omega, by omega⟩ hn dL_law_863 dL_law_864 dL_law_865 dL_law_866 dL_law_867 rfl rfl ?_
  refine G.callVI (md2 := mdX11_fits) (as := [vi (xs (t + 1).toNat).toInt]) dL_law_868 rfl vL_X11_fits (by decide) sh87 rfl (by decide) (Nat.le_of_ble_eq_true rfl) (n_fits (hM.up h2) (inI_of _)) ?_
  rintro z u2 hz2 ⟨rfl, h3, h4⟩
  exact G.icmp_eq (tgt := 998) dL_law_871 (by decide) hz hz2 (fun _ => k _ _ ((h1.dn h4).mm (by omega)) (h3.mm (by omega))) (fun q => absurd rfl q)
theorem vL_X10_odds : vlk RL 122 mdX10_odds 4 := ⟨gw_at (i := 784) (by decide +kernel) rfl, gw_at (i := 785) (by decide +kernel) rfl, gw_at (i := 786) (by decide +kernel) rfl, ⟨gw_at (i := 65) (by decide +kernel) rfl, gw_at (i := 787) (by decide +kernel) rfl, by decide, by decide, by decide +kernel, by decide⟩⟩
theorem vL_X11_odds : vlk RL 126 mdX11_odds 4 := ⟨gw_at (i := 1195) (by decide +kernel) rfl, gw_at (i := 1196) (by decide +kernel) rfl, gw_at (i := 1197) (by decide +kernel) rfl, ⟨gw_at (i := 75) (by decide +kernel) rfl, gw_at (i := 1198) (by decide +kernel) rfl, by decide, by decide, by decide +kernel, by decide⟩⟩
theorem L_odds {X : CT} {n : Nat} {xs : Nat → Int32} (hX : SC X n xs) (hn : n < 2147483648) {N t : Int} (ht : 0 ≤ t ∧ t + 5 < n) (hN : N < 1000000) {a : AS} {σ : St} (hC : CR N a σ) (hM : MR N a σ) (k : ∀ a' σ', CR (N + 1) a' σ' → MR (N + 1) a' σ' → G mdL_law X 998 [(0, vr 108), (1, vr 60), (2, vr 87), (3, vi t)] [] σ') : G mdL_law X 876 [(0, vr 108), (1, vr 60), (2, vr 87), (3, vi t)] [] σ := by
  refine G.aload_n dL_law_876 rfl ?_
  refine G.ldA hX (t := t) (j := 1) ⟨by omega, by omega⟩ hn dL_law_877 dL_law_878 dL_law_879 dL_law_880 dL_law_881 rfl rfl ?_
  refine G.ldA hX (t := t) (j := 2) ⟨by omega, by omega⟩ hn dL_law_882 dL_law_883 dL_law_884 dL_law_885 dL_law_886 rfl rfl ?_
  refine G.ldA hX (t := t) (j := 3) ⟨by omega, by omega⟩ hn dL_law_887 dL_law_888 dL_law_889 dL_law_890 dL_law_891 rfl rfl ?_
  refine G.ldA hX (t := t) (j := 4) ⟨by omega, by omega⟩ hn dL_law_892 dL_law_893 dL_law_894 dL_law_895 dL_law_896 rfl rfl ?_
  refine G.callVI (md2 := mdX10_odds) (as := [vi (xs (t + 1).toNat).toInt, vi (xs (t + 2).toNat).toInt, vi (xs (t + 3).toNat).toInt, vi (xs (t + 4).toNat).toInt]) dL_law_897 rfl vL_X10_odds (by decide) sh60 rfl (by decide) (Nat.le_of_ble_eq_true rfl) (k_odds hC (inI_of _) (inI_of _) (inI_of _) (inI_of _)) ?_
  rintro z u hz ⟨rfl, h1, h2⟩
  refine G.aload_n dL_law_900 rfl ?_
  refine G.ldA hX (t := t) (j := 1) ⟨by omega, by omega⟩ hn dL_law_901 dL_law_902 dL_law_903 dL_law_904 dL_law_905 rfl rfl ?_
  refine G.ldA hX (t := t) (j := 2) ⟨by omega, by omega⟩ hn dL_law_906 dL_law_907 dL_law_908 dL_law_909 dL_law_910 rfl rfl ?_
  refine G.ldA hX (t := t) (j := 3) ⟨by omega, by omega⟩ hn dL_law_911 dL_law_912 dL_law_913 dL_law_914 dL_law_915 rfl rfl ?_
  refine G.ldA hX (t := t) (j := 4) ⟨by omega, by omega⟩ hn dL_law_916 dL_law_917 dL_law_918 dL_law_919 dL_law_920 rfl rfl ?_
  refine G.callVI (md2 := mdX11_odds) (as := [vi (xs (t + 1).toNat).toInt, vi (xs (t + 2).toNat).toInt, vi (xs (t + 3).toNat).toInt, vi (xs (t + 4).toNat).toInt]) dL_law_921 rfl vL_X11_odds (by decide) sh87 rfl (by decide) (Nat.le_of_ble_eq_true rfl) (n_odds (hM.up h2) (inI_of _) (inI_of _) (inI_of _) (inI_of _)) ?_
  rintro z u2 hz2 ⟨rfl, h3, h4⟩
  exact G.icmp_eq (tgt := 998) dL_law_924 (by decide) hz hz2 (fun _ => k _ _ ((h1.dn h4).mm (by omega)) (h3.mm (by omega))) (fun q => absurd rfl q)
theorem vL_X10_keep : vlk RL 127 mdX10_keep 1 := ⟨gw_at (i := 802) (by decide +kernel) rfl, gw_at (i := 803) (by decide +kernel) rfl, gw_at (i := 804) (by decide +kernel) rfl, ⟨gw_at (i := 65) (by decide +kernel) rfl, gw_at (i := 805) (by decide +kernel) rfl, by decide, by decide, by decide +kernel, by decide⟩⟩
theorem vL_X11_keep : vlk RL 130 mdX11_keep 1 := ⟨gw_at (i := 1199) (by decide +kernel) rfl, gw_at (i := 1200) (by decide +kernel) rfl, gw_at (i := 1201) (by decide +kernel) rfl, ⟨gw_at (i := 75) (by decide +kernel) rfl, gw_at (i := 1202) (by decide +kernel) rfl, by decide, by decide, by decide +kernel, by decide⟩⟩
theorem L_keep {X : CT} {n : Nat} {xs : Nat → Int32} (hX : SC X n xs) (hn : n < 2147483648) {N t : Int} (ht : 0 ≤ t ∧ t + 5 < n) (hN : N < 1000000) {a : AS} {σ : St} (hC : CR N a σ) (hM : MR N a σ) (k : ∀ a' σ', CR (N + 1) a' σ' → MR (N + 1) a' σ' → G mdL_law X 998 [(0, vr 108), (1, vr 60), (2, vr 87), (3, vi t)] [] σ') : G mdL_law X 929 [(0, vr 108), (1, vr 60), (2, vr 87), (3, vi t)] [] σ := by
  refine G.aload_n dL_law_929 rfl ?_
  refine G.ldA hX (t := t) (j := 1) ⟨by omega, by omega⟩ hn dL_law_930 dL_law_931 dL_law_932 dL_law_933 dL_law_934 rfl rfl ?_
  refine G.callVI (md2 := mdX10_keep) (as := [vi (xs (t + 1).toNat).toInt]) dL_law_935 rfl vL_X10_keep (by decide) sh60 rfl (by decide) (Nat.le_of_ble_eq_true rfl) (k_keep hC (inI_of _)) ?_
  rintro z u hz ⟨rfl, h1, h2⟩
  refine G.aload_n dL_law_938 rfl ?_
  refine G.ldA hX (t := t) (j := 1) ⟨by omega, by omega⟩ hn dL_law_939 dL_law_940 dL_law_941 dL_law_942 dL_law_943 rfl rfl ?_
  refine G.callVI (md2 := mdX11_keep) (as := [vi (xs (t + 1).toNat).toInt]) dL_law_944 rfl vL_X11_keep (by decide) sh87 rfl (by decide) (Nat.le_of_ble_eq_true rfl) (n_keep (hM.up h2) (inI_of _)) ?_
  rintro z u2 hz2 ⟨rfl, h3, h4⟩
  exact G.icmp_eq (tgt := 998) dL_law_947 (by decide) hz hz2 (fun _ => k _ _ ((h1.dn h4).mm (by omega)) (h3.mm (by omega))) (fun q => absurd rfl q)
theorem vL_X10_back : vlk RL 131 mdX10_back 1 := ⟨gw_at (i := 806) (by decide +kernel) rfl, gw_at (i := 807) (by decide +kernel) rfl, gw_at (i := 808) (by decide +kernel) rfl, ⟨gw_at (i := 65) (by decide +kernel) rfl, gw_at (i := 809) (by decide +kernel) rfl, by decide, by decide, by decide +kernel, by decide⟩⟩
theorem vL_X11_back : vlk RL 134 mdX11_back 1 := ⟨gw_at (i := 1203) (by decide +kernel) rfl, gw_at (i := 1204) (by decide +kernel) rfl, gw_at (i := 1205) (by decide +kernel) rfl, ⟨gw_at (i := 75) (by decide +kernel) rfl, gw_at (i := 1206) (by decide +kernel) rfl, by decide, by decide, by decide +kernel, by decide⟩⟩
theorem L_back {X : CT} {n : Nat} {xs : Nat → Int32} (hX : SC X n xs) (hn : n < 2147483648) {N t : Int} (ht : 0 ≤ t ∧ t + 5 < n) (hN : N < 1000000) {a : AS} {σ : St} (hC : CR N a σ) (hM : MR N a σ) (k : ∀ a' σ', CR (N + 1) a' σ' → MR (N + 1) a' σ' → G mdL_law X 998 [(0, vr 108), (1, vr 60), (2, vr 87), (3, vi t)] [] σ') : G mdL_law X 952 [(0, vr 108), (1, vr 60), (2, vr 87), (3, vi t)] [] σ := by
  refine G.aload_n dL_law_952 rfl ?_
  refine G.ldA hX (t := t) (j := 1) ⟨by omega, by omega⟩ hn dL_law_953 dL_law_954 dL_law_955 dL_law_956 dL_law_957 rfl rfl ?_
  refine G.callVI (md2 := mdX10_back) (as := [vi (xs (t + 1).toNat).toInt]) dL_law_958 rfl vL_X10_back (by decide) sh60 rfl (by decide) (Nat.le_of_ble_eq_true rfl) (k_back hC (inI_of _)) ?_
  rintro z u hz ⟨rfl, h1, h2⟩
  refine G.aload_n dL_law_961 rfl ?_
  refine G.ldA hX (t := t) (j := 1) ⟨by omega, by omega⟩ hn dL_law_962 dL_law_963 dL_law_964 dL_law_965 dL_law_966 rfl rfl ?_
  refine G.callVI (md2 := mdX11_back) (as := [vi (xs (t + 1).toNat).toInt]) dL_law_967 rfl vL_X11_back (by decide) sh87 rfl (by decide) (Nat.le_of_ble_eq_true rfl) (n_back (hM.up h2) (inI_of _)) ?_
  rintro z u2 hz2 ⟨rfl, h3, h4⟩
  exact G.icmp_eq (tgt := 998) dL_law_970 (by decide) hz hz2 (fun _ => k _ _ ((h1.dn h4).mm (by omega)) (h3.mm (by omega))) (fun q => absurd rfl q)
theorem vL_X10_count : vlk RL 135 mdX10_count 1 := ⟨gw_at (i := 810) (by decide +kernel) rfl, gw_at (i := 811) (by decide +kernel) rfl, gw_at (i := 812) (by decide +kernel) rfl, ⟨gw_at (i := 65) (by decide +kernel) rfl, gw_at (i := 813) (by decide +kernel) rfl, by decide, by decide, by decide +kernel, by decide⟩⟩
theorem vL_X11_count : vlk RL 138 mdX11_count 1 := ⟨gw_at (i := 1207) (by decide +kernel) rfl, gw_at (i := 1208) (by decide +kernel) rfl, gw_at (i := 1209) (by decide +kernel) rfl, ⟨gw_at (i := 75) (by decide +kernel) rfl, gw_at (i := 1210) (by decide +kernel) rfl, by decide, by decide, by decide +kernel, by decide⟩⟩
theorem L_count {X : CT} {n : Nat} {xs : Nat → Int32} (hX : SC X n xs) (hn : n < 2147483648) {N t : Int} (ht : 0 ≤ t ∧ t + 5 < n) (hN : N < 1000000) {a : AS} {σ : St} (hC : CR N a σ) (hM : MR N a σ) (k : ∀ a' σ', CR (N + 1) a' σ' → MR (N + 1) a' σ' → G mdL_law X 998 [(0, vr 108), (1, vr 60), (2, vr 87), (3, vi t)] [] σ') : G mdL_law X 975 [(0, vr 108), (1, vr 60), (2, vr 87), (3, vi t)] [] σ := by
  refine G.aload_n dL_law_975 rfl ?_
  refine G.ldA hX (t := t) (j := 1) ⟨by omega, by omega⟩ hn dL_law_976 dL_law_977 dL_law_978 dL_law_979 dL_law_980 rfl rfl ?_
  refine G.callVI (md2 := mdX10_count) (as := [vi (xs (t + 1).toNat).toInt]) dL_law_981 rfl vL_X10_count (by decide) sh60 rfl (by decide) (Nat.le_of_ble_eq_true rfl) (k_count hN hC (inI_of _)) ?_
  rintro z u hz ⟨rfl, h1, h2⟩
  refine G.aload_n dL_law_984 rfl ?_
  refine G.ldA hX (t := t) (j := 1) ⟨by omega, by omega⟩ hn dL_law_985 dL_law_986 dL_law_987 dL_law_988 dL_law_989 rfl rfl ?_
  refine G.callVI (md2 := mdX11_count) (as := [vi (xs (t + 1).toNat).toInt]) dL_law_990 rfl vL_X11_count (by decide) sh87 rfl (by decide) (Nat.le_of_ble_eq_true rfl) (n_count hN (hM.up h2) (inI_of _)) ?_
  rintro z u2 hz2 ⟨rfl, h3, h4⟩
  exact G.icmp_eq (tgt := 998) dL_law_993 (by decide) hz hz2 (fun _ => k _ _ ((h1.dn h4).mm (by omega)) (h3.mm (by omega))) (fun q => absurd rfl q)
