/-! ===== the law: its cases, its loop ===== -/
theorem ixs {n i c : Nat} {x : Int32} (hn : n ≤ 3072) (hi : i + 6 ≤ n) (hc : c < 6) (hx : nI c = x) : ix (nI i + x) n = some (i + c) := by
  subst hx
  rw [nI_add]
  exact ix_nI (by omega) (by omega)
theorem sm_state {C M : Mem} (h : Rel C M) (v : Int32) : ∃ r C' M', fX11_state v C = (r, C') ∧ fX12_state v M = (r, M') ∧ Rel C' M' := ⟨(fX11_state v C).1, (fX11_state v C).2, (fX12_state v M).2, rfl, Prod.ext (sim_state h v).1.symm rfl, (sim_state h v).2⟩
theorem sm_end {C M : Mem} (h : Rel C M) (v : Int32) : ∃ r C' M', fX11_end v C = (r, C') ∧ fX12_end v M = (r, M') ∧ Rel C' M' := ⟨(fX11_end v C).1, (fX11_end v C).2, (fX12_end v M).2, rfl, Prod.ext (sim_end h v).1.symm rfl, (sim_end h v).2⟩
theorem sm_fault {C M : Mem} (h : Rel C M) (v : Int32) : ∃ r M', fX11_fault v C = r ∧ fX12_fault v M = (r, M') ∧ Rel C M' := ⟨fX11_fault v C, (fX12_fault v M).2, rfl, Prod.ext (sim_fault h v).1.symm rfl, (sim_fault h v).2⟩
theorem sm_look {C M : Mem} (h : Rel C M) (v : Int32) : ∃ r M', fX11_look v C = r ∧ fX12_look v M = (r, M') ∧ Rel C M' := ⟨fX11_look v C, (fX12_look v M).2, rfl, Prod.ext (sim_look h v).1.symm rfl, (sim_look h v).2⟩
set_option maxRecDepth 100000 in
set_option maxHeartbeats 4000000 in
theorem lc_0 {n : Nat} {xs : Nat → Int32} {J : Nat → Lv → List AV → Obs → Lay → Nat → Nat → Mem → Mem → Prop} (hJ : Cl RL cL_law 4 13 494 600000 7302250 (some (n, xs)) false J) {i : Nat} (hn : n ≤ 3072) (hi : i + 6 ≤ n) (nxt : ∀ C M, Rel C M → J 1020 [some (vr 99 0), some (vr 11 0), some (vr 12 0), some (vi (nI i))] [] wl0 L0 141 9171 C M) {C M : Mem} (h : Rel C M) : J 160 [some (vr 99 0), some (vr 11 0), some (vr 12 0), some (vi (nI i))] [] wl0 L0 141 9171 C M := by
  obtain ⟨r, C1, M1, e1, e2, hR⟩ := sm_state h (xs (i + 1))
  refine hJ.aload_n (pc := 160) dL_law_160 rfl ?_
  refine hJ.aload_n (pc := 161) dL_law_161 rfl ?_
  refine hJ.iload_n (pc := 162) dL_law_162 rfl ?_
  refine hJ.iconst (pc := 163) 1 dL_law_163 (by decide) ?_
  refine hJ.iadd (pc := 164) dL_law_164 ?_
  refine hJ.scld (pc := 165) dL_law_165 (ixs (c := 1) hn hi (by decide) rfl) ?_
  refine hJ.cV (pc := 166) [vi (xs (i + 1))] [] [vi r] dL_law_166 qlk_13 (ctX11_state ((xs (i + 1))) C M r C1 e1) rfl rfl rfl rfl ?_
  refine hJ.aload_n (pc := 169) dL_law_169 rfl ?_
  refine hJ.aload_n (pc := 170) dL_law_170 rfl ?_
  refine hJ.iload_n (pc := 171) dL_law_171 rfl ?_
  refine hJ.iconst (pc := 172) 1 dL_law_172 (by decide) ?_
  refine hJ.iadd (pc := 173) dL_law_173 ?_
  refine hJ.scld (pc := 174) dL_law_174 (ixs (c := 1) hn hi (by decide) rfl) ?_
  refine hJ.cV (pc := 175) [vi (xs (i + 1))] [vi r] [vi r, vi r] dL_law_175 qlk_17 (ctX12_state ((xs (i + 1))) C1 M r M1 e2) rfl rfl rfl rfl ?_
  exact hJ.icmp_eq (pc := 178) 1020 dL_law_178 (by decide) (fun _ => nxt C1 M1 hR) (fun h0 => absurd rfl h0)
set_option maxRecDepth 100000 in
set_option maxHeartbeats 4000000 in
theorem lc_1 {n : Nat} {xs : Nat → Int32} {J : Nat → Lv → List AV → Obs → Lay → Nat → Nat → Mem → Mem → Prop} (hJ : Cl RL cL_law 4 13 494 600000 7302250 (some (n, xs)) false J) {i : Nat} (hn : n ≤ 3072) (hi : i + 6 ≤ n) (nxt : ∀ C M, Rel C M → J 1020 [some (vr 99 0), some (vr 11 0), some (vr 12 0), some (vi (nI i))] [] wl0 L0 141 9171 C M) {C M : Mem} (h : Rel C M) : J 183 [some (vr 99 0), some (vr 11 0), some (vr 12 0), some (vi (nI i))] [] wl0 L0 141 9171 C M := by
  obtain ⟨r, C1, M1, e1, e2, hR⟩ := sim_reader h (xs (i + 1)) (xs (i + 2)) (xs (i + 3)) (xs (i + 4))
  refine hJ.aload_n (pc := 183) dL_law_183 rfl ?_
  refine hJ.aload_n (pc := 184) dL_law_184 rfl ?_
  refine hJ.iload_n (pc := 185) dL_law_185 rfl ?_
  refine hJ.iconst (pc := 186) 1 dL_law_186 (by decide) ?_
  refine hJ.iadd (pc := 187) dL_law_187 ?_
  refine hJ.scld (pc := 188) dL_law_188 (ixs (c := 1) hn hi (by decide) rfl) ?_
  refine hJ.aload_n (pc := 189) dL_law_189 rfl ?_
  refine hJ.iload_n (pc := 190) dL_law_190 rfl ?_
  refine hJ.iconst (pc := 191) 2 dL_law_191 (by decide) ?_
  refine hJ.iadd (pc := 192) dL_law_192 ?_
  refine hJ.scld (pc := 193) dL_law_193 (ixs (c := 2) hn hi (by decide) rfl) ?_
  refine hJ.aload_n (pc := 194) dL_law_194 rfl ?_
  refine hJ.iload_n (pc := 195) dL_law_195 rfl ?_
  refine hJ.iconst (pc := 196) 3 dL_law_196 (by decide) ?_
  refine hJ.iadd (pc := 197) dL_law_197 ?_
  refine hJ.scld (pc := 198) dL_law_198 (ixs (c := 3) hn hi (by decide) rfl) ?_
  refine hJ.aload_n (pc := 199) dL_law_199 rfl ?_
  refine hJ.iload_n (pc := 200) dL_law_200 rfl ?_
  refine hJ.iconst (pc := 201) 4 dL_law_201 (by decide) ?_
  refine hJ.iadd (pc := 202) dL_law_202 ?_
  refine hJ.scld (pc := 203) dL_law_203 (ixs (c := 4) hn hi (by decide) rfl) ?_
  refine hJ.cV (pc := 204) [vi (xs (i + 1)), vi (xs (i + 2)), vi (xs (i + 3)), vi (xs (i + 4))] [] [vi r] dL_law_204 qlk_18 (ctX11_reader ((xs (i + 1))) ((xs (i + 2))) ((xs (i + 3))) ((xs (i + 4))) C M r C1 e1) rfl rfl rfl rfl ?_
  refine hJ.aload_n (pc := 207) dL_law_207 rfl ?_
  refine hJ.aload_n (pc := 208) dL_law_208 rfl ?_
  refine hJ.iload_n (pc := 209) dL_law_209 rfl ?_
  refine hJ.iconst (pc := 210) 1 dL_law_210 (by decide) ?_
  refine hJ.iadd (pc := 211) dL_law_211 ?_
  refine hJ.scld (pc := 212) dL_law_212 (ixs (c := 1) hn hi (by decide) rfl) ?_
  refine hJ.aload_n (pc := 213) dL_law_213 rfl ?_
  refine hJ.iload_n (pc := 214) dL_law_214 rfl ?_
  refine hJ.iconst (pc := 215) 2 dL_law_215 (by decide) ?_
  refine hJ.iadd (pc := 216) dL_law_216 ?_
  refine hJ.scld (pc := 217) dL_law_217 (ixs (c := 2) hn hi (by decide) rfl) ?_
  refine hJ.aload_n (pc := 218) dL_law_218 rfl ?_
  refine hJ.iload_n (pc := 219) dL_law_219 rfl ?_
  refine hJ.iconst (pc := 220) 3 dL_law_220 (by decide) ?_
  refine hJ.iadd (pc := 221) dL_law_221 ?_
  refine hJ.scld (pc := 222) dL_law_222 (ixs (c := 3) hn hi (by decide) rfl) ?_
  refine hJ.aload_n (pc := 223) dL_law_223 rfl ?_
  refine hJ.iload_n (pc := 224) dL_law_224 rfl ?_
  refine hJ.iconst (pc := 225) 4 dL_law_225 (by decide) ?_
  refine hJ.iadd (pc := 226) dL_law_226 ?_
  refine hJ.scld (pc := 227) dL_law_227 (ixs (c := 4) hn hi (by decide) rfl) ?_
  refine hJ.cV (pc := 228) [vi (xs (i + 1)), vi (xs (i + 2)), vi (xs (i + 3)), vi (xs (i + 4))] [vi r] [vi r, vi r] dL_law_228 qlk_22 (ctX12_reader ((xs (i + 1))) ((xs (i + 2))) ((xs (i + 3))) ((xs (i + 4))) C1 M r M1 e2) rfl rfl rfl rfl ?_
  exact hJ.icmp_eq (pc := 231) 1020 dL_law_231 (by decide) (fun _ => nxt C1 M1 hR) (fun h0 => absurd rfl h0)
set_option maxRecDepth 100000 in
set_option maxHeartbeats 4000000 in
theorem lc_2 {n : Nat} {xs : Nat → Int32} {J : Nat → Lv → List AV → Obs → Lay → Nat → Nat → Mem → Mem → Prop} (hJ : Cl RL cL_law 4 13 494 600000 7302250 (some (n, xs)) false J) {i : Nat} (hn : n ≤ 3072) (hi : i + 6 ≤ n) (nxt : ∀ C M, Rel C M → J 1020 [some (vr 99 0), some (vr 11 0), some (vr 12 0), some (vi (nI i))] [] wl0 L0 141 9171 C M) {C M : Mem} (h : Rel C M) : J 236 [some (vr 99 0), some (vr 11 0), some (vr 12 0), some (vi (nI i))] [] wl0 L0 141 9171 C M := by
  obtain ⟨r, C1, M1, e1, e2, hR⟩ := sim_set h (xs (i + 1)) (xs (i + 2)) (xs (i + 3))
  refine hJ.aload_n (pc := 236) dL_law_236 rfl ?_
  refine hJ.aload_n (pc := 237) dL_law_237 rfl ?_
  refine hJ.iload_n (pc := 238) dL_law_238 rfl ?_
  refine hJ.iconst (pc := 239) 1 dL_law_239 (by decide) ?_
  refine hJ.iadd (pc := 240) dL_law_240 ?_
  refine hJ.scld (pc := 241) dL_law_241 (ixs (c := 1) hn hi (by decide) rfl) ?_
  refine hJ.aload_n (pc := 242) dL_law_242 rfl ?_
  refine hJ.iload_n (pc := 243) dL_law_243 rfl ?_
  refine hJ.iconst (pc := 244) 2 dL_law_244 (by decide) ?_
  refine hJ.iadd (pc := 245) dL_law_245 ?_
  refine hJ.scld (pc := 246) dL_law_246 (ixs (c := 2) hn hi (by decide) rfl) ?_
  refine hJ.aload_n (pc := 247) dL_law_247 rfl ?_
  refine hJ.iload_n (pc := 248) dL_law_248 rfl ?_
  refine hJ.iconst (pc := 249) 3 dL_law_249 (by decide) ?_
  refine hJ.iadd (pc := 250) dL_law_250 ?_
  refine hJ.scld (pc := 251) dL_law_251 (ixs (c := 3) hn hi (by decide) rfl) ?_
  refine hJ.cV (pc := 252) [vi (xs (i + 1)), vi (xs (i + 2)), vi (xs (i + 3))] [] [vi r] dL_law_252 qlk_23 (ctX11_set ((xs (i + 1))) ((xs (i + 2))) ((xs (i + 3))) C M r C1 e1) rfl rfl rfl rfl ?_
  refine hJ.aload_n (pc := 255) dL_law_255 rfl ?_
  refine hJ.aload_n (pc := 256) dL_law_256 rfl ?_
  refine hJ.iload_n (pc := 257) dL_law_257 rfl ?_
  refine hJ.iconst (pc := 258) 1 dL_law_258 (by decide) ?_
  refine hJ.iadd (pc := 259) dL_law_259 ?_
  refine hJ.scld (pc := 260) dL_law_260 (ixs (c := 1) hn hi (by decide) rfl) ?_
  refine hJ.aload_n (pc := 261) dL_law_261 rfl ?_
  refine hJ.iload_n (pc := 262) dL_law_262 rfl ?_
  refine hJ.iconst (pc := 263) 2 dL_law_263 (by decide) ?_
  refine hJ.iadd (pc := 264) dL_law_264 ?_
  refine hJ.scld (pc := 265) dL_law_265 (ixs (c := 2) hn hi (by decide) rfl) ?_
  refine hJ.aload_n (pc := 266) dL_law_266 rfl ?_
  refine hJ.iload_n (pc := 267) dL_law_267 rfl ?_
  refine hJ.iconst (pc := 268) 3 dL_law_268 (by decide) ?_
  refine hJ.iadd (pc := 269) dL_law_269 ?_
  refine hJ.scld (pc := 270) dL_law_270 (ixs (c := 3) hn hi (by decide) rfl) ?_
  refine hJ.cV (pc := 271) [vi (xs (i + 1)), vi (xs (i + 2)), vi (xs (i + 3))] [vi r] [vi r, vi r] dL_law_271 qlk_27 (ctX12_set ((xs (i + 1))) ((xs (i + 2))) ((xs (i + 3))) C1 M r M1 e2) rfl rfl rfl rfl ?_
  exact hJ.icmp_eq (pc := 274) 1020 dL_law_274 (by decide) (fun _ => nxt C1 M1 hR) (fun h0 => absurd rfl h0)
set_option maxRecDepth 100000 in
set_option maxHeartbeats 4000000 in
theorem lc_3 {n : Nat} {xs : Nat → Int32} {J : Nat → Lv → List AV → Obs → Lay → Nat → Nat → Mem → Mem → Prop} (hJ : Cl RL cL_law 4 13 494 600000 7302250 (some (n, xs)) false J) {i : Nat} (hn : n ≤ 3072) (hi : i + 6 ≤ n) (nxt : ∀ C M, Rel C M → J 1020 [some (vr 99 0), some (vr 11 0), some (vr 12 0), some (vi (nI i))] [] wl0 L0 141 9171 C M) {C M : Mem} (h : Rel C M) : J 279 [some (vr 99 0), some (vr 11 0), some (vr 12 0), some (vi (nI i))] [] wl0 L0 141 9171 C M := by
  obtain ⟨r, C1, M1, e1, e2, hR⟩ := sim_paper h (xs (i + 1))
  refine hJ.aload_n (pc := 279) dL_law_279 rfl ?_
  refine hJ.aload_n (pc := 280) dL_law_280 rfl ?_
  refine hJ.iload_n (pc := 281) dL_law_281 rfl ?_
  refine hJ.iconst (pc := 282) 1 dL_law_282 (by decide) ?_
  refine hJ.iadd (pc := 283) dL_law_283 ?_
  refine hJ.scld (pc := 284) dL_law_284 (ixs (c := 1) hn hi (by decide) rfl) ?_
  refine hJ.cV (pc := 285) [vi (xs (i + 1))] [] [vi r] dL_law_285 qlk_28 (ctX11_paper ((xs (i + 1))) C M r C1 e1) rfl rfl rfl rfl ?_
  refine hJ.aload_n (pc := 288) dL_law_288 rfl ?_
  refine hJ.aload_n (pc := 289) dL_law_289 rfl ?_
  refine hJ.iload_n (pc := 290) dL_law_290 rfl ?_
  refine hJ.iconst (pc := 291) 1 dL_law_291 (by decide) ?_
  refine hJ.iadd (pc := 292) dL_law_292 ?_
  refine hJ.scld (pc := 293) dL_law_293 (ixs (c := 1) hn hi (by decide) rfl) ?_
  refine hJ.cV (pc := 294) [vi (xs (i + 1))] [vi r] [vi r, vi r] dL_law_294 qlk_31 (ctX12_paper ((xs (i + 1))) C1 M r M1 e2) rfl rfl rfl rfl ?_
  exact hJ.icmp_eq (pc := 297) 1020 dL_law_297 (by decide) (fun _ => nxt C1 M1 hR) (fun h0 => absurd rfl h0)
set_option maxRecDepth 100000 in
set_option maxHeartbeats 4000000 in
theorem lc_4 {n : Nat} {xs : Nat → Int32} {J : Nat → Lv → List AV → Obs → Lay → Nat → Nat → Mem → Mem → Prop} (hJ : Cl RL cL_law 4 13 494 600000 7302250 (some (n, xs)) false J) {i : Nat} (hn : n ≤ 3072) (hi : i + 6 ≤ n) (nxt : ∀ C M, Rel C M → J 1020 [some (vr 99 0), some (vr 11 0), some (vr 12 0), some (vi (nI i))] [] wl0 L0 141 9171 C M) {C M : Mem} (h : Rel C M) : J 302 [some (vr 99 0), some (vr 11 0), some (vr 12 0), some (vi (nI i))] [] wl0 L0 141 9171 C M := by
  obtain ⟨r, C1, M1, e1, e2, hR⟩ := sim_move h (xs (i + 1)) (xs (i + 2))
  refine hJ.aload_n (pc := 302) dL_law_302 rfl ?_
  refine hJ.aload_n (pc := 303) dL_law_303 rfl ?_
  refine hJ.iload_n (pc := 304) dL_law_304 rfl ?_
  refine hJ.iconst (pc := 305) 1 dL_law_305 (by decide) ?_
  refine hJ.iadd (pc := 306) dL_law_306 ?_
  refine hJ.scld (pc := 307) dL_law_307 (ixs (c := 1) hn hi (by decide) rfl) ?_
  refine hJ.aload_n (pc := 308) dL_law_308 rfl ?_
  refine hJ.iload_n (pc := 309) dL_law_309 rfl ?_
  refine hJ.iconst (pc := 310) 2 dL_law_310 (by decide) ?_
  refine hJ.iadd (pc := 311) dL_law_311 ?_
  refine hJ.scld (pc := 312) dL_law_312 (ixs (c := 2) hn hi (by decide) rfl) ?_
  refine hJ.cV (pc := 313) [vi (xs (i + 1)), vi (xs (i + 2))] [] [vi r] dL_law_313 qlk_32 (ctX11_move ((xs (i + 1))) ((xs (i + 2))) C M r C1 e1) rfl rfl rfl rfl ?_
  refine hJ.aload_n (pc := 316) dL_law_316 rfl ?_
  refine hJ.aload_n (pc := 317) dL_law_317 rfl ?_
  refine hJ.iload_n (pc := 318) dL_law_318 rfl ?_
  refine hJ.iconst (pc := 319) 1 dL_law_319 (by decide) ?_
  refine hJ.iadd (pc := 320) dL_law_320 ?_
  refine hJ.scld (pc := 321) dL_law_321 (ixs (c := 1) hn hi (by decide) rfl) ?_
  refine hJ.aload_n (pc := 322) dL_law_322 rfl ?_
  refine hJ.iload_n (pc := 323) dL_law_323 rfl ?_
  refine hJ.iconst (pc := 324) 2 dL_law_324 (by decide) ?_
  refine hJ.iadd (pc := 325) dL_law_325 ?_
  refine hJ.scld (pc := 326) dL_law_326 (ixs (c := 2) hn hi (by decide) rfl) ?_
  refine hJ.cV (pc := 327) [vi (xs (i + 1)), vi (xs (i + 2))] [vi r] [vi r, vi r] dL_law_327 qlk_36 (ctX12_move ((xs (i + 1))) ((xs (i + 2))) C1 M r M1 e2) rfl rfl rfl rfl ?_
  exact hJ.icmp_eq (pc := 330) 1020 dL_law_330 (by decide) (fun _ => nxt C1 M1 hR) (fun h0 => absurd rfl h0)
set_option maxRecDepth 100000 in
set_option maxHeartbeats 4000000 in
theorem lc_5 {n : Nat} {xs : Nat → Int32} {J : Nat → Lv → List AV → Obs → Lay → Nat → Nat → Mem → Mem → Prop} (hJ : Cl RL cL_law 4 13 494 600000 7302250 (some (n, xs)) false J) {i : Nat} (hn : n ≤ 3072) (hi : i + 6 ≤ n) (nxt : ∀ C M, Rel C M → J 1020 [some (vr 99 0), some (vr 11 0), some (vr 12 0), some (vi (nI i))] [] wl0 L0 141 9171 C M) {C M : Mem} (h : Rel C M) : J 335 [some (vr 99 0), some (vr 11 0), some (vr 12 0), some (vi (nI i))] [] wl0 L0 141 9171 C M := by
  obtain ⟨r, C1, M1, e1, e2, hR⟩ := sim_swap h (xs (i + 1)) (xs (i + 2))
  refine hJ.aload_n (pc := 335) dL_law_335 rfl ?_
  refine hJ.aload_n (pc := 336) dL_law_336 rfl ?_
  refine hJ.iload_n (pc := 337) dL_law_337 rfl ?_
  refine hJ.iconst (pc := 338) 1 dL_law_338 (by decide) ?_
  refine hJ.iadd (pc := 339) dL_law_339 ?_
  refine hJ.scld (pc := 340) dL_law_340 (ixs (c := 1) hn hi (by decide) rfl) ?_
  refine hJ.aload_n (pc := 341) dL_law_341 rfl ?_
  refine hJ.iload_n (pc := 342) dL_law_342 rfl ?_
  refine hJ.iconst (pc := 343) 2 dL_law_343 (by decide) ?_
  refine hJ.iadd (pc := 344) dL_law_344 ?_
  refine hJ.scld (pc := 345) dL_law_345 (ixs (c := 2) hn hi (by decide) rfl) ?_
  refine hJ.cV (pc := 346) [vi (xs (i + 1)), vi (xs (i + 2))] [] [vi r] dL_law_346 qlk_37 (ctX11_swap ((xs (i + 1))) ((xs (i + 2))) C M r C1 e1) rfl rfl rfl rfl ?_
  refine hJ.aload_n (pc := 349) dL_law_349 rfl ?_
  refine hJ.aload_n (pc := 350) dL_law_350 rfl ?_
  refine hJ.iload_n (pc := 351) dL_law_351 rfl ?_
  refine hJ.iconst (pc := 352) 1 dL_law_352 (by decide) ?_
  refine hJ.iadd (pc := 353) dL_law_353 ?_
  refine hJ.scld (pc := 354) dL_law_354 (ixs (c := 1) hn hi (by decide) rfl) ?_
  refine hJ.aload_n (pc := 355) dL_law_355 rfl ?_
  refine hJ.iload_n (pc := 356) dL_law_356 rfl ?_
  refine hJ.iconst (pc := 357) 2 dL_law_357 (by decide) ?_
  refine hJ.iadd (pc := 358) dL_law_358 ?_
  refine hJ.scld (pc := 359) dL_law_359 (ixs (c := 2) hn hi (by decide) rfl) ?_
  refine hJ.cV (pc := 360) [vi (xs (i + 1)), vi (xs (i + 2))] [vi r] [vi r, vi r] dL_law_360 qlk_40 (ctX12_swap ((xs (i + 1))) ((xs (i + 2))) C1 M r M1 e2) rfl rfl rfl rfl ?_
  exact hJ.icmp_eq (pc := 363) 1020 dL_law_363 (by decide) (fun _ => nxt C1 M1 hR) (fun h0 => absurd rfl h0)
set_option maxRecDepth 100000 in
set_option maxHeartbeats 4000000 in
theorem lc_6 {n : Nat} {xs : Nat → Int32} {J : Nat → Lv → List AV → Obs → Lay → Nat → Nat → Mem → Mem → Prop} (hJ : Cl RL cL_law 4 13 494 600000 7302250 (some (n, xs)) false J) {i : Nat} (hn : n ≤ 3072) (hi : i + 6 ≤ n) (nxt : ∀ C M, Rel C M → J 1020 [some (vr 99 0), some (vr 11 0), some (vr 12 0), some (vi (nI i))] [] wl0 L0 141 9171 C M) {C M : Mem} (h : Rel C M) : J 368 [some (vr 99 0), some (vr 11 0), some (vr 12 0), some (vi (nI i))] [] wl0 L0 141 9171 C M := by
  obtain ⟨r, C1, M1, e1, e2, hR⟩ := sim_fire h (xs (i + 1))
  refine hJ.aload_n (pc := 368) dL_law_368 rfl ?_
  refine hJ.aload_n (pc := 369) dL_law_369 rfl ?_
  refine hJ.iload_n (pc := 370) dL_law_370 rfl ?_
  refine hJ.iconst (pc := 371) 1 dL_law_371 (by decide) ?_
  refine hJ.iadd (pc := 372) dL_law_372 ?_
  refine hJ.scld (pc := 373) dL_law_373 (ixs (c := 1) hn hi (by decide) rfl) ?_
  refine hJ.cV (pc := 374) [vi (xs (i + 1))] [] [vi r] dL_law_374 qlk_41 (ctX11_fire ((xs (i + 1))) C M r C1 e1) rfl rfl rfl rfl ?_
  refine hJ.aload_n (pc := 377) dL_law_377 rfl ?_
  refine hJ.aload_n (pc := 378) dL_law_378 rfl ?_
  refine hJ.iload_n (pc := 379) dL_law_379 rfl ?_
  refine hJ.iconst (pc := 380) 1 dL_law_380 (by decide) ?_
  refine hJ.iadd (pc := 381) dL_law_381 ?_
  refine hJ.scld (pc := 382) dL_law_382 (ixs (c := 1) hn hi (by decide) rfl) ?_
  refine hJ.cV (pc := 383) [vi (xs (i + 1))] [vi r] [vi r, vi r] dL_law_383 qlk_44 (ctX12_fire ((xs (i + 1))) C1 M r M1 e2) rfl rfl rfl rfl ?_
  exact hJ.icmp_eq (pc := 386) 1020 dL_law_386 (by decide) (fun _ => nxt C1 M1 hR) (fun h0 => absurd rfl h0)
set_option maxRecDepth 100000 in
set_option maxHeartbeats 4000000 in
theorem lc_7 {n : Nat} {xs : Nat → Int32} {J : Nat → Lv → List AV → Obs → Lay → Nat → Nat → Mem → Mem → Prop} (hJ : Cl RL cL_law 4 13 494 600000 7302250 (some (n, xs)) false J) {i : Nat} (hn : n ≤ 3072) (hi : i + 6 ≤ n) (nxt : ∀ C M, Rel C M → J 1020 [some (vr 99 0), some (vr 11 0), some (vr 12 0), some (vi (nI i))] [] wl0 L0 141 9171 C M) {C M : Mem} (h : Rel C M) : J 391 [some (vr 99 0), some (vr 11 0), some (vr 12 0), some (vi (nI i))] [] wl0 L0 141 9171 C M := by
  obtain ⟨r, C1, M1, e1, e2, hR⟩ := sim_read h (xs (i + 1)) (xs (i + 2))
  refine hJ.aload_n (pc := 391) dL_law_391 rfl ?_
  refine hJ.aload_n (pc := 392) dL_law_392 rfl ?_
  refine hJ.iload_n (pc := 393) dL_law_393 rfl ?_
  refine hJ.iconst (pc := 394) 1 dL_law_394 (by decide) ?_
  refine hJ.iadd (pc := 395) dL_law_395 ?_
  refine hJ.scld (pc := 396) dL_law_396 (ixs (c := 1) hn hi (by decide) rfl) ?_
  refine hJ.aload_n (pc := 397) dL_law_397 rfl ?_
  refine hJ.iload_n (pc := 398) dL_law_398 rfl ?_
  refine hJ.iconst (pc := 399) 2 dL_law_399 (by decide) ?_
  refine hJ.iadd (pc := 400) dL_law_400 ?_
  refine hJ.scld (pc := 401) dL_law_401 (ixs (c := 2) hn hi (by decide) rfl) ?_
  refine hJ.cV (pc := 402) [vi (xs (i + 1)), vi (xs (i + 2))] [] [vi r] dL_law_402 qlk_45 (ctX11_read ((xs (i + 1))) ((xs (i + 2))) C M r C1 e1) rfl rfl rfl rfl ?_
  refine hJ.aload_n (pc := 405) dL_law_405 rfl ?_
  refine hJ.aload_n (pc := 406) dL_law_406 rfl ?_
  refine hJ.iload_n (pc := 407) dL_law_407 rfl ?_
  refine hJ.iconst (pc := 408) 1 dL_law_408 (by decide) ?_
  refine hJ.iadd (pc := 409) dL_law_409 ?_
  refine hJ.scld (pc := 410) dL_law_410 (ixs (c := 1) hn hi (by decide) rfl) ?_
  refine hJ.aload_n (pc := 411) dL_law_411 rfl ?_
  refine hJ.iload_n (pc := 412) dL_law_412 rfl ?_
  refine hJ.iconst (pc := 413) 2 dL_law_413 (by decide) ?_
  refine hJ.iadd (pc := 414) dL_law_414 ?_
  refine hJ.scld (pc := 415) dL_law_415 (ixs (c := 2) hn hi (by decide) rfl) ?_
  refine hJ.cV (pc := 416) [vi (xs (i + 1)), vi (xs (i + 2))] [vi r] [vi r, vi r] dL_law_416 qlk_49 (ctX12_read ((xs (i + 1))) ((xs (i + 2))) C1 M r M1 e2) rfl rfl rfl rfl ?_
  exact hJ.icmp_eq (pc := 419) 1020 dL_law_419 (by decide) (fun _ => nxt C1 M1 hR) (fun h0 => absurd rfl h0)
set_option maxRecDepth 100000 in
set_option maxHeartbeats 4000000 in
theorem lc_8 {n : Nat} {xs : Nat → Int32} {J : Nat → Lv → List AV → Obs → Lay → Nat → Nat → Mem → Mem → Prop} (hJ : Cl RL cL_law 4 13 494 600000 7302250 (some (n, xs)) false J) {i : Nat} (hn : n ≤ 3072) (hi : i + 6 ≤ n) (nxt : ∀ C M, Rel C M → J 1020 [some (vr 99 0), some (vr 11 0), some (vr 12 0), some (vi (nI i))] [] wl0 L0 141 9171 C M) {C M : Mem} (h : Rel C M) : J 424 [some (vr 99 0), some (vr 11 0), some (vr 12 0), some (vi (nI i))] [] wl0 L0 141 9171 C M := by
  obtain ⟨r, C1, M1, e1, e2, hR⟩ := sim_lease h (xs (i + 1)) (xs (i + 2))
  refine hJ.aload_n (pc := 424) dL_law_424 rfl ?_
  refine hJ.aload_n (pc := 425) dL_law_425 rfl ?_
  refine hJ.iload_n (pc := 426) dL_law_426 rfl ?_
  refine hJ.iconst (pc := 427) 1 dL_law_427 (by decide) ?_
  refine hJ.iadd (pc := 428) dL_law_428 ?_
  refine hJ.scld (pc := 429) dL_law_429 (ixs (c := 1) hn hi (by decide) rfl) ?_
  refine hJ.aload_n (pc := 430) dL_law_430 rfl ?_
  refine hJ.iload_n (pc := 431) dL_law_431 rfl ?_
  refine hJ.iconst (pc := 432) 2 dL_law_432 (by decide) ?_
  refine hJ.iadd (pc := 433) dL_law_433 ?_
  refine hJ.scld (pc := 434) dL_law_434 (ixs (c := 2) hn hi (by decide) rfl) ?_
  refine hJ.cV (pc := 435) [vi (xs (i + 1)), vi (xs (i + 2))] [] [vi r] dL_law_435 qlk_50 (ctX11_lease ((xs (i + 1))) ((xs (i + 2))) C M r C1 e1) rfl rfl rfl rfl ?_
  refine hJ.aload_n (pc := 438) dL_law_438 rfl ?_
  refine hJ.aload_n (pc := 439) dL_law_439 rfl ?_
  refine hJ.iload_n (pc := 440) dL_law_440 rfl ?_
  refine hJ.iconst (pc := 441) 1 dL_law_441 (by decide) ?_
  refine hJ.iadd (pc := 442) dL_law_442 ?_
  refine hJ.scld (pc := 443) dL_law_443 (ixs (c := 1) hn hi (by decide) rfl) ?_
  refine hJ.aload_n (pc := 444) dL_law_444 rfl ?_
  refine hJ.iload_n (pc := 445) dL_law_445 rfl ?_
  refine hJ.iconst (pc := 446) 2 dL_law_446 (by decide) ?_
  refine hJ.iadd (pc := 447) dL_law_447 ?_
  refine hJ.scld (pc := 448) dL_law_448 (ixs (c := 2) hn hi (by decide) rfl) ?_
  refine hJ.cV (pc := 449) [vi (xs (i + 1)), vi (xs (i + 2))] [vi r] [vi r, vi r] dL_law_449 qlk_53 (ctX12_lease ((xs (i + 1))) ((xs (i + 2))) C1 M r M1 e2) rfl rfl rfl rfl ?_
  exact hJ.icmp_eq (pc := 452) 1020 dL_law_452 (by decide) (fun _ => nxt C1 M1 hR) (fun h0 => absurd rfl h0)
set_option maxRecDepth 100000 in
set_option maxHeartbeats 4000000 in
theorem lc_9 {n : Nat} {xs : Nat → Int32} {J : Nat → Lv → List AV → Obs → Lay → Nat → Nat → Mem → Mem → Prop} (hJ : Cl RL cL_law 4 13 494 600000 7302250 (some (n, xs)) false J) {i : Nat} (hn : n ≤ 3072) (hi : i + 6 ≤ n) (nxt : ∀ C M, Rel C M → J 1020 [some (vr 99 0), some (vr 11 0), some (vr 12 0), some (vi (nI i))] [] wl0 L0 141 9171 C M) {C M : Mem} (h : Rel C M) : J 457 [some (vr 99 0), some (vr 11 0), some (vr 12 0), some (vi (nI i))] [] wl0 L0 141 9171 C M := by
  obtain ⟨r, C1, M1, e1, e2, hR⟩ := sim_days h (xs (i + 1))
  refine hJ.aload_n (pc := 457) dL_law_457 rfl ?_
  refine hJ.aload_n (pc := 458) dL_law_458 rfl ?_
  refine hJ.iload_n (pc := 459) dL_law_459 rfl ?_
  refine hJ.iconst (pc := 460) 1 dL_law_460 (by decide) ?_
  refine hJ.iadd (pc := 461) dL_law_461 ?_
  refine hJ.scld (pc := 462) dL_law_462 (ixs (c := 1) hn hi (by decide) rfl) ?_
  refine hJ.cV (pc := 463) [vi (xs (i + 1))] [] [vi r] dL_law_463 qlk_54 (ctX11_days ((xs (i + 1))) C M r C1 e1) rfl rfl rfl rfl ?_
  refine hJ.aload_n (pc := 466) dL_law_466 rfl ?_
  refine hJ.aload_n (pc := 467) dL_law_467 rfl ?_
  refine hJ.iload_n (pc := 468) dL_law_468 rfl ?_
  refine hJ.iconst (pc := 469) 1 dL_law_469 (by decide) ?_
  refine hJ.iadd (pc := 470) dL_law_470 ?_
  refine hJ.scld (pc := 471) dL_law_471 (ixs (c := 1) hn hi (by decide) rfl) ?_
  refine hJ.cV (pc := 472) [vi (xs (i + 1))] [vi r] [vi r, vi r] dL_law_472 qlk_57 (ctX12_days ((xs (i + 1))) C1 M r M1 e2) rfl rfl rfl rfl ?_
  exact hJ.icmp_eq (pc := 475) 1020 dL_law_475 (by decide) (fun _ => nxt C1 M1 hR) (fun h0 => absurd rfl h0)
set_option maxRecDepth 100000 in
set_option maxHeartbeats 4000000 in
theorem lc_10 {n : Nat} {xs : Nat → Int32} {J : Nat → Lv → List AV → Obs → Lay → Nat → Nat → Mem → Mem → Prop} (hJ : Cl RL cL_law 4 13 494 600000 7302250 (some (n, xs)) false J) {i : Nat} (hn : n ≤ 3072) (hi : i + 6 ≤ n) (nxt : ∀ C M, Rel C M → J 1020 [some (vr 99 0), some (vr 11 0), some (vr 12 0), some (vi (nI i))] [] wl0 L0 141 9171 C M) {C M : Mem} (h : Rel C M) : J 480 [some (vr 99 0), some (vr 11 0), some (vr 12 0), some (vi (nI i))] [] wl0 L0 141 9171 C M := by
  obtain ⟨r, C1, M1, e1, e2, hR⟩ := sim_feed h (xs (i + 1)) (xs (i + 2)) (xs (i + 3)) (xs (i + 4)) (xs (i + 5))
  refine hJ.aload_n (pc := 480) dL_law_480 rfl ?_
  refine hJ.aload_n (pc := 481) dL_law_481 rfl ?_
  refine hJ.iload_n (pc := 482) dL_law_482 rfl ?_
  refine hJ.iconst (pc := 483) 1 dL_law_483 (by decide) ?_
  refine hJ.iadd (pc := 484) dL_law_484 ?_
  refine hJ.scld (pc := 485) dL_law_485 (ixs (c := 1) hn hi (by decide) rfl) ?_
  refine hJ.aload_n (pc := 486) dL_law_486 rfl ?_
  refine hJ.iload_n (pc := 487) dL_law_487 rfl ?_
  refine hJ.iconst (pc := 488) 2 dL_law_488 (by decide) ?_
  refine hJ.iadd (pc := 489) dL_law_489 ?_
  refine hJ.scld (pc := 490) dL_law_490 (ixs (c := 2) hn hi (by decide) rfl) ?_
  refine hJ.aload_n (pc := 491) dL_law_491 rfl ?_
  refine hJ.iload_n (pc := 492) dL_law_492 rfl ?_
  refine hJ.iconst (pc := 493) 3 dL_law_493 (by decide) ?_
  refine hJ.iadd (pc := 494) dL_law_494 ?_
  refine hJ.scld (pc := 495) dL_law_495 (ixs (c := 3) hn hi (by decide) rfl) ?_
  refine hJ.aload_n (pc := 496) dL_law_496 rfl ?_
  refine hJ.iload_n (pc := 497) dL_law_497 rfl ?_
  refine hJ.iconst (pc := 498) 4 dL_law_498 (by decide) ?_
  refine hJ.iadd (pc := 499) dL_law_499 ?_
  refine hJ.scld (pc := 500) dL_law_500 (ixs (c := 4) hn hi (by decide) rfl) ?_
  refine hJ.aload_n (pc := 501) dL_law_501 rfl ?_
  refine hJ.iload_n (pc := 502) dL_law_502 rfl ?_
  refine hJ.iconst (pc := 503) 5 dL_law_503 (by decide) ?_
  refine hJ.iadd (pc := 504) dL_law_504 ?_
  refine hJ.scld (pc := 505) dL_law_505 (ixs (c := 5) hn hi (by decide) rfl) ?_
  refine hJ.cV (pc := 506) [vi (xs (i + 1)), vi (xs (i + 2)), vi (xs (i + 3)), vi (xs (i + 4)), vi (xs (i + 5))] [] [vi r] dL_law_506 qlk_58 (ctX11_feed ((xs (i + 1))) ((xs (i + 2))) ((xs (i + 3))) ((xs (i + 4))) ((xs (i + 5))) C M r C1 e1) rfl rfl rfl rfl ?_
  refine hJ.aload_n (pc := 509) dL_law_509 rfl ?_
  refine hJ.aload_n (pc := 510) dL_law_510 rfl ?_
  refine hJ.iload_n (pc := 511) dL_law_511 rfl ?_
  refine hJ.iconst (pc := 512) 1 dL_law_512 (by decide) ?_
  refine hJ.iadd (pc := 513) dL_law_513 ?_
  refine hJ.scld (pc := 514) dL_law_514 (ixs (c := 1) hn hi (by decide) rfl) ?_
  refine hJ.aload_n (pc := 515) dL_law_515 rfl ?_
  refine hJ.iload_n (pc := 516) dL_law_516 rfl ?_
  refine hJ.iconst (pc := 517) 2 dL_law_517 (by decide) ?_
  refine hJ.iadd (pc := 518) dL_law_518 ?_
  refine hJ.scld (pc := 519) dL_law_519 (ixs (c := 2) hn hi (by decide) rfl) ?_
  refine hJ.aload_n (pc := 520) dL_law_520 rfl ?_
  refine hJ.iload_n (pc := 521) dL_law_521 rfl ?_
  refine hJ.iconst (pc := 522) 3 dL_law_522 (by decide) ?_
  refine hJ.iadd (pc := 523) dL_law_523 ?_
  refine hJ.scld (pc := 524) dL_law_524 (ixs (c := 3) hn hi (by decide) rfl) ?_
  refine hJ.aload_n (pc := 525) dL_law_525 rfl ?_
  refine hJ.iload_n (pc := 526) dL_law_526 rfl ?_
  refine hJ.iconst (pc := 527) 4 dL_law_527 (by decide) ?_
  refine hJ.iadd (pc := 528) dL_law_528 ?_
  refine hJ.scld (pc := 529) dL_law_529 (ixs (c := 4) hn hi (by decide) rfl) ?_
  refine hJ.aload_n (pc := 530) dL_law_530 rfl ?_
  refine hJ.iload_n (pc := 531) dL_law_531 rfl ?_
  refine hJ.iconst (pc := 532) 5 dL_law_532 (by decide) ?_
  refine hJ.iadd (pc := 533) dL_law_533 ?_
  refine hJ.scld (pc := 534) dL_law_534 (ixs (c := 5) hn hi (by decide) rfl) ?_
  refine hJ.cV (pc := 535) [vi (xs (i + 1)), vi (xs (i + 2)), vi (xs (i + 3)), vi (xs (i + 4)), vi (xs (i + 5))] [vi r] [vi r, vi r] dL_law_535 qlk_62 (ctX12_feed ((xs (i + 1))) ((xs (i + 2))) ((xs (i + 3))) ((xs (i + 4))) ((xs (i + 5))) C1 M r M1 e2) rfl rfl rfl rfl ?_
  exact hJ.icmp_eq (pc := 538) 1020 dL_law_538 (by decide) (fun _ => nxt C1 M1 hR) (fun h0 => absurd rfl h0)
set_option maxRecDepth 100000 in
set_option maxHeartbeats 4000000 in
theorem lc_11 {n : Nat} {xs : Nat → Int32} {J : Nat → Lv → List AV → Obs → Lay → Nat → Nat → Mem → Mem → Prop} (hJ : Cl RL cL_law 4 13 494 600000 7302250 (some (n, xs)) false J) {i : Nat} (hn : n ≤ 3072) (hi : i + 6 ≤ n) (nxt : ∀ C M, Rel C M → J 1020 [some (vr 99 0), some (vr 11 0), some (vr 12 0), some (vi (nI i))] [] wl0 L0 141 9171 C M) {C M : Mem} (h : Rel C M) : J 543 [some (vr 99 0), some (vr 11 0), some (vr 12 0), some (vi (nI i))] [] wl0 L0 141 9171 C M := by
  obtain ⟨r, C1, M1, e1, e2, hR⟩ := sm_end h (xs (i + 1))
  refine hJ.aload_n (pc := 543) dL_law_543 rfl ?_
  refine hJ.aload_n (pc := 544) dL_law_544 rfl ?_
  refine hJ.iload_n (pc := 545) dL_law_545 rfl ?_
  refine hJ.iconst (pc := 546) 1 dL_law_546 (by decide) ?_
  refine hJ.iadd (pc := 547) dL_law_547 ?_
  refine hJ.scld (pc := 548) dL_law_548 (ixs (c := 1) hn hi (by decide) rfl) ?_
  refine hJ.cV (pc := 549) [vi (xs (i + 1))] [] [vi r] dL_law_549 qlk_63 (ctX11_end ((xs (i + 1))) C M r C1 e1) rfl rfl rfl rfl ?_
  refine hJ.aload_n (pc := 552) dL_law_552 rfl ?_
  refine hJ.aload_n (pc := 553) dL_law_553 rfl ?_
  refine hJ.iload_n (pc := 554) dL_law_554 rfl ?_
  refine hJ.iconst (pc := 555) 1 dL_law_555 (by decide) ?_
  refine hJ.iadd (pc := 556) dL_law_556 ?_
  refine hJ.scld (pc := 557) dL_law_557 (ixs (c := 1) hn hi (by decide) rfl) ?_
  refine hJ.cV (pc := 558) [vi (xs (i + 1))] [vi r] [vi r, vi r] dL_law_558 qlk_67 (ctX12_end ((xs (i + 1))) C1 M r M1 e2) rfl rfl rfl rfl ?_
  exact hJ.icmp_eq (pc := 561) 1020 dL_law_561 (by decide) (fun _ => nxt C1 M1 hR) (fun h0 => absurd rfl h0)
set_option maxRecDepth 100000 in
set_option maxHeartbeats 4000000 in
theorem lc_12 {n : Nat} {xs : Nat → Int32} {J : Nat → Lv → List AV → Obs → Lay → Nat → Nat → Mem → Mem → Prop} (hJ : Cl RL cL_law 4 13 494 600000 7302250 (some (n, xs)) false J) {i : Nat} (hn : n ≤ 3072) (hi : i + 6 ≤ n) (nxt : ∀ C M, Rel C M → J 1020 [some (vr 99 0), some (vr 11 0), some (vr 12 0), some (vi (nI i))] [] wl0 L0 141 9171 C M) {C M : Mem} (h : Rel C M) : J 566 [some (vr 99 0), some (vr 11 0), some (vr 12 0), some (vi (nI i))] [] wl0 L0 141 9171 C M := by
  obtain ⟨r, C1, M1, e1, e2, hR⟩ := sim_text h 
  refine hJ.aload_n (pc := 566) dL_law_566 rfl ?_
  refine hJ.cV (pc := 567) [] [] [vi r] dL_law_567 qlk_68 (ctX11_text C M r C1 e1) rfl rfl rfl rfl ?_
  refine hJ.aload_n (pc := 570) dL_law_570 rfl ?_
  refine hJ.cV (pc := 571) [] [vi r] [vi r, vi r] dL_law_571 qlk_72 (ctX12_text C1 M r M1 e2) rfl rfl rfl rfl ?_
  exact hJ.icmp_eq (pc := 574) 1020 dL_law_574 (by decide) (fun _ => nxt C1 M1 hR) (fun h0 => absurd rfl h0)
set_option maxRecDepth 100000 in
set_option maxHeartbeats 4000000 in
theorem lc_13 {n : Nat} {xs : Nat → Int32} {J : Nat → Lv → List AV → Obs → Lay → Nat → Nat → Mem → Mem → Prop} (hJ : Cl RL cL_law 4 13 494 600000 7302250 (some (n, xs)) false J) {i : Nat} (hn : n ≤ 3072) (hi : i + 6 ≤ n) (nxt : ∀ C M, Rel C M → J 1020 [some (vr 99 0), some (vr 11 0), some (vr 12 0), some (vi (nI i))] [] wl0 L0 141 9171 C M) {C M : Mem} (h : Rel C M) : J 579 [some (vr 99 0), some (vr 11 0), some (vr 12 0), some (vi (nI i))] [] wl0 L0 141 9171 C M := by
  obtain ⟨r, M1, e1, e2, hR⟩ := sm_fault h (xs (i + 1))
  refine hJ.aload_n (pc := 579) dL_law_579 rfl ?_
  refine hJ.aload_n (pc := 580) dL_law_580 rfl ?_
  refine hJ.iload_n (pc := 581) dL_law_581 rfl ?_
  refine hJ.iconst (pc := 582) 1 dL_law_582 (by decide) ?_
  refine hJ.iadd (pc := 583) dL_law_583 ?_
  refine hJ.scld (pc := 584) dL_law_584 (ixs (c := 1) hn hi (by decide) rfl) ?_
  refine hJ.cV (pc := 585) [vi (xs (i + 1))] [] [vi r] dL_law_585 qlk_73 (ctX11_fault ((xs (i + 1))) C M r e1) rfl rfl rfl rfl ?_
  refine hJ.aload_n (pc := 588) dL_law_588 rfl ?_
  refine hJ.aload_n (pc := 589) dL_law_589 rfl ?_
  refine hJ.iload_n (pc := 590) dL_law_590 rfl ?_
  refine hJ.iconst (pc := 591) 1 dL_law_591 (by decide) ?_
  refine hJ.iadd (pc := 592) dL_law_592 ?_
  refine hJ.scld (pc := 593) dL_law_593 (ixs (c := 1) hn hi (by decide) rfl) ?_
  refine hJ.cV (pc := 594) [vi (xs (i + 1))] [vi r] [vi r, vi r] dL_law_594 qlk_76 (ctX12_fault ((xs (i + 1))) C M r M1 e2) rfl rfl rfl rfl ?_
  exact hJ.icmp_eq (pc := 597) 1020 dL_law_597 (by decide) (fun _ => nxt C M1 hR) (fun h0 => absurd rfl h0)
set_option maxRecDepth 100000 in
set_option maxHeartbeats 4000000 in
theorem lc_14 {n : Nat} {xs : Nat → Int32} {J : Nat → Lv → List AV → Obs → Lay → Nat → Nat → Mem → Mem → Prop} (hJ : Cl RL cL_law 4 13 494 600000 7302250 (some (n, xs)) false J) {i : Nat} (hn : n ≤ 3072) (hi : i + 6 ≤ n) (nxt : ∀ C M, Rel C M → J 1020 [some (vr 99 0), some (vr 11 0), some (vr 12 0), some (vi (nI i))] [] wl0 L0 141 9171 C M) {C M : Mem} (h : Rel C M) : J 602 [some (vr 99 0), some (vr 11 0), some (vr 12 0), some (vi (nI i))] [] wl0 L0 141 9171 C M := by
  obtain ⟨r, C1, M1, e1, e2, hR⟩ := sim_age h (xs (i + 1)) (xs (i + 2))
  refine hJ.aload_n (pc := 602) dL_law_602 rfl ?_
  refine hJ.aload_n (pc := 603) dL_law_603 rfl ?_
  refine hJ.iload_n (pc := 604) dL_law_604 rfl ?_
  refine hJ.iconst (pc := 605) 1 dL_law_605 (by decide) ?_
  refine hJ.iadd (pc := 606) dL_law_606 ?_
  refine hJ.scld (pc := 607) dL_law_607 (ixs (c := 1) hn hi (by decide) rfl) ?_
  refine hJ.aload_n (pc := 608) dL_law_608 rfl ?_
  refine hJ.iload_n (pc := 609) dL_law_609 rfl ?_
  refine hJ.iconst (pc := 610) 2 dL_law_610 (by decide) ?_
  refine hJ.iadd (pc := 611) dL_law_611 ?_
  refine hJ.scld (pc := 612) dL_law_612 (ixs (c := 2) hn hi (by decide) rfl) ?_
  refine hJ.cV (pc := 613) [vi (xs (i + 1)), vi (xs (i + 2))] [] [vi r] dL_law_613 qlk_77 (ctX11_age ((xs (i + 1))) ((xs (i + 2))) C M r C1 e1) rfl rfl rfl rfl ?_
  refine hJ.aload_n (pc := 616) dL_law_616 rfl ?_
  refine hJ.aload_n (pc := 617) dL_law_617 rfl ?_
  refine hJ.iload_n (pc := 618) dL_law_618 rfl ?_
  refine hJ.iconst (pc := 619) 1 dL_law_619 (by decide) ?_
  refine hJ.iadd (pc := 620) dL_law_620 ?_
  refine hJ.scld (pc := 621) dL_law_621 (ixs (c := 1) hn hi (by decide) rfl) ?_
  refine hJ.aload_n (pc := 622) dL_law_622 rfl ?_
  refine hJ.iload_n (pc := 623) dL_law_623 rfl ?_
  refine hJ.iconst (pc := 624) 2 dL_law_624 (by decide) ?_
  refine hJ.iadd (pc := 625) dL_law_625 ?_
  refine hJ.scld (pc := 626) dL_law_626 (ixs (c := 2) hn hi (by decide) rfl) ?_
  refine hJ.cV (pc := 627) [vi (xs (i + 1)), vi (xs (i + 2))] [vi r] [vi r, vi r] dL_law_627 qlk_80 (ctX12_age ((xs (i + 1))) ((xs (i + 2))) C1 M r M1 e2) rfl rfl rfl rfl ?_
  exact hJ.icmp_eq (pc := 630) 1020 dL_law_630 (by decide) (fun _ => nxt C1 M1 hR) (fun h0 => absurd rfl h0)
set_option maxRecDepth 100000 in
set_option maxHeartbeats 4000000 in
theorem lc_15 {n : Nat} {xs : Nat → Int32} {J : Nat → Lv → List AV → Obs → Lay → Nat → Nat → Mem → Mem → Prop} (hJ : Cl RL cL_law 4 13 494 600000 7302250 (some (n, xs)) false J) {i : Nat} (hn : n ≤ 3072) (hi : i + 6 ≤ n) (nxt : ∀ C M, Rel C M → J 1020 [some (vr 99 0), some (vr 11 0), some (vr 12 0), some (vi (nI i))] [] wl0 L0 141 9171 C M) {C M : Mem} (h : Rel C M) : J 635 [some (vr 99 0), some (vr 11 0), some (vr 12 0), some (vi (nI i))] [] wl0 L0 141 9171 C M := by
  obtain ⟨r, C1, M1, e1, e2, hR⟩ := sim_of h (xs (i + 1)) (xs (i + 2))
  refine hJ.aload_n (pc := 635) dL_law_635 rfl ?_
  refine hJ.aload_n (pc := 636) dL_law_636 rfl ?_
  refine hJ.iload_n (pc := 637) dL_law_637 rfl ?_
  refine hJ.iconst (pc := 638) 1 dL_law_638 (by decide) ?_
  refine hJ.iadd (pc := 639) dL_law_639 ?_
  refine hJ.scld (pc := 640) dL_law_640 (ixs (c := 1) hn hi (by decide) rfl) ?_
  refine hJ.aload_n (pc := 641) dL_law_641 rfl ?_
  refine hJ.iload_n (pc := 642) dL_law_642 rfl ?_
  refine hJ.iconst (pc := 643) 2 dL_law_643 (by decide) ?_
  refine hJ.iadd (pc := 644) dL_law_644 ?_
  refine hJ.scld (pc := 645) dL_law_645 (ixs (c := 2) hn hi (by decide) rfl) ?_
  refine hJ.cV (pc := 646) [vi (xs (i + 1)), vi (xs (i + 2))] [] [vi r] dL_law_646 qlk_81 (ctX11_of ((xs (i + 1))) ((xs (i + 2))) C M r C1 e1) rfl rfl rfl rfl ?_
  refine hJ.aload_n (pc := 649) dL_law_649 rfl ?_
  refine hJ.aload_n (pc := 650) dL_law_650 rfl ?_
  refine hJ.iload_n (pc := 651) dL_law_651 rfl ?_
  refine hJ.iconst (pc := 652) 1 dL_law_652 (by decide) ?_
  refine hJ.iadd (pc := 653) dL_law_653 ?_
  refine hJ.scld (pc := 654) dL_law_654 (ixs (c := 1) hn hi (by decide) rfl) ?_
  refine hJ.aload_n (pc := 655) dL_law_655 rfl ?_
  refine hJ.iload_n (pc := 656) dL_law_656 rfl ?_
  refine hJ.iconst (pc := 657) 2 dL_law_657 (by decide) ?_
  refine hJ.iadd (pc := 658) dL_law_658 ?_
  refine hJ.scld (pc := 659) dL_law_659 (ixs (c := 2) hn hi (by decide) rfl) ?_
  refine hJ.cV (pc := 660) [vi (xs (i + 1)), vi (xs (i + 2))] [vi r] [vi r, vi r] dL_law_660 qlk_84 (ctX12_of ((xs (i + 1))) ((xs (i + 2))) C1 M r M1 e2) rfl rfl rfl rfl ?_
  exact hJ.icmp_eq (pc := 663) 1020 dL_law_663 (by decide) (fun _ => nxt C1 M1 hR) (fun h0 => absurd rfl h0)
set_option maxRecDepth 100000 in
set_option maxHeartbeats 4000000 in
theorem lc_16 {n : Nat} {xs : Nat → Int32} {J : Nat → Lv → List AV → Obs → Lay → Nat → Nat → Mem → Mem → Prop} (hJ : Cl RL cL_law 4 13 494 600000 7302250 (some (n, xs)) false J) {i : Nat} (hn : n ≤ 3072) (hi : i + 6 ≤ n) (nxt : ∀ C M, Rel C M → J 1020 [some (vr 99 0), some (vr 11 0), some (vr 12 0), some (vi (nI i))] [] wl0 L0 141 9171 C M) {C M : Mem} (h : Rel C M) : J 668 [some (vr 99 0), some (vr 11 0), some (vr 12 0), some (vi (nI i))] [] wl0 L0 141 9171 C M := by
  obtain ⟨r, M1, e1, e2, hR⟩ := sim_who h (xs (i + 1)) (xs (i + 2))
  refine hJ.aload_n (pc := 668) dL_law_668 rfl ?_
  refine hJ.aload_n (pc := 669) dL_law_669 rfl ?_
  refine hJ.iload_n (pc := 670) dL_law_670 rfl ?_
  refine hJ.iconst (pc := 671) 1 dL_law_671 (by decide) ?_
  refine hJ.iadd (pc := 672) dL_law_672 ?_
  refine hJ.scld (pc := 673) dL_law_673 (ixs (c := 1) hn hi (by decide) rfl) ?_
  refine hJ.aload_n (pc := 674) dL_law_674 rfl ?_
  refine hJ.iload_n (pc := 675) dL_law_675 rfl ?_
  refine hJ.iconst (pc := 676) 2 dL_law_676 (by decide) ?_
  refine hJ.iadd (pc := 677) dL_law_677 ?_
  refine hJ.scld (pc := 678) dL_law_678 (ixs (c := 2) hn hi (by decide) rfl) ?_
  refine hJ.cV (pc := 679) [vi (xs (i + 1)), vi (xs (i + 2))] [] [vi r] dL_law_679 qlk_85 (ctX11_who ((xs (i + 1))) ((xs (i + 2))) C M r e1) rfl rfl rfl rfl ?_
  refine hJ.aload_n (pc := 682) dL_law_682 rfl ?_
  refine hJ.aload_n (pc := 683) dL_law_683 rfl ?_
  refine hJ.iload_n (pc := 684) dL_law_684 rfl ?_
  refine hJ.iconst (pc := 685) 1 dL_law_685 (by decide) ?_
  refine hJ.iadd (pc := 686) dL_law_686 ?_
  refine hJ.scld (pc := 687) dL_law_687 (ixs (c := 1) hn hi (by decide) rfl) ?_
  refine hJ.aload_n (pc := 688) dL_law_688 rfl ?_
  refine hJ.iload_n (pc := 689) dL_law_689 rfl ?_
  refine hJ.iconst (pc := 690) 2 dL_law_690 (by decide) ?_
  refine hJ.iadd (pc := 691) dL_law_691 ?_
  refine hJ.scld (pc := 692) dL_law_692 (ixs (c := 2) hn hi (by decide) rfl) ?_
  refine hJ.cV (pc := 693) [vi (xs (i + 1)), vi (xs (i + 2))] [vi r] [vi r, vi r] dL_law_693 qlk_88 (ctX12_who ((xs (i + 1))) ((xs (i + 2))) C M r M1 e2) rfl rfl rfl rfl ?_
  exact hJ.icmp_eq (pc := 696) 1020 dL_law_696 (by decide) (fun _ => nxt C M1 hR) (fun h0 => absurd rfl h0)
set_option maxRecDepth 100000 in
set_option maxHeartbeats 4000000 in
theorem lc_17 {n : Nat} {xs : Nat → Int32} {J : Nat → Lv → List AV → Obs → Lay → Nat → Nat → Mem → Mem → Prop} (hJ : Cl RL cL_law 4 13 494 600000 7302250 (some (n, xs)) false J) {i : Nat} (hn : n ≤ 3072) (hi : i + 6 ≤ n) (nxt : ∀ C M, Rel C M → J 1020 [some (vr 99 0), some (vr 11 0), some (vr 12 0), some (vi (nI i))] [] wl0 L0 141 9171 C M) {C M : Mem} (h : Rel C M) : J 701 [some (vr 99 0), some (vr 11 0), some (vr 12 0), some (vi (nI i))] [] wl0 L0 141 9171 C M := by
  obtain ⟨r, M1, e1, e2, hR⟩ := sim_book h (xs (i + 1)) (xs (i + 2))
  refine hJ.aload_n (pc := 701) dL_law_701 rfl ?_
  refine hJ.aload_n (pc := 702) dL_law_702 rfl ?_
  refine hJ.iload_n (pc := 703) dL_law_703 rfl ?_
  refine hJ.iconst (pc := 704) 1 dL_law_704 (by decide) ?_
  refine hJ.iadd (pc := 705) dL_law_705 ?_
  refine hJ.scld (pc := 706) dL_law_706 (ixs (c := 1) hn hi (by decide) rfl) ?_
  refine hJ.aload_n (pc := 707) dL_law_707 rfl ?_
  refine hJ.iload_n (pc := 708) dL_law_708 rfl ?_
  refine hJ.iconst (pc := 709) 2 dL_law_709 (by decide) ?_
  refine hJ.iadd (pc := 710) dL_law_710 ?_
  refine hJ.scld (pc := 711) dL_law_711 (ixs (c := 2) hn hi (by decide) rfl) ?_
  refine hJ.cV (pc := 712) [vi (xs (i + 1)), vi (xs (i + 2))] [] [vi r] dL_law_712 qlk_89 (ctX11_book ((xs (i + 1))) ((xs (i + 2))) C M r e1) rfl rfl rfl rfl ?_
  refine hJ.aload_n (pc := 715) dL_law_715 rfl ?_
  refine hJ.aload_n (pc := 716) dL_law_716 rfl ?_
  refine hJ.iload_n (pc := 717) dL_law_717 rfl ?_
  refine hJ.iconst (pc := 718) 1 dL_law_718 (by decide) ?_
  refine hJ.iadd (pc := 719) dL_law_719 ?_
  refine hJ.scld (pc := 720) dL_law_720 (ixs (c := 1) hn hi (by decide) rfl) ?_
  refine hJ.aload_n (pc := 721) dL_law_721 rfl ?_
  refine hJ.iload_n (pc := 722) dL_law_722 rfl ?_
  refine hJ.iconst (pc := 723) 2 dL_law_723 (by decide) ?_
  refine hJ.iadd (pc := 724) dL_law_724 ?_
  refine hJ.scld (pc := 725) dL_law_725 (ixs (c := 2) hn hi (by decide) rfl) ?_
  refine hJ.cV (pc := 726) [vi (xs (i + 1)), vi (xs (i + 2))] [vi r] [vi r, vi r] dL_law_726 qlk_92 (ctX12_book ((xs (i + 1))) ((xs (i + 2))) C M r M1 e2) rfl rfl rfl rfl ?_
  exact hJ.icmp_eq (pc := 729) 1020 dL_law_729 (by decide) (fun _ => nxt C M1 hR) (fun h0 => absurd rfl h0)
set_option maxRecDepth 100000 in
set_option maxHeartbeats 4000000 in
theorem lc_18 {n : Nat} {xs : Nat → Int32} {J : Nat → Lv → List AV → Obs → Lay → Nat → Nat → Mem → Mem → Prop} (hJ : Cl RL cL_law 4 13 494 600000 7302250 (some (n, xs)) false J) {i : Nat} (hn : n ≤ 3072) (hi : i + 6 ≤ n) (nxt : ∀ C M, Rel C M → J 1020 [some (vr 99 0), some (vr 11 0), some (vr 12 0), some (vi (nI i))] [] wl0 L0 141 9171 C M) {C M : Mem} (h : Rel C M) : J 734 [some (vr 99 0), some (vr 11 0), some (vr 12 0), some (vi (nI i))] [] wl0 L0 141 9171 C M := by
  obtain ⟨r, C1, M1, e1, e2, hR⟩ := sim_claim h (xs (i + 1)) (xs (i + 2)) (xs (i + 3)) (xs (i + 4))
  refine hJ.aload_n (pc := 734) dL_law_734 rfl ?_
  refine hJ.aload_n (pc := 735) dL_law_735 rfl ?_
  refine hJ.iload_n (pc := 736) dL_law_736 rfl ?_
  refine hJ.iconst (pc := 737) 1 dL_law_737 (by decide) ?_
  refine hJ.iadd (pc := 738) dL_law_738 ?_
  refine hJ.scld (pc := 739) dL_law_739 (ixs (c := 1) hn hi (by decide) rfl) ?_
  refine hJ.aload_n (pc := 740) dL_law_740 rfl ?_
  refine hJ.iload_n (pc := 741) dL_law_741 rfl ?_
  refine hJ.iconst (pc := 742) 2 dL_law_742 (by decide) ?_
  refine hJ.iadd (pc := 743) dL_law_743 ?_
  refine hJ.scld (pc := 744) dL_law_744 (ixs (c := 2) hn hi (by decide) rfl) ?_
  refine hJ.aload_n (pc := 745) dL_law_745 rfl ?_
  refine hJ.iload_n (pc := 746) dL_law_746 rfl ?_
  refine hJ.iconst (pc := 747) 3 dL_law_747 (by decide) ?_
  refine hJ.iadd (pc := 748) dL_law_748 ?_
  refine hJ.scld (pc := 749) dL_law_749 (ixs (c := 3) hn hi (by decide) rfl) ?_
  refine hJ.aload_n (pc := 750) dL_law_750 rfl ?_
  refine hJ.iload_n (pc := 751) dL_law_751 rfl ?_
  refine hJ.iconst (pc := 752) 4 dL_law_752 (by decide) ?_
  refine hJ.iadd (pc := 753) dL_law_753 ?_
  refine hJ.scld (pc := 754) dL_law_754 (ixs (c := 4) hn hi (by decide) rfl) ?_
  refine hJ.cV (pc := 755) [vi (xs (i + 1)), vi (xs (i + 2)), vi (xs (i + 3)), vi (xs (i + 4))] [] [vi r] dL_law_755 qlk_93 (ctX11_claim ((xs (i + 1))) ((xs (i + 2))) ((xs (i + 3))) ((xs (i + 4))) C M r C1 e1) rfl rfl rfl rfl ?_
  refine hJ.aload_n (pc := 758) dL_law_758 rfl ?_
  refine hJ.aload_n (pc := 759) dL_law_759 rfl ?_
  refine hJ.iload_n (pc := 760) dL_law_760 rfl ?_
  refine hJ.iconst (pc := 761) 1 dL_law_761 (by decide) ?_
  refine hJ.iadd (pc := 762) dL_law_762 ?_
  refine hJ.scld (pc := 763) dL_law_763 (ixs (c := 1) hn hi (by decide) rfl) ?_
  refine hJ.aload_n (pc := 764) dL_law_764 rfl ?_
  refine hJ.iload_n (pc := 765) dL_law_765 rfl ?_
  refine hJ.iconst (pc := 766) 2 dL_law_766 (by decide) ?_
  refine hJ.iadd (pc := 767) dL_law_767 ?_
  refine hJ.scld (pc := 768) dL_law_768 (ixs (c := 2) hn hi (by decide) rfl) ?_
  refine hJ.aload_n (pc := 769) dL_law_769 rfl ?_
  refine hJ.iload_n (pc := 770) dL_law_770 rfl ?_
  refine hJ.iconst (pc := 771) 3 dL_law_771 (by decide) ?_
  refine hJ.iadd (pc := 772) dL_law_772 ?_
  refine hJ.scld (pc := 773) dL_law_773 (ixs (c := 3) hn hi (by decide) rfl) ?_
  refine hJ.aload_n (pc := 774) dL_law_774 rfl ?_
  refine hJ.iload_n (pc := 775) dL_law_775 rfl ?_
  refine hJ.iconst (pc := 776) 4 dL_law_776 (by decide) ?_
  refine hJ.iadd (pc := 777) dL_law_777 ?_
  refine hJ.scld (pc := 778) dL_law_778 (ixs (c := 4) hn hi (by decide) rfl) ?_
  refine hJ.cV (pc := 779) [vi (xs (i + 1)), vi (xs (i + 2)), vi (xs (i + 3)), vi (xs (i + 4))] [vi r] [vi r, vi r] dL_law_779 qlk_96 (ctX12_claim ((xs (i + 1))) ((xs (i + 2))) ((xs (i + 3))) ((xs (i + 4))) C1 M r M1 e2) rfl rfl rfl rfl ?_
  exact hJ.icmp_eq (pc := 782) 1020 dL_law_782 (by decide) (fun _ => nxt C1 M1 hR) (fun h0 => absurd rfl h0)
set_option maxRecDepth 100000 in
set_option maxHeartbeats 4000000 in
theorem lc_19 {n : Nat} {xs : Nat → Int32} {J : Nat → Lv → List AV → Obs → Lay → Nat → Nat → Mem → Mem → Prop} (hJ : Cl RL cL_law 4 13 494 600000 7302250 (some (n, xs)) false J) {i : Nat} (hn : n ≤ 3072) (hi : i + 6 ≤ n) (nxt : ∀ C M, Rel C M → J 1020 [some (vr 99 0), some (vr 11 0), some (vr 12 0), some (vi (nI i))] [] wl0 L0 141 9171 C M) {C M : Mem} (h : Rel C M) : J 787 [some (vr 99 0), some (vr 11 0), some (vr 12 0), some (vi (nI i))] [] wl0 L0 141 9171 C M := by
  obtain ⟨r, C1, M1, e1, e2, hR⟩ := sim_fewest h (xs (i + 1))
  refine hJ.aload_n (pc := 787) dL_law_787 rfl ?_
  refine hJ.aload_n (pc := 788) dL_law_788 rfl ?_
  refine hJ.iload_n (pc := 789) dL_law_789 rfl ?_
  refine hJ.iconst (pc := 790) 1 dL_law_790 (by decide) ?_
  refine hJ.iadd (pc := 791) dL_law_791 ?_
  refine hJ.scld (pc := 792) dL_law_792 (ixs (c := 1) hn hi (by decide) rfl) ?_
  refine hJ.cV (pc := 793) [vi (xs (i + 1))] [] [vi r] dL_law_793 qlk_97 (ctX11_fewest ((xs (i + 1))) C M r C1 e1) rfl rfl rfl rfl ?_
  refine hJ.aload_n (pc := 796) dL_law_796 rfl ?_
  refine hJ.aload_n (pc := 797) dL_law_797 rfl ?_
  refine hJ.iload_n (pc := 798) dL_law_798 rfl ?_
  refine hJ.iconst (pc := 799) 1 dL_law_799 (by decide) ?_
  refine hJ.iadd (pc := 800) dL_law_800 ?_
  refine hJ.scld (pc := 801) dL_law_801 (ixs (c := 1) hn hi (by decide) rfl) ?_
  refine hJ.cV (pc := 802) [vi (xs (i + 1))] [vi r] [vi r, vi r] dL_law_802 qlk_100 (ctX12_fewest ((xs (i + 1))) C1 M r M1 e2) rfl rfl rfl rfl ?_
  exact hJ.icmp_eq (pc := 805) 1020 dL_law_805 (by decide) (fun _ => nxt C1 M1 hR) (fun h0 => absurd rfl h0)
set_option maxRecDepth 100000 in
set_option maxHeartbeats 4000000 in
theorem lc_20 {n : Nat} {xs : Nat → Int32} {J : Nat → Lv → List AV → Obs → Lay → Nat → Nat → Mem → Mem → Prop} (hJ : Cl RL cL_law 4 13 494 600000 7302250 (some (n, xs)) false J) {i : Nat} (hn : n ≤ 3072) (hi : i + 6 ≤ n) (nxt : ∀ C M, Rel C M → J 1020 [some (vr 99 0), some (vr 11 0), some (vr 12 0), some (vi (nI i))] [] wl0 L0 141 9171 C M) {C M : Mem} (h : Rel C M) : J 810 [some (vr 99 0), some (vr 11 0), some (vr 12 0), some (vi (nI i))] [] wl0 L0 141 9171 C M := by
  obtain ⟨r, C1, M1, e1, e2, hR⟩ := sim_thumbs h (xs (i + 1)) (xs (i + 2)) (xs (i + 3))
  refine hJ.aload_n (pc := 810) dL_law_810 rfl ?_
  refine hJ.aload_n (pc := 811) dL_law_811 rfl ?_
  refine hJ.iload_n (pc := 812) dL_law_812 rfl ?_
  refine hJ.iconst (pc := 813) 1 dL_law_813 (by decide) ?_
  refine hJ.iadd (pc := 814) dL_law_814 ?_
  refine hJ.scld (pc := 815) dL_law_815 (ixs (c := 1) hn hi (by decide) rfl) ?_
  refine hJ.aload_n (pc := 816) dL_law_816 rfl ?_
  refine hJ.iload_n (pc := 817) dL_law_817 rfl ?_
  refine hJ.iconst (pc := 818) 2 dL_law_818 (by decide) ?_
  refine hJ.iadd (pc := 819) dL_law_819 ?_
  refine hJ.scld (pc := 820) dL_law_820 (ixs (c := 2) hn hi (by decide) rfl) ?_
  refine hJ.aload_n (pc := 821) dL_law_821 rfl ?_
  refine hJ.iload_n (pc := 822) dL_law_822 rfl ?_
  refine hJ.iconst (pc := 823) 3 dL_law_823 (by decide) ?_
  refine hJ.iadd (pc := 824) dL_law_824 ?_
  refine hJ.scld (pc := 825) dL_law_825 (ixs (c := 3) hn hi (by decide) rfl) ?_
  refine hJ.cV (pc := 826) [vi (xs (i + 1)), vi (xs (i + 2)), vi (xs (i + 3))] [] [vi r] dL_law_826 qlk_101 (ctX11_thumbs ((xs (i + 1))) ((xs (i + 2))) ((xs (i + 3))) C M r C1 e1) rfl rfl rfl rfl ?_
  refine hJ.aload_n (pc := 829) dL_law_829 rfl ?_
  refine hJ.aload_n (pc := 830) dL_law_830 rfl ?_
  refine hJ.iload_n (pc := 831) dL_law_831 rfl ?_
  refine hJ.iconst (pc := 832) 1 dL_law_832 (by decide) ?_
  refine hJ.iadd (pc := 833) dL_law_833 ?_
  refine hJ.scld (pc := 834) dL_law_834 (ixs (c := 1) hn hi (by decide) rfl) ?_
  refine hJ.aload_n (pc := 835) dL_law_835 rfl ?_
  refine hJ.iload_n (pc := 836) dL_law_836 rfl ?_
  refine hJ.iconst (pc := 837) 2 dL_law_837 (by decide) ?_
  refine hJ.iadd (pc := 838) dL_law_838 ?_
  refine hJ.scld (pc := 839) dL_law_839 (ixs (c := 2) hn hi (by decide) rfl) ?_
  refine hJ.aload_n (pc := 840) dL_law_840 rfl ?_
  refine hJ.iload_n (pc := 841) dL_law_841 rfl ?_
  refine hJ.iconst (pc := 842) 3 dL_law_842 (by decide) ?_
  refine hJ.iadd (pc := 843) dL_law_843 ?_
  refine hJ.scld (pc := 844) dL_law_844 (ixs (c := 3) hn hi (by decide) rfl) ?_
  refine hJ.cV (pc := 845) [vi (xs (i + 1)), vi (xs (i + 2)), vi (xs (i + 3))] [vi r] [vi r, vi r] dL_law_845 qlk_105 (ctX12_thumbs ((xs (i + 1))) ((xs (i + 2))) ((xs (i + 3))) C1 M r M1 e2) rfl rfl rfl rfl ?_
  exact hJ.icmp_eq (pc := 848) 1020 dL_law_848 (by decide) (fun _ => nxt C1 M1 hR) (fun h0 => absurd rfl h0)
set_option maxRecDepth 100000 in
set_option maxHeartbeats 4000000 in
theorem lc_21 {n : Nat} {xs : Nat → Int32} {J : Nat → Lv → List AV → Obs → Lay → Nat → Nat → Mem → Mem → Prop} (hJ : Cl RL cL_law 4 13 494 600000 7302250 (some (n, xs)) false J) {i : Nat} (hn : n ≤ 3072) (hi : i + 6 ≤ n) (nxt : ∀ C M, Rel C M → J 1020 [some (vr 99 0), some (vr 11 0), some (vr 12 0), some (vi (nI i))] [] wl0 L0 141 9171 C M) {C M : Mem} (h : Rel C M) : J 853 [some (vr 99 0), some (vr 11 0), some (vr 12 0), some (vi (nI i))] [] wl0 L0 141 9171 C M := by
  obtain ⟨r, M1, e1, e2, hR⟩ := sim_leaps h (xs (i + 1)) (xs (i + 2)) (xs (i + 3))
  refine hJ.aload_n (pc := 853) dL_law_853 rfl ?_
  refine hJ.aload_n (pc := 854) dL_law_854 rfl ?_
  refine hJ.iload_n (pc := 855) dL_law_855 rfl ?_
  refine hJ.iconst (pc := 856) 1 dL_law_856 (by decide) ?_
  refine hJ.iadd (pc := 857) dL_law_857 ?_
  refine hJ.scld (pc := 858) dL_law_858 (ixs (c := 1) hn hi (by decide) rfl) ?_
  refine hJ.aload_n (pc := 859) dL_law_859 rfl ?_
  refine hJ.iload_n (pc := 860) dL_law_860 rfl ?_
  refine hJ.iconst (pc := 861) 2 dL_law_861 (by decide) ?_
  refine hJ.iadd (pc := 862) dL_law_862 ?_
  refine hJ.scld (pc := 863) dL_law_863 (ixs (c := 2) hn hi (by decide) rfl) ?_
  refine hJ.aload_n (pc := 864) dL_law_864 rfl ?_
  refine hJ.iload_n (pc := 865) dL_law_865 rfl ?_
  refine hJ.iconst (pc := 866) 3 dL_law_866 (by decide) ?_
  refine hJ.iadd (pc := 867) dL_law_867 ?_
  refine hJ.scld (pc := 868) dL_law_868 (ixs (c := 3) hn hi (by decide) rfl) ?_
  refine hJ.cV (pc := 869) [vi (xs (i + 1)), vi (xs (i + 2)), vi (xs (i + 3))] [] [vi r] dL_law_869 qlk_106 (ctX11_leaps ((xs (i + 1))) ((xs (i + 2))) ((xs (i + 3))) C M r e1) rfl rfl rfl rfl ?_
  refine hJ.aload_n (pc := 872) dL_law_872 rfl ?_
  refine hJ.aload_n (pc := 873) dL_law_873 rfl ?_
  refine hJ.iload_n (pc := 874) dL_law_874 rfl ?_
  refine hJ.iconst (pc := 875) 1 dL_law_875 (by decide) ?_
  refine hJ.iadd (pc := 876) dL_law_876 ?_
  refine hJ.scld (pc := 877) dL_law_877 (ixs (c := 1) hn hi (by decide) rfl) ?_
  refine hJ.aload_n (pc := 878) dL_law_878 rfl ?_
  refine hJ.iload_n (pc := 879) dL_law_879 rfl ?_
  refine hJ.iconst (pc := 880) 2 dL_law_880 (by decide) ?_
  refine hJ.iadd (pc := 881) dL_law_881 ?_
  refine hJ.scld (pc := 882) dL_law_882 (ixs (c := 2) hn hi (by decide) rfl) ?_
  refine hJ.aload_n (pc := 883) dL_law_883 rfl ?_
  refine hJ.iload_n (pc := 884) dL_law_884 rfl ?_
  refine hJ.iconst (pc := 885) 3 dL_law_885 (by decide) ?_
  refine hJ.iadd (pc := 886) dL_law_886 ?_
  refine hJ.scld (pc := 887) dL_law_887 (ixs (c := 3) hn hi (by decide) rfl) ?_
  refine hJ.cV (pc := 888) [vi (xs (i + 1)), vi (xs (i + 2)), vi (xs (i + 3))] [vi r] [vi r, vi r] dL_law_888 qlk_109 (ctX12_leaps ((xs (i + 1))) ((xs (i + 2))) ((xs (i + 3))) C M r M1 e2) rfl rfl rfl rfl ?_
  exact hJ.icmp_eq (pc := 891) 1020 dL_law_891 (by decide) (fun _ => nxt C M1 hR) (fun h0 => absurd rfl h0)
set_option maxRecDepth 100000 in
set_option maxHeartbeats 4000000 in
theorem lc_22 {n : Nat} {xs : Nat → Int32} {J : Nat → Lv → List AV → Obs → Lay → Nat → Nat → Mem → Mem → Prop} (hJ : Cl RL cL_law 4 13 494 600000 7302250 (some (n, xs)) false J) {i : Nat} (hn : n ≤ 3072) (hi : i + 6 ≤ n) (nxt : ∀ C M, Rel C M → J 1020 [some (vr 99 0), some (vr 11 0), some (vr 12 0), some (vi (nI i))] [] wl0 L0 141 9171 C M) {C M : Mem} (h : Rel C M) : J 896 [some (vr 99 0), some (vr 11 0), some (vr 12 0), some (vi (nI i))] [] wl0 L0 141 9171 C M := by
  obtain ⟨r, M1, e1, e2, hR⟩ := sim_next h 
  refine hJ.aload_n (pc := 896) dL_law_896 rfl ?_
  refine hJ.cV (pc := 897) [] [] [vi r] dL_law_897 qlk_110 (ctX11_next C M r e1) rfl rfl rfl rfl ?_
  refine hJ.aload_n (pc := 900) dL_law_900 rfl ?_
  refine hJ.cV (pc := 901) [] [vi r] [vi r, vi r] dL_law_901 qlk_113 (ctX12_next C M r M1 e2) rfl rfl rfl rfl ?_
  exact hJ.icmp_eq (pc := 904) 1020 dL_law_904 (by decide) (fun _ => nxt C M1 hR) (fun h0 => absurd rfl h0)
set_option maxRecDepth 100000 in
set_option maxHeartbeats 4000000 in
theorem lc_23 {n : Nat} {xs : Nat → Int32} {J : Nat → Lv → List AV → Obs → Lay → Nat → Nat → Mem → Mem → Prop} (hJ : Cl RL cL_law 4 13 494 600000 7302250 (some (n, xs)) false J) {i : Nat} (hn : n ≤ 3072) (hi : i + 6 ≤ n) (nxt : ∀ C M, Rel C M → J 1020 [some (vr 99 0), some (vr 11 0), some (vr 12 0), some (vi (nI i))] [] wl0 L0 141 9171 C M) {C M : Mem} (h : Rel C M) : J 909 [some (vr 99 0), some (vr 11 0), some (vr 12 0), some (vi (nI i))] [] wl0 L0 141 9171 C M := by
  obtain ⟨r, C1, M1, e1, e2, hR⟩ := sim_close h 
  refine hJ.aload_n (pc := 909) dL_law_909 rfl ?_
  refine hJ.cV (pc := 910) [] [] [vi r] dL_law_910 qlk_114 (ctX11_close C M r C1 e1) rfl rfl rfl rfl ?_
  refine hJ.aload_n (pc := 913) dL_law_913 rfl ?_
  refine hJ.cV (pc := 914) [] [vi r] [vi r, vi r] dL_law_914 qlk_117 (ctX12_close C1 M r M1 e2) rfl rfl rfl rfl ?_
  exact hJ.icmp_eq (pc := 917) 1020 dL_law_917 (by decide) (fun _ => nxt C1 M1 hR) (fun h0 => absurd rfl h0)
set_option maxRecDepth 100000 in
set_option maxHeartbeats 4000000 in
theorem lc_24 {n : Nat} {xs : Nat → Int32} {J : Nat → Lv → List AV → Obs → Lay → Nat → Nat → Mem → Mem → Prop} (hJ : Cl RL cL_law 4 13 494 600000 7302250 (some (n, xs)) false J) {i : Nat} (hn : n ≤ 3072) (hi : i + 6 ≤ n) (nxt : ∀ C M, Rel C M → J 1020 [some (vr 99 0), some (vr 11 0), some (vr 12 0), some (vi (nI i))] [] wl0 L0 141 9171 C M) {C M : Mem} (h : Rel C M) : J 922 [some (vr 99 0), some (vr 11 0), some (vr 12 0), some (vi (nI i))] [] wl0 L0 141 9171 C M := by
  obtain ⟨r, C1, M1, e1, e2, hR⟩ := sim_mean h (xs (i + 1))
  refine hJ.aload_n (pc := 922) dL_law_922 rfl ?_
  refine hJ.aload_n (pc := 923) dL_law_923 rfl ?_
  refine hJ.iload_n (pc := 924) dL_law_924 rfl ?_
  refine hJ.iconst (pc := 925) 1 dL_law_925 (by decide) ?_
  refine hJ.iadd (pc := 926) dL_law_926 ?_
  refine hJ.scld (pc := 927) dL_law_927 (ixs (c := 1) hn hi (by decide) rfl) ?_
  refine hJ.cV (pc := 928) [vi (xs (i + 1))] [] [vi r] dL_law_928 qlk_118 (ctX11_mean ((xs (i + 1))) C M r C1 e1) rfl rfl rfl rfl ?_
  refine hJ.aload_n (pc := 931) dL_law_931 rfl ?_
  refine hJ.aload_n (pc := 932) dL_law_932 rfl ?_
  refine hJ.iload_n (pc := 933) dL_law_933 rfl ?_
  refine hJ.iconst (pc := 934) 1 dL_law_934 (by decide) ?_
  refine hJ.iadd (pc := 935) dL_law_935 ?_
  refine hJ.scld (pc := 936) dL_law_936 (ixs (c := 1) hn hi (by decide) rfl) ?_
  refine hJ.cV (pc := 937) [vi (xs (i + 1))] [vi r] [vi r, vi r] dL_law_937 qlk_121 (ctX12_mean ((xs (i + 1))) C1 M r M1 e2) rfl rfl rfl rfl ?_
  exact hJ.icmp_eq (pc := 940) 1020 dL_law_940 (by decide) (fun _ => nxt C1 M1 hR) (fun h0 => absurd rfl h0)
set_option maxRecDepth 100000 in
set_option maxHeartbeats 4000000 in
theorem lc_25 {n : Nat} {xs : Nat → Int32} {J : Nat → Lv → List AV → Obs → Lay → Nat → Nat → Mem → Mem → Prop} (hJ : Cl RL cL_law 4 13 494 600000 7302250 (some (n, xs)) false J) {i : Nat} (hn : n ≤ 3072) (hi : i + 6 ≤ n) (nxt : ∀ C M, Rel C M → J 1020 [some (vr 99 0), some (vr 11 0), some (vr 12 0), some (vi (nI i))] [] wl0 L0 141 9171 C M) {C M : Mem} (h : Rel C M) : J 945 [some (vr 99 0), some (vr 11 0), some (vr 12 0), some (vi (nI i))] [] wl0 L0 141 9171 C M := by
  obtain ⟨r, C1, M1, e1, e2, hR⟩ := sim_undo h 
  refine hJ.aload_n (pc := 945) dL_law_945 rfl ?_
  refine hJ.cV (pc := 946) [] [] [vi r] dL_law_946 qlk_122 (ctX11_undo C M r C1 e1) rfl rfl rfl rfl ?_
  refine hJ.aload_n (pc := 949) dL_law_949 rfl ?_
  refine hJ.cV (pc := 950) [] [vi r] [vi r, vi r] dL_law_950 qlk_126 (ctX12_undo C1 M r M1 e2) rfl rfl rfl rfl ?_
  exact hJ.icmp_eq (pc := 953) 1020 dL_law_953 (by decide) (fun _ => nxt C1 M1 hR) (fun h0 => absurd rfl h0)
set_option maxRecDepth 100000 in
set_option maxHeartbeats 4000000 in
theorem lc_26 {n : Nat} {xs : Nat → Int32} {J : Nat → Lv → List AV → Obs → Lay → Nat → Nat → Mem → Mem → Prop} (hJ : Cl RL cL_law 4 13 494 600000 7302250 (some (n, xs)) false J) {i : Nat} (hn : n ≤ 3072) (hi : i + 6 ≤ n) (nxt : ∀ C M, Rel C M → J 1020 [some (vr 99 0), some (vr 11 0), some (vr 12 0), some (vi (nI i))] [] wl0 L0 141 9171 C M) {C M : Mem} (h : Rel C M) : J 958 [some (vr 99 0), some (vr 11 0), some (vr 12 0), some (vi (nI i))] [] wl0 L0 141 9171 C M := by
  by_cases hz : xs (i + 1) = 0
  · obtain ⟨r, C1, M1, e1, e2, hR⟩ := sim_image h 0 (Or.inl rfl)
    refine hJ.aload_n (pc := 958) dL_law_958 rfl ?_
    refine hJ.aload_n (pc := 959) dL_law_959 rfl ?_
    refine hJ.iload_n (pc := 960) dL_law_960 rfl ?_
    refine hJ.iconst (pc := 961) 1 dL_law_961 (by decide) ?_
    refine hJ.iadd (pc := 962) dL_law_962 ?_
    refine hJ.scld (pc := 963) dL_law_963 (ixs (c := 1) hn hi (by decide) rfl) ?_
    refine hJ.if_eq (pc := 964) 971 dL_law_964 (by decide) (fun _ => ?_) (fun h0 => absurd hz h0)
    refine hJ.iconst (pc := 971) 0 dL_law_971 (by decide) ?_
    refine hJ.cV (pc := 972) [vi 0] [] [vi r] dL_law_972 qlk_127 (ctX11_image 0 C M r C1 e1) rfl rfl rfl rfl ?_
    refine hJ.aload_n (pc := 975) dL_law_975 rfl ?_
    refine hJ.aload_n (pc := 976) dL_law_976 rfl ?_
    refine hJ.iload_n (pc := 977) dL_law_977 rfl ?_
    refine hJ.iconst (pc := 978) 1 dL_law_978 (by decide) ?_
    refine hJ.iadd (pc := 979) dL_law_979 ?_
    refine hJ.scld (pc := 980) dL_law_980 (ixs (c := 1) hn hi (by decide) rfl) ?_
    refine hJ.if_eq (pc := 981) 988 dL_law_981 (by decide) (fun _ => ?_) (fun h0 => absurd hz h0)
    refine hJ.iconst (pc := 988) 0 dL_law_988 (by decide) ?_
    refine hJ.cV (pc := 989) [vi 0] [vi r] [vi r, vi r] dL_law_989 qlk_131 (ctX12_image 0 C1 M r M1 e2) rfl rfl rfl rfl ?_
    exact hJ.icmp_eq (pc := 992) 1020 dL_law_992 (by decide) (fun _ => nxt C1 M1 hR) (fun h0 => absurd rfl h0)
  · obtain ⟨r, C1, M1, e1, e2, hR⟩ := sim_image h 1 (Or.inr rfl)
    refine hJ.aload_n (pc := 958) dL_law_958 rfl ?_
    refine hJ.aload_n (pc := 959) dL_law_959 rfl ?_
    refine hJ.iload_n (pc := 960) dL_law_960 rfl ?_
    refine hJ.iconst (pc := 961) 1 dL_law_961 (by decide) ?_
    refine hJ.iadd (pc := 962) dL_law_962 ?_
    refine hJ.scld (pc := 963) dL_law_963 (ixs (c := 1) hn hi (by decide) rfl) ?_
    refine hJ.if_eq (pc := 964) 971 dL_law_964 (by decide) (fun h0 => absurd h0 hz) (fun _ => ?_)
    refine hJ.iconst (pc := 967) 1 dL_law_967 (by decide) ?_
    refine hJ.goto (pc := 968) 972 dL_law_968 (by decide) ?_
    refine hJ.cV (pc := 972) [vi 1] [] [vi r] dL_law_972 qlk_127 (ctX11_image 1 C M r C1 e1) rfl rfl rfl rfl ?_
    refine hJ.aload_n (pc := 975) dL_law_975 rfl ?_
    refine hJ.aload_n (pc := 976) dL_law_976 rfl ?_
    refine hJ.iload_n (pc := 977) dL_law_977 rfl ?_
    refine hJ.iconst (pc := 978) 1 dL_law_978 (by decide) ?_
    refine hJ.iadd (pc := 979) dL_law_979 ?_
    refine hJ.scld (pc := 980) dL_law_980 (ixs (c := 1) hn hi (by decide) rfl) ?_
    refine hJ.if_eq (pc := 981) 988 dL_law_981 (by decide) (fun h0 => absurd h0 hz) (fun _ => ?_)
    refine hJ.iconst (pc := 984) 1 dL_law_984 (by decide) ?_
    refine hJ.goto (pc := 985) 989 dL_law_985 (by decide) ?_
    refine hJ.cV (pc := 989) [vi 1] [vi r] [vi r, vi r] dL_law_989 qlk_131 (ctX12_image 1 C1 M r M1 e2) rfl rfl rfl rfl ?_
    exact hJ.icmp_eq (pc := 992) 1020 dL_law_992 (by decide) (fun _ => nxt C1 M1 hR) (fun h0 => absurd rfl h0)
set_option maxRecDepth 100000 in
set_option maxHeartbeats 4000000 in
theorem lc_27 {n : Nat} {xs : Nat → Int32} {J : Nat → Lv → List AV → Obs → Lay → Nat → Nat → Mem → Mem → Prop} (hJ : Cl RL cL_law 4 13 494 600000 7302250 (some (n, xs)) false J) {i : Nat} (hn : n ≤ 3072) (hi : i + 6 ≤ n) (nxt : ∀ C M, Rel C M → J 1020 [some (vr 99 0), some (vr 11 0), some (vr 12 0), some (vi (nI i))] [] wl0 L0 141 9171 C M) {C M : Mem} (h : Rel C M) : J 997 [some (vr 99 0), some (vr 11 0), some (vr 12 0), some (vi (nI i))] [] wl0 L0 141 9171 C M := by
  obtain ⟨r, M1, e1, e2, hR⟩ := sm_look h (xs (i + 1))
  refine hJ.aload_n (pc := 997) dL_law_997 rfl ?_
  refine hJ.aload_n (pc := 998) dL_law_998 rfl ?_
  refine hJ.iload_n (pc := 999) dL_law_999 rfl ?_
  refine hJ.iconst (pc := 1000) 1 dL_law_1000 (by decide) ?_
  refine hJ.iadd (pc := 1001) dL_law_1001 ?_
  refine hJ.scld (pc := 1002) dL_law_1002 (ixs (c := 1) hn hi (by decide) rfl) ?_
  refine hJ.cV (pc := 1003) [vi (xs (i + 1))] [] [vi r] dL_law_1003 qlk_132 (ctX11_look ((xs (i + 1))) C M r e1) rfl rfl rfl rfl ?_
  refine hJ.aload_n (pc := 1006) dL_law_1006 rfl ?_
  refine hJ.aload_n (pc := 1007) dL_law_1007 rfl ?_
  refine hJ.iload_n (pc := 1008) dL_law_1008 rfl ?_
  refine hJ.iconst (pc := 1009) 1 dL_law_1009 (by decide) ?_
  refine hJ.iadd (pc := 1010) dL_law_1010 ?_
  refine hJ.scld (pc := 1011) dL_law_1011 (ixs (c := 1) hn hi (by decide) rfl) ?_
  refine hJ.cV (pc := 1012) [vi (xs (i + 1))] [vi r] [vi r, vi r] dL_law_1012 qlk_135 (ctX12_look ((xs (i + 1))) C M r M1 e2) rfl rfl rfl rfl ?_
  exact hJ.icmp_eq (pc := 1015) 1020 dL_law_1015 (by decide) (fun _ => nxt C M1 hR) (fun h0 => absurd rfl h0)
theorem len6 {n i : Nat} (hn : n ≤ 3072) (hi : i ≤ n) (h : ¬ nI n - 6 < nI i) : i + 6 ≤ n := by
  rcases Nat.lt_or_ge n (i + 6) with q | q
  · exfalso
    apply h
    by_cases e : 6 ≤ n
    · rw [show (6 : Int32) = nI 6 from rfl, nI_sub' (by omega) (by omega)]
      exact nI_lt (by omega) (by omega)
    · refine Int32.lt_of_lt_of_le (b := 0) ?_ (nI_pos' (by omega))
      rcases (show n = 0 ∨ n = 1 ∨ n = 2 ∨ n = 3 ∨ n = 4 ∨ n = 5 by omega) with rfl | rfl | rfl | rfl | rfl | rfl <;> decide
  · exact q
set_option maxRecDepth 100000 in
set_option maxHeartbeats 4000000 in
theorem law_loop {n : Nat} {xs : Nat → Int32} {J : Nat → Lv → List AV → Obs → Lay → Nat → Nat → Mem → Mem → Prop} (hJ : Cl RL cL_law 4 13 494 600000 7302250 (some (n, xs)) false J) (hn : n ≤ 3072) (fin : ∀ (lv : Lv) (C M : Mem), J 1027 lv [vi 1] wl0 L0 141 9171 C M) : ∀ (fuel i : Nat) (C M : Mem), Rel C M → i ≤ n → n - i < fuel → J 18 [some (vr 99 0), some (vr 11 0), some (vr 12 0), some (vi (nI i))] [] wl0 L0 141 9171 C M := by
  intro fuel
  induction fuel with
  | zero => intro i C M _ _ h; omega
  | succ fuel ih =>
    intro i C M h hin hf
    refine hJ.iload_n (pc := 18) dL_law_18 rfl ?_
    refine hJ.aload_n (pc := 19) dL_law_19 rfl ?_
    refine hJ.sclen (pc := 20) dL_law_20 ?_
    refine hJ.bipush (pc := 21) 6 dL_law_21 (by decide) ?_
    refine hJ.isub (pc := 23) dL_law_23 ?_
    refine hJ.icmp_gt (pc := 24) 1026 dL_law_24 (by decide) (fun _ => ?_) (fun hc => ?_)
    · refine hJ.iconst (pc := 1026) 1 dL_law_1026 (by decide) ?_
      exact fin _ _ _
    · have hi := len6 hn hin hc
      have nxt : ∀ C M, Rel C M → J 1020 [some (vr 99 0), some (vr 11 0), some (vr 12 0), some (vi (nI i))] [] wl0 L0 141 9171 C M := by
        intro C M h
        refine hJ.iinc (pc := 1020) (nI (i + 6)) [some (vr 99 0), some (vr 11 0), some (vr 12 0), some (vi (nI (i + 6)))] dL_law_1020 (by decide) rfl (nI_add i 6) rfl ?_
        refine hJ.goto (pc := 1023) 18 dL_law_1023 (by decide) ?_
        exact ih (i + 6) C M h (by omega) (by omega)
      refine hJ.aload_n (pc := 27) dL_law_27 rfl ?_
      refine hJ.iload_n (pc := 28) dL_law_28 rfl ?_
      refine hJ.scld (pc := 29) dL_law_29 (ix_nI (show i < n by omega) (by omega)) ?_
      refine hJ.bipush (pc := 30) 31 dL_law_30 (by decide) ?_
      refine hJ.iand (pc := 32) dL_law_32 ?_
      obtain ⟨m, m1, m2⟩ := pk_andE (xs i) (m := 31) 5 (by decide)
      have m2 : xs i &&& 31 = nI m := m2
      rw [m2]
      have m1 : m < 32 := m1
      by_cases h28 : 28 ≤ m
      · refine hJ.tswOut (pc := 33) 1020 dL_law_33 (Or.inr ?_) (by decide) (nxt C M h)
        rw [nI_toInt (by omega)]
        omega
      · rcases (show m = 0 ∨ m = 1 ∨ m = 2 ∨ m = 3 ∨ m = 4 ∨ m = 5 ∨ m = 6 ∨ m = 7 ∨ m = 8 ∨ m = 9 ∨ m = 10 ∨ m = 11 ∨ m = 12 ∨ m = 13 ∨ m = 14 ∨ m = 15 ∨ m = 16 ∨ m = 17 ∨ m = 18 ∨ m = 19 ∨ m = 20 ∨ m = 21 ∨ m = 22 ∨ m = 23 ∨ m = 24 ∨ m = 25 ∨ m = 26 ∨ m = 27 by omega) with rfl | rfl | rfl | rfl | rfl | rfl | rfl | rfl | rfl | rfl | rfl | rfl | rfl | rfl | rfl | rfl | rfl | rfl | rfl | rfl | rfl | rfl | rfl | rfl | rfl | rfl | rfl | rfl
        · exact hJ.tswIn (pc := 33) (off := 127) 160 dL_law_33 (by decide) (by decide) (by decide) (by decide) (lc_0 hJ hn hi nxt h)
        · exact hJ.tswIn (pc := 33) (off := 150) 183 dL_law_33 (by decide) (by decide) (by decide) (by decide) (lc_1 hJ hn hi nxt h)
        · exact hJ.tswIn (pc := 33) (off := 203) 236 dL_law_33 (by decide) (by decide) (by decide) (by decide) (lc_2 hJ hn hi nxt h)
        · exact hJ.tswIn (pc := 33) (off := 246) 279 dL_law_33 (by decide) (by decide) (by decide) (by decide) (lc_3 hJ hn hi nxt h)
        · exact hJ.tswIn (pc := 33) (off := 269) 302 dL_law_33 (by decide) (by decide) (by decide) (by decide) (lc_4 hJ hn hi nxt h)
        · exact hJ.tswIn (pc := 33) (off := 302) 335 dL_law_33 (by decide) (by decide) (by decide) (by decide) (lc_5 hJ hn hi nxt h)
        · exact hJ.tswIn (pc := 33) (off := 335) 368 dL_law_33 (by decide) (by decide) (by decide) (by decide) (lc_6 hJ hn hi nxt h)
        · exact hJ.tswIn (pc := 33) (off := 358) 391 dL_law_33 (by decide) (by decide) (by decide) (by decide) (lc_7 hJ hn hi nxt h)
        · exact hJ.tswIn (pc := 33) (off := 391) 424 dL_law_33 (by decide) (by decide) (by decide) (by decide) (lc_8 hJ hn hi nxt h)
        · exact hJ.tswIn (pc := 33) (off := 424) 457 dL_law_33 (by decide) (by decide) (by decide) (by decide) (lc_9 hJ hn hi nxt h)
        · exact hJ.tswIn (pc := 33) (off := 447) 480 dL_law_33 (by decide) (by decide) (by decide) (by decide) (lc_10 hJ hn hi nxt h)
        · exact hJ.tswIn (pc := 33) (off := 510) 543 dL_law_33 (by decide) (by decide) (by decide) (by decide) (lc_11 hJ hn hi nxt h)
        · exact hJ.tswIn (pc := 33) (off := 533) 566 dL_law_33 (by decide) (by decide) (by decide) (by decide) (lc_12 hJ hn hi nxt h)
        · exact hJ.tswIn (pc := 33) (off := 546) 579 dL_law_33 (by decide) (by decide) (by decide) (by decide) (lc_13 hJ hn hi nxt h)
        · exact hJ.tswIn (pc := 33) (off := 569) 602 dL_law_33 (by decide) (by decide) (by decide) (by decide) (lc_14 hJ hn hi nxt h)
        · exact hJ.tswIn (pc := 33) (off := 602) 635 dL_law_33 (by decide) (by decide) (by decide) (by decide) (lc_15 hJ hn hi nxt h)
        · exact hJ.tswIn (pc := 33) (off := 635) 668 dL_law_33 (by decide) (by decide) (by decide) (by decide) (lc_16 hJ hn hi nxt h)
        · exact hJ.tswIn (pc := 33) (off := 668) 701 dL_law_33 (by decide) (by decide) (by decide) (by decide) (lc_17 hJ hn hi nxt h)
        · exact hJ.tswIn (pc := 33) (off := 701) 734 dL_law_33 (by decide) (by decide) (by decide) (by decide) (lc_18 hJ hn hi nxt h)
        · exact hJ.tswIn (pc := 33) (off := 754) 787 dL_law_33 (by decide) (by decide) (by decide) (by decide) (lc_19 hJ hn hi nxt h)
        · exact hJ.tswIn (pc := 33) (off := 777) 810 dL_law_33 (by decide) (by decide) (by decide) (by decide) (lc_20 hJ hn hi nxt h)
        · exact hJ.tswIn (pc := 33) (off := 820) 853 dL_law_33 (by decide) (by decide) (by decide) (by decide) (lc_21 hJ hn hi nxt h)
        · exact hJ.tswIn (pc := 33) (off := 863) 896 dL_law_33 (by decide) (by decide) (by decide) (by decide) (lc_22 hJ hn hi nxt h)
        · exact hJ.tswIn (pc := 33) (off := 876) 909 dL_law_33 (by decide) (by decide) (by decide) (by decide) (lc_23 hJ hn hi nxt h)
        · exact hJ.tswIn (pc := 33) (off := 889) 922 dL_law_33 (by decide) (by decide) (by decide) (by decide) (lc_24 hJ hn hi nxt h)
        · exact hJ.tswIn (pc := 33) (off := 912) 945 dL_law_33 (by decide) (by decide) (by decide) (by decide) (lc_25 hJ hn hi nxt h)
        · exact hJ.tswIn (pc := 33) (off := 925) 958 dL_law_33 (by decide) (by decide) (by decide) (by decide) (lc_26 hJ hn hi nxt h)
        · exact hJ.tswIn (pc := 33) (off := 964) 997 dL_law_33 (by decide) (by decide) (by decide) (by decide) (lc_27 hJ hn hi nxt h)
