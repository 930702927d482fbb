set_option maxRecDepth 100000 in
set_option maxHeartbeats 4000000 in
theorem ctX12_undo (Sc S : Mem) (r : Int32) (S' : Mem) (hF : fX12_undo S = some (r, S')) : Ct yX12_undo cX12_undo 3 (some .boolean) 0 0 0 0 [vr 12 0] wl0 L0 Sc S (some (vi r)) wl0 L0 Sc S' := by
  refine Ct.of RX12 false (by decide) rfl (fun h => by cases h) (Nat.le_of_ble_eq_true rfl) (fun J hJ hR => ?_)
  rw [fX12_undo] at hF
  show J 0 [some (vr 12 0), none, none] [] wl0 L0 0 0 Sc S
  refine hJ.aload_n (pc := 0) dX12_undo_0 rfl ?_
  refine hJ.iconst (pc := 1) 0 dX12_undo_1 ic_0 ?_
  refine hJ.pIM (pc := 2) dX12_undo_2 fp_X12_104 ?_
  refine hJ.aload_n (pc := 5) dX12_undo_5 rfl ?_
  refine hJ.gM (pc := 6) dX12_undo_6 fi_X12_120 ?_
  refine hJ.if_ne (pc := 9) 14 dX12_undo_9 (by decide) (fun h1 => ?_) (fun h1 => ?_)
  · rw [if_neg h1] at hF
    refine hJ.aload_n (pc := 14) dX12_undo_14 rfl ?_
    refine hJ.aload_n (pc := 15) dX12_undo_15 rfl ?_
    refine hJ.gM (pc := 16) dX12_undo_16 fi_X12_120 ?_
    refine hJ.iconst (pc := 19) 1 dX12_undo_19 ic_1 ?_
    refine hJ.isub (pc := 20) dX12_undo_20 ?_
    refine hJ.pIM (pc := 21) dX12_undo_21 fp_X12_120 ?_
    refine hJ.bipush (pc := 24) 6 dX12_undo_24 bc_6 ?_
    refine hJ.aload_n (pc := 26) dX12_undo_26 rfl ?_
    refine hJ.gM (pc := 27) dX12_undo_27 fi_X12_120 ?_
    refine hJ.imul (pc := 30) dX12_undo_30 ?_
    refine hJ.istore_n (pc := 31) [some (vr 12 0), some (vi (6 * ((up (up S 12 0 0 0) 12 0 44 (((up S 12 0 0 0) 12 0 44) - 1)) 12 0 44))), none] dX12_undo_31 (by decide) rfl ?_
    refine hJ.aload_n (pc := 32) dX12_undo_32 rfl ?_
    refine hJ.gR (pc := 33) (k' := 83) (i' := 0) dX12_undo_33 fr_X12_83 rfl ?_
    refine hJ.iload_n (pc := 36) dX12_undo_36 rfl ?_
    obtain ⟨j2, h3, hF⟩ := bn_some hF
    refine hJ.lialdM (pc := 37) dX12_undo_37 al_83 h3 ?_
    refine hJ.istore_n (pc := 38) [some (vr 12 0), some (vi (6 * ((up (up S 12 0 0 0) 12 0 44 (((up S 12 0 0 0) 12 0 44) - 1)) 12 0 44))), some (vi ((up (up S 12 0 0 0) 12 0 44 (((up S 12 0 0 0) 12 0 44) - 1)) 83 0 j2))] dX12_undo_38 (by decide) rfl ?_
    refine hJ.aload_n (pc := 39) dX12_undo_39 rfl ?_
    refine hJ.gR (pc := 40) (k' := 67) (i' := 0) dX12_undo_40 fr_X12_31 rfl ?_
    refine hJ.iload_n (pc := 43) dX12_undo_43 rfl ?_
    refine hJ.aload_n (pc := 44) dX12_undo_44 rfl ?_
    refine hJ.gR (pc := 45) (k' := 83) (i' := 0) dX12_undo_45 fr_X12_83 rfl ?_
    refine hJ.iload_n (pc := 48) dX12_undo_48 rfl ?_
    refine hJ.iconst (pc := 49) 1 dX12_undo_49 ic_1 ?_
    refine hJ.iadd (pc := 50) dX12_undo_50 ?_
    obtain ⟨j4, h5, hF⟩ := bn_some hF
    refine hJ.lialdM (pc := 51) dX12_undo_51 al_83 h5 ?_
    obtain ⟨j6, h7, hF⟩ := bn_some hF
    refine hJ.siastM (pc := 52) dX12_undo_52 al_67 h7 ?_
    refine hJ.aload_n (pc := 53) dX12_undo_53 rfl ?_
    refine hJ.gR (pc := 54) (k' := 68) (i' := 0) dX12_undo_54 fr_X12_34 rfl ?_
    refine hJ.iload_n (pc := 57) dX12_undo_57 rfl ?_
    refine hJ.aload_n (pc := 58) dX12_undo_58 rfl ?_
    refine hJ.gR (pc := 59) (k' := 83) (i' := 0) dX12_undo_59 fr_X12_83 rfl ?_
    refine hJ.iload_n (pc := 62) dX12_undo_62 rfl ?_
    refine hJ.iconst (pc := 63) 2 dX12_undo_63 ic_2 ?_
    refine hJ.iadd (pc := 64) dX12_undo_64 ?_
    obtain ⟨j8, h9, hF⟩ := bn_some hF
    refine hJ.lialdM (pc := 65) dX12_undo_65 al_83 h9 ?_
    refine hJ.siastM (pc := 66) dX12_undo_66 al_68 h7 ?_
    refine hJ.aload_n (pc := 67) dX12_undo_67 rfl ?_
    refine hJ.gR (pc := 68) (k' := 69) (i' := 0) dX12_undo_68 fr_X12_37 rfl ?_
    refine hJ.iload_n (pc := 71) dX12_undo_71 rfl ?_
    refine hJ.aload_n (pc := 72) dX12_undo_72 rfl ?_
    refine hJ.gR (pc := 73) (k' := 83) (i' := 0) dX12_undo_73 fr_X12_83 rfl ?_
    refine hJ.iload_n (pc := 76) dX12_undo_76 rfl ?_
    refine hJ.iconst (pc := 77) 3 dX12_undo_77 ic_3 ?_
    refine hJ.iadd (pc := 78) dX12_undo_78 ?_
    obtain ⟨j10, h11, hF⟩ := bn_some hF
    refine hJ.lialdM (pc := 79) dX12_undo_79 al_83 h11 ?_
    refine hJ.siastM (pc := 80) dX12_undo_80 al_69 h7 ?_
    refine hJ.aload_n (pc := 81) dX12_undo_81 rfl ?_
    refine hJ.gR (pc := 82) (k' := 70) (i' := 0) dX12_undo_82 fr_X12_40 rfl ?_
    refine hJ.iload_n (pc := 85) dX12_undo_85 rfl ?_
    refine hJ.aload_n (pc := 86) dX12_undo_86 rfl ?_
    refine hJ.gR (pc := 87) (k' := 83) (i' := 0) dX12_undo_87 fr_X12_83 rfl ?_
    refine hJ.iload_n (pc := 90) dX12_undo_90 rfl ?_
    refine hJ.iconst (pc := 91) 4 dX12_undo_91 ic_4 ?_
    refine hJ.iadd (pc := 92) dX12_undo_92 ?_
    obtain ⟨j12, h13, hF⟩ := bn_some hF
    refine hJ.lialdM (pc := 93) dX12_undo_93 al_83 h13 ?_
    refine hJ.siastM (pc := 94) dX12_undo_94 al_70 h7 ?_
    refine hJ.aload_n (pc := 95) dX12_undo_95 rfl ?_
    refine hJ.aload_n (pc := 96) dX12_undo_96 rfl ?_
    refine hJ.gR (pc := 97) (k' := 83) (i' := 0) dX12_undo_97 fr_X12_83 rfl ?_
    refine hJ.iload_n (pc := 100) dX12_undo_100 rfl ?_
    refine hJ.iconst (pc := 101) 5 dX12_undo_101 ic_5 ?_
    refine hJ.iadd (pc := 102) dX12_undo_102 ?_
    obtain ⟨j14, h15, hF⟩ := bn_some hF
    refine hJ.lialdM (pc := 103) dX12_undo_103 al_83 h15 ?_
    refine hJ.pIM (pc := 104) dX12_undo_104 fp_X12_260 ?_
    refine hJ.iconst (pc := 107) 1 dX12_undo_107 ic_1 ?_
    cases hF
    exact hR.n (pc := 108) (by decide) dX12_undo_108
  · rw [if_pos h1] at hF
    refine hJ.iconst (pc := 12) 0 dX12_undo_12 ic_0 ?_
    cases hF
    exact hR.n (pc := 13) (by decide) dX12_undo_13
set_option maxRecDepth 100000 in
set_option maxHeartbeats 4000000 in
theorem ctX12_kept (p0 : Int32) (Sc S : Mem) (r : Int32) (S' : Mem) (hF : fX12_kept p0 S = some (r, S')) : Ct yX12_kept cX12_kept 2 (some .int) 0 0 0 0 [vr 12 0, vi p0] wl0 L0 Sc S (some (vi r)) wl0 L0 Sc S' := by
  refine Ct.of RX12 false (by decide) rfl (fun h => by cases h) (Nat.le_of_ble_eq_true rfl) (fun J hJ hR => ?_)
  rw [fX12_kept] at hF
  show J 0 [some (vr 12 0), some (vi p0)] [] wl0 L0 0 0 Sc S
  refine hJ.aload_n (pc := 0) dX12_kept_0 rfl ?_
  refine hJ.aload_n (pc := 1) dX12_kept_1 rfl ?_
  refine hJ.gM (pc := 2) dX12_kept_2 fi_X12_322 ?_
  refine hJ.iconst (pc := 5) 1 dX12_kept_5 ic_1 ?_
  refine hJ.iadd (pc := 6) dX12_kept_6 ?_
  refine hJ.pIM (pc := 7) dX12_kept_7 fp_X12_322 ?_
  refine hJ.aload_n (pc := 10) dX12_kept_10 rfl ?_
  refine hJ.gM (pc := 11) dX12_kept_11 fi_X12_325 ?_
  refine hJ.if_ne (pc := 14) 29 dX12_kept_14 (by decide) (fun h1 => ?_) (fun h1 => ?_)
  · rw [if_neg h1] at hF
    refine hJ.aload_n (pc := 29) dX12_kept_29 rfl ?_
    refine hJ.gR (pc := 30) (k' := 89) (i' := 0) dX12_kept_30 fr_X12_101 rfl ?_
    refine hJ.aload_n (pc := 33) dX12_kept_33 rfl ?_
    refine hJ.gM (pc := 34) dX12_kept_34 fi_X12_322 ?_
    refine hJ.iconst (pc := 37) 1 dX12_kept_37 ic_1 ?_
    refine hJ.isub (pc := 38) dX12_kept_38 ?_
    refine hJ.iload_n (pc := 39) dX12_kept_39 rfl ?_
    obtain ⟨j4, h5, hF⟩ := bn_some hF
    refine hJ.siastM (pc := 40) dX12_kept_40 al_89 h5 ?_
    refine hJ.iload_n (pc := 41) dX12_kept_41 rfl ?_
    cases hF
    exact hR.i (pc := 42) dX12_kept_42
  · rw [if_pos h1] at hF
    refine hJ.aload_n (pc := 17) dX12_kept_17 rfl ?_
    refine hJ.gR (pc := 18) (k' := 89) (i' := 0) dX12_kept_18 fr_X12_101 rfl ?_
    refine hJ.aload_n (pc := 21) dX12_kept_21 rfl ?_
    refine hJ.gM (pc := 22) dX12_kept_22 fi_X12_322 ?_
    refine hJ.iconst (pc := 25) 1 dX12_kept_25 ic_1 ?_
    refine hJ.isub (pc := 26) dX12_kept_26 ?_
    obtain ⟨j2, h3, hF⟩ := bn_some hF
    refine hJ.lialdM (pc := 27) dX12_kept_27 al_89 h3 ?_
    cases hF
    exact hR.i (pc := 28) dX12_kept_28
set_option maxRecDepth 100000 in
set_option maxHeartbeats 4000000 in
theorem wX12_keepsPapers_195 {J : Nat → Lv → List AV → Obs → Lay → Nat → Nat → Mem → Mem → Prop} (hJ : Cl RX12 cX12_keepsPapers 2 1 21 0 0 none false J) {Sc S' : Mem} (hR : Rk cX12_keepsPapers none none wl0 L0 0 0 Sc S' J) : ∀ (n : Nat) (x1 : Int32) (S : Mem), fX12_keepsPapers_195 n x1 S = some (S') → J 195 [some (vr 12 0), some (vi x1)] [] wl0 L0 0 0 Sc S := by
  intro n
  induction n with
  | zero =>
    intro x1 S hF
    rw [fX12_keepsPapers_195] at hF
    cases hF
  | succ n ih =>
    intro x1 S hF
    rw [fX12_keepsPapers_195] at hF
    refine hJ.iload_n (pc := 195) dX12_keepsPapers_195 rfl ?_
    refine hJ.bipush (pc := 196) 6 dX12_keepsPapers_196 bc_6 ?_
    refine hJ.icmp_ge (pc := 198) 271 dX12_keepsPapers_198 (by decide) (fun h12 => ?_) (fun h12 => ?_)
    · rw [if_pos h12] at hF
      cases hF
      exact hR.v (pc := 271) dX12_keepsPapers_271
    · rw [if_neg h12] at hF
      refine hJ.aload_n (pc := 201) dX12_keepsPapers_201 rfl ?_
      refine hJ.gR (pc := 202) (k' := 84) (i' := 0) dX12_keepsPapers_202 fr_X12_86 rfl ?_
      refine hJ.iload_n (pc := 205) dX12_keepsPapers_205 rfl ?_
      refine hJ.aload_n (pc := 206) dX12_keepsPapers_206 rfl ?_
      refine hJ.aload_n (pc := 207) dX12_keepsPapers_207 rfl ?_
      refine hJ.gR (pc := 208) (k' := 84) (i' := 0) dX12_keepsPapers_208 fr_X12_86 rfl ?_
      refine hJ.iload_n (pc := 211) dX12_keepsPapers_211 rfl ?_
      obtain ⟨j13, h14, hF⟩ := bn_some hF
      refine hJ.lialdM (pc := 212) dX12_keepsPapers_212 al_84 h14 ?_
      obtain ⟨r17, S16, h15, hF⟩ := bd_some hF
      refine hJ.cV (pc := 213) [vi (S 84 0 j13)] [vi x1, vr 84 0] [vi r17, vi x1, vr 84 0] dX12_keepsPapers_213 lk_X12_329 (ctX12_kept (S 84 0 j13) _ _ _ _ h15) rfl rfl rfl rfl ?_
      refine hJ.siastM (pc := 216) dX12_keepsPapers_216 al_84 h14 ?_
      refine hJ.aload_n (pc := 217) dX12_keepsPapers_217 rfl ?_
      refine hJ.gR (pc := 218) (k' := 85) (i' := 0) dX12_keepsPapers_218 fr_X12_89 rfl ?_
      refine hJ.iload_n (pc := 221) dX12_keepsPapers_221 rfl ?_
      refine hJ.aload_n (pc := 222) dX12_keepsPapers_222 rfl ?_
      refine hJ.aload_n (pc := 223) dX12_keepsPapers_223 rfl ?_
      refine hJ.gR (pc := 224) (k' := 85) (i' := 0) dX12_keepsPapers_224 fr_X12_89 rfl ?_
      refine hJ.iload_n (pc := 227) dX12_keepsPapers_227 rfl ?_
      refine hJ.lialdM (pc := 228) dX12_keepsPapers_228 al_85 h14 ?_
      obtain ⟨r20, S19, h18, hF⟩ := bd_some hF
      refine hJ.cV (pc := 229) [vi ((up S16 84 0 j13 r17) 85 0 j13)] [vi x1, vr 85 0] [vi r20, vi x1, vr 85 0] dX12_keepsPapers_229 lk_X12_329 (ctX12_kept ((up S16 84 0 j13 r17) 85 0 j13) _ _ _ _ h18) rfl rfl rfl rfl ?_
      refine hJ.siastM (pc := 232) dX12_keepsPapers_232 al_85 h14 ?_
      refine hJ.aload_n (pc := 233) dX12_keepsPapers_233 rfl ?_
      refine hJ.gR (pc := 234) (k' := 86) (i' := 0) dX12_keepsPapers_234 fr_X12_92 rfl ?_
      refine hJ.iload_n (pc := 237) dX12_keepsPapers_237 rfl ?_
      refine hJ.aload_n (pc := 238) dX12_keepsPapers_238 rfl ?_
      refine hJ.aload_n (pc := 239) dX12_keepsPapers_239 rfl ?_
      refine hJ.gR (pc := 240) (k' := 86) (i' := 0) dX12_keepsPapers_240 fr_X12_92 rfl ?_
      refine hJ.iload_n (pc := 243) dX12_keepsPapers_243 rfl ?_
      refine hJ.lialdM (pc := 244) dX12_keepsPapers_244 al_86 h14 ?_
      obtain ⟨r23, S22, h21, hF⟩ := bd_some hF
      refine hJ.cV (pc := 245) [vi ((up S19 85 0 j13 r20) 86 0 j13)] [vi x1, vr 86 0] [vi r23, vi x1, vr 86 0] dX12_keepsPapers_245 lk_X12_329 (ctX12_kept ((up S19 85 0 j13 r20) 86 0 j13) _ _ _ _ h21) rfl rfl rfl rfl ?_
      refine hJ.siastM (pc := 248) dX12_keepsPapers_248 al_86 h14 ?_
      refine hJ.aload_n (pc := 249) dX12_keepsPapers_249 rfl ?_
      refine hJ.gR (pc := 250) (k' := 87) (i' := 0) dX12_keepsPapers_250 fr_X12_95 rfl ?_
      refine hJ.iload_n (pc := 253) dX12_keepsPapers_253 rfl ?_
      refine hJ.aload_n (pc := 254) dX12_keepsPapers_254 rfl ?_
      refine hJ.aload_n (pc := 255) dX12_keepsPapers_255 rfl ?_
      refine hJ.gR (pc := 256) (k' := 87) (i' := 0) dX12_keepsPapers_256 fr_X12_95 rfl ?_
      refine hJ.iload_n (pc := 259) dX12_keepsPapers_259 rfl ?_
      refine hJ.lialdM (pc := 260) dX12_keepsPapers_260 al_87 h14 ?_
      obtain ⟨r26, S25, h24, hF⟩ := bd_some hF
      refine hJ.cV (pc := 261) [vi ((up S22 86 0 j13 r23) 87 0 j13)] [vi x1, vr 87 0] [vi r26, vi x1, vr 87 0] dX12_keepsPapers_261 lk_X12_329 (ctX12_kept ((up S22 86 0 j13 r23) 87 0 j13) _ _ _ _ h24) rfl rfl rfl rfl ?_
      refine hJ.siastM (pc := 264) dX12_keepsPapers_264 al_87 h14 ?_
      refine hJ.iinc (pc := 265) (x1 + 1) [some (vr 12 0), some (vi (x1 + 1))] dX12_keepsPapers_265 (by decide) rfl (congrArg (fun z => x1 + z) ic_1) rfl ?_
      refine hJ.goto (pc := 268) 195 dX12_keepsPapers_268 (by decide) ?_
      exact ih (x1 + 1) (up S25 87 0 j13 r26) hF
set_option maxRecDepth 100000 in
set_option maxHeartbeats 4000000 in
theorem wX12_keepsPapers_152 {J : Nat → Lv → List AV → Obs → Lay → Nat → Nat → Mem → Mem → Prop} (hJ : Cl RX12 cX12_keepsPapers 2 1 21 0 0 none false J) {Sc S' : Mem} (hR : Rk cX12_keepsPapers none none wl0 L0 0 0 Sc S' J) : ∀ (n : Nat) (x1 : Int32) (S : Mem), fX12_keepsPapers_152 n x1 S = some (S') → J 152 [some (vr 12 0), some (vi x1)] [] wl0 L0 0 0 Sc S := by
  intro n
  induction n with
  | zero =>
    intro x1 S hF
    rw [fX12_keepsPapers_152] at hF
    cases hF
  | succ n ih =>
    intro x1 S hF
    rw [fX12_keepsPapers_152] at hF
    refine hJ.iload_n (pc := 152) dX12_keepsPapers_152 rfl ?_
    refine hJ.sipush (pc := 153) 600 dX12_keepsPapers_153 sc_600 ?_
    refine hJ.icmp_ge (pc := 156) 181 dX12_keepsPapers_156 (by decide) (fun h8 => ?_) (fun h8 => ?_)
    · rw [if_pos h8] at hF
      refine hJ.aload_n (pc := 181) dX12_keepsPapers_181 rfl ?_
      refine hJ.aload_n (pc := 182) dX12_keepsPapers_182 rfl ?_
      refine hJ.aload_n (pc := 183) dX12_keepsPapers_183 rfl ?_
      refine hJ.gM (pc := 184) dX12_keepsPapers_184 fi_X12_289 ?_
      obtain ⟨r11, S10, h9, hF⟩ := bd_some hF
      refine hJ.cV (pc := 187) [vi (S 12 0 45)] [vr 12 0] [vi r11, vr 12 0] dX12_keepsPapers_187 lk_X12_329 (ctX12_kept (S 12 0 45) _ _ _ _ h9) rfl rfl rfl rfl ?_
      refine hJ.pIM (pc := 190) dX12_keepsPapers_190 fp_X12_289 ?_
      refine hJ.iconst (pc := 193) 0 dX12_keepsPapers_193 ic_0 ?_
      refine hJ.istore_n (pc := 194) [some (vr 12 0), some (vi 0)] dX12_keepsPapers_194 (by decide) rfl ?_
      exact wX12_keepsPapers_195 hJ hR 5000 0 (up S10 12 0 45 r11) hF
    · rw [if_neg h8] at hF
      refine hJ.aload_n (pc := 159) dX12_keepsPapers_159 rfl ?_
      refine hJ.gR (pc := 160) (k' := 72) (i' := 0) dX12_keepsPapers_160 fr_X12_46 rfl ?_
      refine hJ.iload_n (pc := 163) dX12_keepsPapers_163 rfl ?_
      refine hJ.aload_n (pc := 164) dX12_keepsPapers_164 rfl ?_
      refine hJ.aload_n (pc := 165) dX12_keepsPapers_165 rfl ?_
      refine hJ.gR (pc := 166) (k' := 72) (i' := 0) dX12_keepsPapers_166 fr_X12_46 rfl ?_
      refine hJ.iload_n (pc := 169) dX12_keepsPapers_169 rfl ?_
      obtain ⟨j27, h28, hF⟩ := bn_some hF
      refine hJ.lialdM (pc := 170) dX12_keepsPapers_170 al_72 h28 ?_
      obtain ⟨r31, S30, h29, hF⟩ := bd_some hF
      refine hJ.cV (pc := 171) [vi (S 72 0 j27)] [vi x1, vr 72 0] [vi r31, vi x1, vr 72 0] dX12_keepsPapers_171 lk_X12_329 (ctX12_kept (S 72 0 j27) _ _ _ _ h29) rfl rfl rfl rfl ?_
      refine hJ.siastM (pc := 174) dX12_keepsPapers_174 al_72 h28 ?_
      refine hJ.iinc (pc := 175) (x1 + 1) [some (vr 12 0), some (vi (x1 + 1))] dX12_keepsPapers_175 (by decide) rfl (congrArg (fun z => x1 + z) ic_1) rfl ?_
      refine hJ.goto (pc := 178) 152 dX12_keepsPapers_178 (by decide) ?_
      exact ih (x1 + 1) (up S30 72 0 j27 r31) hF
set_option maxRecDepth 100000 in
set_option maxHeartbeats 4000000 in
theorem wX12_keepsPapers_14 {J : Nat → Lv → List AV → Obs → Lay → Nat → Nat → Mem → Mem → Prop} (hJ : Cl RX12 cX12_keepsPapers 2 1 21 0 0 none false J) {Sc S' : Mem} (hR : Rk cX12_keepsPapers none none wl0 L0 0 0 Sc S' J) : ∀ (n : Nat) (x1 : Int32) (S : Mem), fX12_keepsPapers_14 n x1 S = some (S') → J 14 [some (vr 12 0), some (vi x1)] [] wl0 L0 0 0 Sc S := by
  intro n
  induction n with
  | zero =>
    intro x1 S hF
    rw [fX12_keepsPapers_14] at hF
    cases hF
  | succ n ih =>
    intro x1 S hF
    rw [fX12_keepsPapers_14] at hF
    refine hJ.iload_n (pc := 14) dX12_keepsPapers_14 rfl ?_
    refine hJ.bipush (pc := 15) 12 dX12_keepsPapers_15 bc_12 ?_
    refine hJ.icmp_ge (pc := 17) 138 dX12_keepsPapers_17 (by decide) (fun h4 => ?_) (fun h4 => ?_)
    · rw [if_pos h4] at hF
      refine hJ.aload_n (pc := 138) dX12_keepsPapers_138 rfl ?_
      refine hJ.aload_n (pc := 139) dX12_keepsPapers_139 rfl ?_
      refine hJ.aload_n (pc := 140) dX12_keepsPapers_140 rfl ?_
      refine hJ.gM (pc := 141) dX12_keepsPapers_141 fi_X12_260 ?_
      obtain ⟨r7, S6, h5, hF⟩ := bd_some hF
      refine hJ.cV (pc := 144) [vi (S 12 0 18)] [vr 12 0] [vi r7, vr 12 0] dX12_keepsPapers_144 lk_X12_329 (ctX12_kept (S 12 0 18) _ _ _ _ h5) rfl rfl rfl rfl ?_
      refine hJ.pIM (pc := 147) dX12_keepsPapers_147 fp_X12_260 ?_
      refine hJ.iconst (pc := 150) 0 dX12_keepsPapers_150 ic_0 ?_
      refine hJ.istore_n (pc := 151) [some (vr 12 0), some (vi 0)] dX12_keepsPapers_151 (by decide) rfl ?_
      exact wX12_keepsPapers_152 hJ hR 5000 0 (up S6 12 0 18 r7) hF
    · rw [if_neg h4] at hF
      refine hJ.aload_n (pc := 20) dX12_keepsPapers_20 rfl ?_
      refine hJ.gR (pc := 21) (k' := 65) (i' := 0) dX12_keepsPapers_21 fr_X12_25 rfl ?_
      refine hJ.iload_n (pc := 24) dX12_keepsPapers_24 rfl ?_
      refine hJ.aload_n (pc := 25) dX12_keepsPapers_25 rfl ?_
      refine hJ.aload_n (pc := 26) dX12_keepsPapers_26 rfl ?_
      refine hJ.gR (pc := 27) (k' := 65) (i' := 0) dX12_keepsPapers_27 fr_X12_25 rfl ?_
      refine hJ.iload_n (pc := 30) dX12_keepsPapers_30 rfl ?_
      obtain ⟨j32, h33, hF⟩ := bn_some hF
      refine hJ.lialdM (pc := 31) dX12_keepsPapers_31 al_65 h33 ?_
      obtain ⟨r36, S35, h34, hF⟩ := bd_some hF
      refine hJ.cV (pc := 32) [vi (S 65 0 j32)] [vi x1, vr 65 0] [vi r36, vi x1, vr 65 0] dX12_keepsPapers_32 lk_X12_329 (ctX12_kept (S 65 0 j32) _ _ _ _ h34) rfl rfl rfl rfl ?_
      refine hJ.siastM (pc := 35) dX12_keepsPapers_35 al_65 h33 ?_
      refine hJ.aload_n (pc := 36) dX12_keepsPapers_36 rfl ?_
      refine hJ.gR (pc := 37) (k' := 66) (i' := 0) dX12_keepsPapers_37 fr_X12_28 rfl ?_
      refine hJ.iload_n (pc := 40) dX12_keepsPapers_40 rfl ?_
      refine hJ.aload_n (pc := 41) dX12_keepsPapers_41 rfl ?_
      refine hJ.aload_n (pc := 42) dX12_keepsPapers_42 rfl ?_
      refine hJ.gR (pc := 43) (k' := 66) (i' := 0) dX12_keepsPapers_43 fr_X12_28 rfl ?_
      refine hJ.iload_n (pc := 46) dX12_keepsPapers_46 rfl ?_
      refine hJ.lialdM (pc := 47) dX12_keepsPapers_47 al_66 h33 ?_
      obtain ⟨r39, S38, h37, hF⟩ := bd_some hF
      refine hJ.cV (pc := 48) [vi ((up S35 65 0 j32 r36) 66 0 j32)] [vi x1, vr 66 0] [vi r39, vi x1, vr 66 0] dX12_keepsPapers_48 lk_X12_329 (ctX12_kept ((up S35 65 0 j32 r36) 66 0 j32) _ _ _ _ h37) rfl rfl rfl rfl ?_
      refine hJ.siastM (pc := 51) dX12_keepsPapers_51 al_66 h33 ?_
      refine hJ.aload_n (pc := 52) dX12_keepsPapers_52 rfl ?_
      refine hJ.gR (pc := 53) (k' := 67) (i' := 0) dX12_keepsPapers_53 fr_X12_31 rfl ?_
      refine hJ.iload_n (pc := 56) dX12_keepsPapers_56 rfl ?_
      refine hJ.aload_n (pc := 57) dX12_keepsPapers_57 rfl ?_
      refine hJ.aload_n (pc := 58) dX12_keepsPapers_58 rfl ?_
      refine hJ.gR (pc := 59) (k' := 67) (i' := 0) dX12_keepsPapers_59 fr_X12_31 rfl ?_
      refine hJ.iload_n (pc := 62) dX12_keepsPapers_62 rfl ?_
      refine hJ.lialdM (pc := 63) dX12_keepsPapers_63 al_67 h33 ?_
      obtain ⟨r42, S41, h40, hF⟩ := bd_some hF
      refine hJ.cV (pc := 64) [vi ((up S38 66 0 j32 r39) 67 0 j32)] [vi x1, vr 67 0] [vi r42, vi x1, vr 67 0] dX12_keepsPapers_64 lk_X12_329 (ctX12_kept ((up S38 66 0 j32 r39) 67 0 j32) _ _ _ _ h40) rfl rfl rfl rfl ?_
      refine hJ.siastM (pc := 67) dX12_keepsPapers_67 al_67 h33 ?_
      refine hJ.aload_n (pc := 68) dX12_keepsPapers_68 rfl ?_
      refine hJ.gR (pc := 69) (k' := 68) (i' := 0) dX12_keepsPapers_69 fr_X12_34 rfl ?_
      refine hJ.iload_n (pc := 72) dX12_keepsPapers_72 rfl ?_
      refine hJ.aload_n (pc := 73) dX12_keepsPapers_73 rfl ?_
      refine hJ.aload_n (pc := 74) dX12_keepsPapers_74 rfl ?_
      refine hJ.gR (pc := 75) (k' := 68) (i' := 0) dX12_keepsPapers_75 fr_X12_34 rfl ?_
      refine hJ.iload_n (pc := 78) dX12_keepsPapers_78 rfl ?_
      refine hJ.lialdM (pc := 79) dX12_keepsPapers_79 al_68 h33 ?_
      obtain ⟨r45, S44, h43, hF⟩ := bd_some hF
      refine hJ.cV (pc := 80) [vi ((up S41 67 0 j32 r42) 68 0 j32)] [vi x1, vr 68 0] [vi r45, vi x1, vr 68 0] dX12_keepsPapers_80 lk_X12_329 (ctX12_kept ((up S41 67 0 j32 r42) 68 0 j32) _ _ _ _ h43) rfl rfl rfl rfl ?_
      refine hJ.siastM (pc := 83) dX12_keepsPapers_83 al_68 h33 ?_
      refine hJ.aload_n (pc := 84) dX12_keepsPapers_84 rfl ?_
      refine hJ.gR (pc := 85) (k' := 69) (i' := 0) dX12_keepsPapers_85 fr_X12_37 rfl ?_
      refine hJ.iload_n (pc := 88) dX12_keepsPapers_88 rfl ?_
      refine hJ.aload_n (pc := 89) dX12_keepsPapers_89 rfl ?_
      refine hJ.aload_n (pc := 90) dX12_keepsPapers_90 rfl ?_
      refine hJ.gR (pc := 91) (k' := 69) (i' := 0) dX12_keepsPapers_91 fr_X12_37 rfl ?_
      refine hJ.iload_n (pc := 94) dX12_keepsPapers_94 rfl ?_
      refine hJ.lialdM (pc := 95) dX12_keepsPapers_95 al_69 h33 ?_
      obtain ⟨r48, S47, h46, hF⟩ := bd_some hF
      refine hJ.cV (pc := 96) [vi ((up S44 68 0 j32 r45) 69 0 j32)] [vi x1, vr 69 0] [vi r48, vi x1, vr 69 0] dX12_keepsPapers_96 lk_X12_329 (ctX12_kept ((up S44 68 0 j32 r45) 69 0 j32) _ _ _ _ h46) rfl rfl rfl rfl ?_
      refine hJ.siastM (pc := 99) dX12_keepsPapers_99 al_69 h33 ?_
      refine hJ.aload_n (pc := 100) dX12_keepsPapers_100 rfl ?_
      refine hJ.gR (pc := 101) (k' := 70) (i' := 0) dX12_keepsPapers_101 fr_X12_40 rfl ?_
      refine hJ.iload_n (pc := 104) dX12_keepsPapers_104 rfl ?_
      refine hJ.aload_n (pc := 105) dX12_keepsPapers_105 rfl ?_
      refine hJ.aload_n (pc := 106) dX12_keepsPapers_106 rfl ?_
      refine hJ.gR (pc := 107) (k' := 70) (i' := 0) dX12_keepsPapers_107 fr_X12_40 rfl ?_
      refine hJ.iload_n (pc := 110) dX12_keepsPapers_110 rfl ?_
      refine hJ.lialdM (pc := 111) dX12_keepsPapers_111 al_70 h33 ?_
      obtain ⟨r51, S50, h49, hF⟩ := bd_some hF
      refine hJ.cV (pc := 112) [vi ((up S47 69 0 j32 r48) 70 0 j32)] [vi x1, vr 70 0] [vi r51, vi x1, vr 70 0] dX12_keepsPapers_112 lk_X12_329 (ctX12_kept ((up S47 69 0 j32 r48) 70 0 j32) _ _ _ _ h49) rfl rfl rfl rfl ?_
      refine hJ.siastM (pc := 115) dX12_keepsPapers_115 al_70 h33 ?_
      refine hJ.aload_n (pc := 116) dX12_keepsPapers_116 rfl ?_
      refine hJ.gR (pc := 117) (k' := 71) (i' := 0) dX12_keepsPapers_117 fr_X12_43 rfl ?_
      refine hJ.iload_n (pc := 120) dX12_keepsPapers_120 rfl ?_
      refine hJ.aload_n (pc := 121) dX12_keepsPapers_121 rfl ?_
      refine hJ.aload_n (pc := 122) dX12_keepsPapers_122 rfl ?_
      refine hJ.gR (pc := 123) (k' := 71) (i' := 0) dX12_keepsPapers_123 fr_X12_43 rfl ?_
      refine hJ.iload_n (pc := 126) dX12_keepsPapers_126 rfl ?_
      obtain ⟨j52, h53, hF⟩ := bn_some hF
      refine hJ.lialdM (pc := 127) dX12_keepsPapers_127 al_71 h53 ?_
      obtain ⟨r56, S55, h54, hF⟩ := bd_some hF
      refine hJ.cV (pc := 128) [vi ((up S50 70 0 j32 r51) 71 0 j52)] [vi x1, vr 71 0] [vi r56, vi x1, vr 71 0] dX12_keepsPapers_128 lk_X12_329 (ctX12_kept ((up S50 70 0 j32 r51) 71 0 j52) _ _ _ _ h54) rfl rfl rfl rfl ?_
      refine hJ.siastM (pc := 131) dX12_keepsPapers_131 al_71 h53 ?_
      refine hJ.iinc (pc := 132) (x1 + 1) [some (vr 12 0), some (vi (x1 + 1))] dX12_keepsPapers_132 (by decide) rfl (congrArg (fun z => x1 + z) ic_1) rfl ?_
      refine hJ.goto (pc := 135) 14 dX12_keepsPapers_135 (by decide) ?_
      exact ih (x1 + 1) (up S55 71 0 j52 r56) hF
set_option maxRecDepth 100000 in
set_option maxHeartbeats 4000000 in
theorem ctX12_keepsPapers (Sc S : Mem) (S' : Mem) (hF : fX12_keepsPapers S = some (S')) : Ct yX12_keepsPapers cX12_keepsPapers 2 none 1 21 0 0 [vr 12 0] wl0 L0 Sc S none wl0 L0 Sc S' := by
  refine Ct.of RX12 false (by decide) rfl (fun h => by cases h) (Nat.le_of_ble_eq_true rfl) (fun J hJ hR => ?_)
  rw [fX12_keepsPapers] at hF
  show J 0 [some (vr 12 0), none] [] wl0 L0 0 0 Sc S
  refine hJ.aload_n (pc := 0) dX12_keepsPapers_0 rfl ?_
  refine hJ.aload_n (pc := 1) dX12_keepsPapers_1 rfl ?_
  refine hJ.aload_n (pc := 2) dX12_keepsPapers_2 rfl ?_
  refine hJ.gM (pc := 3) dX12_keepsPapers_3 fi_X12_130 ?_
  obtain ⟨r3, S2, h1, hF⟩ := bd_some hF
  refine hJ.cV (pc := 6) [vi (S 12 0 10)] [vr 12 0] [vi r3, vr 12 0] dX12_keepsPapers_6 lk_X12_329 (ctX12_kept (S 12 0 10) _ _ _ _ h1) rfl rfl rfl rfl ?_
  refine hJ.pIM (pc := 9) dX12_keepsPapers_9 fp_X12_130 ?_
  refine hJ.iconst (pc := 12) 0 dX12_keepsPapers_12 ic_0 ?_
  refine hJ.istore_n (pc := 13) [some (vr 12 0), some (vi 0)] dX12_keepsPapers_13 (by decide) rfl ?_
  exact wX12_keepsPapers_14 hJ hR 5000 0 (up S2 12 0 10 r3) hF
set_option maxRecDepth 100000 in
set_option maxHeartbeats 4000000 in
theorem wX12_keepsLaw_76 {J : Nat → Lv → List AV → Obs → Lay → Nat → Nat → Mem → Mem → Prop} (hJ : Cl RX12 cX12_keepsLaw 2 1 21 0 0 none false J) {Sc S' : Mem} (hR : Rk cX12_keepsLaw none none wl0 L0 0 0 Sc S' J) : ∀ (n : Nat) (x1 : Int32) (S : Mem), fX12_keepsLaw_76 n x1 S = some (S') → J 76 [some (vr 12 0), some (vi x1)] [] wl0 L0 0 0 Sc S := by
  intro n
  induction n with
  | zero =>
    intro x1 S hF
    rw [fX12_keepsLaw_76] at hF
    cases hF
  | succ n ih =>
    intro x1 S hF
    rw [fX12_keepsLaw_76] at hF
    refine hJ.iload_n (pc := 76) dX12_keepsLaw_76 rfl ?_
    refine hJ.sipush (pc := 77) 400 dX12_keepsLaw_77 sc_400 ?_
    refine hJ.icmp_ge (pc := 80) 121 dX12_keepsLaw_80 (by decide) (fun h5 => ?_) (fun h5 => ?_)
    · rw [if_pos h5] at hF
      cases hF
      exact hR.v (pc := 121) dX12_keepsLaw_121
    · rw [if_neg h5] at hF
      refine hJ.aload_n (pc := 83) dX12_keepsLaw_83 rfl ?_
      refine hJ.gR (pc := 84) (k' := 78) (i' := 0) dX12_keepsLaw_84 fr_X12_64 rfl ?_
      refine hJ.iload_n (pc := 87) dX12_keepsLaw_87 rfl ?_
      refine hJ.aload_n (pc := 88) dX12_keepsLaw_88 rfl ?_
      refine hJ.aload_n (pc := 89) dX12_keepsLaw_89 rfl ?_
      refine hJ.gR (pc := 90) (k' := 78) (i' := 0) dX12_keepsLaw_90 fr_X12_64 rfl ?_
      refine hJ.iload_n (pc := 93) dX12_keepsLaw_93 rfl ?_
      obtain ⟨j6, h7, hF⟩ := bn_some hF
      refine hJ.lialdM (pc := 94) dX12_keepsLaw_94 al_78 h7 ?_
      obtain ⟨r10, S9, h8, hF⟩ := bd_some hF
      refine hJ.cV (pc := 95) [vi (S 78 0 j6)] [vi x1, vr 78 0] [vi r10, vi x1, vr 78 0] dX12_keepsLaw_95 lk_X12_329 (ctX12_kept (S 78 0 j6) _ _ _ _ h8) rfl rfl rfl rfl ?_
      refine hJ.siastM (pc := 98) dX12_keepsLaw_98 al_78 h7 ?_
      refine hJ.aload_n (pc := 99) dX12_keepsLaw_99 rfl ?_
      refine hJ.gR (pc := 100) (k' := 79) (i' := 0) dX12_keepsLaw_100 fr_X12_67 rfl ?_
      refine hJ.iload_n (pc := 103) dX12_keepsLaw_103 rfl ?_
      refine hJ.aload_n (pc := 104) dX12_keepsLaw_104 rfl ?_
      refine hJ.aload_n (pc := 105) dX12_keepsLaw_105 rfl ?_
      refine hJ.gR (pc := 106) (k' := 79) (i' := 0) dX12_keepsLaw_106 fr_X12_67 rfl ?_
      refine hJ.iload_n (pc := 109) dX12_keepsLaw_109 rfl ?_
      refine hJ.lialdM (pc := 110) dX12_keepsLaw_110 al_79 h7 ?_
      obtain ⟨r13, S12, h11, hF⟩ := bd_some hF
      refine hJ.cV (pc := 111) [vi ((up S9 78 0 j6 r10) 79 0 j6)] [vi x1, vr 79 0] [vi r13, vi x1, vr 79 0] dX12_keepsLaw_111 lk_X12_329 (ctX12_kept ((up S9 78 0 j6 r10) 79 0 j6) _ _ _ _ h11) rfl rfl rfl rfl ?_
      refine hJ.siastM (pc := 114) dX12_keepsLaw_114 al_79 h7 ?_
      refine hJ.iinc (pc := 115) (x1 + 1) [some (vr 12 0), some (vi (x1 + 1))] dX12_keepsLaw_115 (by decide) rfl (congrArg (fun z => x1 + z) ic_1) rfl ?_
      refine hJ.goto (pc := 118) 76 dX12_keepsLaw_118 (by decide) ?_
      exact ih (x1 + 1) (up S12 79 0 j6 r13) hF
set_option maxRecDepth 100000 in
set_option maxHeartbeats 4000000 in
theorem wX12_keepsLaw_14 {J : Nat → Lv → List AV → Obs → Lay → Nat → Nat → Mem → Mem → Prop} (hJ : Cl RX12 cX12_keepsLaw 2 1 21 0 0 none false J) {Sc S' : Mem} (hR : Rk cX12_keepsLaw none none wl0 L0 0 0 Sc S' J) : ∀ (n : Nat) (x1 : Int32) (S : Mem), fX12_keepsLaw_14 n x1 S = some (S') → J 14 [some (vr 12 0), some (vi x1)] [] wl0 L0 0 0 Sc S := by
  intro n
  induction n with
  | zero =>
    intro x1 S hF
    rw [fX12_keepsLaw_14] at hF
    cases hF
  | succ n ih =>
    intro x1 S hF
    rw [fX12_keepsLaw_14] at hF
    refine hJ.iload_n (pc := 14) dX12_keepsLaw_14 rfl ?_
    refine hJ.bipush (pc := 15) 16 dX12_keepsLaw_15 bc_16 ?_
    refine hJ.icmp_ge (pc := 17) 74 dX12_keepsLaw_17 (by decide) (fun h4 => ?_) (fun h4 => ?_)
    · rw [if_pos h4] at hF
      refine hJ.iconst (pc := 74) 0 dX12_keepsLaw_74 ic_0 ?_
      refine hJ.istore_n (pc := 75) [some (vr 12 0), some (vi 0)] dX12_keepsLaw_75 (by decide) rfl ?_
      exact wX12_keepsLaw_76 hJ hR 5000 0 S hF
    · rw [if_neg h4] at hF
      refine hJ.aload_n (pc := 20) dX12_keepsLaw_20 rfl ?_
      refine hJ.gR (pc := 21) (k' := 75) (i' := 0) dX12_keepsLaw_21 fr_X12_55 rfl ?_
      refine hJ.iload_n (pc := 24) dX12_keepsLaw_24 rfl ?_
      refine hJ.aload_n (pc := 25) dX12_keepsLaw_25 rfl ?_
      refine hJ.aload_n (pc := 26) dX12_keepsLaw_26 rfl ?_
      refine hJ.gR (pc := 27) (k' := 75) (i' := 0) dX12_keepsLaw_27 fr_X12_55 rfl ?_
      refine hJ.iload_n (pc := 30) dX12_keepsLaw_30 rfl ?_
      obtain ⟨j14, h15, hF⟩ := bn_some hF
      refine hJ.lialdM (pc := 31) dX12_keepsLaw_31 al_75 h15 ?_
      obtain ⟨r18, S17, h16, hF⟩ := bd_some hF
      refine hJ.cV (pc := 32) [vi (S 75 0 j14)] [vi x1, vr 75 0] [vi r18, vi x1, vr 75 0] dX12_keepsLaw_32 lk_X12_329 (ctX12_kept (S 75 0 j14) _ _ _ _ h16) rfl rfl rfl rfl ?_
      refine hJ.siastM (pc := 35) dX12_keepsLaw_35 al_75 h15 ?_
      refine hJ.aload_n (pc := 36) dX12_keepsLaw_36 rfl ?_
      refine hJ.gR (pc := 37) (k' := 76) (i' := 0) dX12_keepsLaw_37 fr_X12_58 rfl ?_
      refine hJ.iload_n (pc := 40) dX12_keepsLaw_40 rfl ?_
      refine hJ.aload_n (pc := 41) dX12_keepsLaw_41 rfl ?_
      refine hJ.aload_n (pc := 42) dX12_keepsLaw_42 rfl ?_
      refine hJ.gR (pc := 43) (k' := 76) (i' := 0) dX12_keepsLaw_43 fr_X12_58 rfl ?_
      refine hJ.iload_n (pc := 46) dX12_keepsLaw_46 rfl ?_
      refine hJ.lialdM (pc := 47) dX12_keepsLaw_47 al_76 h15 ?_
      obtain ⟨r21, S20, h19, hF⟩ := bd_some hF
      refine hJ.cV (pc := 48) [vi ((up S17 75 0 j14 r18) 76 0 j14)] [vi x1, vr 76 0] [vi r21, vi x1, vr 76 0] dX12_keepsLaw_48 lk_X12_329 (ctX12_kept ((up S17 75 0 j14 r18) 76 0 j14) _ _ _ _ h19) rfl rfl rfl rfl ?_
      refine hJ.siastM (pc := 51) dX12_keepsLaw_51 al_76 h15 ?_
      refine hJ.aload_n (pc := 52) dX12_keepsLaw_52 rfl ?_
      refine hJ.gR (pc := 53) (k' := 77) (i' := 0) dX12_keepsLaw_53 fr_X12_61 rfl ?_
      refine hJ.iload_n (pc := 56) dX12_keepsLaw_56 rfl ?_
      refine hJ.aload_n (pc := 57) dX12_keepsLaw_57 rfl ?_
      refine hJ.aload_n (pc := 58) dX12_keepsLaw_58 rfl ?_
      refine hJ.gR (pc := 59) (k' := 77) (i' := 0) dX12_keepsLaw_59 fr_X12_61 rfl ?_
      refine hJ.iload_n (pc := 62) dX12_keepsLaw_62 rfl ?_
      refine hJ.lialdM (pc := 63) dX12_keepsLaw_63 al_77 h15 ?_
      obtain ⟨r24, S23, h22, hF⟩ := bd_some hF
      refine hJ.cV (pc := 64) [vi ((up S20 76 0 j14 r21) 77 0 j14)] [vi x1, vr 77 0] [vi r24, vi x1, vr 77 0] dX12_keepsLaw_64 lk_X12_329 (ctX12_kept ((up S20 76 0 j14 r21) 77 0 j14) _ _ _ _ h22) rfl rfl rfl rfl ?_
      refine hJ.siastM (pc := 67) dX12_keepsLaw_67 al_77 h15 ?_
      refine hJ.iinc (pc := 68) (x1 + 1) [some (vr 12 0), some (vi (x1 + 1))] dX12_keepsLaw_68 (by decide) rfl (congrArg (fun z => x1 + z) ic_1) rfl ?_
      refine hJ.goto (pc := 71) 14 dX12_keepsLaw_71 (by decide) ?_
      exact ih (x1 + 1) (up S23 77 0 j14 r24) hF
set_option maxRecDepth 100000 in
set_option maxHeartbeats 4000000 in
theorem ctX12_keepsLaw (Sc S : Mem) (S' : Mem) (hF : fX12_keepsLaw S = some (S')) : Ct yX12_keepsLaw cX12_keepsLaw 2 none 1 21 0 0 [vr 12 0] wl0 L0 Sc S none wl0 L0 Sc S' := by
  refine Ct.of RX12 false (by decide) rfl (fun h => by cases h) (Nat.le_of_ble_eq_true rfl) (fun J hJ hR => ?_)
  rw [fX12_keepsLaw] at hF
  show J 0 [some (vr 12 0), none] [] wl0 L0 0 0 Sc S
  refine hJ.aload_n (pc := 0) dX12_keepsLaw_0 rfl ?_
  refine hJ.aload_n (pc := 1) dX12_keepsLaw_1 rfl ?_
  refine hJ.aload_n (pc := 2) dX12_keepsLaw_2 rfl ?_
  refine hJ.gM (pc := 3) dX12_keepsLaw_3 fi_X12_241 ?_
  obtain ⟨r3, S2, h1, hF⟩ := bd_some hF
  refine hJ.cV (pc := 6) [vi (S 12 0 27)] [vr 12 0] [vi r3, vr 12 0] dX12_keepsLaw_6 lk_X12_329 (ctX12_kept (S 12 0 27) _ _ _ _ h1) rfl rfl rfl rfl ?_
  refine hJ.pIM (pc := 9) dX12_keepsLaw_9 fp_X12_241 ?_
  refine hJ.iconst (pc := 12) 0 dX12_keepsLaw_12 ic_0 ?_
  refine hJ.istore_n (pc := 13) [some (vr 12 0), some (vi 0)] dX12_keepsLaw_13 (by decide) rfl ?_
  exact wX12_keepsLaw_14 hJ hR 5000 0 (up S2 12 0 27 r3) hF
set_option maxRecDepth 100000 in
set_option maxHeartbeats 4000000 in
theorem wX12_image_83 {J : Nat → Lv → List AV → Obs → Lay → Nat → Nat → Mem → Mem → Prop} (hJ : Cl RX12 cX12_image 3 2 42 0 0 none false J) {r : Int32} {Sc S' : Mem} (hR : Rk cX12_image (some .boolean) (some (vi r)) wl0 L0 0 0 Sc S' J) : ∀ (n : Nat) (x1 : Int32) (x2 : Int32) (S : Mem), fX12_image_83 n x1 x2 S = some (r, S') → J 83 [some (vr 12 0), some (vi x1), some (vi x2)] [] wl0 L0 0 0 Sc S := by
  intro n
  induction n with
  | zero =>
    intro x1 x2 S hF
    rw [fX12_image_83] at hF
    cases hF
  | succ n ih =>
    intro x1 x2 S hF
    rw [fX12_image_83] at hF
    refine hJ.iload_n (pc := 83) dX12_image_83 rfl ?_
    refine hJ.bipush (pc := 84) 12 dX12_image_84 bc_12 ?_
    refine hJ.icmp_ge (pc := 86) 175 dX12_image_86 (by decide) (fun h16 => ?_) (fun h16 => ?_)
    · rw [if_pos h16] at hF
      refine hJ.aload_n (pc := 175) dX12_image_175 rfl ?_
      obtain ⟨S18, h17, hF⟩ := bn_some hF
      refine hJ.cV (pc := 176) [] [] [] dX12_image_176 lk_X12_335 (ctX12_keepsPapers _ _ _ h17) rfl rfl rfl rfl ?_
      refine hJ.aload_n (pc := 179) dX12_image_179 rfl ?_
      obtain ⟨S20, h19, hF⟩ := bn_some hF
      refine hJ.cV (pc := 180) [] [] [] dX12_image_180 lk_X12_338 (ctX12_keepsLaw _ _ _ h19) rfl rfl rfl rfl ?_
      refine hJ.iload_n (pc := 183) dX12_image_183 rfl ?_
      refine hJ.if_ne (pc := 184) 192 dX12_image_184 (by decide) (fun h21 => ?_) (fun h21 => ?_)
      · rw [if_neg h21] at hF
        refine hJ.iconst (pc := 192) 1 dX12_image_192 ic_1 ?_
        cases hF
        exact hR.n (pc := 193) (by decide) dX12_image_193
      · rw [if_pos h21] at hF
        refine hJ.aload_n (pc := 187) dX12_image_187 rfl ?_
        refine hJ.iconst (pc := 188) 0 dX12_image_188 ic_0 ?_
        refine hJ.pIM (pc := 189) dX12_image_189 fp_X12_120 ?_
        refine hJ.iconst (pc := 192) 1 dX12_image_192 ic_1 ?_
        cases hF
        exact hR.n (pc := 193) (by decide) dX12_image_193
    · rw [if_neg h16] at hF
      refine hJ.aload_n (pc := 89) dX12_image_89 rfl ?_
      refine hJ.gR (pc := 90) (k' := 60) (i' := 0) dX12_image_90 fr_X12_7 rfl ?_
      refine hJ.iload_n (pc := 93) dX12_image_93 rfl ?_
      refine hJ.aload_n (pc := 94) dX12_image_94 rfl ?_
      refine hJ.aload_n (pc := 95) dX12_image_95 rfl ?_
      refine hJ.gR (pc := 96) (k' := 60) (i' := 0) dX12_image_96 fr_X12_7 rfl ?_
      refine hJ.iload_n (pc := 99) dX12_image_99 rfl ?_
      obtain ⟨j22, h23, hF⟩ := bn_some hF
      refine hJ.lialdM (pc := 100) dX12_image_100 al_60 h23 ?_
      obtain ⟨r26, S25, h24, hF⟩ := bd_some hF
      refine hJ.cV (pc := 101) [vi (S 60 0 j22)] [vi x2, vr 60 0] [vi r26, vi x2, vr 60 0] dX12_image_101 lk_X12_329 (ctX12_kept (S 60 0 j22) _ _ _ _ h24) rfl rfl rfl rfl ?_
      refine hJ.siastM (pc := 104) dX12_image_104 al_60 h23 ?_
      refine hJ.aload_n (pc := 105) dX12_image_105 rfl ?_
      refine hJ.gR (pc := 106) (k' := 61) (i' := 0) dX12_image_106 fr_X12_13 rfl ?_
      refine hJ.iload_n (pc := 109) dX12_image_109 rfl ?_
      refine hJ.aload_n (pc := 110) dX12_image_110 rfl ?_
      refine hJ.aload_n (pc := 111) dX12_image_111 rfl ?_
      refine hJ.gR (pc := 112) (k' := 61) (i' := 0) dX12_image_112 fr_X12_13 rfl ?_
      refine hJ.iload_n (pc := 115) dX12_image_115 rfl ?_
      refine hJ.lialdM (pc := 116) dX12_image_116 al_61 h23 ?_
      obtain ⟨r29, S28, h27, hF⟩ := bd_some hF
      refine hJ.cV (pc := 117) [vi ((up S25 60 0 j22 r26) 61 0 j22)] [vi x2, vr 61 0] [vi r29, vi x2, vr 61 0] dX12_image_117 lk_X12_329 (ctX12_kept ((up S25 60 0 j22 r26) 61 0 j22) _ _ _ _ h27) rfl rfl rfl rfl ?_
      refine hJ.siastM (pc := 120) dX12_image_120 al_61 h23 ?_
      refine hJ.aload_n (pc := 121) dX12_image_121 rfl ?_
      refine hJ.gR (pc := 122) (k' := 62) (i' := 0) dX12_image_122 fr_X12_16 rfl ?_
      refine hJ.iload_n (pc := 125) dX12_image_125 rfl ?_
      refine hJ.aload_n (pc := 126) dX12_image_126 rfl ?_
      refine hJ.aload_n (pc := 127) dX12_image_127 rfl ?_
      refine hJ.gR (pc := 128) (k' := 62) (i' := 0) dX12_image_128 fr_X12_16 rfl ?_
      refine hJ.iload_n (pc := 131) dX12_image_131 rfl ?_
      refine hJ.lialdM (pc := 132) dX12_image_132 al_62 h23 ?_
      obtain ⟨r32, S31, h30, hF⟩ := bd_some hF
      refine hJ.cV (pc := 133) [vi ((up S28 61 0 j22 r29) 62 0 j22)] [vi x2, vr 62 0] [vi r32, vi x2, vr 62 0] dX12_image_133 lk_X12_329 (ctX12_kept ((up S28 61 0 j22 r29) 62 0 j22) _ _ _ _ h30) rfl rfl rfl rfl ?_
      refine hJ.siastM (pc := 136) dX12_image_136 al_62 h23 ?_
      refine hJ.aload_n (pc := 137) dX12_image_137 rfl ?_
      refine hJ.gR (pc := 138) (k' := 63) (i' := 0) dX12_image_138 fr_X12_19 rfl ?_
      refine hJ.iload_n (pc := 141) dX12_image_141 rfl ?_
      refine hJ.aload_n (pc := 142) dX12_image_142 rfl ?_
      refine hJ.aload_n (pc := 143) dX12_image_143 rfl ?_
      refine hJ.gR (pc := 144) (k' := 63) (i' := 0) dX12_image_144 fr_X12_19 rfl ?_
      refine hJ.iload_n (pc := 147) dX12_image_147 rfl ?_
      refine hJ.lialdM (pc := 148) dX12_image_148 al_63 h23 ?_
      obtain ⟨r35, S34, h33, hF⟩ := bd_some hF
      refine hJ.cV (pc := 149) [vi ((up S31 62 0 j22 r32) 63 0 j22)] [vi x2, vr 63 0] [vi r35, vi x2, vr 63 0] dX12_image_149 lk_X12_329 (ctX12_kept ((up S31 62 0 j22 r32) 63 0 j22) _ _ _ _ h33) rfl rfl rfl rfl ?_
      refine hJ.siastM (pc := 152) dX12_image_152 al_63 h23 ?_
      refine hJ.aload_n (pc := 153) dX12_image_153 rfl ?_
      refine hJ.gR (pc := 154) (k' := 64) (i' := 0) dX12_image_154 fr_X12_22 rfl ?_
      refine hJ.iload_n (pc := 157) dX12_image_157 rfl ?_
      refine hJ.aload_n (pc := 158) dX12_image_158 rfl ?_
      refine hJ.aload_n (pc := 159) dX12_image_159 rfl ?_
      refine hJ.gR (pc := 160) (k' := 64) (i' := 0) dX12_image_160 fr_X12_22 rfl ?_
      refine hJ.iload_n (pc := 163) dX12_image_163 rfl ?_
      refine hJ.lialdM (pc := 164) dX12_image_164 al_64 h23 ?_
      obtain ⟨r38, S37, h36, hF⟩ := bd_some hF
      refine hJ.cV (pc := 165) [vi ((up S34 63 0 j22 r35) 64 0 j22)] [vi x2, vr 64 0] [vi r38, vi x2, vr 64 0] dX12_image_165 lk_X12_329 (ctX12_kept ((up S34 63 0 j22 r35) 64 0 j22) _ _ _ _ h36) rfl rfl rfl rfl ?_
      refine hJ.siastM (pc := 168) dX12_image_168 al_64 h23 ?_
      refine hJ.iinc (pc := 169) (x2 + 1) [some (vr 12 0), some (vi x1), some (vi (x2 + 1))] dX12_image_169 (by decide) rfl (congrArg (fun z => x2 + z) ic_1) rfl ?_
      refine hJ.goto (pc := 172) 83 dX12_image_172 (by decide) ?_
      exact ih x1 (x2 + 1) (up S37 64 0 j22 r38) hF
set_option maxRecDepth 100000 in
set_option maxHeartbeats 4000000 in
theorem wX12_image_18 {J : Nat → Lv → List AV → Obs → Lay → Nat → Nat → Mem → Mem → Prop} (hJ : Cl RX12 cX12_image 3 2 42 0 0 none false J) {r : Int32} {Sc S' : Mem} (hR : Rk cX12_image (some .boolean) (some (vi r)) wl0 L0 0 0 Sc S' J) (x1 : Int32) (S : Mem) (hF : fX12_image_18 x1 S = some (r, S')) : J 18 [some (vr 12 0), some (vi x1), none] [] wl0 L0 0 0 Sc S := by
  rw [fX12_image_18] at hF
  refine hJ.aload_n (pc := 18) dX12_image_18 rfl ?_
  refine hJ.iload_n (pc := 19) dX12_image_19 rfl ?_
  obtain ⟨h3, hF⟩ := gd_some hF
  refine hJ.pZM (pc := 20) dX12_image_20 fp_X12_325 h3 ?_
  refine hJ.aload_n (pc := 23) dX12_image_23 rfl ?_
  refine hJ.iconst (pc := 24) 1 dX12_image_24 ic_1 ?_
  refine hJ.pZM (pc := 25) dX12_image_25 fp_X12_332 (by decide) ?_
  refine hJ.aload_n (pc := 28) dX12_image_28 rfl ?_
  refine hJ.iconst (pc := 29) 0 dX12_image_29 ic_0 ?_
  refine hJ.pIM (pc := 30) dX12_image_30 fp_X12_322 ?_
  refine hJ.aload_n (pc := 33) dX12_image_33 rfl ?_
  refine hJ.aload_n (pc := 34) dX12_image_34 rfl ?_
  refine hJ.aload_n (pc := 35) dX12_image_35 rfl ?_
  refine hJ.gM (pc := 36) dX12_image_36 fi_X12_107 ?_
  obtain ⟨r6, S5, h4, hF⟩ := bd_some hF
  refine hJ.cV (pc := 39) [vi ((up (up (up S 12 0 51 x1) 12 0 52 1) 12 0 53 0) 12 0 1)] [vr 12 0] [vi r6, vr 12 0] dX12_image_39 lk_X12_329 (ctX12_kept ((up (up (up S 12 0 51 x1) 12 0 52 1) 12 0 53 0) 12 0 1) _ _ _ _ h4) rfl rfl rfl rfl ?_
  refine hJ.pIM (pc := 42) dX12_image_42 fp_X12_107 ?_
  refine hJ.aload_n (pc := 45) dX12_image_45 rfl ?_
  refine hJ.aload_n (pc := 46) dX12_image_46 rfl ?_
  refine hJ.aload_n (pc := 47) dX12_image_47 rfl ?_
  refine hJ.gM (pc := 48) dX12_image_48 fi_X12_127 ?_
  obtain ⟨r9, S8, h7, hF⟩ := bd_some hF
  refine hJ.cV (pc := 51) [vi ((up S5 12 0 1 r6) 12 0 2)] [vr 12 0] [vi r9, vr 12 0] dX12_image_51 lk_X12_329 (ctX12_kept ((up S5 12 0 1 r6) 12 0 2) _ _ _ _ h7) rfl rfl rfl rfl ?_
  refine hJ.pIM (pc := 54) dX12_image_54 fp_X12_127 ?_
  refine hJ.aload_n (pc := 57) dX12_image_57 rfl ?_
  refine hJ.aload_n (pc := 58) dX12_image_58 rfl ?_
  refine hJ.aload_n (pc := 59) dX12_image_59 rfl ?_
  refine hJ.gM (pc := 60) dX12_image_60 fi_X12_276 ?_
  obtain ⟨r12, S11, h10, hF⟩ := bd_some hF
  refine hJ.cV (pc := 63) [vi ((up S8 12 0 2 r9) 12 0 9)] [vr 12 0] [vi r12, vr 12 0] dX12_image_63 lk_X12_329 (ctX12_kept ((up S8 12 0 2 r9) 12 0 9) _ _ _ _ h10) rfl rfl rfl rfl ?_
  refine hJ.pIM (pc := 66) dX12_image_66 fp_X12_276 ?_
  refine hJ.aload_n (pc := 69) dX12_image_69 rfl ?_
  refine hJ.aload_n (pc := 70) dX12_image_70 rfl ?_
  refine hJ.aload_n (pc := 71) dX12_image_71 rfl ?_
  refine hJ.gM (pc := 72) dX12_image_72 fi_X12_112 ?_
  obtain ⟨r15, S14, h13, hF⟩ := bd_some hF
  refine hJ.cV (pc := 75) [vi ((up S11 12 0 9 r12) 12 0 3)] [vr 12 0] [vi r15, vr 12 0] dX12_image_75 lk_X12_329 (ctX12_kept ((up S11 12 0 9 r12) 12 0 3) _ _ _ _ h13) rfl rfl rfl rfl ?_
  refine hJ.pIM (pc := 78) dX12_image_78 fp_X12_112 ?_
  refine hJ.iconst (pc := 81) 0 dX12_image_81 ic_0 ?_
  refine hJ.istore_n (pc := 82) [some (vr 12 0), some (vi x1), some (vi 0)] dX12_image_82 (by decide) rfl ?_
  exact wX12_image_83 hJ hR 5000 x1 0 (up S14 12 0 3 r15) hF
set_option maxRecDepth 100000 in
set_option maxHeartbeats 4000000 in
theorem ctX12_image (p0 : Int32) (Sc S : Mem) (r : Int32) (S' : Mem) (hF : fX12_image p0 S = some (r, S')) : Ct yX12_image cX12_image 3 (some .boolean) 2 42 0 0 [vr 12 0, vi p0] wl0 L0 Sc S (some (vi r)) wl0 L0 Sc S' := by
  refine Ct.of RX12 false (by decide) rfl (fun h => by cases h) (Nat.le_of_ble_eq_true rfl) (fun J hJ hR => ?_)
  rw [fX12_image] at hF
  show J 0 [some (vr 12 0), some (vi p0), none] [] wl0 L0 0 0 Sc S
  refine hJ.aload_n (pc := 0) dX12_image_0 rfl ?_
  refine hJ.iconst (pc := 1) 0 dX12_image_1 ic_0 ?_
  refine hJ.pIM (pc := 2) dX12_image_2 fp_X12_104 ?_
  refine hJ.iload_n (pc := 5) dX12_image_5 rfl ?_
  refine hJ.if_ne (pc := 6) 18 dX12_image_6 (by decide) (fun h1 => ?_) (fun h1 => ?_)
  · rw [if_neg h1] at hF
    exact wX12_image_18 hJ hR p0 (up S 12 0 0 0) hF
  · rw [if_pos h1] at hF
    refine hJ.aload_n (pc := 9) dX12_image_9 rfl ?_
    refine hJ.gM (pc := 10) dX12_image_10 fi_X12_332 ?_
    refine hJ.if_ne (pc := 13) 18 dX12_image_13 (by decide) (fun h2 => ?_) (fun h2 => ?_)
    · rw [if_neg h2] at hF
      exact wX12_image_18 hJ hR p0 (up S 12 0 0 0) hF
    · rw [if_pos h2] at hF
      refine hJ.iconst (pc := 16) 0 dX12_image_16 ic_0 ?_
      cases hF
      exact hR.n (pc := 17) (by decide) dX12_image_17
set_option maxRecDepth 100000 in
set_option maxHeartbeats 4000000 in
theorem ctX12_look (p0 : Int32) (Sc S : Mem) (r : Int32) (S' : Mem) (hF : fX12_look p0 S = (r, S')) : Ct yX12_look cX12_look 2 (some .int) 0 0 0 0 [vr 12 0, vi p0] wl0 L0 Sc S (some (vi r)) wl0 L0 Sc S' := by
  refine Ct.of RX12 false (by decide) rfl (fun h => by cases h) (Nat.le_of_ble_eq_true rfl) (fun J hJ hR => ?_)
  rw [fX12_look] at hF
  show J 0 [some (vr 12 0), some (vi p0)] [] wl0 L0 0 0 Sc S
  refine hJ.aload_n (pc := 0) dX12_look_0 rfl ?_
  refine hJ.iconst (pc := 1) 0 dX12_look_1 ic_0 ?_
  refine hJ.pIM (pc := 2) dX12_look_2 fp_X12_104 ?_
  refine hJ.iload_n (pc := 5) dX12_look_5 rfl ?_
  refine hJ.if_ne (pc := 6) 14 dX12_look_6 (by decide) (fun h1 => ?_) (fun h1 => ?_)
  · rw [if_neg h1] at hF
    refine hJ.iload_n (pc := 14) dX12_look_14 rfl ?_
    refine hJ.iconst (pc := 15) 1 dX12_look_15 ic_1 ?_
    refine hJ.icmp_ne (pc := 16) 24 dX12_look_16 (by decide) (fun h2 => ?_) (fun h2 => ?_)
    · rw [if_neg h2] at hF
      refine hJ.iload_n (pc := 24) dX12_look_24 rfl ?_
      refine hJ.iconst (pc := 25) 2 dX12_look_25 ic_2 ?_
      refine hJ.icmp_ne (pc := 26) 34 dX12_look_26 (by decide) (fun h3 => ?_) (fun h3 => ?_)
      · rw [if_neg h3] at hF
        refine hJ.iload_n (pc := 34) dX12_look_34 rfl ?_
        refine hJ.iconst (pc := 35) 3 dX12_look_35 ic_3 ?_
        refine hJ.icmp_ne (pc := 36) 44 dX12_look_36 (by decide) (fun h4 => ?_) (fun h4 => ?_)
        · rw [if_neg h4] at hF
          refine hJ.iload_n (pc := 44) dX12_look_44 rfl ?_
          refine hJ.iconst (pc := 45) 4 dX12_look_45 ic_4 ?_
          refine hJ.icmp_ne (pc := 46) 54 dX12_look_46 (by decide) (fun h5 => ?_) (fun h5 => ?_)
          · rw [if_neg h5] at hF
            refine hJ.iload_n (pc := 54) dX12_look_54 rfl ?_
            refine hJ.iconst (pc := 55) 5 dX12_look_55 ic_5 ?_
            refine hJ.icmp_ne (pc := 56) 64 dX12_look_56 (by decide) (fun h6 => ?_) (fun h6 => ?_)
            · rw [if_neg h6] at hF
              refine hJ.iload_n (pc := 64) dX12_look_64 rfl ?_
              refine hJ.bipush (pc := 65) 6 dX12_look_65 bc_6 ?_
              refine hJ.icmp_ne (pc := 67) 75 dX12_look_67 (by decide) (fun h7 => ?_) (fun h7 => ?_)
              · rw [if_neg h7] at hF
                refine hJ.iload_n (pc := 75) dX12_look_75 rfl ?_
                refine hJ.bipush (pc := 76) 7 dX12_look_76 bc_7 ?_
                refine hJ.icmp_ne (pc := 78) 88 dX12_look_78 (by decide) (fun h8 => ?_) (fun h8 => ?_)
                · rw [if_neg h8] at hF
                  refine hJ.iload_n (pc := 88) dX12_look_88 rfl ?_
                  refine hJ.bipush (pc := 89) 8 dX12_look_89 bc_8 ?_
                  refine hJ.icmp_ne (pc := 91) 101 dX12_look_91 (by decide) (fun h9 => ?_) (fun h9 => ?_)
                  · rw [if_neg h9] at hF
                    refine hJ.iconst (pc := 101) (-1) dX12_look_101 ic_m1 ?_
                    cases hF
                    exact hR.i (pc := 102) dX12_look_102
                  · rw [if_pos h9] at hF
                    refine hJ.aload_n (pc := 94) dX12_look_94 rfl ?_
                    refine hJ.gM (pc := 95) dX12_look_95 fi_X12_276 ?_
                    refine hJ.goto (pc := 98) 102 dX12_look_98 (by decide) ?_
                    cases hF
                    exact hR.i (pc := 102) dX12_look_102
                · rw [if_pos h8] at hF
                  refine hJ.aload_n (pc := 81) dX12_look_81 rfl ?_
                  refine hJ.gM (pc := 82) dX12_look_82 fi_X12_120 ?_
                  refine hJ.goto (pc := 85) 102 dX12_look_85 (by decide) ?_
                  cases hF
                  exact hR.i (pc := 102) dX12_look_102
              · rw [if_pos h7] at hF
                refine hJ.aload_n (pc := 70) dX12_look_70 rfl ?_
                refine hJ.gM (pc := 71) dX12_look_71 fi_X12_241 ?_
                cases hF
                exact hR.i (pc := 74) dX12_look_74
            · rw [if_pos h6] at hF
              refine hJ.aload_n (pc := 59) dX12_look_59 rfl ?_
              refine hJ.gM (pc := 60) dX12_look_60 fi_X12_107 ?_
              cases hF
              exact hR.i (pc := 63) dX12_look_63
          · rw [if_pos h5] at hF
            refine hJ.aload_n (pc := 49) dX12_look_49 rfl ?_
            refine hJ.gM (pc := 50) dX12_look_50 fi_X12_289 ?_
            cases hF
            exact hR.i (pc := 53) dX12_look_53
        · rw [if_pos h4] at hF
          refine hJ.aload_n (pc := 39) dX12_look_39 rfl ?_
          refine hJ.gM (pc := 40) dX12_look_40 fi_X12_260 ?_
          cases hF
          exact hR.i (pc := 43) dX12_look_43
      · rw [if_pos h3] at hF
        refine hJ.aload_n (pc := 29) dX12_look_29 rfl ?_
        refine hJ.gM (pc := 30) dX12_look_30 fi_X12_130 ?_
        cases hF
        exact hR.i (pc := 33) dX12_look_33
    · rw [if_pos h2] at hF
      refine hJ.aload_n (pc := 19) dX12_look_19 rfl ?_
      refine hJ.gM (pc := 20) dX12_look_20 fi_X12_112 ?_
      cases hF
      exact hR.i (pc := 23) dX12_look_23
  · rw [if_pos h1] at hF
    refine hJ.aload_n (pc := 9) dX12_look_9 rfl ?_
    refine hJ.gM (pc := 10) dX12_look_10 fi_X12_127 ?_
    cases hF
    exact hR.i (pc := 13) dX12_look_13
